theorem hk_hit {σc σm : hf_St} {nf : Nat} (hfa : hr_fac nf σc σm) {c h : Nat} (hc : c < 7) (hh : h < 5) (day known : Int32) {k : Nat} (hk : k < nf) {sl : Nat} (hsl : sl < 16) :
    hv_hit σm (hk_who c h sl) (hk_fld sl) day known k ↔ (σc.2 10 k = nI sl ∧ hk_rel σc σm c h known k ∧ ¬ day < σm.2 13 k) := by
  have ho : hk_o c h sl < 7 := by unfold hk_o; split <;> omega
  have hs := hv_same_of hfa (hk_o c h sl) sl ho hsl k hk
  have e8 : ∀ n : Nat, n < 16 → (8 ≤ nI n ↔ 8 ≤ n) := fun n hn => by rw [hp_le, hp_8, hp_nI (by omega)]; omega
  unfold hv_hit hk_who hk_fld
  constructor
  · rintro ⟨a, b, d, e⟩
    obtain ⟨x, y⟩ := hs.mpr ⟨a, b⟩
    refine ⟨x, ⟨?_, by rw [hp_lt]; rw [hp_le] at e; omega⟩, d⟩
    rw [y, x]
    unfold hk_o
    by_cases h8 : sl < 8
    · rw [if_pos h8, if_neg (by rw [e8 sl hsl]; omega)]
    · rw [if_neg h8, if_pos (by rw [e8 sl hsl]; omega)]
  · rintro ⟨x, ⟨y, e⟩, d⟩
    have y' : σc.2 11 k = nI (hk_o c h sl) := by
      rw [y, x]
      unfold hk_o
      by_cases h8 : sl < 8
      · rw [if_pos h8, if_neg (by rw [e8 sl hsl]; omega)]
      · rw [if_neg h8, if_pos (by rw [e8 sl hsl]; omega)]
    obtain ⟨a, b⟩ := hs.mp ⟨x, y'⟩
    exact ⟨a, b, d, by rw [hp_le]; rw [hp_lt] at e; omega⟩
theorem hk_step {σc σm : hf_St} {nf : Nat} (hfa : hr_fac nf σc σm) {c h : Nat} (hc : c < 7) (hh : h < 5) (day known : Int32) : ∀ m k (s : hf_St) f, k + m = nf → m < f → hk_inv σc σm c h day known k s → ∃ s', Fc_facts_layOut_l9 f s (nI c) (nI h) known (nI k) = some s' ∧ hk_inv σc σm c h day known nf s' := by
  have h100 := hfa.2.2.1
  obtain ⟨h1, h2, -, g0, g1, g2, g3⟩ := id hfa
  intro m
  induction m with
  | zero =>
    intro k s f hk hf hi
    obtain ⟨n, rfl⟩ : ∃ n, f = n + 1 := ⟨f - 1, by omega⟩
    have e : k = nf := by omega
    subst e
    refine ⟨s, ?_, hi⟩
    rw [Fc_facts_layOut_l9, hi.1.1 4 5 (by omega), h1, if_pos (by rw [hp_le]; omega)]
  | succ m ih =>
    intro k s f hk hf hi
    obtain ⟨n, rfl⟩ : ∃ n, f = n + 1 := ⟨f - 1, by omega⟩
    have hkn : k < nf := by omega
    have ix : hf_ix (nI k) 100 := hp_ix (by omega) (by omega)
    obtain ⟨q, iv, id, it, ib⟩ := id hi
    obtain ⟨o, sl, ho, hsl, e1, e2, e3, e4, hd, -⟩ := g3 k hkn
    have b35 : Fc_facts_layOut_l9 (n + 1) s (nI c) (nI h) known (nI k) = Fc_facts_layOut_b35 (fun z0 z1 z2 z3 z4 => Fc_facts_layOut_l9 n z0 z1 z2 z3 z4) s (nI c) (nI h) known (nI k) (if 8 ≤ σc.2 10 k then nI h else nI c) := by
      rw [Fc_facts_layOut_l9, q.1 4 5 (by omega), h1, if_neg (hp_nle (by omega) (by omega)), hp_gd ix, hp_cl (by omega), q.2 10 (by omega)]
      split <;> rfl
    rw [b35]
    unfold Fc_facts_layOut_b35
    simp only [hp_gd ix, hp_cl (show k < 2147483648 by omega), hp_succ, q.2 10 (by omega), q.2 11 (by omega), q.2 12 (by omega), q.2 13 (by omega), q.2 14 (by omega), g0, g1, g2]
    -- what the facts up to k + 1 say, where fact k doesn't count
    have keep : ¬ (hk_rel σc σm c h known k ∧ ¬ day < σm.2 13 k) → ∀ sl', sl' < 16 → hk_best σm c h day known (k + 1) sl' = hk_best σm c h day known k sl' := by
      intro hno sl' hs'
      unfold hk_best
      rw [hv_best, if_neg (fun hit => hno ((hk_hit hfa hc hh day known hkn hs').mp hit).2)]
    by_cases r1 : σc.2 11 k = (if 8 ≤ σc.2 10 k then nI h else nI c)
    · rw [if_pos r1]
      by_cases r2 : known < σm.2 14 k
      · rw [if_pos r2]
        refine ih (k + 1) s n (by omega) (by omega) ⟨q, fun sl' hs' => ?_, id, ?_, ib⟩
        · rw [keep (fun hh => hh.1.2 r2) sl' hs']; exact iv sl' hs'
        · rw [it, hk_turn, if_neg (fun hh => hh.1.2 r2)]
      · rw [if_neg r2]
        have rel : hk_rel σc σm c h known k := ⟨r1, r2⟩
        unfold Fc_sheet_take
        rw [id]
        by_cases hdd : σm.2 13 k ≤ day
        · have ndl : ¬ day < σm.2 13 k := by rw [hp_lt]; rw [hp_le] at hdd; omega
          rw [if_pos hdd, e2]
          have ixs : hf_ix (nI sl) 16 := hp_ix hsl (by omega)
          rw [if_neg (by rw [hp_lt, hp_nI (by omega), hp_0]; omega), if_neg (by rw [hp_le, hp_nI (by omega)]; show ¬ (16 : Int) ≤ _; omega)]
          simp only [hp_gd ixs, hp_cl (show sl < 2147483648 by omega)]
          rw [(iv sl hsl).2]
          have tk : hk_turn σc σm c h day known (k + 1) = hk_turn σc σm c h day known k := by rw [hk_turn, if_neg (fun hh => ndl hh.2)]
          have hits : ∀ sl', sl' < 16 → (hv_hit σm (hk_who c h sl') (hk_fld sl') day known k ↔ sl' = sl) := by
            intro sl' hs'
            rw [hk_hit hfa hc hh day known hkn hs', e2, nI_eq (by omega) (by omega)]
            exact ⟨fun hh => hh.1.symm, fun hh => ⟨hh.symm, rel, ndl⟩⟩
          have others : ∀ sl', sl' < 16 → sl' ≠ sl → hk_best σm c h day known (k + 1) sl' = hk_best σm c h day known k sl' := by
            intro sl' hs' hne
            unfold hk_best
            rw [hv_best, if_neg (fun hit => hne ((hits sl' hs').mp hit))]
          by_cases hlt : σm.2 13 k < hv_day σm (hk_best σm c h day known k sl)
          · rw [if_pos hlt, hp_b0]
            refine ih (k + 1) s n (by omega) (by omega) ⟨q, fun sl' hs' => ?_, id, by rw [it, tk], ib⟩
            by_cases hsq : sl' = sl
            · subst hsq
              have eb : hk_best σm c h day known (k + 1) sl' = hk_best σm c h day known k sl' := by
                unfold hk_best at hlt ⊢
                rw [hv_best, if_pos ((hits sl' hs').mpr rfl)]
                cases hb : hv_best σm (hk_who c h sl') (hk_fld sl') day known k with
                | none => rw [hb] at hlt; exact absurd hlt (by show ¬ σm.2 13 k < -1; rw [hp_lt, hp_m1]; omega)
                | some j => rw [hb] at hlt; show (if σm.2 13 k < σm.2 13 j then some j else some k) = some j; exact if_pos hlt
              rw [eb]; exact iv sl' hs'
            · rw [others sl' hs' hsq]; exact iv sl' hs'
          · rw [if_neg hlt, hp_let, hp_let, hp_b0]
            refine ih (k + 1) _ n (by omega) (by omega) ⟨hq_tr (hq_tr q (hq_A (by omega))) (hq_A (by omega)), fun sl' hs' => ?_, id, by show s.1 10 3 = _; rw [it, tk], ib⟩
            show upd (s.2 28) sl (σm.2 12 k) sl' = _ ∧ upd (s.2 29) sl (σm.2 13 k) sl' = _
            rw [hp_upd, hp_upd]
            by_cases hsq : sl' = sl
            · subst hsq
              have eb : hk_best σm c h day known (k + 1) sl' = some k := by
                unfold hk_best at hlt ⊢
                rw [hv_best, if_pos ((hits sl' hs').mpr rfl)]
                cases hb : hv_best σm (hk_who c h sl') (hk_fld sl') day known k with
                | none => rfl
                | some j => rw [hb] at hlt; show (if σm.2 13 k < σm.2 13 j then some j else some k) = some k; exact if_neg hlt
              rw [if_pos rfl, if_pos rfl, eb]
              exact ⟨rfl, rfl⟩
            · rw [if_neg hsq, if_neg hsq, others sl' hs' hsq]; exact iv sl' hs'
        · have dl : day < σm.2 13 k := by rw [hp_lt]; rw [hp_le] at hdd; omega
          rw [if_neg hdd, hp_let, hp_b0]
          refine ih (k + 1) _ n (by omega) (by omega) ⟨hq_tr q (hq_I (by omega)), fun sl' hs' => ?_, id, ?_, ib⟩
          · rw [keep (fun hh => hh.2 dl) sl' hs']; exact iv sl' hs'
          · show hf_min (s.1 10 3) (σm.2 13 k) = _
            rw [it, hk_turn, if_pos ⟨rel, dl⟩]
    · rw [if_neg r1]
      refine ih (k + 1) s n (by omega) (by omega) ⟨q, fun sl' hs' => ?_, id, ?_, ib⟩
      · rw [keep (fun hh => r1 hh.1.1) sl' hs']; exact iv sl' hs'
      · rw [it, hk_turn, if_neg (fun hh => r1 hh.1.1)]
theorem hk_lay {σc σm : hf_St} {nf : Nat} (hfa : hr_fac nf σc σm) {c h : Nat} (hc : c < 7) (hh : h < 5) (day known : Int32) : ∃ s, Fc_facts_layOut σc (nI c) (nI h) day known = some s ∧ hk_inv σc σm c h day known nf s := by
  obtain ⟨s, a, b⟩ := hk_clear σc σm c h day known
  obtain ⟨s', a', b'⟩ := hk_step hfa hc hh day known nf 0 s hf_fuel (by omega) (by unfold hf_fuel; have := hfa.2.2.1; omega) b
  refine ⟨s', ?_, b'⟩
  unfold Fc_facts_layOut
  rw [a, hp_b0]
  exact a'
