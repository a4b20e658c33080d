theorem hr_fact {σc σm : hf_St} (h : hr σc σm) (q a f n d : Int32) (hq : q = 0 ∨ q = 1) : hr_ok (Fc_hf_fact σc q a f n d) (Fm_md_fact σm q a f n d) := by
  obtain ⟨t, nc, nh, np, nf, nt, nr, hcl, hch, hho, hpa, hfa, hta, hru, hpl⟩ := id h
  obtain ⟨h1, h2, h3, g0, g1, g2, g3⟩ := id hfa
  have e := hp_nI (show nf < 2147483648 by omega)
  have ec := hp_cl (show nf < 2147483648 by omega)
  have hc7 := hch.2.2.1
  have hh5 := hho.2.2.1
  unfold Fc_hf_fact Fc_hf_fact_b28 Fc_hf_fact_b29 Fc_facts_add Fm_md_fact Fm_md_fact_b32 Fm_md_fact_b85
  simp only [hv_slot (f := f) hch hho hq, fm_isChild hch.2.1 hch.2.2.1, fm_isHome hho.2.1 hho.2.2.1, fc_isField, fc_isDay, fm_in, fm_isDay, hp_b1, hp_t0, hp_0, hp_7, hp_let, hf_pA_1, hf_pI_1, h1, h2, hcl.1, hcl.2.1, e, ec, hp_lt, hp_le, hp_m999, hp_9999, hp_100, and_self, if_true, hp_succ]
  by_cases hc : nf < 100 ∧ (0 ≤ a.toInt ∧ a.toInt < if q = 0 then (nc : Int) else nh) ∧ (0 ≤ f.toInt ∧ f.toInt < 8) ∧ (-999 ≤ n.toInt ∧ n.toInt ≤ 9999) ∧ 0 ≤ d.toInt ∧ d.toInt ≤ 999
  · obtain ⟨hc0, ha, hf, hn, hd⟩ := hc
    obtain ⟨o, ho, rfl, ho2⟩ := hp_of (x := a) (by omega)
    obtain ⟨fn, hfn, rfl, hfn2⟩ := hp_of (x := f) (by omega)
    have key : ∀ sl : Nat, sl < 16 → o < 7 → ∀ σ' σ'' : hf_St, σ'.2 10 = upd (σc.2 10) nf (nI sl) → σ'.2 11 = upd (σc.2 11) nf (nI o) → σ'.2 12 = upd (σc.2 12) nf n → σ'.2 13 = upd (σc.2 13) nf d → σ'.2 14 = upd (σc.2 14) nf (nI t) → σ''.2 10 = upd (σm.2 10) nf (nI (if sl < 8 then o else o + 100)) → σ''.2 11 = upd (σm.2 11) nf (nI (if sl < 8 then sl else sl - 8)) → σ''.2 12 = upd (σm.2 12) nf n → σ''.2 13 = upd (σm.2 13) nf d → σ''.2 14 = upd (σm.2 14) nf (nI t) → σ'.1 4 5 = nI (nf + 1) → σ''.1 0 14 = nI (nf + 1) → hr_fac (nf + 1) σ' σ'' := by
      intro sl hsl ho7 σ' σ'' a1 a2 a3 a4 a5 b1 b2 b3 b4 b5 z1 z2
      refine ⟨z1, z2, by omega, by rw [a3, b3, g0], by rw [a4, b4, g1], by rw [a5, b5, g2], fun i hi => ?_⟩
      unfold hr_one
      rw [a1, a2, b1, b2, b3, b4]
      by_cases hi2 : i = nf
      · subst hi2
        refine ⟨o, sl, ho7, hsl, ?_⟩
        simp only [hp_upd, if_true]
        exact ⟨trivial, trivial, trivial, trivial, hd, hn⟩
      · simp only [hp_upd, if_neg hi2]
        exact g3 i (by omega)
    rcases hq with rfl | rfl
    · rw [if_pos rfl] at ha
      unfold Fc_hf_slotOf
      simp only [if_true, hp_b1]
      rw [if_neg (by simpa using ha), if_neg (by omega), if_neg (by omega), if_neg (by decide), if_neg (by omega), if_pos (by omega), if_pos (by omega), hp_gd (by omega), hp_gd (by omega), hp_gd (by omega), hp_gd (by omega), hp_gd (by omega), hp_b2]
      rw [if_neg (by rw [hp_eq, e, hp_100]; omega), if_neg (by omega), if_neg (by omega), if_neg (by omega), if_neg (by omega), hp_gd (by omega), hp_gd (by omega), hp_gd (by omega), hp_gd (by omega), hp_gd (by omega)]
      refine ⟨nI (nf + 1), _, _, rfl, rfl, t, nc, nh, np, nf + 1, nt, nr, hcl, hch, hho, hpa, key fn (by omega) (by omega) _ _ rfl rfl rfl rfl rfl ?_ ?_ rfl rfl rfl rfl rfl, hta, hru, hpl⟩
      · rw [if_pos (by omega)]
        show upd (σm.2 10) nf (nI o + 0) = upd (σm.2 10) nf (nI o)
        rw [← nI_0, nI_add, Nat.add_zero]
      · rw [if_pos (by omega)]
        rfl
    · rw [if_neg (by decide)] at ha
      unfold Fc_hf_slotOf
      simp only [show ¬ ((1 : Int32) = 0) from by decide, if_false, hp_b1]
      rw [if_neg (by simpa using ha), if_neg (by omega), if_neg (by omega), if_neg (by omega), if_pos (by omega), if_pos (by omega), hp_gd (by omega), hp_gd (by omega), hp_gd (by omega), hp_gd (by omega), hp_gd (by omega), hp_b2]
      rw [if_neg (by rw [hp_eq, e, hp_100]; omega), if_neg (by omega), if_neg (by omega), if_neg (by omega), if_neg (by omega), hp_gd (by omega), hp_gd (by omega), hp_gd (by omega), hp_gd (by omega), hp_gd (by omega)]
      refine ⟨nI (nf + 1), _, _, rfl, rfl, t, nc, nh, np, nf + 1, nt, nr, hcl, hch, hho, hpa, key (8 + fn) (by omega) (by omega) _ _ ?_ rfl rfl rfl rfl ?_ ?_ rfl rfl rfl rfl rfl, hta, hru, hpl⟩
      · show upd (σc.2 10) nf (8 + nI fn) = upd (σc.2 10) nf (nI (8 + fn))
        rw [← nI_add]; rfl
      · rw [if_neg (by omega)]
        show upd (σm.2 10) nf (nI o + 100) = upd (σm.2 10) nf (nI (o + 100))
        rw [← nI_add]; rfl
      · rw [if_neg (by omega), Nat.add_sub_cancel_left]
        rfl
  · refine ⟨-1, σc, σm, ?_, ?_, h⟩
    · by_cases ha : 0 ≤ a.toInt ∧ a.toInt < if q = 0 then (nc : Int) else nh
      · rw [if_neg (by simpa using ha)]
        by_cases hf : 0 ≤ f.toInt ∧ f.toInt < 8
        · rw [if_neg (by omega)]
          by_cases hd : 0 ≤ d.toInt ∧ d.toInt ≤ 999
          · rw [if_neg (by omega), if_neg (by decide)]
            by_cases hn1 : n.toInt < -999
            · rw [if_pos hn1]
            · rw [if_neg hn1]
              by_cases hn2 : n.toInt ≤ 9999
              · rw [if_pos hn2]
                have : ¬ (nf : Int) < 100 := fun h9 => hc ⟨by omega, ha, hf, by omega, hd⟩
                simp only [if_neg this]
                unfold Fc_hf_slotOf
                split <;> rfl
              · rw [if_neg hn2]
          · rw [if_pos (by omega)]
        · rw [if_pos (by omega)]
      · rw [if_pos ha]
    · by_cases h100 : nf < 100
      · rw [if_neg (by rw [hp_eq, e, hp_100]; omega)]
        rcases hq with rfl | rfl
        · rw [if_pos rfl] at hc
          rw [if_pos rfl]
          by_cases ha : 0 ≤ a.toInt ∧ a.toInt < nc
          · rw [if_neg (by omega)]
            by_cases hf : 0 ≤ f.toInt ∧ f.toInt < 8
            · rw [if_neg (by omega)]
              by_cases hn : -999 ≤ n.toInt ∧ n.toInt ≤ 9999
              · rw [if_neg (by omega), if_pos (by omega)]
              · rw [if_pos (by omega)]
            · rw [if_pos (by omega)]
          · rw [if_pos (by omega)]
        · rw [if_neg (by decide)] at hc
          rw [if_neg (by decide)]
          by_cases ha : 0 ≤ a.toInt ∧ a.toInt < nh
          · rw [if_neg (by omega)]
            by_cases hf : 0 ≤ f.toInt ∧ f.toInt < 8
            · rw [if_neg (by omega)]
              by_cases hn : -999 ≤ n.toInt ∧ n.toInt ≤ 9999
              · rw [if_neg (by omega), if_pos (by omega)]
              · rw [if_pos (by omega)]
            · rw [if_pos (by omega)]
          · rw [if_pos (by omega)]
      · rw [if_pos (by rw [hp_eq, e, hp_100]; omega)]
/-! papers -/
abbrev hu_hit (σ : hf_St) (h day : Int32) (k : Nat) : Prop := σ.2 7 k = h ∧ ¬ day < σ.2 8 k ∧ ¬ σ.2 9 k < day
/-- the latest last day of the papers that hold -/
def hu (σ : hf_St) (h day : Int32) : Nat → Int32
  | 0 => -1
  | k + 1 => if hu_hit σ h day k then hf_max (hu σ h day k) (σ.2 9 k) else hu σ h day k
theorem fm_until_l {σ : hf_St} {np : Nat} (hn : σ.1 0 10 = nI np) (hf : np ≤ 30) (h day : Int32) : ∀ m k fuel, k + m = np → m < fuel → Fm_md_until_l22 σ fuel h day (hu σ h day k) (nI k) = some (hu σ h day np) := by
  intro m
  induction m with
  | zero =>
    intro k fuel hk hfu
    obtain ⟨n, rfl⟩ : ∃ n, fuel = n + 1 := ⟨fuel - 1, by omega⟩
    have e : k = np := by omega
    subst e
    rw [Fm_md_until_l22, hn, if_pos (by rw [hp_le]; omega)]
  | succ m ih =>
    intro k fuel hk hfu
    obtain ⟨n, rfl⟩ : ∃ n, fuel = n + 1 := ⟨fuel - 1, by omega⟩
    have ix : hf_ix (nI k) 30 := hp_ix (by omega) (by omega)
    rw [Fm_md_until_l22, hn, if_neg (hp_nle (by omega) (by omega))]
    have IH := ih (k + 1) n (by omega) (by omega)
    simp only [hp_gd ix, hp_cl (show k < 2147483648 by omega), hp_succ, hp_let]
    rw [hu] at IH
    by_cases hh : hu_hit σ h day k
    · rw [if_pos hh] at IH
      rw [if_pos hh.1, if_neg hh.2.1, if_neg hh.2.2]
      unfold hf_max at IH
      by_cases hl : hu σ h day k < σ.2 9 k
      · rw [if_pos hl] at IH
        rw [if_neg (by rw [hp_le]; rw [hp_lt] at hl; omega)]; exact IH
      · rw [if_neg hl] at IH
        rw [if_pos (by rw [hp_le]; rw [hp_lt] at hl; omega)]; exact IH
    · rw [if_neg hh] at IH
      by_cases c1 : σ.2 7 k = h
      · rw [if_pos c1]
        by_cases c2 : day < σ.2 8 k
        · rw [if_pos c2]; exact IH
        · rw [if_neg c2]
          by_cases c3 : σ.2 9 k < day
          · rw [if_pos c3]; exact IH
          · exact absurd ⟨c1, c2, c3⟩ hh
      · rw [if_neg c1]; exact IH
theorem fc_latestEnd_l {σc σm : hf_St} {np : Nat} (hpa : hr_pap np σc σm) (h day : Int32) : ∀ m k fuel, k + m = np → m < fuel → Fc_papers_latestEnd_l5 σc fuel h day (hu σm h day k) (nI k) = some (hu σm h day np) := by
  obtain ⟨h1, h2, h3, g0, g1, g2, g3⟩ := hpa
  intro m
  induction m with
  | zero =>
    intro k fuel hk hfu
    obtain ⟨n, rfl⟩ : ∃ n, fuel = n + 1 := ⟨fuel - 1, by omega⟩
    have e : k = np := by omega
    subst e
    rw [Fc_papers_latestEnd_l5, h1, if_pos (by rw [hp_le]; omega)]
  | succ m ih =>
    intro k fuel hk hfu
    obtain ⟨n, rfl⟩ : ∃ n, fuel = n + 1 := ⟨fuel - 1, by omega⟩
    have ix : hf_ix (nI k) 30 := hp_ix (by omega) (by omega)
    rw [Fc_papers_latestEnd_l5, h1, if_neg (hp_nle (by omega) (by omega))]
    have IH := ih (k + 1) n (by omega) (by omega)
    simp only [hp_gd ix, hp_cl (show k < 2147483648 by omega), hp_succ, hp_let, g0, g1, g2]
    rw [hu] at IH
    by_cases hh : hu_hit σm h day k
    · rw [if_pos hh] at IH
      rw [if_pos hh.1, if_neg hh.2.1, if_neg hh.2.2]
      exact IH
    · rw [if_neg hh] at IH
      by_cases c1 : σm.2 7 k = h
      · rw [if_pos c1]
        by_cases c2 : day < σm.2 8 k
        · rw [if_pos c2]; exact IH
        · rw [if_neg c2]
          by_cases c3 : σm.2 9 k < day
          · rw [if_pos c3]; exact IH
          · exact absurd ⟨c1, c2, c3⟩ hh
      · rw [if_neg c1]; exact IH
theorem fc_latestEnd {σc σm : hf_St} {np : Nat} (hpa : hr_pap np σc σm) (h day : Int32) : Fc_papers_latestEnd σc h day = some (hu σm h day np) :=
  fc_latestEnd_l hpa h day np 0 hf_fuel (by omega) (by unfold hf_fuel; have := hpa.2.2.1; omega)
theorem fm_until {σc σm : hf_St} {np nh : Nat} (hpa : hr_pap np σc σm) (hho : hr_hom nh σc σm) (a d : Int32) : Fm_md_until σm a d = some (if (0 ≤ a.toInt ∧ a.toInt < nh) ∧ 0 ≤ d.toInt ∧ d.toInt ≤ 999 then hu σm a d np else -1) := by
  unfold Fm_md_until
  simp only [fm_isHome hho.2.1 hho.2.2.1, fm_isDay, hp_b1, hp_t0]
  have hl := fm_until_l hpa.2.1 hpa.2.2.1 a d np 0 hf_fuel (by omega) (by unfold hf_fuel; have := hpa.2.2.1; omega)
  by_cases ha : 0 ≤ a.toInt ∧ a.toInt < nh
  · rw [if_neg (by omega)]
    by_cases hd : 0 ≤ d.toInt ∧ d.toInt ≤ 999
    · rw [if_neg (by omega), if_pos ⟨ha, hd⟩]; exact hl
    · rw [if_pos (by omega), if_neg (fun h => hd h.2)]
  · rw [if_pos (by omega), if_neg (fun h => ha h.1)]
theorem hr_until {σc σm : hf_St} (h : hr σc σm) (a d : Int32) : ∃ r, Fc_hf_until σc a d = some r ∧ Fm_md_until σm a d = some r := by
  obtain ⟨t, nc, nh, np, nf, nt, nr, hcl, hch, hho, hpa, hfa, hta, hru, hpl⟩ := id h
  refine ⟨_, ?_, fm_until hpa hho a d⟩
  unfold Fc_hf_until
  simp only [fc_has_h hho.1 hho.2.2.1, fc_isDay, fc_latestEnd hpa, hp_b1, hp_t0]
  by_cases ha : 0 ≤ a.toInt ∧ a.toInt < nh
  · rw [if_neg (by omega)]
    by_cases hd : 0 ≤ d.toInt ∧ d.toInt ≤ 999
    · rw [if_neg (by omega), if_pos ⟨ha, hd⟩]
    · rw [if_pos (by omega), if_neg (fun h => hd h.2)]
  · rw [if_pos (by omega), if_neg (fun h => ha h.1)]
theorem hr_end {σc σm : hf_St} (h : hr σc σm) (a : Int32) : hr_ok (Fc_hf_end σc a) (Fm_md_end σm a) := by
  obtain ⟨t, nc, nh, np, nf, nt, nr, hcl, hch, hho, hpa, hfa, ⟨h1, h2, h3, g0⟩, hru, hpl⟩ := id h
  have e := hp_nI (show nt < 2147483648 by omega)
  unfold Fc_hf_end Fc_tape_cut Fm_md_end
  simp only [h1, h2, hp_lt, hp_le, e, hp_0, hp_z0, hp_z1, hp_let]
  by_cases ha : 0 ≤ a.toInt ∧ a.toInt ≤ nt
  · obtain ⟨n, hn, rfl, hn2⟩ := hp_of (x := a) (by omega)
    refine ⟨nI n, hf_pI σc 5 1 (nI n), hf_pI σm 0 21 (nI n), ?_, ?_, t, nc, nh, np, nf, n, nr, hcl, hch, hho, hpa, hfa, ⟨rfl, rfl, by omega, fun i hi => g0 i (by omega)⟩, hru, hpl⟩
    · rw [if_neg (by omega), if_pos (by omega)]; rfl
    · rw [if_neg (by omega)]
      first | rw [if_pos (by omega)] | rw [if_neg (by omega)]
  · refine ⟨-1, σc, σm, ?_, ?_, h⟩
    · by_cases h0 : a.toInt < 0
      · rw [if_pos h0]; rfl
      · rw [if_neg h0, if_neg (by omega)]; rfl
    · by_cases h0 : a.toInt < 0
      · rw [if_pos h0]
      · rw [if_neg h0]
        first | rw [if_neg (by omega)] | rw [if_pos (by omega)]
