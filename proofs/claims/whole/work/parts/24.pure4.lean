theorem hp_a0 (x : Int32) : x + 0 = x := Int32.add_zero x
theorem hp_sw {a : Int32} {d : Int32} : ∀ (Ks : List (Option Int32)) (lo : Int), (∀ K ∈ Ks, ∃ r, K = some r) → ∃ r, hf_sw a lo Ks (some d) = some r
  | [], _, _ => ⟨d, rfl⟩
  | K :: Ks, lo, h => by
    rw [hf_sw]
    split
    · exact h K List.mem_cons_self
    · exact hp_sw Ks (lo + 1) (fun K' hK => h K' (List.mem_cons_of_mem _ hK))
theorem hr_count {σc σm : hf_St} (h : hr σc σm) (a : Int32) : ∃ r, Fc_hf_count σc a = some r ∧ Fm_md_count σm a = some r := by
  obtain ⟨t, nc, nh, np, nf, nt, nr, hcl, hch, hho, hpa, hfa, hta, hru, hpl⟩ := id h
  have e : Fc_hf_count σc a = Fm_md_count σm a := by
    unfold Fc_hf_count Fm_md_count Fc_children_size Fc_homes_size Fc_facts_size Fc_papers_size Fc_book_size Fc_tape_size
    simp only [hp_b1, hcl.1, hcl.2.1, hch.1, hch.2.1, hho.1, hho.2.1, hpa.1, hpa.2.1, hfa.1, hfa.2.1, hta.1, hta.2.1, hru.1, hru.2.1]
  rw [e]
  unfold Fm_md_count
  obtain ⟨r, hr⟩ := hp_sw (a := a) (d := -1) [(some (σm.1 0 1)), (some (σm.1 0 7)), (some (σm.1 0 14)), (some (σm.1 0 10)), (some (σm.1 0 24)), (some (σm.1 0 0)), (some (σm.1 0 21))] 0 (fun K hK => by
    simp only [List.mem_cons, List.not_mem_nil, or_false] at hK
    rcases hK with rfl | rfl | rfl | rfl | rfl | rfl | rfl <;> exact ⟨_, rfl⟩)
  exact ⟨r, hr, hr⟩
theorem fc_homeOf (σ : hf_St) (a : Int32) : Fc_latest_homeOf σ a = some (if 0 ≤ a.toInt ∧ a.toInt < 7 then σ.2 30 a.toNatClampNeg else -1) := by
  unfold Fc_latest_homeOf
  simp only [hp_lt, hp_le, hp_0, hp_7]
  by_cases h0 : a.toInt < 0
  · rw [if_pos h0, if_neg (by omega)]
  · rw [if_neg h0]
    by_cases h7 : 7 ≤ a.toInt
    · rw [if_pos h7, if_neg (by omega)]
    · rw [if_neg h7, hp_gd (by omega), if_pos (by omega)]
theorem fc_homeN {σ : hf_St} {i : Nat} (h : i < 7) : Fc_latest_homeOf σ (nI i) = some (σ.2 30 i) := by
  rw [fc_homeOf, hp_nI (by omega), if_pos (by omega), hp_cl (by omega)]
theorem hr_at {σc σm : hf_St} (h : hr σc σm) (a : Int32) : ∃ r, Fc_hf_at σc a = some r ∧ Fm_md_at σm a = some r := by
  obtain ⟨t, nc, nh, np, nf, nt, nr, hcl, hch, hho, hpa, hfa, hta, hru, ⟨p1, p2, p3⟩⟩ := id h
  have hc7 := hch.2.2.1
  unfold Fc_hf_at Fm_md_at
  simp only [fc_homeOf, fm_isChild hch.2.1 hch.2.2.1, hp_b1, hp_t0]
  by_cases h7 : 0 ≤ a.toInt ∧ a.toInt < 7
  · obtain ⟨n, hn, rfl, hn2⟩ := hp_of (x := a) (by omega)
    rw [hp_cl hn, if_pos h7, p1 n (by omega)]
    by_cases hc : n < nc
    · rw [if_pos hc, if_neg (by omega), hp_gd (by omega)]
      exact ⟨_, rfl, rfl⟩
    · rw [if_neg hc, if_pos (by omega)]
      exact ⟨_, rfl, rfl⟩
  · rw [if_neg h7, if_pos (by omega)]
    exact ⟨_, rfl, rfl⟩
theorem hr_placed {σc σm : hf_St} (h : hr σc σm) (a : Int32) : ∃ r, Fc_hf_placed σc a = some r ∧ Fm_md_placed σm a = some r := by
  obtain ⟨t, nc, nh, np, nf, nt, nr, hcl, hch, hho, hpa, hfa, hta, hru, ⟨p1, p2, p3⟩⟩ := id h
  have e : Fc_hf_placed σc a = some (if 0 ≤ a.toInt ∧ a.toInt < 5 then σc.2 31 a.toNatClampNeg else -1) := by
    unfold Fc_hf_placed Fc_latest_figure
    simp only [hp_lt, hp_le, hp_0, hp_5]
    by_cases h0 : a.toInt < 0
    · rw [if_pos h0, if_neg (by omega)]; rfl
    · rw [if_neg h0]
      by_cases h7 : 5 ≤ a.toInt
      · rw [if_pos h7, if_neg (by omega)]; rfl
      · rw [if_neg h7, hp_gd (by omega), if_pos (by omega)]; rfl
  rw [e]
  refine ⟨_, rfl, ?_⟩
  unfold Fm_md_placed
  rcases p3 with ⟨q0, q1⟩ | ⟨q0, q1, q2, q3, q4, q5⟩
  · rw [q0, if_pos rfl]
    by_cases h5 : 0 ≤ a.toInt ∧ a.toInt < 5
    · obtain ⟨n, hn, rfl, hn2⟩ := hp_of (x := a) (by omega)
      rw [if_pos h5, hp_cl hn, q1 n (by omega)]
    · rw [if_neg h5]
  · rw [q0, if_neg (by decide)]
    by_cases h5 : 0 ≤ a.toInt ∧ a.toInt < 5
    · obtain ⟨n, hn, rfl, hn2⟩ := hp_of (x := a) (by omega)
      rw [if_pos h5, hp_cl hn]
      simp only [hf_sw, hn2]
      rcases (show n = 0 ∨ n = 1 ∨ n = 2 ∨ n = 3 ∨ n = 4 by omega) with rfl | rfl | rfl | rfl | rfl
      · simp [q1]
      · simp [q2]
      · simp [q3]
      · simp [q4]
      · simp [q5]
    · rw [if_neg h5, hf_sw_out (by simp; omega)]
/-! beds and reviews -/
abbrev hn_on (σ : hf_St) (i : Nat) (d : Int32) : Prop := ¬ σ.2 1 i = 0 ∧ ¬ d < σ.2 2 i ∧ ¬ σ.2 3 i < d
theorem fc_hasNeedN {σc σm : hf_St} {nc : Nat} (hch : hr_chl nc σc σm) {i : Nat} (hi : i < nc) : Fc_children_hasNeed σc (nI i) = some (hp_t (¬ σm.2 1 i = 0)) := by
  have := hch.2.2.1
  rw [fc_hasNeed hch.1 hch.2.2.1, hp_nI (by omega), hp_cl (by omega), hch.2.2.2.2.1]
  unfold hp_t
  congr 2
  exact propext ⟨fun h => h.2, fun h => ⟨by omega, h⟩⟩
theorem fc_needsOn {σc σm : hf_St} {nc : Nat} (hch : hr_chl nc σc σm) {i : Nat} (hi : i < nc) (d : Int32) : Fc_children_needsOn σc (nI i) d = some (hp_t (hn_on σm i d)) := by
  have := hch.2.2.1
  obtain ⟨-, -, -, g0, g1, g2, g3, g4, -⟩ := id hch
  unfold Fc_children_needsOn
  simp only [fc_hasNeedN hch hi, hp_b1, hp_t0, hp_z0, hp_z1, hp_gd (hp_ix (show i < 7 by omega) (by omega)), hp_cl (show i < 2147483648 by omega), g2, g3]
  by_cases h1 : σm.2 1 i = 0
  · rw [if_pos (fun h => h h1), hp_tneg (fun h => h.1 h1)]
  · rw [if_neg (fun h => h h1)]
    by_cases h2 : d < σm.2 2 i
    · rw [if_pos h2, hp_tneg (fun h => h.2.1 h2)]
    · rw [if_neg h2]
      by_cases h3 : σm.2 3 i < d
      · rw [if_pos h3, hp_tneg (fun h => h.2.2 h3)]
      · rw [if_neg h3, hp_tpos ⟨h1, h2, h3⟩]
theorem hr_beds_l {σc σm : hf_St} {nc nh : Nat} (hch : hr_chl nc σc σm) (hpl : hr_pla nc nh σc σm) (a d : Int32) : ∀ m k (acc : Int32) f1 f2, k + m = nc → m < f1 → m < f2 → ∃ r, Fc_hf_beds_l25 σc f1 a d acc (nI k) = some r ∧ Fm_md_beds_l22 σm f2 a d acc (nI k) = some r := by
  have h7 := hch.2.2.1
  obtain ⟨h1, h2, -, g0, g1, g2, g3, g4, -⟩ := id hch
  intro m
  induction m with
  | zero =>
    intro k acc f1 f2 hk hf1 hf2
    obtain ⟨n, rfl⟩ : ∃ n, f1 = n + 1 := ⟨f1 - 1, by omega⟩
    obtain ⟨n', rfl⟩ : ∃ n, f2 = n + 1 := ⟨f2 - 1, by omega⟩
    have e : k = nc := by omega
    subst e
    rw [Fc_hf_beds_l25, Fm_md_beds_l22, Fc_children_size, hp_b1, h1, h2, if_pos (by rw [hp_le]; omega), if_pos (by rw [hp_le]; omega)]
    exact ⟨acc, rfl, rfl⟩
  | succ m ih =>
    intro k acc f1 f2 hk hf1 hf2
    obtain ⟨n, rfl⟩ : ∃ n, f1 = n + 1 := ⟨f1 - 1, by omega⟩
    obtain ⟨n', rfl⟩ : ∃ n, f2 = n + 1 := ⟨f2 - 1, by omega⟩
    have ix : hf_ix (nI k) 7 := hp_ix (by omega) (by omega)
    rw [Fc_hf_beds_l25, Fm_md_beds_l22, Fc_children_size, hp_b1, h1, h2, if_neg (hp_nle (by omega) (by omega)), if_neg (hp_nle (by omega) (by omega))]
    simp only [fc_homeN (show k < 7 by omega), fc_needsOn hch (show k < nc by omega), hp_b1, hp_t0, hp_gd ix, hp_cl (show k < 2147483648 by omega), hp_succ, hp_let, hp_a0]
    rw [hpl.1 k (by omega), if_pos (show k < nc by omega)]
    by_cases c0 : σm.2 32 k = a
    · rw [if_pos c0, if_pos c0]
      by_cases c1 : σm.2 1 k = 0
      · rw [if_pos (fun h => h.1 c1), if_pos c1]; exact ih (k + 1) acc n n' (by omega) (by omega) (by omega)
      · rw [if_neg c1]
        by_cases c2 : d < σm.2 2 k
        · rw [if_pos (fun h => h.2.1 c2), if_pos c2]; exact ih (k + 1) acc n n' (by omega) (by omega) (by omega)
        · rw [if_neg c2]
          by_cases c3 : σm.2 3 k < d
          · rw [if_pos (fun h => h.2.2 c3), if_pos c3]; exact ih (k + 1) acc n n' (by omega) (by omega) (by omega)
          · rw [if_neg (fun h => h ⟨c1, c2, c3⟩), if_neg c3]; exact ih (k + 1) (acc + 1) n n' (by omega) (by omega) (by omega)
    · rw [if_neg c0, if_neg c0]; exact ih (k + 1) acc n n' (by omega) (by omega) (by omega)
theorem hr_beds {σc σm : hf_St} (h : hr σc σm) (a d : Int32) : ∃ r, Fc_hf_beds σc a d = some r ∧ Fm_md_beds σm a d = some r := by
  obtain ⟨t, nc, nh, np, nf, nt, nr, hcl, hch, hho, hpa, hfa, hta, hru, hpl⟩ := id h
  have h7 := hch.2.2.1
  unfold Fc_hf_beds Fm_md_beds
  simp only [fc_has_h hho.1 hho.2.2.1, fm_isHome hho.2.1 hho.2.2.1, fc_isDay, fm_isDay, hp_b1, hp_t0]
  by_cases ha : 0 ≤ a.toInt ∧ a.toInt < nh
  · simp only [if_neg (show ¬ ¬ (0 ≤ a.toInt ∧ a.toInt < (nh : Int)) by omega)]
    by_cases hd : 0 ≤ d.toInt ∧ d.toInt ≤ 999
    · simp only [if_neg (show ¬ ¬ (0 ≤ d.toInt ∧ d.toInt ≤ 999) by omega)]
      exact hr_beds_l hch hpl a d nc 0 0 hf_fuel hf_fuel (by omega) (by unfold hf_fuel; omega) (by unfold hf_fuel; omega)
    · simp only [if_pos hd]; exact ⟨_, rfl, rfl⟩
  · simp only [if_pos ha]; exact ⟨_, rfl, rfl⟩
/-- the day of review k behind a first day f, if not behind l -/
def hw_day (f l : Int32) (k : Nat) : Int32 := if l.toInt < f.toInt + (if k = 0 then 7 else 28 + 90 * ((k : Int) - 1)) then -1 else f + nI (if k = 0 then 7 else 28 + 90 * (k - 1))
theorem hw_add {f : Int32} {k : Nat} (h0 : 0 ≤ f.toInt) (h9 : f.toInt ≤ 999) (hk : k ≤ 100) : (f + nI (if k = 0 then 7 else 28 + 90 * (k - 1))).toInt = f.toInt + (if k = 0 then 7 else 28 + 90 * ((k : Int) - 1)) := by
  have e : (nI (if k = 0 then 7 else 28 + 90 * (k - 1))).toInt = (if k = 0 then 7 else 28 + 90 * ((k : Int) - 1)) := by
    rw [hp_nI (by split <;> omega)]
    split <;> omega
  have e2 : 0 ≤ (if k = 0 then (7 : Int) else 28 + 90 * ((k : Int) - 1)) ∧ (if k = 0 then (7 : Int) else 28 + 90 * ((k : Int) - 1)) ≤ 9000 := by split <;> omega
  rw [hp_add (by rw [e]; omega) (by rw [e]; omega), e]
theorem hw_beh (k : Nat) (hk : k ≠ 0) : (28 : Int32) + 90 * (nI k - 1) = nI (28 + 90 * (k - 1)) := by
  obtain ⟨j, rfl⟩ : ∃ j, k = j + 1 := ⟨k - 1, by omega⟩
  rw [nI_pred, Nat.add_sub_cancel, ← nI_add, ← pk_mul]; rfl
theorem fc_reviewDay {σc σm : hf_St} {nc : Nat} (hch : hr_chl nc σc σm) {i k : Nat} (hi : i < nc) (hk : k ≤ 100) (hneed : ¬ σm.2 1 i = 0) : Fc_children_reviewDay σc (nI i) (nI k) = some (hw_day (σm.2 2 i) (σm.2 3 i) k) := by
  have h7 := hch.2.2.1
  obtain ⟨-, -, -, g0, g1, g2, g3, g4, g5, -⟩ := id hch
  obtain ⟨-, k2, k3, -⟩ := g5 i hi
  have kk := k3 (k2.resolve_left hneed)
  have ix : hf_ix (nI i) 7 := hp_ix (by omega) (by omega)
  have hb := hw_add (f := σm.2 2 i) (k := k) kk.1 (by omega) hk
  unfold Fc_children_reviewDay Fc_children_reviewDay_b38 hw_day
  simp only [fc_hasNeedN hch hi, hp_b1, hp_t0, hp_gd ix, hp_cl (show i < 2147483648 by omega), hp_let, g2, g3]
  rw [if_neg (fun h => h hneed), if_neg (by rw [hp_lt, hp_nI (by omega), hp_0]; omega)]
  by_cases h13 : k < 13
  · rw [if_pos (by rw [hp_lt, hp_nI (by omega), hp_13]; omega)]
    by_cases hk0 : k = 0
    · subst hk0
      rw [if_pos (show nI 0 = 0 from rfl)]
      simp only [if_true] at hb ⊢
      rw [show (7 : Int32) = nI 7 from rfl]
      simp only [hp_lt, hb]
      exact (apply_ite some _ _ _).symm
    · rw [if_neg (by rw [hp_eq, hp_nI (by omega), hp_0]; omega), hw_beh k hk0]
      simp only [if_neg hk0] at hb ⊢
      simp only [hp_lt, hb]
      exact (apply_ite some _ _ _).symm
  · rw [if_neg (by rw [hp_lt, hp_nI (by omega), hp_13]; omega), if_pos (by rw [if_neg (by omega)]; omega)]
theorem fm_reviewOf {σc σm : hf_St} {nc : Nat} (hch : hr_chl nc σc σm) {i k : Nat} (hi : i < nc) (hk : k ≤ 100) : Fm_md_reviewOf σm (nI i) (nI k) = some (if (σm.2 32 i).toInt < 0 ∨ σm.2 1 i = 0 then -1 else hw_day (σm.2 2 i) (σm.2 3 i) k) := by
  have h7 := hch.2.2.1
  obtain ⟨-, -, -, g0, g1, g2, g3, g4, g5, -⟩ := id hch
  have ix : hf_ix (nI i) 7 := hp_ix (by omega) (by omega)
  unfold Fm_md_reviewOf Fm_md_reviewOf_b44
  simp only [hp_gd ix, hp_cl (show i < 2147483648 by omega), hp_let]
  by_cases h1 : (σm.2 32 i).toInt < 0
  · rw [if_pos (by rw [hp_lt, hp_0]; exact h1), if_pos (Or.inl h1)]
  · rw [if_neg (by rw [hp_lt, hp_0]; exact h1)]
    by_cases h2 : σm.2 1 i = 0
    · rw [if_pos h2, if_pos (Or.inr h2)]
    · rw [if_neg h2, if_neg (show ¬ ((σm.2 32 i).toInt < 0 ∨ σm.2 1 i = 0) from fun h => h.elim h1 h2)]
      obtain ⟨-, k2, k3, -⟩ := g5 i hi
      have kk := k3 (k2.resolve_left h2)
      have hb := hw_add (f := σm.2 2 i) (k := k) kk.1 (by omega) hk
      unfold hw_day
      by_cases hk0 : k = 0
      · subst hk0
        rw [if_pos (show nI 0 = 0 from rfl)]
        simp only [if_true] at hb ⊢
        rw [show (7 : Int32) = nI 7 from rfl]
        simp only [hp_lt, hb]
        exact (apply_ite some _ _ _).symm
      · rw [if_neg (by rw [hp_eq, hp_nI (by omega), hp_0]; omega), hw_beh k hk0]
        simp only [if_neg hk0] at hb ⊢
        simp only [hp_lt, hb]
        exact (apply_ite some _ _ _).symm
theorem fc_review_no {σc σm : hf_St} {nc : Nat} (hch : hr_chl nc σc σm) {i : Nat} (hi : i < nc) (k : Int32) (hneed : σm.2 1 i = 0) : Fc_children_reviewDay σc (nI i) k = some (-1) := by
  unfold Fc_children_reviewDay
  simp only [fc_hasNeedN hch hi, hp_b1, hp_t0]
  rw [if_pos (fun h => h hneed)]
theorem hr_review {σc σm : hf_St} (h : hr σc σm) (a b : Int32) : ∃ r, Fc_hf_review σc a b = some r ∧ Fm_md_review σm a b = some r := by
  obtain ⟨t, nc, nh, np, nf, nt, nr, hcl, hch, hho, hpa, hfa, hta, hru, ⟨p1, p2, p3⟩⟩ := id h
  have h7 := hch.2.2.1
  unfold Fc_hf_review Fm_md_review
  simp only [fc_homeOf, fm_isChild hch.2.1 hch.2.2.1, fm_in, hp_b1, hp_t0, hp_0, hp_100]
  by_cases ha : 0 ≤ a.toInt ∧ a.toInt < nc
  · obtain ⟨n, hn, rfl, hn2⟩ := hp_of (x := a) (by omega)
    rw [if_pos (show 0 ≤ (nI n).toInt ∧ (nI n).toInt < 7 by omega), hp_cl hn, p1 n (by omega), if_pos (show n < nc by omega)]
    rw [if_neg (show ¬ ¬ (0 ≤ (nI n).toInt ∧ (nI n).toInt < (nc : Int)) by omega)]
    have q2 := p2 n (by omega)
    by_cases hb : 0 ≤ b.toInt ∧ b.toInt ≤ 100
    · obtain ⟨k, hk, rfl, hk2⟩ := hp_of (x := b) (by omega)
      rw [if_neg (show ¬ ¬ (0 ≤ (nI k).toInt ∧ (nI k).toInt ≤ 100) by omega), fm_reviewOf hch (show n < nc by omega) (show k ≤ 100 by omega), hp_b1]
      by_cases c0 : σm.2 32 n = -1
      · rw [if_pos c0, if_pos (Or.inl (by rw [c0, hp_m1]; omega))]; exact ⟨_, rfl, rfl⟩
      · rw [if_neg c0]
        have c0' : ¬ (σm.2 32 n).toInt < 0 := fun h => c0 (by rw [hp_eq, hp_m1]; omega)
        by_cases c1 : σm.2 1 n = 0
        · rw [if_pos (Or.inr c1), fc_review_no hch (by omega) _ c1, hp_b1]; exact ⟨_, rfl, rfl⟩
        · rw [if_neg (show ¬ ((σm.2 32 n).toInt < 0 ∨ σm.2 1 n = 0) from fun h => h.elim c0' c1), fc_reviewDay hch (by omega) (by omega) c1, hp_b1]; exact ⟨_, rfl, rfl⟩
    · rw [if_pos hb]
      by_cases c0 : σm.2 32 n = -1
      · rw [if_pos c0]; exact ⟨_, rfl, rfl⟩
      · rw [if_neg c0]
        refine ⟨-1, ?_, rfl⟩
        unfold Fc_children_reviewDay
        simp only [fc_hasNeedN hch (show n < nc by omega), hp_b1, hp_t0]
        by_cases c1 : ¬ ¬ σm.2 1 n = 0
        · rw [if_pos c1, hp_b1]
        · rw [if_neg c1]
          by_cases hb0 : b.toInt < 0
          · rw [if_pos (by rw [hp_lt, hp_0]; exact hb0), hp_b1]
          · rw [if_neg (by rw [hp_lt, hp_0]; exact hb0), if_neg (by rw [hp_lt, hp_13]; omega), hp_b1]
  · rw [if_pos ha]
    by_cases h07 : 0 ≤ a.toInt ∧ a.toInt < 7
    · obtain ⟨n, hn, rfl, hn2⟩ := hp_of (x := a) (by omega)
      rw [if_pos h07, hp_cl hn, p1 n (by omega), if_neg (show ¬ n < nc by omega), if_pos rfl]; exact ⟨_, rfl, rfl⟩
    · rw [if_neg h07, if_pos rfl]; exact ⟨_, rfl, rfl⟩
