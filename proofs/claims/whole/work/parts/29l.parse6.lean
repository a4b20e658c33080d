theorem fm_side {bs : Nat → Nat} {n p : Nat} {s : hf_St} (hm : pz_m bs n s) (hp : p ≤ n) (h22 : s.1 0 22 = nI p) (h23 : s.1 0 23 = 0) (l : Int32) : (∀ kd, pz_sf bs n (pz_sk bs (n - p) p) (¬ l = 0) = some kd → ∃ s', Fm_md_side s l = some (0, s') ∧ pz_fs s s' ∧ s'.1 0 23 = pz_flt (pz_sk bs (n - p) p) kd) ∧ (pz_sf bs n (pz_sk bs (n - p) p) (¬ l = 0) = none → ∃ s', Fm_md_side s l = some (1, s') ∧ pz_fs s s' ∧ s'.1 0 23 = 0 ∧ s'.1 0 22 = nI (pz_we bs (n - pz_sk bs (n - p) p) (pz_sk bs (n - p) p)) ∧ hr_side (if pz_fld bs n (pz_sk bs (n - p) p) then nI (10000 + pz_slot bs (pz_sk bs (n - p) p)) else nI (pz_val bs (pz_sk bs (n - p) p) (pz_we bs (n - pz_sk bs (n - p) p) (pz_sk bs (n - p) p) - pz_sk bs (n - p) p))) (s'.1 0 43) (s'.1 0 44)) := by
  obtain ⟨s1, a1, a2, a3, a4, a5⟩ := fm_looks hm hp h22
  have hsk := pz_sk_in bs (n - p) p
  have h5 := hm.2.1
  generalize hq : pz_sk bs (n - p) p = q at *
  have hm1 := pz_mf hm a2
  have hk : pz_lk bs n q s1 := ⟨by omega, a3, a4, a5⟩
  have hwe := pz_we_in bs (n - q) q
  have f23 : s1.1 0 23 = 0 := by rw [a2.2 23 (by omega)]; exact h23
  have fail : ∀ kd : Nat, hf_b2 (Fm_md_fails s1 (nI kd) (s1.1 0 41)) (fun v1 s2 => hf_gd (hf_z v1) (some (v1, s2))) = some (0, hf_pI s1 0 23 (pz_flt q kd)) := by
    intro kd
    rw [a4, fm_fails f23, hp_b2, hp_z0]
  -- what is done behind the questions, for a field or a number
  have b195 : ∀ (x y : Int32) , ∃ s', Fm_md_side_b195 (hf_pI s1 0 43 x) y = some (1, s') ∧ pz_fs s1 s' ∧ s'.1 0 23 = 0 ∧ s'.1 0 22 = nI (pz_we bs (n - q) q) ∧ s'.1 0 43 = x ∧ s'.1 0 44 = y := by
    intro x y
    refine ⟨hf_pI (hf_pI (hf_pI s1 0 43 x) 0 44 y) 0 22 (nI (pz_we bs (n - q) q)), ?_, pz_fst (pz_fst (pz_fsI (by omega)) (pz_fsI (by omega))) (pz_fsI (by omega)), ?_, ?_, ?_, ?_⟩
    · unfold Fm_md_side_b195
      rw [hp_let, hp_let, hp_z1]
      have e : (hf_pI (hf_pI s1 0 43 x) 0 44 y).1 0 41 + (hf_pI (hf_pI s1 0 43 x) 0 44 y).1 0 42 = nI (pz_we bs (n - q) q) := by
        show s1.1 0 41 + s1.1 0 42 = _
        rw [a4, a5, nI_add, Nat.add_sub_cancel' hwe.1]
      rw [e]
    · show s1.1 0 23 = 0; exact f23
    · simp [hf_pI]
    · simp [hf_pI]
    · simp [hf_pI]
  have main : Fm_md_side s l = if pz_fld bs n q then Fm_md_side_b77 s1 l 1 else Fm_md_side_b77 s1 l 0 := by
    unfold Fm_md_side Fm_md_side_b40 Fm_md_side_b76
    rw [a1, hp_b0, a4, a5]
    by_cases h2 : pz_we bs (n - q) q - q = 2
    · have i0 := hm1.2.2 q (by omega)
      have i1 := hm1.2.2 (q + 1) (by omega)
      have eb := pz_byte (bs (q + 1)) i1.1
      have e48 : (48 : Int32).toInt = 48 := rfl
      have e55 : (55 : Int32).toInt = 55 := rfl
      rw [if_pos (show nI (pz_we bs (n - q) q - q) = 2 from by rw [h2]; rfl), show nI q + 1 = nI (q + 1) from nI_1 q, show (99 : Int32) = nI 99 from rfl, show (104 : Int32) = nI 104 from rfl]
      simp only [hp_gd (hp_ix (show q < 500 by omega) (by omega)), hp_gd (hp_ix (show q + 1 < 500 by omega) (by omega)), hp_cl (show q < 2147483648 by omega), hp_cl (show q + 1 < 2147483648 by omega), i0.2, i1.2, pz_sgn i0.1 (show 99 < 128 by omega), pz_sgn i0.1 (show 104 < 128 by omega), hp_lt, e48, e55, eb]
      by_cases hd : 48 ≤ bs (q + 1) ∧ bs (q + 1) ≤ 55
      · rw [if_pos (show bs (q + 1) < 128 by omega), if_neg (show ¬ ((bs (q + 1) : Int) < 48) by omega), if_neg (show ¬ (55 < (bs (q + 1) : Int)) by omega)]
        by_cases c1 : bs q = 99
        · rw [if_pos c1, if_pos ⟨h2, Or.inl c1, hd⟩]
        · rw [if_neg c1]
          by_cases c2 : bs q = 104
          · rw [if_pos c2, if_pos ⟨h2, Or.inr c2, hd⟩]
          · rw [if_neg c2, if_neg (fun h => h.2.1.elim c1 c2)]
      · rw [if_neg (show ¬ pz_fld bs n q from fun h => hd h.2.2)]
        have z : (if (if bs (q + 1) < 128 then (bs (q + 1) : Int) else (bs (q + 1) : Int) - 256) < 48 then Fm_md_side_b77 s1 l 0 else if 55 < (if bs (q + 1) < 128 then (bs (q + 1) : Int) else (bs (q + 1) : Int) - 256) then Fm_md_side_b77 s1 l 0 else Fm_md_side_b77 s1 l 1) = Fm_md_side_b77 s1 l 0 := by
          by_cases h8 : bs (q + 1) < 128
          · rw [if_pos h8]
            by_cases h1 : (bs (q + 1) : Int) < 48
            · rw [if_pos h1]
            · rw [if_neg h1, if_pos (by omega)]
          · rw [if_neg h8, if_pos (by omega)]
        rw [z]
        split <;> (try rfl)
        split <;> rfl
    · rw [if_neg (by rw [show (2 : Int32) = nI 2 from rfl, nI_eq (by omega) (by omega)]; exact h2), if_neg (fun h => h2 h.1)]
  rw [main]
  unfold pz_sf
  by_cases hf : pz_fld bs n q
  · have i0 := hm1.2.2 q (by have := hf.1; omega)
    have i1 := hm1.2.2 (q + 1) (by have := hf.1; omega)
    have hd := hf.2.2
    have e8 : (nI (bs (q + 1))).toInt8.toInt32 = nI (bs (q + 1)) := (pz_sgn i1.1 (show bs (q + 1) < 128 by omega)).mpr rfl
    simp only [if_pos hf]
    unfold Fm_md_side_b77 Fm_md_side_b99 Fm_md_side_b121
    rw [if_neg (show ¬ ((1 : Int32) = 0) by decide), if_neg (show ¬ ((1 : Int32) = 0) by decide)]
    by_cases hl : l = 0
    · rw [if_pos hl, if_neg (show ¬ ((1 : Int32) = 0) by decide), if_neg (fun h => h hl)]
      refine ⟨fun kd h => (by cases h), fun _ => ?_⟩
      unfold Fm_md_side_b178 Fm_md_side_b179
      have h2 := hf.1
      rw [a4, show nI q + 1 = nI (q + 1) from nI_1 q, hp_gd (hp_ix (show q + 1 < 500 by omega) (by omega)), hp_gd (hp_ix (show q < 500 by omega) (by omega)), hp_cl (show q < 2147483648 by omega), hp_cl (show q + 1 < 2147483648 by omega), i0.2, i1.2, e8, show (48 : Int32) = nI 48 from rfl, pk_sub hd.1]
      by_cases c1 : bs q = 99
      · rw [if_pos (show (nI (bs q)).toInt8.toInt32 = 99 from (pz_sgn (c := 99) i0.1 (by omega)).mpr c1), hp_let, if_neg (by decide)]
        obtain ⟨s', x1, x2, x3, x4, x5, x6⟩ := b195 (nI (bs (q + 1) - 48) + 1) 0
        refine ⟨s', x1, pz_fst (pz_fsm a2) x2, x3, x4, Or.inr ⟨pz_slot bs q, ?_, rfl, ?_⟩⟩
        · unfold pz_slot; rw [if_neg (by omega)]; omega
        · rw [x5, nI_1]; unfold pz_slot; rw [if_neg (by omega)]
      · have c2 : bs q = 104 := hf.2.1.resolve_left c1
        rw [if_neg (show ¬ (nI (bs q)).toInt8.toInt32 = 99 from fun h => c1 ((pz_sgn (c := 99) i0.1 (by omega)).mp h)), hp_let, if_neg (by decide)]
        obtain ⟨s', x1, x2, x3, x4, x5, x6⟩ := b195 (nI (bs (q + 1) - 48) + 9) 0
        refine ⟨s', x1, pz_fst (pz_fsm a2) x2, x3, x4, Or.inr ⟨pz_slot bs q, ?_, rfl, ?_⟩⟩
        · unfold pz_slot; rw [if_pos c2]; omega
        · rw [x5, show (9 : Int32) = nI 9 from rfl, nI_add]; unfold pz_slot; rw [if_pos c2]
    · rw [if_neg hl, if_pos hl, show (2 : Int32) = nI 2 from rfl, fail 2]
      exact ⟨fun kd h => by cases h; exact ⟨_, rfl, pz_fst (pz_fsm a2) (pz_fsI (by omega)), by simp [hf_pI]⟩, fun h => (by cases h)⟩
  · have R : Fm_md_side_b77 s1 l 0 = if pz_num bs n q then (if pz_we bs (n - q) q - q ≤ 4 then (if l = 0 then Fm_md_side_b179 s1 0 0 else some (0, hf_pI s1 0 23 (pz_flt q 2))) else some (0, hf_pI s1 0 23 (pz_flt q 1))) else some (0, hf_pI s1 0 23 (pz_flt q 0)) := by
      unfold Fm_md_side_b77 Fm_md_side_b99 Fm_md_side_b121
      simp only [if_true]
      have f0 : hf_b2 (Fm_md_fails s1 0 (s1.1 0 41)) (fun v1 s2 => hf_gd (hf_z v1) (some (v1, s2))) = some (0, hf_pI s1 0 23 (pz_flt q 0)) := fail 0
      have f1 : hf_b2 (Fm_md_fails s1 1 (s1.1 0 41)) (fun v1 s2 => hf_gd (hf_z v1) (some (v1, s2))) = some (0, hf_pI s1 0 23 (pz_flt q 1)) := fail 1
      have f2 : hf_b2 (Fm_md_fails s1 2 (s1.1 0 41)) (fun v1 s2 => hf_gd (hf_z v1) (some (v1, s2))) = some (0, hf_pI s1 0 23 (pz_flt q 2)) := fail 2
      rw [fm_isNumber hm1 hk, hp_b1, f0, f1, f2, a5]
      by_cases hn : pz_num bs n q
      · rw [hp_tpos hn, if_neg (by decide), if_pos hn]
        by_cases h4 : pz_we bs (n - q) q - q ≤ 4
        · rw [if_pos (by rw [hp_le, hp_nI (by omega), hp_4]; omega), if_pos h4]
        · rw [if_neg (by rw [hp_le, hp_nI (by omega), hp_4]; omega), if_neg h4]
      · rw [hp_tneg hn, if_pos rfl, if_neg hn]
    have ff : ∀ kd0, (∀ kd, some kd0 = some kd → ∃ s', some ((0 : Int32), hf_pI s1 0 23 (pz_flt q kd0)) = some (0, s') ∧ pz_fs s s' ∧ s'.1 0 23 = pz_flt q kd) := fun kd0 kd h => by
      cases h
      exact ⟨_, rfl, pz_fst (pz_fsm a2) (pz_fsI (by omega)), by simp [hf_pI]⟩
    simp only [if_neg hf, R]
    by_cases hn : pz_num bs n q
    · simp only [if_pos hn]
      by_cases h4 : pz_we bs (n - q) q - q ≤ 4
      · simp only [if_pos h4]
        by_cases hl : l = 0
        · simp only [if_neg (show ¬ ¬ l = 0 from fun h => h hl), if_pos hl]
          refine ⟨fun kd h => (by cases h), fun _ => ?_⟩
          unfold Fm_md_side_b179
          have fr : pz_fs s1 (hf_pI s1 0 43 0) := pz_fsI (by omega)
          rw [hp_let, if_pos rfl, fm_numberHere (pz_mfs hm1 fr) ⟨hk.1, a3, a4, a5⟩ hn h4, hp_b1]
          obtain ⟨s', x1, x2, x3, x4, x5, x6⟩ := b195 0 (nI (pz_val bs q (pz_we bs (n - q) q - q)))
          exact ⟨s', x1, pz_fst (pz_fsm a2) x2, x3, x4, Or.inl ⟨_, pz_val_4 h4 hn.2, rfl, x5, x6⟩⟩
        · simp only [if_pos hl, if_neg hl]
          exact ⟨ff 2, fun h => (by cases h)⟩
      · simp only [if_neg h4]
        exact ⟨ff 1, fun h => (by cases h)⟩
    · simp only [if_neg hn]
      exact ⟨ff 0, fun h => (by cases h)⟩
