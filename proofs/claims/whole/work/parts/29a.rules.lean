/-! RULES: a side's number, a term, a rule that is so. -/
/-- a side's number, for child c and home h on a day -/
def ho_sd (σ : hf_St) (nf c h : Nat) (day known sd nm : Int32) : Int32 := if sd = 0 then nm else hk_val σ nf c h day known (sd.toNatClampNeg - 1)
def ho_tmb (σ : hf_St) (nf c h : Nat) (day known : Int32) (x : Nat) : Bool := decide ((σ.2 21 x = 60 ∧ ho_sd σ nf c h day known (σ.2 19 x) (σ.2 20 x) < ho_sd σ nf c h day known (σ.2 22 x) (σ.2 23 x)) ∨ (σ.2 21 x = 62 ∧ ho_sd σ nf c h day known (σ.2 22 x) (σ.2 23 x) < ho_sd σ nf c h day known (σ.2 19 x) (σ.2 20 x)) ∨ (σ.2 21 x = 61 ∧ ho_sd σ nf c h day known (σ.2 19 x) (σ.2 20 x) = ho_sd σ nf c h day known (σ.2 22 x) (σ.2 23 x)))
/-- the terms of RULE k from the j-th on, m of them -/
def ho_all (σ : hf_St) (nf c h : Nat) (day known : Int32) (k : Nat) : Nat → Nat → Bool
  | _, 0 => true
  | j, m + 1 => ho_tmb σ nf c h day known (6 * k + j) && ho_all σ nf c h day known k (j + 1) m
def ho_so (σ : hf_St) (nf c h : Nat) (day known : Int32) (k : Nat) : Bool := ho_all σ nf c h day known k 0 (σ.2 18 k).toNatClampNeg
def ho_b (b : Bool) : Int32 := if b then 1 else 0
theorem hp_9 : (9 : Int32).toInt = 9 := rfl
theorem fm_sideOf {σc σm : hf_St} {nf c h : Nat} {v sd nm : Int32} (hn : σm.1 0 14 = nI nf) (hf : nf ≤ 100) (hs : hr_side v sd nm) (hc : c < 7) (hh : h < 5) (day : Int32) : Fm_md_sideOf σm sd nm (nI c) (nI h) day = some (ho_sd σm nf c h day (σm.1 0 0) sd nm) := by
  unfold Fm_md_sideOf ho_sd
  rcases hs with ⟨n, h1, h2, h3, h4⟩ | ⟨sl, h1, h2, h3⟩
  · rw [if_pos h3, if_pos h3]
  · have e0 : ¬ sd = 0 := by rw [h3, hp_eq, hp_nI (by omega), hp_0]; omega
    rw [if_neg e0, if_neg e0, h3, hp_cl (by omega), Nat.add_sub_cancel]
    unfold hk_val hk_who hk_fld hk_o
    by_cases h8 : sl < 8
    · rw [if_neg (by rw [hp_le, hp_9, hp_nI (by omega)]; omega), if_pos h8, if_pos h8, if_pos h8, hp_pred, fm_valueOf hn hf, hp_b1]
    · rw [if_pos (by rw [hp_le, hp_9, hp_nI (by omega)]; omega), if_neg h8, if_neg h8, if_neg h8]
      rw [show (100 : Int32) + nI h = nI (h + 100) from by rw [Nat.add_comm h 100, ← nI_add]; rfl, show nI (sl + 1) - 9 = nI (sl - 8) from by rw [show (9 : Int32) = nI 9 from rfl, pk_sub (by omega), show sl + 1 - 9 = sl - 8 by omega], fm_valueOf hn hf, hp_b1]
theorem fm_isSo_l {σc σm : hf_St} {nf nr c h k : Nat} (hn : σm.1 0 14 = nI nf) (hf : nf ≤ 100) (hr : hr_rule σc σm 16 16 k) (hk : k < 20) (hc : c < 7) (hh : h < 5) (day : Int32) : ∀ m j f, j + m = (σm.2 18 k).toNatClampNeg → m < f → Fm_md_isSo_l6 σm f (nI k) (nI c) (nI h) day (nI (6 * k + j)) = some (ho_b (ho_all σm nf c h day (σm.1 0 0) k j m)) := by
  obtain ⟨kd, tc, a1, a2, a3, a4, a5, a6, a7, a8, a9, a10⟩ := hr
  have a9' : σm.2 18 k = nI tc := a9
  have ixk : hf_ix (nI k) 20 := hp_ix hk (by omega)
  have e6 : (6 : Int32) * nI k + nI tc = nI (6 * k + tc) := by rw [← nI_add, ← pk_mul]; rfl
  rw [a9', hp_cl (by omega)]
  intro m
  induction m with
  | zero =>
    intro j f hj hf'
    obtain ⟨n, rfl⟩ : ∃ n, f = n + 1 := ⟨f - 1, by omega⟩
    rw [Fm_md_isSo_l6, hp_gd ixk, hp_cl (by omega), a9', e6, if_pos (by rw [hp_le, hp_nI (by omega), hp_nI (by omega)]; omega)]
    rfl
  | succ m ih =>
    intro j f hj hf'
    obtain ⟨n, rfl⟩ : ∃ n, f = n + 1 := ⟨f - 1, by omega⟩
    obtain ⟨s1, s2, s3, s4⟩ := a10 j (by omega)
    have ix : hf_ix (nI (6 * k + j)) 120 := hp_ix (by omega) (by omega)
    have IH := ih (j + 1) n (by omega) (by omega)
    rw [Fm_md_isSo_l6, hp_gd ixk, hp_cl (by omega), a9', e6, if_neg (hp_nle (by omega) (by omega))]
    simp only [hp_gd ix, hp_cl (show 6 * k + j < 2147483648 by omega), hp_succ, hp_z0]
    rw [show 16 + 3 = 19 from rfl, show 16 + 4 = 20 from rfl] at s1
    rw [show 16 + 6 = 22 from rfl, show 16 + 7 = 23 from rfl] at s4
    rw [show 16 + 5 = 21 from rfl] at s2
    rw [fm_sideOf (σc := σc) hn hf s1 hc hh, hp_b1, fm_sideOf (σc := σc) hn hf s4 hc hh, hp_b1]
    rw [show 6 * k + j + 1 = 6 * k + (j + 1) from rfl]
    rw [ho_all]
    generalize hA : ho_sd σm nf c h day (σm.1 0 0) (σm.2 19 (6 * k + j)) (σm.2 20 (6 * k + j)) = A at *
    generalize hB : ho_sd σm nf c h day (σm.1 0 0) (σm.2 22 (6 * k + j)) (σm.2 23 (6 * k + j)) = B at *
    have tm : ho_tmb σm nf c h day (σm.1 0 0) (6 * k + j) = true ↔ ((σm.2 21 (6 * k + j) = 60 ∧ A < B) ∨ (σm.2 21 (6 * k + j) = 62 ∧ B < A) ∨ (σm.2 21 (6 * k + j) = 61 ∧ A = B)) := by unfold ho_tmb; rw [decide_eq_true_iff, hA, hB]
    have no : ¬ ((σm.2 21 (6 * k + j) = 60 ∧ A < B) ∨ (σm.2 21 (6 * k + j) = 62 ∧ B < A) ∨ (σm.2 21 (6 * k + j) = 61 ∧ A = B)) → ho_tmb σm nf c h day (σm.1 0 0) (6 * k + j) = false := fun hno => Bool.eq_false_iff.mpr (fun hh => hno (tm.mp hh))
    rcases s2 with s2 | s2 | s2
    · rw [if_pos s2]
      by_cases hlt : A < B
      · rw [if_neg (by rw [hp_le]; rw [hp_lt] at hlt; omega), (tm.mpr (Or.inl ⟨s2, hlt⟩)), Bool.true_and]; exact IH
      · rw [if_pos (by rw [hp_le]; rw [hp_lt] at hlt; omega), no (by rw [s2]; rintro (⟨_, x⟩ | ⟨x, _⟩ | ⟨x, _⟩) <;> first | exact hlt x | exact absurd x (by decide)), Bool.false_and]; rfl
    · rw [if_neg (by rw [s2]; decide), if_pos s2]
      by_cases hlt : B < A
      · rw [if_neg (by rw [hp_le]; rw [hp_lt] at hlt; omega), (tm.mpr (Or.inr (Or.inl ⟨s2, hlt⟩))), Bool.true_and]; exact IH
      · rw [if_pos (by rw [hp_le]; rw [hp_lt] at hlt; omega), no (by rw [s2]; rintro (⟨x, _⟩ | ⟨_, x⟩ | ⟨x, _⟩) <;> first | exact hlt x | exact absurd x (by decide)), Bool.false_and]; rfl
    · rw [if_neg (by rw [s2]; decide), if_neg (by rw [s2]; decide)]
      by_cases heq : A = B
      · rw [if_pos heq, (tm.mpr (Or.inr (Or.inr ⟨s2, heq⟩))), Bool.true_and]; exact IH
      · rw [if_neg heq, no (by rw [s2]; rintro (⟨x, _⟩ | ⟨x, _⟩ | ⟨_, x⟩) <;> first | exact heq x | exact absurd x (by decide)), Bool.false_and]; rfl
theorem fm_isSo {σc σm : hf_St} {nf c h k : Nat} (hn : σm.1 0 14 = nI nf) (hf : nf ≤ 100) (hr : hr_rule σc σm 16 16 k) (hk : k < 20) (hc : c < 7) (hh : h < 5) (day : Int32) : Fm_md_isSo σm (nI k) (nI c) (nI h) day = some (ho_b (ho_so σm nf c h day (σm.1 0 0) k)) := by
  have h18 : (σm.2 18 k).toNatClampNeg ≤ 6 := by
    obtain ⟨kd, tc, -, -, a3, -, -, -, -, -, a9, -⟩ := hr
    have a9' : σm.2 18 k = nI tc := a9
    rw [a9', hp_cl (by omega)]; omega
  unfold Fm_md_isSo ho_so
  rw [hp_let, show (6 : Int32) * nI k = nI (6 * k + 0) from by rw [Nat.add_zero, ← pk_mul]; rfl]
  exact fm_isSo_l (nr := 0) hn hf hr hk hc hh day _ 0 hf_fuel (Nat.zero_add _) (by unfold hf_fuel; omega)
/-! the class's side -/
theorem fc_side {s σm : hf_St} {nf c h : Nat} {v sd nm day known : Int32} (hs : hr_side v sd nm) (hv : ∀ sl, sl < 16 → s.2 28 sl = hk_val σm nf c h day known sl) : Fc_sheet_numberOf s v = some (ho_sd σm nf c h day known sd nm) := by
  unfold Fc_sheet_numberOf ho_sd
  rw [hp_let]
  have e10 : (10000 : Int32).toInt = 10000 := rfl
  have e16 : (16 : Int32).toInt = 16 := rfl
  rcases hs with ⟨n, h1, h2, h3, h4⟩ | ⟨sl, h1, h2, h3⟩
  · have e : (nI n - 10000).toInt = (n : Int) - 10000 := by rw [hp_sub (by rw [hp_nI (by omega), e10]; omega) (by rw [hp_nI (by omega), e10]; omega), hp_nI (by omega), e10]
    rw [if_pos h3, h2, if_pos (by rw [hp_lt, e, hp_0]; omega), h4]
  · have e0 : ¬ sd = 0 := by rw [h3, hp_eq, hp_nI (by omega), hp_0]; omega
    have e : nI (10000 + sl) - 10000 = nI sl := by rw [show (10000 : Int32) = nI 10000 from rfl, pk_sub (by omega), Nat.add_sub_cancel_left]
    rw [if_neg e0, h2, e, if_neg (by rw [hp_lt, hp_nI (by omega), hp_0]; omega), if_neg (by rw [hp_le, hp_nI (by omega), e16]; omega), hp_gd (hp_ix h1 (by omega)), hp_cl (by omega), hv sl h1, h3, hp_cl (by omega), Nat.add_sub_cancel]
theorem fc_isSo_l {s σm : hf_St} {nf c h k : Nat} {day known : Int32} (hr : hr_rule s σm 16 16 k) (hk : k < 20) (hv : ∀ sl, sl < 16 → s.2 28 sl = hk_val σm nf c h day known sl) : ∀ m j f, j + m = (σm.2 18 k).toNatClampNeg → m < f → Fc_book_isSo_l8 s f (nI k) (nI (6 * k)) (nI (6 * k + j)) = some (ho_b (ho_all σm nf c h day known k j m)) := by
  obtain ⟨kd, tc, a1, a2, a3, a4, a5, a6, a7, a8, a9, a10⟩ := hr
  have a9' : σm.2 18 k = nI tc := a9
  have a8' : s.2 18 k = nI tc := a8
  have ixk : hf_ix (nI k) 20 := hp_ix hk (by omega)
  have e6 : nI (6 * k) + nI tc = nI (6 * k + tc) := nI_add _ _
  rw [a9', hp_cl (by omega)]
  intro m
  induction m with
  | zero =>
    intro j f hj hf'
    obtain ⟨n, rfl⟩ : ∃ n, f = n + 1 := ⟨f - 1, by omega⟩
    rw [Fc_book_isSo_l8, hp_gd ixk, hp_cl (by omega), a8', e6, if_pos (by rw [hp_le, hp_nI (by omega), hp_nI (by omega)]; omega)]
    rfl
  | succ m ih =>
    intro j f hj hf'
    obtain ⟨n, rfl⟩ : ∃ n, f = n + 1 := ⟨f - 1, by omega⟩
    obtain ⟨s1, s2, s3, s4⟩ := a10 j (by omega)
    have ix : hf_ix (nI (6 * k + j)) 120 := hp_ix (by omega) (by omega)
    have IH := ih (j + 1) n (by omega) (by omega)
    rw [Fc_book_isSo_l8, hp_gd ixk, hp_cl (by omega), a8', e6, if_neg (hp_nle (by omega) (by omega))]
    simp only [hp_gd ix, hp_cl (show 6 * k + j < 2147483648 by omega), hp_succ, hp_z0]
    rw [show 16 + 3 = 19 from rfl, show 16 + 4 = 20 from rfl] at s1
    rw [show 16 + 5 = 21 from rfl, show 16 + 6 = 22 from rfl, show 16 + 7 = 23 from rfl] at s4
    rw [show 16 + 5 = 21 from rfl] at s2
    have s3' : s.2 20 (6 * k + j) = σm.2 21 (6 * k + j) := s3
    rw [fc_side s1 hv, hp_b1, fc_side s4 hv, hp_b1]
    rw [show 6 * k + j + 1 = 6 * k + (j + 1) from rfl]
    rw [ho_all]
    generalize hA : ho_sd σm nf c h day known (σm.2 19 (6 * k + j)) (σm.2 20 (6 * k + j)) = A at *
    generalize hB : ho_sd σm nf c h day known (σm.2 22 (6 * k + j)) (σm.2 23 (6 * k + j)) = B at *
    have tm : ho_tmb σm nf c h day known (6 * k + j) = true ↔ ((σm.2 21 (6 * k + j) = 60 ∧ A < B) ∨ (σm.2 21 (6 * k + j) = 62 ∧ B < A) ∨ (σm.2 21 (6 * k + j) = 61 ∧ A = B)) := by unfold ho_tmb; rw [decide_eq_true_iff, hA, hB]
    have sg : Fc_book_signOf s A B = some (if A = B then 61 else if B < A then 62 else 60) := by
      unfold Fc_book_signOf
      by_cases heq : A = B
      · rw [if_pos heq, if_pos heq]
      · rw [if_neg heq, if_neg heq]
        by_cases hlt : B < A
        · rw [if_pos (by rw [hp_le]; rw [hp_lt] at hlt; omega), if_pos hlt]
        · rw [if_neg (by rw [hp_le]; rw [hp_lt] at hlt; rw [hp_eq] at heq; omega), if_neg hlt]
    rw [sg, hp_b1, s3']
    have cs : (if A = B then (61 : Int32) else if B < A then 62 else 60) = σm.2 21 (6 * k + j) ↔ ho_tmb σm nf c h day known (6 * k + j) = true := by
      rw [tm]
      by_cases heq : A = B
      · rw [if_pos heq]
        constructor
        · exact fun e => Or.inr (Or.inr ⟨e.symm, heq⟩)
        · rintro (⟨_, x⟩ | ⟨_, x⟩ | ⟨x, _⟩)
          · rw [heq, hp_lt] at x; omega
          · rw [heq, hp_lt] at x; omega
          · exact x.symm
      · rw [if_neg heq]
        by_cases hlt : B < A
        · rw [if_pos hlt]
          constructor
          · exact fun e => Or.inr (Or.inl ⟨e.symm, hlt⟩)
          · rintro (⟨_, x⟩ | ⟨x, _⟩ | ⟨_, x⟩)
            · rw [hp_lt] at x hlt; omega
            · exact x.symm
            · exact absurd x heq
        · rw [if_neg hlt]
          constructor
          · exact fun e => Or.inl ⟨e.symm, by rw [hp_lt] at hlt ⊢; rw [hp_eq] at heq; omega⟩
          · rintro (⟨x, _⟩ | ⟨_, x⟩ | ⟨_, x⟩)
            · exact x.symm
            · exact absurd x hlt
            · exact absurd x heq
    by_cases ht : ho_tmb σm nf c h day known (6 * k + j) = true
    · rw [if_pos (cs.mpr ht), ht, Bool.true_and]; exact IH
    · rw [if_neg (fun e => ht (cs.mp e)), Bool.eq_false_iff.mpr ht, Bool.false_and]; rfl
theorem fc_isSo {s σm : hf_St} {nf c h k : Nat} {day known : Int32} (hr : hr_rule s σm 16 16 k) (hk : k < 20) (hv : ∀ sl, sl < 16 → s.2 28 sl = hk_val σm nf c h day known sl) : Fc_book_isSo s (nI k) = some (ho_b (ho_so σm nf c h day known k)) := by
  have h18 : (σm.2 18 k).toNatClampNeg ≤ 6 := by
    obtain ⟨kd, tc, -, -, a3, -, -, -, -, -, a9, -⟩ := hr
    have a9' : σm.2 18 k = nI tc := a9
    rw [a9', hp_cl (by omega)]; omega
  unfold Fc_book_isSo ho_so
  rw [hp_let, show nI k * (6 : Int32) = nI (6 * k) from by rw [Nat.mul_comm, ← pk_mul]; rfl]
  exact fc_isSo_l hr hk hv _ 0 hf_fuel (Nat.zero_add _) (by unfold hf_fuel; omega)
