/-- the number of the first k digits from q on -/
def pz_val (bs : Nat → Nat) (q : Nat) : Nat → Nat
  | 0 => 0
  | k + 1 => 10 * pz_val bs q k + (bs (q + k) - 48)
theorem pz_val_lt {bs : Nat → Nat} {q : Nat} : ∀ k, (∀ i, i < k → pz_dg (bs (q + i))) → pz_val bs q k < 10 ^ k := by
  intro k
  induction k with
  | zero => intro _; show 0 < 1; omega
  | succ k ih =>
    intro h
    have h1 := ih (fun i hi => h i (by omega))
    have h2 := h k (by omega)
    rw [pz_val, Nat.pow_succ]
    omega
theorem pz_val_4 {bs : Nat → Nat} {q k : Nat} (hk : k ≤ 4) (h : ∀ i, i < k → pz_dg (bs (q + i))) : pz_val bs q k ≤ 9999 := by
  have h1 := pz_val_lt k h
  have h2 : 10 ^ k ≤ 10 ^ 4 := Nat.pow_le_pow_right (by omega) hk
  have h3 : (10 : Nat) ^ 4 = 10000 := by decide
  omega
theorem pz_acc {v b : Nat} (hb : 48 ≤ b) : nI v * 10 + nI b - 48 = nI (10 * v + (b - 48)) := by
  rw [show (10 : Int32) = nI 10 from rfl, show (48 : Int32) = nI 48 from rfl, pk_mul, nI_add, pk_sub (by omega)]
  congr 1
  omega
theorem pz_acc2 {v b : Nat} (hb : 48 ≤ b) : 10 * nI v + nI b - 48 = nI (10 * v + (b - 48)) := by
  rw [show (10 : Int32) = nI 10 from rfl, show (48 : Int32) = nI 48 from rfl, pk_mul, nI_add, pk_sub (by omega)]
  congr 1
  omega
theorem fc_numberOf {bs : Nat → Nat} {n q : Nat} {s : hf_St} (hc : pz_c bs n s) (ht : pz_tk bs n q s) (hn : pz_num bs n q) : Fc_reader_numberOfWord s = some (if pz_we bs (n - q) q - q ≤ 4 then nI (pz_val bs q (pz_we bs (n - q) q - q)) else -1) := by
  obtain ⟨hqn, h2, h3⟩ := ht
  have h5 := hc.2.1
  have hwe := pz_we_in bs (n - q) q
  have h0 := hn.1
  have et : pz_te bs n q = pz_we bs (n - q) q := by unfold pz_te; rw [if_neg (by omega)]
  rw [et] at h3
  unfold Fc_reader_numberOfWord
  rw [h2, h3, pk_sub hwe.1]
  by_cases h4 : pz_we bs (n - q) q - q ≤ 4
  · rw [if_pos (by rw [hp_le, hp_nI (by omega), hp_4]; omega), if_pos h4, hp_let]
    have loop : ∀ m j f, j + m = pz_we bs (n - q) q - q → m < f → Fc_reader_numberOfWord_l22 s f (nI (pz_val bs q j)) (nI (q + j)) = some (nI (pz_val bs q (pz_we bs (n - q) q - q))) := by
      intro m
      induction m with
      | zero =>
        intro j f hj hf
        obtain ⟨k, rfl⟩ : ∃ k, f = k + 1 := ⟨f - 1, by omega⟩
        have ej : j = pz_we bs (n - q) q - q := by omega
        rw [Fc_reader_numberOfWord_l22, h3, if_pos (by rw [hp_le, hp_nI (by omega), hp_nI (by omega)]; omega), ← ej]
      | succ m ih =>
        intro j f hj hf
        obtain ⟨k, rfl⟩ : ∃ k, f = k + 1 := ⟨f - 1, by omega⟩
        have hd := hn.2 j (by omega)
        rw [Fc_reader_numberOfWord_l22, h3, if_neg (hp_nle (by omega) (by omega)), fc_byteAt hc (q + j) (by omega), hp_b1, if_pos (show q + j < n by omega), hp_let, pz_acc hd.1, hp_succ]
        exact ih (j + 1) k (by omega) (by omega)
    exact loop _ 0 hf_fuel (Nat.zero_add _) (by unfold hf_fuel; omega)
  · rw [if_neg (by rw [hp_le, hp_nI (by omega), hp_4]; omega), if_neg h4]
theorem fm_numberHere {bs : Nat → Nat} {n q : Nat} {s : hf_St} (hm : pz_m bs n s) (hk : pz_lk bs n q s) (hn : pz_num bs n q) (h4 : pz_we bs (n - q) q - q ≤ 4) : Fm_md_numberHere s = some (nI (pz_val bs q (pz_we bs (n - q) q - q))) := by
  obtain ⟨hqn, h22, h41, h42⟩ := hk
  have h5 := hm.2.1
  have hwe := pz_we_in bs (n - q) q
  have loop : ∀ m j f, j + m = pz_we bs (n - q) q - q → m < f → Fm_md_numberHere_l4 s f (nI (pz_val bs q j)) (nI j) = some (nI (pz_val bs q (pz_we bs (n - q) q - q))) := by
    intro m
    induction m with
    | zero =>
      intro j f hj hf
      obtain ⟨k, rfl⟩ : ∃ k, f = k + 1 := ⟨f - 1, by omega⟩
      have ej : j = pz_we bs (n - q) q - q := by omega
      rw [Fm_md_numberHere_l4, h42, if_pos (by rw [hp_le, hp_nI (by omega), hp_nI (by omega)]; omega), ← ej]
    | succ m ih =>
      intro j f hj hf
      obtain ⟨k, rfl⟩ : ∃ k, f = k + 1 := ⟨f - 1, by omega⟩
      have hd := hn.2 j (by omega)
      have hb := hm.2.2 (q + j) (by omega)
      have e8 : (nI (bs (q + j))).toInt8.toInt32 = nI (bs (q + j)) := (pz_sgn hb.1 (show bs (q + j) < 128 by omega)).mpr rfl
      rw [Fm_md_numberHere_l4, h42, if_neg (hp_nle (by omega) (by omega)), if_neg (by rw [hp_le, hp_4, hp_nI (by omega)]; omega), h41, nI_add, hp_gd (hp_ix (by omega) (by omega)), hp_cl (by omega), hb.2, e8, hp_let, pz_acc2 hd.1, hp_succ]
      exact ih (j + 1) k (by omega) (by omega)
  unfold Fm_md_numberHere
  exact loop _ 0 hf_fuel (Nat.zero_add _) (by unfold hf_fuel; omega)
/-! a side of a term -/
/-- the token at q is a field: c or h and a digit 0 to 7 -/
abbrev pz_fld (bs : Nat → Nat) (n q : Nat) : Prop := pz_we bs (n - q) q - q = 2 ∧ (bs q = 99 ∨ bs q = 104) ∧ 48 ≤ bs (q + 1) ∧ bs (q + 1) ≤ 55
def pz_slot (bs : Nat → Nat) (q : Nat) : Nat := (bs (q + 1) - 48) + (if bs q = 104 then 8 else 0)
theorem fc_slotOfWord {bs : Nat → Nat} {n q : Nat} {s : hf_St} (hc : pz_c bs n s) (ht : pz_tk bs n q s) : Fc_reader_slotOfWord s = some (if pz_fld bs n q then nI (pz_slot bs q) else -1) := by
  obtain ⟨hqn, h2, h3⟩ := ht
  have h5 := hc.2.1
  have hwe := pz_we_in bs (n - q) q
  have hin := pz_te_in bs hqn
  unfold Fc_reader_slotOfWord Fc_reader_slotOfWord_b54 Fc_reader_slotOfWord_b58 Fc_reader_slotOfWord_b59 Fc_reader_slotOfWord_b82
  rw [h2, h3, pk_sub hin.1, fc_byteAt hc q (by omega), hp_b1, show nI q + 1 = nI (q + 1) from nI_1 q, fc_byteAt hc (q + 1) (by omega), hp_b1, hp_let]
  by_cases h2' : pz_te bs n q - q = 2
  · have hwq : pz_we bs (n - q) q = pz_te bs n q := by
      unfold pz_te at h2' ⊢
      split
      · rename_i hz
        rw [if_pos hz] at h2'
        split at h2' <;> omega
      · rfl
    have i0 := hc.2.2 q (by omega)
    have i1 := hc.2.2 (q + 1) (by omega)
    rw [h2', if_pos (show nI 2 = 2 from rfl), if_pos (show q < n by omega), if_pos (show q + 1 < n by omega)]
    have e48 : (nI (bs (q + 1)) - 48).toInt = (bs (q + 1) : Int) - 48 := by
      have e : (48 : Int32).toInt = 48 := rfl
      rw [hp_sub (by rw [hp_nI (by omega), e]; omega) (by rw [hp_nI (by omega), e]; omega), hp_nI (by omega), e]
    have e99 : (nI (bs q) = 99) ↔ bs q = 99 := by rw [show (99 : Int32) = nI 99 from rfl, nI_eq (by omega) (by omega)]
    have e104 : (nI (bs q) = 104) ↔ bs q = 104 := by rw [show (104 : Int32) = nI 104 from rfl, nI_eq (by omega) (by omega)]
    simp only [fc_isField, hp_b1, hp_t0, e48, e99, e104, if_neg (show ¬ ((1 : Int32) = 0) from by decide), if_true]
    unfold Fc_hf_slotOf
    simp only [if_true, if_neg (show ¬ ((1 : Int32) = 0) from by decide), hp_b1]
    by_cases hd : 48 ≤ bs (q + 1) ∧ bs (q + 1) ≤ 55
    · have ed : nI (bs (q + 1)) - 48 = nI (bs (q + 1) - 48) := by rw [show (48 : Int32) = nI 48 from rfl, pk_sub hd.1]
      rw [if_neg (show ¬ ¬ (0 ≤ (bs (q + 1) : Int) - 48 ∧ (bs (q + 1) : Int) - 48 < 8) by omega), ed]
      by_cases hc' : bs q = 99
      · rw [if_pos hc', if_neg (by omega), if_pos ⟨by rw [hwq]; exact h2', Or.inl hc', hd⟩]
        unfold pz_slot
        rw [if_neg (by omega)]
        rfl
      · rw [if_neg hc']
        by_cases hh : bs q = 104
        · rw [if_pos hh, if_pos hh, if_pos ⟨by rw [hwq]; exact h2', Or.inr hh, hd⟩]
          unfold pz_slot
          rw [if_pos hh, show (8 : Int32) = nI 8 from rfl, nI_add, Nat.add_comm]
        · rw [if_neg hh, if_neg (fun h => h.2.1.elim hc' hh)]
    · rw [if_pos (show ¬ (0 ≤ (bs (q + 1) : Int) - 48 ∧ (bs (q + 1) : Int) - 48 < 8) by omega), if_neg (show ¬ pz_fld bs n q from fun h => hd h.2.2)]
      split <;> (try rfl)
      split <;> rfl
  · rw [if_neg (by rw [show (2 : Int32) = nI 2 from rfl, nI_eq (by omega) (by omega)]; exact h2'), if_pos rfl, if_neg]
    rintro ⟨a, -⟩
    apply h2'
    unfold pz_te
    rw [if_neg (by omega)]
    exact a
