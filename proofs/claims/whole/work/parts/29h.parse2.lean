/-! the four words -/
def pz_word (w : Nat) : List Nat := [[109, 117, 115, 116], [110, 105, 103, 104, 116], [119, 105, 115, 104], [97, 110, 100]].getD w []
theorem pz_wlen : ∀ w, w < 4 → hs_length w = some (nI (pz_word w).length) ∧ 3 ≤ (pz_word w).length ∧ (pz_word w).length ≤ 5 := by decide +kernel
theorem pz_wch : ∀ w, w < 4 → ∀ i, i < 5 → i < (pz_word w).length → hs_charAt w (nI i) = some (nI ((pz_word w).getD i 0)) ∧ (pz_word w).getD i 0 < 128 := by decide +kernel
/-- the token at q is the word w -/
abbrev pz_is (bs : Nat → Nat) (n q w : Nat) : Prop := pz_we bs (n - q) q - q = (pz_word w).length ∧ ∀ i, i < (pz_word w).length → bs (q + i) = (pz_word w).getD i 0
/-- the class looks at the token at q -/
def pz_tk (bs : Nat → Nat) (n q : Nat) (s : hf_St) : Prop := q ≤ n ∧ s.1 7 2 = nI q ∧ s.1 7 3 = nI (pz_te bs n q)
theorem pz_te_in (bs : Nat → Nat) {n q : Nat} (h : q ≤ n) : q ≤ pz_te bs n q ∧ pz_te bs n q ≤ n := by
  have := pz_we_in bs (n - q) q
  unfold pz_te
  split
  · split <;> omega
  · omega
theorem fc_isWord_l {bs : Nat → Nat} {n q w : Nat} {s : hf_St} (hc : pz_c bs n s) (hw : w < 4) (h2 : s.1 7 2 = nI q) (hq : q + (pz_word w).length ≤ n) : ∀ m i f, i + m = (pz_word w).length → m < f → Fc_reader_isWord_l20 s w f (nI i) = some (hp_t (∀ k, k < (pz_word w).length → i ≤ k → bs (q + k) = (pz_word w).getD k 0)) := by
  obtain ⟨hl, l3, l5⟩ := pz_wlen w hw
  have h5 := hc.2.1
  intro m
  induction m with
  | zero =>
    intro i f hi hf
    obtain ⟨k, rfl⟩ : ∃ k, f = k + 1 := ⟨f - 1, by omega⟩
    rw [Fc_reader_isWord_l20, hl, hp_b1, if_pos (by rw [hp_le, hp_nI (by omega), hp_nI (by omega)]; omega), hp_z1, hp_tpos (fun k h1 h2 => by omega)]
  | succ m ih =>
    intro i f hi hf
    obtain ⟨k, rfl⟩ : ∃ k, f = k + 1 := ⟨f - 1, by omega⟩
    obtain ⟨hch, h128⟩ := pz_wch w hw i (by omega) (by omega)
    have hb := hc.2.2 (q + i) (by omega)
    rw [Fc_reader_isWord_l20, hl, hp_b1, if_neg (hp_nle (by omega) (by omega)), h2, nI_add, fc_byteAt hc (q + i) (by omega), hp_b1, if_pos (show q + i < n by omega), hch, hp_b1, hp_succ, ih (i + 1) k (by omega) (by omega)]
    by_cases he : bs (q + i) = (pz_word w).getD i 0
    · rw [if_pos (by rw [he])]
      by_cases hr : ∀ k, k < (pz_word w).length → i + 1 ≤ k → bs (q + k) = (pz_word w).getD k 0
      · rw [hp_tpos hr, hp_tpos (fun k h1 h2 => by
          by_cases hk : k = i
          · rw [hk]; exact he
          · exact hr k h1 (by omega))]
      · rw [hp_tneg hr, hp_tneg (fun h => hr (fun k h1 h2 => h k h1 (by omega)))]
    · rw [if_neg (by rw [nI_eq (by omega) (by omega)]; exact he), hp_z0, hp_tneg (fun h => he (h i (by omega) (Nat.le_refl _)))]
theorem fc_isWord {bs : Nat → Nat} {n q w : Nat} {s : hf_St} (hc : pz_c bs n s) (hw : w < 4) (ht : pz_tk bs n q s) : Fc_reader_isWord s w = some (hp_t (pz_is bs n q w)) := by
  obtain ⟨hqn, h2, h3⟩ := ht
  obtain ⟨hl, l3, l5⟩ := pz_wlen w hw
  have h5 := hc.2.1
  have hin := pz_te_in bs hqn
  have hwe := pz_we_in bs (n - q) q
  unfold Fc_reader_isWord
  rw [hl, hp_b1, h2, h3, pk_sub hin.1]
  by_cases he : pz_te bs n q - q = (pz_word w).length
  · have hwq : pz_we bs (n - q) q = pz_te bs n q := by
      unfold pz_te at he ⊢
      split
      · rename_i hz
        rw [if_pos hz] at he
        split at he <;> omega
      · rfl
    rw [if_pos (by rw [he]), show (0 : Int32) = nI 0 from rfl, fc_isWord_l hc hw h2 (by omega) _ 0 hf_fuel (Nat.zero_add _) (by unfold hf_fuel; omega)]
    by_cases hr : ∀ i, i < (pz_word w).length → bs (q + i) = (pz_word w).getD i 0
    · rw [hp_tpos (fun k h1 _ => hr k h1), hp_tpos ⟨by rw [hwq]; exact he, hr⟩]
    · rw [hp_tneg (fun h => hr (fun k h1 => h k h1 (Nat.zero_le _))), hp_tneg (fun h => hr h.2)]
  · rw [if_neg (by rw [nI_eq (by omega) (by omega)]; exact he), hp_z0, hp_tneg]
    rintro ⟨a, -⟩
    apply he
    unfold pz_te
    rw [if_neg (by omega)]
    exact a
/-! the reference's words -/
/-- the reference has looked at the token at q -/
def pz_lk (bs : Nat → Nat) (n q : Nat) (s : hf_St) : Prop := q ≤ n ∧ s.1 0 22 = nI q ∧ s.1 0 41 = nI q ∧ s.1 0 42 = nI (pz_we bs (n - q) q - q)
theorem fm_isLetters {bs : Nat → Nat} {n q : Nat} {s : hf_St} (hm : pz_m bs n s) (hk : pz_lk bs n q s) (a b c d : Nat) (ha : a < 128) (hb : b < 128) (hc : c < 128) (hd : d < 128) : Fm_md_isLetters s (nI a) (nI b) (nI c) (nI d) = some (hp_t (pz_we bs (n - q) q - q = 4 ∧ bs q = a ∧ bs (q + 1) = b ∧ bs (q + 2) = c ∧ bs (q + 3) = d)) := by
  obtain ⟨hqn, h22, h41, h42⟩ := hk
  have hwe := pz_we_in bs (n - q) q
  have h5 := hm.2.1
  unfold Fm_md_isLetters
  rw [h41, h42]
  by_cases h4 : pz_we bs (n - q) q - q = 4
  · rw [h4, if_pos (show nI 4 = 4 from rfl)]
    have i0 := hm.2.2 q (by omega)
    have i1 := hm.2.2 (q + 1) (by omega)
    have i2 := hm.2.2 (q + 2) (by omega)
    have i3 := hm.2.2 (q + 3) (by omega)
    rw [show nI q + 1 = nI (q + 1) from nI_1 q, show nI q + 2 = nI (q + 2) from by rw [← nI_add]; rfl, show nI q + 3 = nI (q + 3) from by rw [← nI_add]; rfl]
    simp only [hp_gd (hp_ix (show q < 500 by omega) (by omega)), hp_gd (hp_ix (show q + 1 < 500 by omega) (by omega)), hp_gd (hp_ix (show q + 2 < 500 by omega) (by omega)), hp_gd (hp_ix (show q + 3 < 500 by omega) (by omega)), hp_cl (show q < 2147483648 by omega), hp_cl (show q + 1 < 2147483648 by omega), hp_cl (show q + 2 < 2147483648 by omega), hp_cl (show q + 3 < 2147483648 by omega), i0.2, i1.2, i2.2, i3.2, pz_sgn i0.1 ha, pz_sgn i1.1 hb, pz_sgn i2.1 hc, pz_sgn i3.1 hd, hp_z0, hp_z1]
    unfold hp_t
    by_cases x0 : bs q = a <;> by_cases x1 : bs (q + 1) = b <;> by_cases x2 : bs (q + 2) = c <;> by_cases x3 : bs (q + 3) = d <;> simp [x0, x1, x2, x3]
  · rw [if_neg (by rw [show (4 : Int32) = nI 4 from rfl, nI_eq (by omega) (by omega)]; exact h4), hp_z0, hp_tneg (fun h => h4 h.1)]
theorem fm_isAnd {bs : Nat → Nat} {n q : Nat} {s : hf_St} (hm : pz_m bs n s) (hk : pz_lk bs n q s) : Fm_md_isAnd s = some (hp_t (pz_we bs (n - q) q - q = 3 ∧ bs q = 97 ∧ bs (q + 1) = 110 ∧ bs (q + 2) = 100)) := by
  obtain ⟨hqn, h22, h41, h42⟩ := hk
  have hwe := pz_we_in bs (n - q) q
  have h5 := hm.2.1
  unfold Fm_md_isAnd
  rw [h41, h42]
  by_cases h4 : pz_we bs (n - q) q - q = 3
  · rw [h4, if_pos (show nI 3 = 3 from rfl)]
    have i0 := hm.2.2 q (by omega)
    have i1 := hm.2.2 (q + 1) (by omega)
    have i2 := hm.2.2 (q + 2) (by omega)
    rw [show nI q + 1 = nI (q + 1) from nI_1 q, show nI q + 2 = nI (q + 2) from by rw [← nI_add]; rfl, show (97 : Int32) = nI 97 from rfl, show (110 : Int32) = nI 110 from rfl, show (100 : Int32) = nI 100 from rfl]
    simp only [hp_gd (hp_ix (show q < 500 by omega) (by omega)), hp_gd (hp_ix (show q + 1 < 500 by omega) (by omega)), hp_gd (hp_ix (show q + 2 < 500 by omega) (by omega)), hp_cl (show q < 2147483648 by omega), hp_cl (show q + 1 < 2147483648 by omega), hp_cl (show q + 2 < 2147483648 by omega), i0.2, i1.2, i2.2, pz_sgn i0.1 (show 97 < 128 by omega), pz_sgn i1.1 (show 110 < 128 by omega), pz_sgn i2.1 (show 100 < 128 by omega), hp_z0, hp_z1]
    unfold hp_t
    by_cases x0 : bs q = 97 <;> by_cases x1 : bs (q + 1) = 110 <;> by_cases x2 : bs (q + 2) = 100 <;> simp [x0, x1, x2]
  · rw [if_neg (by rw [show (3 : Int32) = nI 3 from rfl, nI_eq (by omega) (by omega)]; exact h4), hp_z0, hp_tneg (fun h => h4 h.1)]
theorem fm_isNight {bs : Nat → Nat} {n q : Nat} {s : hf_St} (hm : pz_m bs n s) (hk : pz_lk bs n q s) : Fm_md_isNight s = some (hp_t (pz_we bs (n - q) q - q = 5 ∧ bs q = 110 ∧ bs (q + 1) = 105 ∧ bs (q + 2) = 103 ∧ bs (q + 3) = 104 ∧ bs (q + 4) = 116)) := by
  obtain ⟨hqn, h22, h41, h42⟩ := hk
  have hwe := pz_we_in bs (n - q) q
  have h5 := hm.2.1
  unfold Fm_md_isNight
  rw [h41, h42]
  by_cases h4 : pz_we bs (n - q) q - q = 5
  · rw [h4, if_pos (show nI 5 = 5 from rfl)]
    have i0 := hm.2.2 q (by omega)
    have i1 := hm.2.2 (q + 1) (by omega)
    have i2 := hm.2.2 (q + 2) (by omega)
    have i3 := hm.2.2 (q + 3) (by omega)
    have i4 := hm.2.2 (q + 4) (by omega)
    rw [show nI q + 1 = nI (q + 1) from nI_1 q, show nI q + 2 = nI (q + 2) from by rw [← nI_add]; rfl, show nI q + 3 = nI (q + 3) from by rw [← nI_add]; rfl, show nI q + 4 = nI (q + 4) from by rw [← nI_add]; rfl, show (110 : Int32) = nI 110 from rfl, show (105 : Int32) = nI 105 from rfl, show (103 : Int32) = nI 103 from rfl, show (104 : Int32) = nI 104 from rfl, show (116 : Int32) = nI 116 from rfl]
    simp only [hp_gd (hp_ix (show q < 500 by omega) (by omega)), hp_gd (hp_ix (show q + 1 < 500 by omega) (by omega)), hp_gd (hp_ix (show q + 2 < 500 by omega) (by omega)), hp_gd (hp_ix (show q + 3 < 500 by omega) (by omega)), hp_gd (hp_ix (show q + 4 < 500 by omega) (by omega)), hp_cl (show q < 2147483648 by omega), hp_cl (show q + 1 < 2147483648 by omega), hp_cl (show q + 2 < 2147483648 by omega), hp_cl (show q + 3 < 2147483648 by omega), hp_cl (show q + 4 < 2147483648 by omega), i0.2, i1.2, i2.2, i3.2, i4.2, pz_sgn i0.1 (show 110 < 128 by omega), pz_sgn i1.1 (show 105 < 128 by omega), pz_sgn i2.1 (show 103 < 128 by omega), pz_sgn i3.1 (show 104 < 128 by omega), pz_sgn i4.1 (show 116 < 128 by omega), hp_z0, hp_z1]
    unfold hp_t
    by_cases x0 : bs q = 110 <;> by_cases x1 : bs (q + 1) = 105 <;> by_cases x2 : bs (q + 2) = 103 <;> by_cases x3 : bs (q + 3) = 104 <;> by_cases x4 : bs (q + 4) = 116 <;> simp [x0, x1, x2, x3, x4]
  · rw [if_neg (by rw [show (5 : Int32) = nI 5 from rfl, nI_eq (by omega) (by omega)]; exact h4), hp_z0, hp_tneg (fun h => h4 h.1)]
/-- the words spelt out -/
theorem pz_is0 (bs : Nat → Nat) (n q : Nat) : pz_is bs n q 0 ↔ (pz_we bs (n - q) q - q = 4 ∧ bs q = 109 ∧ bs (q + 1) = 117 ∧ bs (q + 2) = 115 ∧ bs (q + 3) = 116) := by
  constructor
  · rintro ⟨a, b⟩; exact ⟨a, b 0 (by decide), b 1 (by decide), b 2 (by decide), b 3 (by decide)⟩
  · rintro ⟨a, b0, b1, b2, b3⟩
    refine ⟨a, fun i hi => ?_⟩
    have hi' : i < 4 := hi
    rcases (show i = 0 ∨ i = 1 ∨ i = 2 ∨ i = 3 by omega) with rfl | rfl | rfl | rfl
    · exact b0
    · exact b1
    · exact b2
    · exact b3
theorem pz_is2 (bs : Nat → Nat) (n q : Nat) : pz_is bs n q 2 ↔ (pz_we bs (n - q) q - q = 4 ∧ bs q = 119 ∧ bs (q + 1) = 105 ∧ bs (q + 2) = 115 ∧ bs (q + 3) = 104) := by
  constructor
  · rintro ⟨a, b⟩; exact ⟨a, b 0 (by decide), b 1 (by decide), b 2 (by decide), b 3 (by decide)⟩
  · rintro ⟨a, b0, b1, b2, b3⟩
    refine ⟨a, fun i hi => ?_⟩
    have hi' : i < 4 := hi
    rcases (show i = 0 ∨ i = 1 ∨ i = 2 ∨ i = 3 by omega) with rfl | rfl | rfl | rfl
    · exact b0
    · exact b1
    · exact b2
    · exact b3
theorem pz_is3 (bs : Nat → Nat) (n q : Nat) : pz_is bs n q 3 ↔ (pz_we bs (n - q) q - q = 3 ∧ bs q = 97 ∧ bs (q + 1) = 110 ∧ bs (q + 2) = 100) := by
  constructor
  · rintro ⟨a, b⟩; exact ⟨a, b 0 (by decide), b 1 (by decide), b 2 (by decide)⟩
  · rintro ⟨a, b0, b1, b2⟩
    refine ⟨a, fun i hi => ?_⟩
    have hi' : i < 3 := hi
    rcases (show i = 0 ∨ i = 1 ∨ i = 2 by omega) with rfl | rfl | rfl
    · exact b0
    · exact b1
    · exact b2
theorem pz_is1 (bs : Nat → Nat) (n q : Nat) : pz_is bs n q 1 ↔ (pz_we bs (n - q) q - q = 5 ∧ bs q = 110 ∧ bs (q + 1) = 105 ∧ bs (q + 2) = 103 ∧ bs (q + 3) = 104 ∧ bs (q + 4) = 116) := by
  constructor
  · rintro ⟨a, b⟩; exact ⟨a, b 0 (by decide), b 1 (by decide), b 2 (by decide), b 3 (by decide), b 4 (by decide)⟩
  · rintro ⟨a, b0, b1, b2, b3, b4⟩
    refine ⟨a, fun i hi => ?_⟩
    have hi' : i < 5 := hi
    rcases (show i = 0 ∨ i = 1 ∨ i = 2 ∨ i = 3 ∨ i = 4 by omega) with rfl | rfl | rfl | rfl | rfl
    · exact b0
    · exact b1
    · exact b2
    · exact b3
    · exact b4
