/-! numbers of the text -/
abbrev pz_dg (b : Nat) : Prop := 48 ≤ b ∧ b ≤ 57
/-- the token at q is a word of digits -/
abbrev pz_num (bs : Nat → Nat) (n q : Nat) : Prop := 0 < pz_we bs (n - q) q - q ∧ ∀ i, i < pz_we bs (n - q) q - q → pz_dg (bs (q + i))
theorem fc_isDigit (s : hf_St) {b : Nat} (hb : b < 256) : Fc_reader_isDigit s (nI b) = some (hp_t (pz_dg b)) := by
  have e48 : (48 : Int32).toInt = 48 := rfl
  have e57 : (57 : Int32).toInt = 57 := rfl
  unfold Fc_reader_isDigit
  simp only [hp_lt, e48, e57, hp_z0, hp_z1, hp_nI (show b < 2147483648 by omega)]
  by_cases hw : pz_dg b
  · rw [hp_tpos hw, if_neg (by omega), if_neg (by omega)]
  · rw [hp_tneg hw]
    by_cases h1 : (b : Int) < 48
    · rw [if_pos h1]
    · rw [if_neg h1, if_pos (by omega)]
theorem pz_we_no {bs : Nat → Nat} {n q : Nat} (hq : q < n) (h : pz_we bs (n - q) q = q) : ¬ pz_wd (bs q) := by
  intro hw
  obtain ⟨m, hm⟩ : ∃ m, n - q = m + 1 := ⟨n - q - 1, by omega⟩
  rw [hm, pz_we, if_pos hw] at h
  have := pz_we_in bs m (q + 1)
  omega
theorem fc_isNumber_l {bs : Nat → Nat} {n q e : Nat} {s : hf_St} (hc : pz_c bs n s) (h2 : s.1 7 2 = nI q) (h3 : s.1 7 3 = nI e) (he : e ≤ n) : ∀ m p f, p + m = e → q ≤ p → m < f → Fc_reader_isNumber_l5 s f (nI p) = some (hp_t (q < e ∧ ∀ i, i < e → p ≤ i → pz_dg (bs i))) := by
  have h5 := hc.2.1
  intro m
  induction m with
  | zero =>
    intro p f hp hq hf
    obtain ⟨k, rfl⟩ : ∃ k, f = k + 1 := ⟨f - 1, by omega⟩
    rw [Fc_reader_isNumber_l5, h3, if_pos (by rw [hp_le, hp_nI (by omega), hp_nI (by omega)]; omega), h2, hp_z0, hp_z1]
    by_cases hqe : q < e
    · rw [if_neg (hp_nle hqe (by omega)), hp_tpos ⟨hqe, fun i h1 h2 => by omega⟩]
    · rw [if_pos (by rw [hp_le, hp_nI (by omega), hp_nI (by omega)]; omega), hp_tneg (fun h => hqe h.1)]
  | succ m ih =>
    intro p f hp hq hf
    obtain ⟨k, rfl⟩ : ∃ k, f = k + 1 := ⟨f - 1, by omega⟩
    have hb := hc.2.2 p (by omega)
    rw [Fc_reader_isNumber_l5, h3, if_neg (hp_nle (by omega) (by omega)), fc_byteAt hc p (by omega), hp_b1, if_pos (show p < n by omega), fc_isDigit s hb.1, hp_b1, hp_succ, ih (p + 1) k (by omega) (by omega) (by omega), hp_z0]
    by_cases hd : pz_dg (bs p)
    · rw [hp_tpos hd, if_neg (by decide)]
      by_cases hr : q < e ∧ ∀ i, i < e → p + 1 ≤ i → pz_dg (bs i)
      · rw [hp_tpos hr, hp_tpos ⟨hr.1, fun i h1 h2 => by
          by_cases hk : i = p
          · rw [hk]; exact hd
          · exact hr.2 i h1 (by omega)⟩]
      · rw [hp_tneg hr, hp_tneg (fun h => hr ⟨h.1, fun i h1 h2 => h.2 i h1 (by omega)⟩)]
    · rw [hp_tneg hd, if_pos rfl, hp_tneg (fun h => hd (h.2 p (by omega) (Nat.le_refl _)))]
theorem fc_isNumber {bs : Nat → Nat} {n q : Nat} {s : hf_St} (hc : pz_c bs n s) (ht : pz_tk bs n q s) : Fc_reader_isNumber s = some (hp_t (pz_num bs n q)) := by
  obtain ⟨hqn, h2, h3⟩ := ht
  have h5 := hc.2.1
  have hin := pz_te_in bs hqn
  have hwe := pz_we_in bs (n - q) q
  unfold Fc_reader_isNumber
  rw [hp_let, h2, fc_isNumber_l hc h2 h3 hin.2 (pz_te bs n q - q) q hf_fuel (by omega) (Nat.le_refl _) (by unfold hf_fuel; omega)]
  by_cases hz : pz_we bs (n - q) q = q
  · rw [hp_tneg (show ¬ pz_num bs n q from fun h => by have := h.1; omega), hp_tneg]
    rintro ⟨a, b⟩
    unfold pz_te at a b
    rw [if_pos hz] at a b
    by_cases hq : q < n
    · rw [if_pos hq] at a b
      have hno := pz_we_no hq hz
      exact hno (Or.inl (b q (by omega) (Nat.le_refl _)))
    · rw [if_neg hq] at a
      omega
  · have et : pz_te bs n q = pz_we bs (n - q) q := by unfold pz_te; rw [if_neg hz]
    rw [et]
    by_cases hn : pz_num bs n q
    · rw [hp_tpos hn, hp_tpos ⟨by have := hn.1; omega, fun i h1 h2 => by
        have := hn.2 (i - q) (by omega)
        rwa [Nat.add_sub_cancel' h2] at this⟩]
    · rw [hp_tneg hn, hp_tneg (fun h => hn ⟨by omega, fun i hi => h.2 (q + i) (by omega) (by omega)⟩)]
theorem fm_isNumber_l {bs : Nat → Nat} {n q : Nat} {s : hf_St} (hm : pz_m bs n s) (hk : pz_lk bs n q s) : ∀ m j f (l : Int32), (l = 0 ∨ l = 1) → j + m = pz_we bs (n - q) q - q → m < f → Fm_md_isNumber_l15 s f l (nI j) = some (hp_t (l = 1 ∧ ∀ i, i < pz_we bs (n - q) q - q → j ≤ i → pz_dg (bs (q + i)))) := by
  obtain ⟨hqn, h22, h41, h42⟩ := hk
  have hwe := pz_we_in bs (n - q) q
  have h5 := hm.2.1
  intro m
  induction m with
  | zero =>
    intro j f l hl hj hf
    obtain ⟨k, rfl⟩ : ∃ k, f = k + 1 := ⟨f - 1, by omega⟩
    rw [Fm_md_isNumber_l15, h42, if_pos (by rw [hp_le, hp_nI (by omega), hp_nI (by omega)]; omega), hp_gd hl]
    rcases hl with rfl | rfl
    · rw [hp_tneg (fun h => absurd h.1 (by decide))]
    · rw [hp_tpos ⟨rfl, fun i h1 h2 => by omega⟩]
  | succ m ih =>
    intro j f l hl hj hf
    obtain ⟨k, rfl⟩ : ∃ k, f = k + 1 := ⟨f - 1, by omega⟩
    have hb := hm.2.2 (q + j) (by omega)
    rw [Fm_md_isNumber_l15, h42, if_neg (hp_nle (by omega) (by omega)), h41, nI_add, hp_gd (hp_ix (by omega) (by omega)), hp_cl (by omega), hb.2, fm_isDigit s hb.1, hp_b1, hp_succ, ih (j + 1) k 0 (Or.inl rfl) (by omega) (by omega), ih (j + 1) k 1 (Or.inr rfl) (by omega) (by omega)]
    rw [hp_tneg (show ¬ ((0 : Int32) = 1 ∧ ∀ i, i < pz_we bs (n - q) q - q → j + 1 ≤ i → pz_dg (bs (q + i))) from fun h => absurd h.1 (by decide))]
    rcases hl with rfl | rfl
    · rw [if_pos rfl, hp_tneg (fun h => absurd h.1 (by decide))]
    · rw [if_neg (by decide)]
      by_cases hd : pz_dg (bs (q + j))
      · rw [hp_tpos (show 48 ≤ bs (q + j) ∧ bs (q + j) ≤ 57 from hd), if_neg (by decide)]
        by_cases hr : ∀ i, i < pz_we bs (n - q) q - q → j + 1 ≤ i → pz_dg (bs (q + i))
        · rw [hp_tpos ⟨rfl, hr⟩, hp_tpos ⟨rfl, fun i h1 h2 => by
            by_cases hk : i = j
            · rw [hk]; exact hd
            · exact hr i h1 (by omega)⟩]
        · rw [hp_tneg (fun h => hr h.2), hp_tneg (fun h => hr (fun i h1 h2 => h.2 i h1 (by omega)))]
      · rw [hp_tneg (show ¬ (48 ≤ bs (q + j) ∧ bs (q + j) ≤ 57) from hd), if_pos rfl, hp_tneg (fun h => hd (h.2 j (by omega) (Nat.le_refl _)))]
theorem fm_isNumber {bs : Nat → Nat} {n q : Nat} {s : hf_St} (hm : pz_m bs n s) (hk : pz_lk bs n q s) : Fm_md_isNumber s = some (hp_t (pz_num bs n q)) := by
  have h5 := hm.2.1
  have hwe := pz_we_in bs (n - q) q
  have hqn := hk.1
  unfold Fm_md_isNumber
  rw [hk.2.2.2, show (0 : Int32) = nI 0 from rfl]
  by_cases h0 : 0 < pz_we bs (n - q) q - q
  · rw [if_neg (hp_nle h0 (by omega)), fm_isNumber_l hm hk _ 0 hf_fuel 1 (Or.inr rfl) (Nat.zero_add _) (by unfold hf_fuel; omega)]
    by_cases hn : pz_num bs n q
    · rw [hp_tpos hn, hp_tpos ⟨rfl, fun i h1 _ => hn.2 i h1⟩]
    · rw [hp_tneg hn, hp_tneg (fun h => hn ⟨h0, fun i h1 => h.2 i h1 (Nat.zero_le _)⟩)]
  · rw [if_pos (by rw [hp_le, hp_nI (by omega), hp_nI (by omega)]; omega), fm_isNumber_l hm hk _ 0 hf_fuel (nI 0) (Or.inl rfl) (Nat.zero_add _) (by unfold hf_fuel; omega), hp_tneg (fun h => absurd h.1 (by decide)), hp_tneg (fun h => h0 h.1)]
