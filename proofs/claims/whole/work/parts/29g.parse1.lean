/-! the reference's reading: see, looks -/
def pz_m (bs : Nat → Nat) (n : Nat) (s : hf_St) : Prop := s.1 0 21 = nI n ∧ n ≤ 500 ∧ ∀ i, i < n → bs i < 256 ∧ s.2 15 i = (nI (bs i)).toInt8.toInt32
/-- only next, from, length have changed -/
def pz_fm (s s' : hf_St) : Prop := s'.2 = s.2 ∧ ∀ k, ¬ (k = 22 ∨ k = 41 ∨ k = 42) → s'.1 0 k = s.1 0 k
theorem pz_fmf (s : hf_St) : pz_fm s s := ⟨rfl, fun _ _ => rfl⟩
theorem pz_fmt {a b c : hf_St} (h : pz_fm a b) (g : pz_fm b c) : pz_fm a c := ⟨by rw [g.1, h.1], fun k q => by rw [g.2 k q, h.2 k q]⟩
theorem pz_fmI {s : hf_St} {k : Nat} {v : Int32} (hk : k = 22 ∨ k = 41 ∨ k = 42) : pz_fm s (hf_pI s 0 k v) := ⟨rfl, fun k' q => by rw [hf_pI_1, if_neg (show ¬ (0 = 0 ∧ k' = k) by omega)]⟩
theorem pz_mf {bs : Nat → Nat} {n : Nat} {s s' : hf_St} (h : pz_m bs n s) (g : pz_fm s s') : pz_m bs n s' := ⟨by rw [g.2 21 (by omega)]; exact h.1, h.2.1, fun i hi => by rw [g.1]; exact h.2.2 i hi⟩
theorem pz_sgn {b c : Nat} (hb : b < 256) (hc : c < 128) : ((nI b).toInt8.toInt32 = nI c) ↔ b = c := by
  rw [hp_eq, pz_byte b hb, hp_nI (by omega)]
  split <;> omega
theorem fm_isDigit (s : hf_St) {b : Nat} (hb : b < 256) : Fm_md_isDigit s (nI b).toInt8.toInt32 = some (hp_t (48 ≤ b ∧ b ≤ 57)) := by
  have e48 : (48 : Int32).toInt = 48 := rfl
  have e57 : (57 : Int32).toInt = 57 := rfl
  have eb := pz_byte b hb
  unfold Fm_md_isDigit
  simp only [hp_lt, e48, e57, hp_z0, hp_z1, eb]
  by_cases hw : 48 ≤ b ∧ b ≤ 57
  · rw [hp_tpos hw, if_pos (show b < 128 by omega), if_neg (by omega), if_neg (by omega)]
  · rw [hp_tneg hw]
    by_cases h8 : b < 128
    · rw [if_pos h8]
      by_cases h1 : (b : Int) < 48
      · rw [if_pos h1]
      · rw [if_neg h1, if_pos (by omega)]
    · rw [if_neg h8, if_pos (by omega)]
theorem fm_isWordByte (s : hf_St) {b : Nat} (hb : b < 256) : Fm_md_isWordByte s (nI b).toInt8.toInt32 = some (hp_t (pz_wd b)) := by
  have e97 : (97 : Int32).toInt = 97 := rfl
  have e122 : (122 : Int32).toInt = 122 := rfl
  have eb := pz_byte b hb
  unfold Fm_md_isWordByte
  rw [fm_isDigit s hb, hp_b1]
  by_cases hd : 48 ≤ b ∧ b ≤ 57
  · rw [hp_tpos hd, if_neg (by decide), hp_tpos (show pz_wd b from Or.inl hd)]; rfl
  · rw [hp_tneg hd, if_pos rfl]
    simp only [hp_lt, e97, e122, hp_z0, hp_z1, eb]
    by_cases hw : 97 ≤ b ∧ b ≤ 122
    · rw [hp_tpos (show pz_wd b from Or.inr hw), if_pos (show b < 128 by omega), if_neg (by omega), if_neg (by omega)]
    · rw [hp_tneg (show ¬ pz_wd b from fun h => h.elim hd hw)]
      by_cases h8 : b < 128
      · rw [if_pos h8]
        by_cases h1 : (b : Int) < 97
        · rw [if_pos h1]
        · rw [if_neg h1, if_pos (by omega)]
      · rw [if_neg h8, if_pos (by omega)]
theorem fm_see_l {bs : Nat → Nat} {n : Nat} : ∀ m p s f, p + m = n → m < f → pz_m bs n s → s.1 0 22 = nI p → ∃ s', Fm_md_see_l0 f s = some (if pz_sk bs m p < n then nI (bs (pz_sk bs m p)) else -1, s') ∧ pz_fm s s' ∧ s'.1 0 22 = nI (pz_sk bs m p) ∧ s'.1 0 41 = s.1 0 41 ∧ s'.1 0 42 = s.1 0 42 := by
  intro m
  induction m with
  | zero =>
    intro p s f hp hf hm h22
    obtain ⟨k, rfl⟩ : ∃ k, f = k + 1 := ⟨f - 1, by omega⟩
    have h5 := hm.2.1
    refine ⟨s, ?_, pz_fmf s, h22, rfl, rfl⟩
    have le : nI n ≤ nI p := by rw [hp_le, hp_nI (by omega), hp_nI (by omega)]; omega
    rw [Fm_md_see_l0, hm.1, h22, if_pos le, Fm_md_see_b38, hm.1, h22, if_pos le, if_neg (by show ¬ p < n; omega)]
  | succ m ih =>
    intro p s f hp hf hm h22
    obtain ⟨k, rfl⟩ : ∃ k, f = k + 1 := ⟨f - 1, by omega⟩
    have h5 := hm.2.1
    have hb := hm.2.2 p (by omega)
    have ix : hf_ix (nI p) 500 := hp_ix (by omega) (by omega)
    have nle := hp_nle (show p < n by omega) (show n < 2147483648 by omega)
    rw [Fm_md_see_l0, hm.1, h22, if_neg nle, hp_gd ix, hp_cl (by omega), hb.2, pz_sk]
    by_cases hw : bs p = 32
    · rw [if_pos (show (nI (bs p)).toInt8.toInt32 = 32 from (pz_sgn (c := 32) hb.1 (by omega)).mpr hw), if_pos hw, hp_let, hp_succ]
      have fr : pz_fm s (hf_pI s 0 22 (nI (p + 1))) := pz_fmI (Or.inl rfl)
      obtain ⟨s', a, b, c, d, e⟩ := ih (p + 1) (hf_pI s 0 22 (nI (p + 1))) k (by omega) (by omega) (pz_mf hm fr) (by simp [hf_pI])
      exact ⟨s', a, pz_fmt fr b, c, by rw [d, hf_pI_1, if_neg (by omega)], by rw [e, hf_pI_1, if_neg (by omega)]⟩
    · rw [if_neg (show ¬ (nI (bs p)).toInt8.toInt32 = 32 from fun h => hw ((pz_sgn (c := 32) hb.1 (by omega)).mp h)), if_neg hw]
      refine ⟨s, ?_, pz_fmf s, h22, rfl, rfl⟩
      rw [Fm_md_see_b38, hm.1, h22, if_neg nle, hp_gd ix, hp_cl (by omega), hb.2, pz_and _ hb.1, if_pos (show p < n by omega)]
theorem fm_see {bs : Nat → Nat} {n p : Nat} {s : hf_St} (hm : pz_m bs n s) (hp : p ≤ n) (h22 : s.1 0 22 = nI p) : ∃ s', Fm_md_see s = some (if pz_sk bs (n - p) p < n then nI (bs (pz_sk bs (n - p) p)) else -1, s') ∧ pz_fm s s' ∧ s'.1 0 22 = nI (pz_sk bs (n - p) p) ∧ s'.1 0 41 = s.1 0 41 ∧ s'.1 0 42 = s.1 0 42 :=
  fm_see_l (n - p) p s hf_fuel (by omega) (by have := hm.2.1; unfold hf_fuel; omega) hm h22
theorem fm_looks_l {bs : Nat → Nat} {n q : Nat} : ∀ m j s f, q + j + m = n → m < f → pz_m bs n s → s.1 0 41 = nI q → s.1 0 42 = nI j → ∃ s', Fm_md_looks_l18 f s = some s' ∧ pz_fm s s' ∧ s'.1 0 22 = s.1 0 22 ∧ s'.1 0 41 = nI q ∧ s'.1 0 42 = nI (pz_we bs m (q + j) - q) := by
  intro m
  induction m with
  | zero =>
    intro j s f hp hf hm h41 h42
    obtain ⟨k, rfl⟩ : ∃ k, f = k + 1 := ⟨f - 1, by omega⟩
    have h5 := hm.2.1
    refine ⟨s, ?_, pz_fmf s, rfl, h41, by rw [h42, pz_we, Nat.add_sub_cancel_left]⟩
    rw [Fm_md_looks_l18, hm.1, h41, h42, nI_add, if_pos (by rw [hp_le, hp_nI (by omega), hp_nI (by omega)]; omega)]
  | succ m ih =>
    intro j s f hp hf hm h41 h42
    obtain ⟨k, rfl⟩ : ∃ k, f = k + 1 := ⟨f - 1, by omega⟩
    have h5 := hm.2.1
    have hb := hm.2.2 (q + j) (by omega)
    rw [Fm_md_looks_l18, hm.1, h41, h42, nI_add, if_neg (hp_nle (by omega) (by omega)), hp_gd (hp_ix (by omega) (by omega)), hp_cl (by omega), hb.2, fm_isWordByte s hb.1, hp_b1, pz_we]
    by_cases hw : pz_wd (bs (q + j))
    · rw [hp_tpos hw, if_neg (by decide), if_pos hw, hp_let, hp_succ]
      have fr : pz_fm s (hf_pI s 0 42 (nI (j + 1))) := pz_fmI (Or.inr (Or.inr rfl))
      obtain ⟨s', a, b, c, d, e⟩ := ih (j + 1) (hf_pI s 0 42 (nI (j + 1))) k (by omega) (by omega) (pz_mf hm fr) (by rw [hf_pI_1, if_neg (by omega)]; exact h41) (by simp [hf_pI])
      exact ⟨s', a, pz_fmt fr b, by rw [c, hf_pI_1, if_neg (by omega)], d, e⟩
    · rw [hp_tneg hw, if_pos rfl, if_neg hw]
      exact ⟨s, rfl, pz_fmf s, rfl, h41, by rw [h42, Nat.add_sub_cancel_left]⟩
theorem fm_looks {bs : Nat → Nat} {n p : Nat} {s : hf_St} (hm : pz_m bs n s) (hp : p ≤ n) (h22 : s.1 0 22 = nI p) : ∃ s', Fm_md_looks s = some s' ∧ pz_fm s s' ∧ s'.1 0 22 = nI (pz_sk bs (n - p) p) ∧ s'.1 0 41 = nI (pz_sk bs (n - p) p) ∧ s'.1 0 42 = nI (pz_we bs (n - pz_sk bs (n - p) p) (pz_sk bs (n - p) p) - pz_sk bs (n - p) p) := by
  obtain ⟨s1, a1, a2, a3, a4, a5⟩ := fm_see hm hp h22
  have hsk := pz_sk_in bs (n - p) p
  have h5 := hm.2.1
  generalize hq : pz_sk bs (n - p) p = q at *
  have f1 : pz_fm s1 (hf_pI s1 0 41 (s1.1 0 22)) := pz_fmI (Or.inr (Or.inl rfl))
  have f2 : pz_fm (hf_pI s1 0 41 (s1.1 0 22)) (hf_pI (hf_pI s1 0 41 (s1.1 0 22)) 0 42 0) := pz_fmI (Or.inr (Or.inr rfl))
  have f3 := pz_fmt (pz_fmt a2 f1) f2
  obtain ⟨s2, b1, b2, b3, b4, b5⟩ := fm_looks_l (q := q) (n - q) 0 (hf_pI (hf_pI s1 0 41 (s1.1 0 22)) 0 42 0) hf_fuel (by omega) (by unfold hf_fuel; omega) (pz_mf hm f3) (by rw [hf_pI_1, if_neg (by omega), hf_pI_1, if_pos ⟨rfl, rfl⟩]; exact a3) (by rw [hf_pI_1, if_pos ⟨rfl, rfl⟩]; rfl)
  refine ⟨s2, ?_, pz_fmt f3 b2, ?_, b4, b5⟩
  · unfold Fm_md_looks
    rw [a1, hp_b2, hp_let, hp_let, b1]
  · rw [b3, hf_pI_1, if_neg (by omega), hf_pI_1, if_neg (by omega)]; exact a3
