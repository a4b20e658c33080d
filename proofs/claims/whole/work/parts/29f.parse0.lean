/-! The text: bytes, blanks, words. -/
/-- the bytes of a text of n, as either side keeps them -/
def pz_ok (bs : Nat → Nat) (n : Nat) (sc sm : hf_St) : Prop := sc.1 5 1 = nI n ∧ sm.1 0 21 = nI n ∧ n ≤ 500 ∧ ∀ i, i < n → bs i < 256 ∧ sc.2 15 i = nI (bs i) ∧ sm.2 15 i = (nI (bs i)).toInt8.toInt32
theorem pz_byte : ∀ b, b < 256 → (nI b).toInt8.toInt32.toInt = if b < 128 then (b : Int) else (b : Int) - 256 := by decide +kernel
theorem pz_and : ∀ b, b < 256 → (nI b).toInt8.toInt32 &&& 255 = nI b := sc_k8
/-- the first place from p on that is no blank; m places are left -/
def pz_sk (bs : Nat → Nat) : Nat → Nat → Nat
  | 0, p => p
  | m + 1, p => if bs p = 32 then pz_sk bs m (p + 1) else p
def pz_w (b : Nat) : Prop := (48 ≤ b ∧ b ≤ 57) ∨ (97 ≤ b ∧ b ≤ 122)
abbrev pz_wd (b : Nat) : Prop := (48 ≤ b ∧ b ≤ 57) ∨ (97 ≤ b ∧ b ≤ 122)
/-- the end of the word that begins at p -/
def pz_we (bs : Nat → Nat) : Nat → Nat → Nat
  | 0, p => p
  | m + 1, p => if pz_wd (bs p) then pz_we bs m (p + 1) else p
theorem pz_sk_in (bs : Nat → Nat) : ∀ m p, p ≤ pz_sk bs m p ∧ pz_sk bs m p ≤ p + m := by
  intro m
  induction m with
  | zero => intro p; exact ⟨Nat.le_refl _, Nat.le_refl _⟩
  | succ m ih =>
    intro p
    rw [pz_sk]
    split
    · have := ih (p + 1); omega
    · omega
theorem pz_we_in (bs : Nat → Nat) : ∀ m p, p ≤ pz_we bs m p ∧ pz_we bs m p ≤ p + m := by
  intro m
  induction m with
  | zero => intro p; exact ⟨Nat.le_refl _, Nat.le_refl _⟩
  | succ m ih =>
    intro p
    rw [pz_we]
    split
    · have := ih (p + 1); omega
    · omega
/-- only start and stop of the class's reader have changed -/
def pz_fr (s s' : hf_St) : Prop := s'.2 = s.2 ∧ ∀ j k, ¬ (j = 7 ∧ (k = 2 ∨ k = 3)) → s'.1 j k = s.1 j k
theorem pz_frf (s : hf_St) : pz_fr s s := ⟨rfl, fun _ _ _ => rfl⟩
theorem pz_frt {a b c : hf_St} (h : pz_fr a b) (g : pz_fr b c) : pz_fr a c := ⟨by rw [g.1, h.1], fun j k q => by rw [g.2 j k q, h.2 j k q]⟩
theorem pz_frI {s : hf_St} {k : Nat} {v : Int32} (hk : k = 2 ∨ k = 3) : pz_fr s (hf_pI s 7 k v) := ⟨rfl, fun j k' q => by rw [hf_pI_1, if_neg (show ¬ (j = 7 ∧ k' = k) by omega)]⟩
/-- the class's text -/
def pz_c (bs : Nat → Nat) (n : Nat) (s : hf_St) : Prop := s.1 5 1 = nI n ∧ n ≤ 500 ∧ ∀ i, i < n → bs i < 256 ∧ s.2 15 i = nI (bs i)
theorem pz_cf {bs : Nat → Nat} {n : Nat} {s s' : hf_St} (h : pz_c bs n s) (g : pz_fr s s') : pz_c bs n s' := ⟨by rw [g.2 5 1 (by omega)]; exact h.1, h.2.1, fun i hi => by rw [g.1]; exact h.2.2 i hi⟩
theorem fc_byteAt {bs : Nat → Nat} {n : Nat} {s : hf_St} (h : pz_c bs n s) (p : Nat) (hp : p < 2147483648) : Fc_tape_byteAt s (nI p) = some (if p < n then nI (bs p) else -1) := by
  have h5 := h.2.1
  unfold Fc_tape_byteAt
  rw [if_neg (by rw [hp_lt, hp_nI hp, hp_0]; omega), h.1]
  by_cases hpn : p < n
  · rw [if_neg (hp_nle hpn (by omega)), hp_gd (hp_ix (by omega) (by omega)), hp_cl hp, (h.2.2 p hpn).2, if_pos hpn]
  · rw [if_pos (by rw [hp_le, hp_nI hp, hp_nI (by omega)]; omega), if_neg hpn]
theorem fc_isOfWord (s : hf_St) {b : Nat} (hb : b < 256) : Fc_reader_isOfWord s (nI b) = some (hp_t (pz_wd b)) := by
  have e48 : (48 : Int32).toInt = 48 := rfl
  have e57 : (57 : Int32).toInt = 57 := rfl
  have e97 : (97 : Int32).toInt = 97 := rfl
  have e122 : (122 : Int32).toInt = 122 := rfl
  unfold Fc_reader_isOfWord Fc_reader_isOfWord_b12
  simp only [hp_lt, hp_le, hp_nI (show b < 2147483648 by omega), e48, e57, e97, e122, hp_z0, hp_z1]
  by_cases hw : pz_wd b
  · rw [hp_tpos hw]
    by_cases h1 : (b : Int) < 97
    · rw [if_pos h1, if_neg (by omega), if_neg (by omega)]
    · rw [if_neg h1, if_pos (by omega)]
  · rw [hp_tneg hw]
    by_cases h1 : (b : Int) < 97
    · rw [if_pos h1]
      by_cases h2 : (b : Int) < 48
      · rw [if_pos h2]
      · rw [if_neg h2, if_pos (by omega)]
    · rw [if_neg h1, if_neg (by omega), if_neg (by omega), if_pos (by omega)]
/-- where the token that begins at q ends -/
def pz_te (bs : Nat → Nat) (n q : Nat) : Nat := if pz_we bs (n - q) q = q then (if q < n then q + 1 else q) else pz_we bs (n - q) q
theorem fc_step_w {bs : Nat → Nat} {n q : Nat} : ∀ m p s f, p + m = n → m < f → pz_c bs n s → s.1 7 2 = nI q → q ≤ p → s.1 7 3 = nI p → ∃ s', Fc_reader_step_l59 f s = Fc_reader_step_b103 s' ∧ pz_fr s s' ∧ s'.1 7 2 = nI q ∧ s'.1 7 3 = nI (pz_we bs m p) := by
  intro m
  induction m with
  | zero =>
    intro p s f hp hf hc h2 hq h3
    obtain ⟨k, rfl⟩ : ∃ k, f = k + 1 := ⟨f - 1, by omega⟩
    refine ⟨s, ?_, pz_frf s, h2, h3⟩
    have h5 := hc.2.1
    rw [Fc_reader_step_l59, Fc_tape_size, hp_b1, hc.1, h3, if_pos (by rw [hp_le, hp_nI (by omega), hp_nI (by omega)]; omega)]
  | succ m ih =>
    intro p s f hp hf hc h2 hq h3
    obtain ⟨k, rfl⟩ : ∃ k, f = k + 1 := ⟨f - 1, by omega⟩
    have h5 := hc.2.1
    have hb := hc.2.2 p (by omega)
    rw [Fc_reader_step_l59, Fc_tape_size, hp_b1, hc.1, h3, if_neg (hp_nle (by omega) (by omega)), fc_byteAt hc p (by omega), hp_b1, if_pos (show p < n by omega), fc_isOfWord s hb.1, hp_b1, pz_we]
    by_cases hw : pz_wd (bs p)
    · rw [hp_tpos hw, if_neg (by decide), if_pos hw, hp_let, hp_succ]
      have fr : pz_fr s (hf_pI s 7 3 (nI (p + 1))) := pz_frI (Or.inr rfl)
      obtain ⟨s', a, b, c, d⟩ := ih (p + 1) (hf_pI s 7 3 (nI (p + 1))) k (by omega) (by omega) (pz_cf hc fr) (by rw [hf_pI_1, if_neg (by omega)]; exact h2) (by omega) (by simp [hf_pI])
      exact ⟨s', a, pz_frt fr b, c, d⟩
    · rw [hp_tneg hw, if_pos rfl, if_neg hw]
      exact ⟨s, rfl, pz_frf s, h2, h3⟩
theorem fc_step_s {bs : Nat → Nat} {n : Nat} : ∀ m p s f, p + m = n → m < f → pz_c bs n s → s.1 7 2 = nI p → ∃ s', Fc_reader_step_l8 f s = Fc_reader_step_b51 s' ∧ pz_fr s s' ∧ s'.1 7 2 = nI (pz_sk bs m p) := by
  intro m
  induction m with
  | zero =>
    intro p s f hp hf hc h2
    obtain ⟨k, rfl⟩ : ∃ k, f = k + 1 := ⟨f - 1, by omega⟩
    refine ⟨s, ?_, pz_frf s, h2⟩
    have h5 := hc.2.1
    rw [Fc_reader_step_l8, Fc_tape_size, hp_b1, hc.1, h2, if_pos (by rw [hp_le, hp_nI (by omega), hp_nI (by omega)]; omega)]
  | succ m ih =>
    intro p s f hp hf hc h2
    obtain ⟨k, rfl⟩ : ∃ k, f = k + 1 := ⟨f - 1, by omega⟩
    have h5 := hc.2.1
    have hb := hc.2.2 p (by omega)
    rw [Fc_reader_step_l8, Fc_tape_size, hp_b1, hc.1, h2, if_neg (hp_nle (by omega) (by omega)), fc_byteAt hc p (by omega), hp_b1, if_pos (show p < n by omega), pz_sk]
    by_cases hw : bs p = 32
    · rw [if_pos (show nI (bs p) = 32 by rw [hw]; rfl), if_pos hw, hp_let, hp_succ]
      have fr : pz_fr s (hf_pI s 7 2 (nI (p + 1))) := pz_frI (Or.inl rfl)
      obtain ⟨s', a, b, c⟩ := ih (p + 1) (hf_pI s 7 2 (nI (p + 1))) k (by omega) (by omega) (pz_cf hc fr) (by simp [hf_pI])
      exact ⟨s', a, pz_frt fr b, c⟩
    · rw [if_neg (show ¬ nI (bs p) = 32 by rw [hp_eq, hp_nI (by omega)]; show ¬ ((bs p : Nat) : Int) = 32; omega), if_neg hw]
      exact ⟨s, rfl, pz_frf s, h2⟩
/-- step: the next token -/
theorem fc_step {bs : Nat → Nat} {n p : Nat} {s : hf_St} (hc : pz_c bs n s) (hp : p ≤ n) (h3 : s.1 7 3 = nI p) : ∃ s', Fc_reader_step s = some s' ∧ pz_fr s s' ∧ s'.1 7 2 = nI (pz_sk bs (n - p) p) ∧ s'.1 7 3 = nI (pz_te bs n (pz_sk bs (n - p) p)) := by
  have h5 := hc.2.1
  have hsk := pz_sk_in bs (n - p) p
  have f0 : pz_fr s (hf_pI s 7 2 (nI p)) := pz_frI (Or.inl rfl)
  obtain ⟨s1, a1, a2, a3⟩ := fc_step_s (n - p) p (hf_pI s 7 2 (nI p)) hf_fuel (by omega) (by unfold hf_fuel; omega) (pz_cf hc f0) (by simp [hf_pI])
  have f1 := pz_frt f0 a2
  have f2 : pz_fr s1 (hf_pI s1 7 3 (s1.1 7 2)) := pz_frI (Or.inr rfl)
  generalize hq : pz_sk bs (n - p) p = q at *
  obtain ⟨s2, b1, b2, b3, b4⟩ := fc_step_w (q := q) (n - q) q (hf_pI s1 7 3 (s1.1 7 2)) hf_fuel (by omega) (by unfold hf_fuel; omega) (pz_cf hc (pz_frt f1 f2)) (by rw [hf_pI_1, if_neg (by omega)]; exact a3) (Nat.le_refl _) (by simp [hf_pI, a3])
  have f3 := pz_frt (pz_frt f1 f2) b2
  have hwe := pz_we_in bs (n - q) q
  have e : Fc_reader_step s = Fc_reader_step_b103 s2 := by
    unfold Fc_reader_step
    rw [hp_let, h3, a1]
    unfold Fc_reader_step_b51
    rw [hp_let, b1]
  rw [e]
  unfold Fc_reader_step_b103 pz_te
  rw [b3, b4]
  by_cases hz : pz_we bs (n - q) q = q
  · rw [if_pos (by rw [hz]), if_pos hz, Fc_tape_size, hp_b1, (pz_cf hc f3).1]
    by_cases hqn : q < n
    · rw [if_neg (hp_nle hqn (by omega)), if_pos hqn, hp_let, hz, hp_succ]
      exact ⟨_, rfl, pz_frt f3 (pz_frI (Or.inr rfl)), by rw [hf_pI_1, if_neg (by omega)]; exact b3, by simp [hf_pI]⟩
    · rw [if_pos (by rw [hp_le, hp_nI (by omega), hp_nI (by omega)]; omega), if_neg hqn]
      exact ⟨s2, rfl, f3, b3, by rw [b4, hz]⟩
  · rw [if_neg (by rw [nI_eq (by omega) (by omega)]; exact hz), if_neg hz]
    exact ⟨s2, rfl, f3, b3, b4⟩
