/-! Numbers. -/
theorem hp_lt (a b : Int32) : a < b ↔ a.toInt < b.toInt := Int32.lt_iff_toInt_lt
theorem hp_le (a b : Int32) : a ≤ b ↔ a.toInt ≤ b.toInt := Int32.le_iff_toInt_le
theorem hp_eq (a b : Int32) : a = b ↔ a.toInt = b.toInt := ⟨fun h => by rw [h], fun h => Int32.toInt_inj.mp h⟩
theorem hp_rng (x : Int32) : -2147483648 ≤ x.toInt ∧ x.toInt < 2147483648 := ⟨x.le_toInt, x.toInt_lt⟩
theorem hp_bmod {z : Int} (h1 : -2147483648 ≤ z) (h2 : z < 2147483648) : z.bmod (2 ^ 32) = z := Int.bmod_eq_of_le (by omega) (by omega)
theorem hp_add {x y : Int32} (h1 : -2147483648 ≤ x.toInt + y.toInt) (h2 : x.toInt + y.toInt < 2147483648) : (x + y).toInt = x.toInt + y.toInt := by
  rw [Int32.toInt_add]; exact hp_bmod h1 h2
theorem hp_sub {x y : Int32} (h1 : -2147483648 ≤ x.toInt - y.toInt) (h2 : x.toInt - y.toInt < 2147483648) : (x - y).toInt = x.toInt - y.toInt := by
  rw [Int32.toInt_sub]; exact hp_bmod h1 h2
theorem hp_mul {x y : Int32} (h1 : -2147483648 ≤ x.toInt * y.toInt) (h2 : x.toInt * y.toInt < 2147483648) : (x * y).toInt = x.toInt * y.toInt := by
  rw [Int32.toInt_mul]; exact hp_bmod h1 h2
theorem hp_nI {n : Nat} (h : n < 2147483648) : (nI n).toInt = (n : Int) := nI_toInt h
theorem hp_cl {n : Nat} (h : n < 2147483648) : (nI n).toNatClampNeg = n := nI_clamp h
theorem hp_of {x : Int32} (h : 0 ≤ x.toInt) : ∃ n : Nat, n < 2147483648 ∧ x = nI n ∧ x.toInt = (n : Int) := by
  refine ⟨x.toInt.toNat, by have := hp_rng x; omega, ?_, by omega⟩
  rw [hp_eq, hp_nI (by have := hp_rng x; omega)]
  omega
theorem hp_0 : (0 : Int32).toInt = 0 := rfl
theorem hp_1 : (1 : Int32).toInt = 1 := rfl
theorem hp_m1 : (-1 : Int32).toInt = -1 := rfl
theorem hp_2 : (2 : Int32).toInt = 2 := rfl
theorem hp_3 : (3 : Int32).toInt = 3 := rfl
theorem hp_4 : (4 : Int32).toInt = 4 := rfl
theorem hp_5 : (5 : Int32).toInt = 5 := rfl
theorem hp_6 : (6 : Int32).toInt = 6 := rfl
theorem hp_7 : (7 : Int32).toInt = 7 := rfl
theorem hp_8 : (8 : Int32).toInt = 8 := rfl
theorem hp_12 : (12 : Int32).toInt = 12 := rfl
theorem hp_13 : (13 : Int32).toInt = 13 := rfl
theorem hp_20 : (20 : Int32).toInt = 20 := rfl
theorem hp_28 : (28 : Int32).toInt = 28 := rfl
theorem hp_30 : (30 : Int32).toInt = 30 := rfl
theorem hp_59 : (59 : Int32).toInt = 59 := rfl
theorem hp_60 : (60 : Int32).toInt = 60 := rfl
theorem hp_90 : (90 : Int32).toInt = 90 := rfl
theorem hp_100 : (100 : Int32).toInt = 100 := rfl
theorem hp_500 : (500 : Int32).toInt = 500 := rfl
theorem hp_999 : (999 : Int32).toInt = 999 := rfl
theorem hp_m999 : (-999 : Int32).toInt = -999 := rfl
theorem hp_9999 : (9999 : Int32).toInt = 9999 := rfl
theorem hp_1000 : (1000 : Int32).toInt = 1000 := rfl
/-! The combinators at known answers. -/
theorem hp_b1 {α : Type} (a : Int32) (K : Int32 → Option α) : hf_b1 (some a) K = K a := rfl
theorem hp_b2 {α : Type} (a : Int32) (s : hf_St) (K : Int32 → hf_St → Option α) : hf_b2 (some (a, s)) K = K a s := rfl
theorem hp_b0 {α : Type} (s : hf_St) (K : hf_St → Option α) : hf_b0 (some s) K = K s := rfl
theorem hp_let {β : Sort _} {γ : Sort _} (v : β) (K : β → γ) : hf_lt v K = K v := rfl
theorem hp_gd {α : Type} {c : Prop} [Decidable c] {K : Option α} (h : c) : hf_gd c K = K := if_pos h
theorem hp_z0 {α : Type} (K : Option α) : hf_gd (hf_z (0 : Int32)) K = K := rfl
theorem hp_z1 {α : Type} (K : Option α) : hf_gd (hf_z (1 : Int32)) K = K := rfl
/-- a truth as a number -/
def hp_t (p : Prop) [Decidable p] : Int32 := if p then 1 else 0
theorem hp_tz {α : Type} (p : Prop) [Decidable p] (K : Option α) : hf_gd (hf_z (hp_t p)) K = K := by
  unfold hp_t; split <;> rfl
theorem hp_t0 (p : Prop) [Decidable p] : (hp_t p = 0) ↔ ¬ p := by
  unfold hp_t; split <;> simp [*]
theorem hp_tpos {p : Prop} [Decidable p] (h : p) : hp_t p = 1 := if_pos h
theorem hp_tneg {p : Prop} [Decidable p] (h : ¬ p) : hp_t p = 0 := if_neg h
theorem hp_upd (f : Nat → Int32) (k : Nat) (v : Int32) (j : Nat) : upd f k v j = if j = k then v else f j := rfl
/-! The relation of the class's state and the reference's. -/
def hr_clk (t : Nat) (σc σm : hf_St) : Prop := σc.1 0 10 = nI t ∧ σm.1 0 0 = nI t ∧ t ≤ 999
/-- a child's own numbers, in the reference's rows -/
def hr_kid (σ : hf_St) (i : Nat) : Prop := (0 ≤ (σ.2 0 i).toInt ∧ (σ.2 0 i).toInt ≤ 3) ∧ (σ.2 1 i = 0 ∨ σ.2 1 i = 1) ∧ (σ.2 1 i = 1 → 0 ≤ (σ.2 2 i).toInt ∧ (σ.2 2 i).toInt ≤ (σ.2 3 i).toInt ∧ (σ.2 3 i).toInt ≤ 999 ∧ (σ.2 3 i).toInt - (σ.2 2 i).toInt ≤ 59) ∧ (σ.2 4 i = 0 ∨ σ.2 4 i = 1)
def hr_chl (nc : Nat) (σc σm : hf_St) : Prop := σc.1 1 5 = nI nc ∧ σm.1 0 1 = nI nc ∧ nc ≤ 7 ∧ σc.2 0 = σm.2 0 ∧ σc.2 1 = σm.2 1 ∧ σc.2 2 = σm.2 2 ∧ σc.2 3 = σm.2 3 ∧ σc.2 4 = σm.2 4 ∧ (∀ i, i < nc → hr_kid σm i) ∧ ∀ i, nc ≤ i → σm.2 1 i = 0 ∧ σm.2 4 i = 0
def hr_hom (nh : Nat) (σc σm : hf_St) : Prop := σc.1 2 2 = nI nh ∧ σm.1 0 7 = nI nh ∧ nh ≤ 5 ∧ σc.2 5 = σm.2 5 ∧ σc.2 6 = σm.2 6 ∧ ∀ h, h < nh → (1 ≤ (σm.2 5 h).toInt ∧ (σm.2 5 h).toInt ≤ 6) ∧ (-1 ≤ (σm.2 6 h).toInt ∧ (σm.2 6 h).toInt ≤ 999)
def hr_pap (np : Nat) (σc σm : hf_St) : Prop := σc.1 3 3 = nI np ∧ σm.1 0 10 = nI np ∧ np ≤ 30 ∧ σc.2 7 = σm.2 7 ∧ σc.2 8 = σm.2 8 ∧ σc.2 9 = σm.2 9 ∧ ∀ i, i < np → 0 ≤ (σm.2 8 i).toInt ∧ (σm.2 8 i).toInt ≤ (σm.2 9 i).toInt ∧ (σm.2 9 i).toInt ≤ 999
/-- a fact, as either side keeps it -/
def hr_one (σc σm : hf_St) (i : Nat) : Prop := ∃ o sl : Nat, o < 7 ∧ sl < 16 ∧ σc.2 11 i = nI o ∧ σc.2 10 i = nI sl ∧ σm.2 10 i = nI (if sl < 8 then o else o + 100) ∧ σm.2 11 i = nI (if sl < 8 then sl else sl - 8) ∧ (0 ≤ (σm.2 13 i).toInt ∧ (σm.2 13 i).toInt ≤ 999) ∧ (-999 ≤ (σm.2 12 i).toInt ∧ (σm.2 12 i).toInt ≤ 9999)
def hr_fac (nf : Nat) (σc σm : hf_St) : Prop := σc.1 4 5 = nI nf ∧ σm.1 0 14 = nI nf ∧ nf ≤ 100 ∧ σc.2 12 = σm.2 12 ∧ σc.2 13 = σm.2 13 ∧ σc.2 14 = σm.2 14 ∧ ∀ i, i < nf → hr_one σc σm i
def hr_tap (nt : Nat) (σc σm : hf_St) : Prop := σc.1 5 1 = nI nt ∧ σm.1 0 21 = nI nt ∧ nt ≤ 500 ∧ ∀ i, i < nt → ∃ b : Nat, b < 256 ∧ σc.2 15 i = nI b ∧ σm.2 15 i = (nI b).toInt8.toInt32
/-- a side of a term: the class's one number, the reference's two -/
def hr_side (v sd nm : Int32) : Prop := (∃ n : Nat, n ≤ 9999 ∧ v = nI n ∧ sd = 0 ∧ nm = nI n) ∨ (∃ sl : Nat, sl < 16 ∧ v = nI (10000 + sl) ∧ sd = nI (sl + 1))
/-- RULE k of the class's book (rows from kb on) and of the reference's (rows from km on) -/
def hr_rule (σc σm : hf_St) (kb km k : Nat) : Prop := ∃ kd tc : Nat, kd < 3 ∧ 1 ≤ tc ∧ tc ≤ 6 ∧ σc.2 kb k = nI kd ∧ σm.2 km k = nI kd ∧ (0 ≤ (σm.2 (km + 1) k).toInt ∧ (σm.2 (km + 1) k).toInt ≤ 100) ∧ σc.2 (kb + 1) k = σm.2 (km + 1) k ∧ σc.2 (kb + 2) k = nI tc ∧ σm.2 (km + 2) k = nI tc ∧ ∀ j, j < tc → hr_side (σc.2 (kb + 3) (6 * k + j)) (σm.2 (km + 3) (6 * k + j)) (σm.2 (km + 4) (6 * k + j)) ∧ (σm.2 (km + 5) (6 * k + j) = 60 ∨ σm.2 (km + 5) (6 * k + j) = 62 ∨ σm.2 (km + 5) (6 * k + j) = 61) ∧ σc.2 (kb + 4) (6 * k + j) = σm.2 (km + 5) (6 * k + j) ∧ hr_side (σc.2 (kb + 5) (6 * k + j)) (σm.2 (km + 6) (6 * k + j)) (σm.2 (km + 7) (6 * k + j))
def hr_rul (nr : Nat) (σc σm : hf_St) : Prop := σc.1 6 6 = nI nr ∧ σm.1 0 24 = nI nr ∧ nr ≤ 20 ∧ ∀ k, k < nr → hr_rule σc σm 16 16 k
def hr_pla (nc nh : Nat) (σc σm : hf_St) : Prop := (∀ i, i < 7 → σc.2 30 i = if i < nc then σm.2 32 i else -1) ∧ (∀ i, i < nc → -1 ≤ (σm.2 32 i).toInt ∧ (σm.2 32 i).toInt < nh) ∧ ((σm.1 0 55 = 0 ∧ ∀ k, k < 5 → σc.2 31 k = -1) ∨ (σm.1 0 55 = 1 ∧ σc.2 31 0 = σm.1 0 56 ∧ σc.2 31 1 = σm.1 0 51 ∧ σc.2 31 2 = σm.1 0 52 ∧ σc.2 31 3 = σm.1 0 53 ∧ σc.2 31 4 = σm.1 0 54))
def hr_n (t nc nh np nf nt nr : Nat) (σc σm : hf_St) : Prop := hr_clk t σc σm ∧ hr_chl nc σc σm ∧ hr_hom nh σc σm ∧ hr_pap np σc σm ∧ hr_fac nf σc σm ∧ hr_tap nt σc σm ∧ hr_rul nr σc σm ∧ hr_pla nc nh σc σm
def hr (σc σm : hf_St) : Prop := ∃ t nc nh np nf nt nr : Nat, hr_n t nc nh np nf nt nr σc σm
/-- both answer r, and stay related -/
def hr_ok (A : Option (Int32 × hf_St)) (B : Option (Int32 × hf_St)) : Prop := ∃ (r : Int32) (σc σm : hf_St), A = some (r, σc) ∧ B = some (r, σm) ∧ hr σc σm
/-! The class's small questions. -/
theorem fc_isDay (s : hf_St) (a : Int32) : Fc_hf_isDay s a = some (hp_t (0 ≤ a.toInt ∧ a.toInt ≤ 999)) := by
  unfold Fc_hf_isDay
  simp only [hp_z0, hp_z1, hp_lt, hp_0, hp_999]
  split
  · rw [hp_tneg (by omega)]
  · split
    · rw [hp_tneg (by omega)]
    · rw [hp_tpos (by omega)]
theorem fc_has_c {s : hf_St} {n : Nat} (h : s.1 1 5 = nI n) (hn : n ≤ 7) (a : Int32) : Fc_children_has s a = some (hp_t (0 ≤ a.toInt ∧ a.toInt < n)) := by
  unfold Fc_children_has
  simp only [hp_z0, hp_z1, hp_lt, hp_le, hp_0, h, hp_nI (show n < 2147483648 by omega)]
  split
  · rw [hp_tneg (by omega)]
  · split
    · rw [hp_tneg (by omega)]
    · rw [hp_tpos (by omega)]
theorem fc_has_h {s : hf_St} {n : Nat} (h : s.1 2 2 = nI n) (hn : n ≤ 5) (a : Int32) : Fc_homes_has s a = some (hp_t (0 ≤ a.toInt ∧ a.toInt < n)) := by
  unfold Fc_homes_has
  simp only [hp_z0, hp_z1, hp_lt, hp_le, hp_0, h, hp_nI (show n < 2147483648 by omega)]
  split
  · rw [hp_tneg (by omega)]
  · split
    · rw [hp_tneg (by omega)]
    · rw [hp_tpos (by omega)]
theorem fc_isField (s : hf_St) (a : Int32) : Fc_hf_isField s a = some (hp_t (0 ≤ a.toInt ∧ a.toInt < 8)) := by
  unfold Fc_hf_isField
  simp only [hp_z0, hp_z1, hp_lt, hp_le, hp_0, hp_8]
  split
  · rw [hp_tneg (by omega)]
  · split
    · rw [hp_tneg (by omega)]
    · rw [hp_tpos (by omega)]
theorem fm_in (s : hf_St) (a b c : Int32) : Fm_md_in s a b c = some (hp_t (b.toInt ≤ a.toInt ∧ a.toInt ≤ c.toInt)) := by
  unfold Fm_md_in
  simp only [hp_z0, hp_z1, hp_lt]
  split
  · rw [hp_tneg (by omega)]
  · split
    · rw [hp_tneg (by omega)]
    · rw [hp_tpos (by omega)]
theorem fm_isDay (s : hf_St) (a : Int32) : Fm_md_isDay s a = some (hp_t (0 ≤ a.toInt ∧ a.toInt ≤ 999)) := by
  unfold Fm_md_isDay
  rw [fm_in, hp_b1, hp_tz]
  rfl
theorem fm_isChild {s : hf_St} {n : Nat} (h : s.1 0 1 = nI n) (hn : n ≤ 7) (a : Int32) : Fm_md_isChild s a = some (hp_t (0 ≤ a.toInt ∧ a.toInt < n)) := by
  have e := hp_nI (show n < 2147483648 by omega)
  have e2 : (nI n - 1).toInt = (n : Int) - 1 := by rw [hp_sub (by rw [e, hp_1]; omega) (by rw [e, hp_1]; omega), e, hp_1]
  unfold Fm_md_isChild
  rw [fm_in, hp_b1, hp_tz, h, e2, hp_0]
  unfold hp_t
  congr 2
  exact propext ⟨fun h => by omega, fun h => by omega⟩
theorem fm_isHome {s : hf_St} {n : Nat} (h : s.1 0 7 = nI n) (hn : n ≤ 5) (a : Int32) : Fm_md_isHome s a = some (hp_t (0 ≤ a.toInt ∧ a.toInt < n)) := by
  have e := hp_nI (show n < 2147483648 by omega)
  have e2 : (nI n - 1).toInt = (n : Int) - 1 := by rw [hp_sub (by rw [e, hp_1]; omega) (by rw [e, hp_1]; omega), e, hp_1]
  unfold Fm_md_isHome
  rw [fm_in, hp_b1, hp_tz, h, e2, hp_0]
  unfold hp_t
  congr 2
  exact propext ⟨fun h => by omega, fun h => by omega⟩
theorem hr_clock {σc σm : hf_St} (h : hr σc σm) (a : Int32) : hr_ok (Fc_hf_clock σc a) (Fm_md_clock σm a) := by
  obtain ⟨t, nc, nh, np, nf, nt, nr, ⟨h1, h2, h3⟩, hch, hho, hpa, hfa, hta, hru, hpl⟩ := h
  have e := hp_nI (show t < 2147483648 by omega)
  unfold Fc_hf_clock Fm_md_clock
  rw [fc_isDay, fm_in, hp_b1, hp_b1, h1, h2, e, hp_999]
  simp only [hp_t0, hp_z0, hp_z1, hp_le, e, hp_let]
  by_cases hc : (t : Int) ≤ a.toInt ∧ a.toInt ≤ 999
  · obtain ⟨n, hn, rfl, hn2⟩ := hp_of (x := a) (by omega)
    rw [if_neg (by omega), if_pos (by omega), if_neg (by omega)]
    refine ⟨1, _, _, rfl, rfl, n, nc, nh, np, nf, nt, nr, ⟨?_, ?_, by omega⟩, ?_⟩
    · simp [hf_pI]
    · simp [hf_pI]
    · exact ⟨hch, hho, hpa, hfa, hta, hru, hpl⟩
  · refine ⟨0, σc, σm, ?_, ?_, t, nc, nh, np, nf, nt, nr, ⟨h1, h2, h3⟩, hch, hho, hpa, hfa, hta, hru, hpl⟩
    · by_cases hd : 0 ≤ a.toInt ∧ a.toInt ≤ 999
      · rw [if_neg (by omega), if_neg (by omega)]
      · rw [if_pos (by omega)]
    · rw [if_pos (by omega)]
