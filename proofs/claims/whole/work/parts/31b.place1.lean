/-! beds: peaks and days -/
/-- the first k chose what they may -/
def pl_LG (d : pl_D) (x : Nat → Nat) (k : Nat) : Prop := ∀ c, c < k → pl_let d x c = true
theorem pl_LG_set {d : pl_D} {x : Nat → Nat} {k h : Nat} (hl : pl_LG d x k) (h1 : pl_let d (pl_set x k h) k = true) : pl_LG d (pl_set x k h) (k + 1) := by
  intro c hc
  by_cases e : c = k
  · subst e; exact h1
  · rw [pl_let_cg (x := x) (fun i hi => pl_set_n x (by omega))]; exact hl c (by omega)
/-- what is given is in its bounds -/
def pl_ok (d : pl_D) : Prop := d 0 0 ≤ 7 ∧ d 0 1 ≤ 5 ∧ (∀ c, d 1 c = 1 → d 2 c ≤ d 3 c ∧ d 3 c ≤ 999) ∧ (∀ j, d 8 j ≤ 2000) ∧ (∀ c, d 4 c ≤ 3) ∧ (∀ c, d 5 c ≤ d 0 1)
theorem pl_need {d : pl_D} {x : Nat → Nat} {c : Nat} (h : pl_let d x c = true) (hx : x c < d 0 1) : d 1 c = 1 ∧ d 7 (5 * c + x c) = 1 ∧ pl_free d x c := by
  rcases (pl_let_iff d x c).mp h with e | e
  · omega
  · exact ⟨e.1.2.1, e.1.2.2, e.2⟩
/-- on no day more than the beds -/
theorem pl_LG_occ {d : pl_D} (ok : pl_ok d) {x : Nat → Nat} {h : Nat} (hh : h < d 0 1) (day : Nat) : ∀ k, pl_LG d x k → pl_occ d x h day k ≤ d 6 h := by
  intro k
  induction k with
  | zero => intro _; exact Nat.zero_le _
  | succ k ih =>
    intro hl
    have h1 := ih (fun c hc => hl c (by omega))
    unfold pl_occ at h1 ⊢
    rw [pl_cnt]
    by_cases e : (decide (x k = h) && pl_on d k day) = true
    · rw [if_pos e]
      rw [Bool.and_eq_true, decide_eq_true_iff] at e
      obtain ⟨e1, e2⟩ := e
      unfold pl_on at e2
      rw [decide_eq_true_iff] at e2
      obtain ⟨n1, n2, n3⟩ := pl_need (hl k (by omega)) (by omega)
      have := ok.2.2.1 k n1
      have := n3 day (by omega) e2.1 e2.2
      unfold pl_occ at this
      rw [e1] at this
      omega
    · rw [if_neg e]; exact h1
/-- a member of a set of masks -/
theorem pl_rm_bit (x : Nat → Nat) (h : Nat) : ∀ k i, (pl_rm x h k).testBit i = (decide (i < k) && decide (x i = h)) := by
  intro k
  induction k with
  | zero => intro i; rw [pl_rm, Nat.zero_testBit, decide_eq_false (by omega)]; rfl
  | succ k ih =>
    intro i
    rw [pl_rm]
    by_cases e : x k = h
    · rw [if_pos e, Nat.testBit_or, ih, Nat.testBit_two_pow]
      by_cases hi : k = i
      · subst hi
        simp [e]
      · by_cases hl : i < k
        · simp [hl, hi, show i < k + 1 by omega]
        · simp [hl, hi, show ¬ i < k + 1 by omega]
    · rw [if_neg e, ih]
      by_cases hi : k = i
      · subst hi
        simp [e]
      · by_cases hl : i < k
        · simp [hl, show i < k + 1 by omega]
        · simp [hl, show ¬ i < k + 1 by omega]
theorem pl_rm_lt (x : Nat → Nat) (h : Nat) : ∀ k, pl_rm x h k < 2 ^ k := by
  intro k
  induction k with
  | zero => exact Nat.one_pos
  | succ k ih =>
    rw [pl_rm]
    split
    · exact Nat.or_lt_two_pow (by rw [Nat.pow_succ]; omega) (Nat.pow_lt_pow_right (by omega) (by omega))
    · rw [Nat.pow_succ]; omega
theorem pl_gm_bit (d : pl_D) (x : Nat → Nat) (g : Nat) : ∀ k h, (pl_gm d x g k).testBit h = true ↔ ∃ i, i < k ∧ d 4 i = g ∧ x i = h ∧ h < d 0 1 := by
  intro k
  induction k with
  | zero => intro h; rw [pl_gm, Nat.zero_testBit]; exact ⟨fun e => (by cases e), fun ⟨i, hi, _⟩ => (by omega)⟩
  | succ k ih =>
    intro h
    rw [pl_gm]
    by_cases e : d 4 k = g ∧ x k < d 0 1
    · rw [if_pos e, Nat.testBit_or, Bool.or_eq_true, ih, Nat.testBit_two_pow, decide_eq_true_iff]
      constructor
      · rintro (⟨i, a, b⟩ | c)
        · exact ⟨i, by omega, b⟩
        · exact ⟨k, by omega, e.1, c, by omega⟩
      · rintro ⟨i, a, b, c, f⟩
        by_cases hi : i = k
        · subst hi; exact Or.inr c
        · exact Or.inl ⟨i, by omega, b, c, f⟩
    · rw [if_neg e, ih]
      constructor
      · rintro ⟨i, a, b⟩; exact ⟨i, by omega, b⟩
      · rintro ⟨i, a, b, c, f⟩
        by_cases hi : i = k
        · subst hi; exact absurd ⟨b, by omega⟩ e
        · exact ⟨i, by omega, b, c, f⟩
theorem pl_gm_lt {d : pl_D} (ok : pl_ok d) (x : Nat → Nat) (g : Nat) : ∀ k, pl_gm d x g k < 32 := by
  intro k
  have h5 := ok.2.1
  induction k with
  | zero => exact (by decide : 0 < 32)
  | succ k ih =>
    rw [pl_gm]
    split
    · rename_i e
      exact Nat.or_lt_two_pow (n := 5) ih (Nat.pow_lt_pow_right (by omega) (by omega))
    · exact ih
/-- the children that need a bed on the first day of c -/
def pl_tg (d : pl_D) (c : Nat) : Nat → Nat
  | 0 => 0
  | k + 1 => if d 1 c = 1 ∧ d 1 k = 1 ∧ pl_on d k (d 2 c) = true then pl_tg d c k ||| 2 ^ k else pl_tg d c k
theorem pl_tg_bit (d : pl_D) (c : Nat) : ∀ k i, (pl_tg d c k).testBit i = true ↔ (i < k ∧ d 1 c = 1 ∧ d 1 i = 1 ∧ pl_on d i (d 2 c) = true) := by
  intro k
  induction k with
  | zero => intro h; rw [pl_tg, Nat.zero_testBit]; exact ⟨fun e => (by cases e), fun e => (by omega)⟩
  | succ k ih =>
    intro i
    rw [pl_tg]
    by_cases e : d 1 c = 1 ∧ d 1 k = 1 ∧ pl_on d k (d 2 c) = true
    · rw [if_pos e, Nat.testBit_or, Bool.or_eq_true, ih, Nat.testBit_two_pow, decide_eq_true_iff]
      constructor
      · rintro (⟨a, b⟩ | c)
        · exact ⟨by omega, b⟩
        · subst c; exact ⟨by omega, e⟩
      · rintro ⟨a, b⟩
        by_cases hi : i = k
        · exact Or.inr hi.symm
        · exact Or.inl ⟨by omega, b⟩
    · rw [if_neg e, ih]
      constructor
      · rintro ⟨a, b⟩; exact ⟨by omega, b⟩
      · rintro ⟨a, b⟩
        by_cases hi : i = k
        · subst hi; exact absurd b e
        · exact ⟨by omega, b⟩
theorem pl_tg_lt (d : pl_D) (c : Nat) : ∀ k, pl_tg d c k < 2 ^ k := by
  intro k
  induction k with
  | zero => exact Nat.one_pos
  | succ k ih =>
    rw [pl_tg]
    split
    · exact Nat.or_lt_two_pow (by rw [Nat.pow_succ]; omega) (Nat.pow_lt_pow_right (by omega) (by omega))
    · rw [Nat.pow_succ]; omega
/-- the most beds of the set m on the first day of one of its first k -/
def pl_pk (d : pl_D) (m : Nat) : Nat → Nat
  | 0 => 0
  | k + 1 => if m.testBit k = true then max (pl_pk d m k) (pl_pop (pl_tg d k (d 0 0) &&& m)) else pl_pk d m k
theorem pl_pk_le (d : pl_D) (m b : Nat) : ∀ k, pl_pk d m k ≤ b ↔ ∀ c, c < k → m.testBit c = true → pl_pop (pl_tg d c (d 0 0) &&& m) ≤ b := by
  intro k
  induction k with
  | zero => exact ⟨fun _ c hc => by omega, fun _ => Nat.zero_le _⟩
  | succ k ih =>
    rw [pl_pk]
    by_cases e : m.testBit k = true
    · rw [if_pos e, Nat.max_le, ih]
      constructor
      · rintro ⟨a, b'⟩ c hc hm
        by_cases hck : c = k
        · subst hck; exact b'
        · exact a c (by omega) hm
      · intro a
        exact ⟨fun c hc hm => a c (by omega) hm, a k (by omega) e⟩
    · rw [if_neg e, ih]
      constructor
      · intro a c hc hm
        by_cases hck : c = k
        · subst hck; exact absurd hm e
        · exact a c (by omega) hm
      · intro a c hc hm
        exact a c (by omega) hm
/-- the one whose need begins last, of those that are on -/
theorem pl_mx (A : Nat → Nat) (p : Nat → Bool) : ∀ k, (∃ i, i < k ∧ p i = true) → ∃ c, c < k ∧ p c = true ∧ ∀ o, o < k → p o = true → A o ≤ A c := by
  intro k
  induction k with
  | zero => rintro ⟨i, hi, _⟩; omega
  | succ k ih =>
    rintro ⟨i, hi, hp⟩
    by_cases e : ∃ i, i < k ∧ p i = true
    · obtain ⟨c, c1, c2, c3⟩ := ih e
      by_cases hk : p k = true ∧ A c < A k
      · refine ⟨k, by omega, hk.1, fun o ho hpo => ?_⟩
        by_cases hok : o = k
        · subst hok; omega
        · have := c3 o (by omega) hpo; omega
      · refine ⟨c, by omega, c2, fun o ho hpo => ?_⟩
        by_cases hok : o = k
        · subst hok
          by_cases hl : A c < A o
          · exact absurd ⟨hpo, hl⟩ hk
          · omega
        · exact c3 o (by omega) hpo
    · have hik : i = k := by
        by_cases hik : i = k
        · exact hik
        · exact absurd ⟨i, by omega, hp⟩ e
      subst hik
      refine ⟨i, by omega, hp, fun o ho hpo => ?_⟩
      by_cases hok : o = i
      · subst hok; omega
      · exact absurd ⟨o, by omega, hpo⟩ e
theorem pl_pop_occ {d : pl_D} {x : Nat → Nat} {h k c : Nat} (hk : k ≤ d 0 0) (h7 : d 0 0 ≤ 7) (hc : c < k) (hxc : x c = h) (hn : ∀ o, o < k → x o = h → d 1 o = 1) : pl_pop (pl_tg d c (d 0 0) &&& pl_rm x h k) = pl_occ d x h (d 2 c) k := by
  unfold pl_pop pl_occ
  have e7 : (7 : Nat) = k + (7 - k) := by omega
  rw [e7, pl_cnt_tail (7 - k) (fun i h1 h2 => by rw [Nat.testBit_and, pl_rm_bit, decide_eq_false (by omega)]; simp)]
  refine pl_cnt_cg k (fun i hi => ?_)
  rw [Nat.testBit_and, pl_rm_bit, decide_eq_true hi, Bool.true_and]
  by_cases ex : x i = h
  · rw [decide_eq_true ex, Bool.and_true, Bool.true_and]
    rw [Bool.eq_iff_iff, pl_tg_bit]
    exact ⟨fun a => a.2.2.2, fun a => ⟨by omega, hn c hc hxc, hn i hi ex, a⟩⟩
  · rw [decide_eq_false ex, Bool.and_false, Bool.false_and]
/-- the class's question is the reference's -/
theorem pl_peak {d : pl_D} (ok : pl_ok d) {x : Nat → Nat} {k h : Nat} (hl : pl_LG d x k) (hk : k < d 0 0) (hh : h < d 0 1) (hn : d 1 k = 1) (hf : d 7 (5 * k + h) = 1) : pl_pk d (pl_rm x h k ||| 2 ^ k) (d 0 0) ≤ d 6 h ↔ pl_let d (pl_set x k h) k = true := by
  have h7 := ok.1
  have em : pl_rm x h k ||| 2 ^ k = pl_rm (pl_set x k h) h (k + 1) := by
    rw [pl_rm, if_pos (pl_set_k x k h), (pl_cg (d := d) k (fun i hi => pl_set_n x hi)).2.2.2.2]
  have need : ∀ o, o < k + 1 → pl_set x k h o = h → d 1 o = 1 := by
    intro o ho e
    by_cases hok : o = k
    · subst hok; exact hn
    · rw [pl_set_n x (by omega)] at e
      exact (pl_need (hl o (by omega)) (by omega)).1
  have occS : ∀ day, pl_occ d (pl_set x k h) h day (k + 1) = pl_occ d x h day k + (if pl_on d k day = true then 1 else 0) := by
    intro day
    unfold pl_occ
    rw [pl_cnt, pl_set_k, decide_eq_true rfl, Bool.true_and]
    congr 1
    exact pl_cnt_cg k (fun i hi => by rw [pl_set_n x hi])
  have hk999 := ok.2.2.1 k hn
  rw [em, pl_pk_le, pl_let_iff, pl_set_k]
  have F : pl_free d (pl_set x k h) k ↔ ∀ day, pl_occ d (pl_set x k h) h day (k + 1) ≤ d 6 h := by
    unfold pl_free
    rw [pl_set_k]
    have e : ∀ day, pl_occ d (pl_set x k h) h day k = pl_occ d x h day k := fun day => pl_occ_cg (fun i hi => pl_set_n x hi)
    constructor
    · intro a day
      rw [occS]
      by_cases ho : pl_on d k day = true
      · rw [if_pos ho]
        unfold pl_on at ho
        rw [decide_eq_true_iff] at ho
        have := a day (by omega) ho.1 ho.2
        rw [e] at this; omega
      · rw [if_neg ho]
        exact pl_LG_occ ok hh day k hl
    · intro a day _ h1 h2
      have := a day
      rw [occS, if_pos (by unfold pl_on; rw [decide_eq_true_iff]; exact ⟨h1, h2⟩)] at this
      rw [e]; omega
  constructor
  · intro a
    refine Or.inr ⟨⟨hh, hn, hf⟩, F.mpr (fun day => ?_)⟩
    by_cases h0 : 0 < pl_occ d (pl_set x k h) h day (k + 1)
    · obtain ⟨i, hi, hp⟩ := pl_cnt_ex (k + 1) h0
      obtain ⟨c, c1, c2, c3⟩ := pl_mx (fun o => d 2 o) (fun o => decide (pl_set x k h o = h) && pl_on d o day) (k + 1) ⟨i, hi, hp⟩
      rw [Bool.and_eq_true, decide_eq_true_iff] at c2
      have a1 := a c (by omega) (by rw [pl_rm_bit, decide_eq_true c1, decide_eq_true c2.1]; rfl)
      rw [pl_pop_occ (by omega) h7 c1 c2.1 need] at a1
      refine Nat.le_trans (pl_cnt_le (k + 1) (fun o ho hpo => ?_)) a1
      have := c3 o ho hpo
      rw [Bool.and_eq_true, decide_eq_true_iff] at hpo ⊢
      refine ⟨hpo.1, ?_⟩
      have h1 := hpo.2
      have h2 := c2.2
      unfold pl_on at h1 h2 ⊢
      rw [decide_eq_true_iff] at h1 h2 ⊢
      omega
    · omega
  · rintro (e | e)
    · omega
    · intro c hc hb
      rw [pl_rm_bit, Bool.and_eq_true, decide_eq_true_iff, decide_eq_true_iff] at hb
      rw [pl_pop_occ (by omega) h7 hb.1 hb.2 need]
      exact F.mp e.2 _
/-! what one child more costs -/
theorem pl_pt_or : ∀ m, m < 32 → ∀ h, h < 5 → pl_pt (m ||| 2 ^ h) = pl_pt m + (if pl_pop m = 1 ∧ m.testBit h = false then 1 else 0) := by decide +kernel
def pl_ch (d : pl_D) (c h : Nat) : Int := (if d 0 2 = 1 ∧ d 5 c ≠ 0 ∧ d 5 c ≠ h + 1 then 16384 else 0) - (d 8 (5 * c + h) : Int)
def pl_no (d : pl_D) (c : Nat) : Int := if d 1 c = 1 then 524288 + (if d 0 2 = 1 ∧ d 5 c ≠ 0 then 16384 else 0) else 0
/-- the child k at h parts its group -/
abbrev pl_ps (d : pl_D) (x : Nat → Nat) (k h : Nat) : Prop := d 4 k ≠ 0 ∧ pl_pop (pl_gm d x (d 4 k) k) = 1 ∧ (pl_gm d x (d 4 k) k).testBit h = false
theorem pl_G_h {d : pl_D} (ok : pl_ok d) {x : Nat → Nat} {k h : Nat} (hx : x k = h) (hh : h < d 0 1) : pl_G d x (k + 1) = pl_G d x k + (if pl_ps d x k h then 1 else 0) := by
  have h5 := ok.2.1
  have h4 := ok.2.2.2.2.1 k
  have st : ∀ g, pl_gm d x g (k + 1) = if d 4 k = g then pl_gm d x g k ||| 2 ^ h else pl_gm d x g k := by
    intro g
    rw [pl_gm, hx]
    by_cases e : d 4 k = g
    · rw [if_pos ⟨e, hh⟩, if_pos e]
    · rw [if_neg (fun a => e a.1), if_neg e]
  have P := fun g => pl_pt_or (pl_gm d x g k) (pl_gm_lt ok x g k) h (by omega)
  unfold pl_G pl_ps
  rw [st, st, st]
  rcases (show d 4 k = 0 ∨ d 4 k = 1 ∨ d 4 k = 2 ∨ d 4 k = 3 by omega) with e | e | e | e
  · simp [e]
  · simp only [e, if_true, if_neg (show ¬ 1 = 2 by omega), if_neg (show ¬ 1 = 3 by omega), P 1, ne_eq, show ¬ (1 = 0) by omega, not_false_eq_true, true_and]; omega
  · simp only [e, if_true, if_neg (show ¬ 2 = 1 by omega), if_neg (show ¬ 2 = 3 by omega), P 2, ne_eq, show ¬ (2 = 0) by omega, not_false_eq_true, true_and]; omega
  · simp only [e, if_true, if_neg (show ¬ 3 = 1 by omega), if_neg (show ¬ 3 = 2 by omega), P 3, ne_eq, show ¬ (3 = 0) by omega, not_false_eq_true, true_and]; omega
theorem pl_G_no {d : pl_D} {x : Nat → Nat} {k : Nat} (hx : x k = d 0 1) : pl_G d x (k + 1) = pl_G d x k := by
  have st : ∀ g, pl_gm d x g (k + 1) = pl_gm d x g k := fun g => by rw [pl_gm, if_neg (fun a => by omega)]
  unfold pl_G
  rw [st, st, st]
theorem pl_P_h {d : pl_D} (ok : pl_ok d) {x : Nat → Nat} {k h : Nat} (hx : x k = h) (hh : h < d 0 1) (hn : d 1 k = 1) : pl_P d x (k + 1) = pl_P d x k + (pl_ch d k h + (if pl_ps d x k h then 131072 else 0)) := by
  have g := pl_G_h ok hx hh
  unfold pl_P pl_ch
  rw [g, pl_W, pl_M, pl_V, hx, if_neg (show ¬ (h = d 0 1 ∧ d 1 k = 1) by omega), if_pos hh]
  by_cases hk2 : d 0 2 = 1
  · simp only [hk2, hn, true_and, if_true]
    by_cases e : d 5 k ≠ 0 ∧ d 5 k ≠ h + 1
    · rw [if_pos e, if_pos e]
      split <;> omega
    · rw [if_neg e, if_neg e]
      split <;> omega
  · simp only [hk2, false_and, if_false]
    split <;> omega
theorem pl_P_no {d : pl_D} (ok : pl_ok d) {x : Nat → Nat} {k : Nat} (hx : x k = d 0 1) : pl_P d x (k + 1) = pl_P d x k + pl_no d k := by
  have g := pl_G_no hx
  have h5 := ok.2.2.2.2.2 k
  unfold pl_P pl_no
  rw [g, pl_W, pl_M, pl_V, hx, if_neg (show ¬ (d 0 1 < d 0 1) by omega)]
  by_cases hn : d 1 k = 1
  · simp only [hn, true_and, if_true, and_true]
    by_cases hk2 : d 0 2 = 1
    · simp only [hk2, if_true, true_and]
      by_cases e : d 5 k ≠ 0
      · rw [if_pos e, if_pos ⟨e, by omega⟩]; omega
      · rw [if_neg e, if_neg (fun a => e a.1)]; omega
    · simp only [hk2, if_false, false_and]; omega
  · simp only [hn, false_and, if_false, and_false]; omega
/-- the least of what one child costs, and their sum -/
def pl_lst (d : pl_D) (c : Nat) : Nat → Int
  | 0 => pl_no d c
  | h + 1 => if d 1 c = 1 ∧ d 7 (5 * c + h) = 1 then min (pl_lst d c h) (pl_ch d c h) else pl_lst d c h
def pl_L (d : pl_D) (k : Nat) : Nat → Int
  | 0 => 0
  | m + 1 => pl_L d (k + 1) m + pl_lst d k (d 0 1)
theorem pl_lst_no (d : pl_D) (c : Nat) : ∀ n, pl_lst d c n ≤ pl_no d c := by
  intro n
  induction n with
  | zero => exact Int.le_refl _
  | succ n ih =>
    rw [pl_lst]
    split
    · omega
    · exact ih
theorem pl_lst_h {d : pl_D} {c h : Nat} (hn : d 1 c = 1) (hf : d 7 (5 * c + h) = 1) : ∀ n, h < n → pl_lst d c n ≤ pl_ch d c h := by
  intro n
  induction n with
  | zero => intro hh; omega
  | succ n ih =>
    intro hh
    rw [pl_lst]
    by_cases e : h = n
    · subst e
      rw [if_pos ⟨hn, hf⟩]; omega
    · have := ih (by omega)
      split <;> omega
theorem pl_lst_bd {d : pl_D} (h8 : ∀ j, d 8 j ≤ 2000) (c : Nat) : ∀ n, -2000 ≤ pl_lst d c n ∧ pl_lst d c n ≤ 540672 := by
  intro n
  induction n with
  | zero => rw [pl_lst]; unfold pl_no; split <;> (try split) <;> omega
  | succ n ih =>
    have := h8 (5 * c + n)
    have e : -2000 ≤ pl_ch d c n := by unfold pl_ch; split <;> omega
    rw [pl_lst]
    split <;> omega
theorem pl_L_bd {d : pl_D} (h8 : ∀ j, d 8 j ≤ 2000) : ∀ (m k : Nat), -2000 * (m : Int) ≤ pl_L d k m ∧ pl_L d k m ≤ 540672 * (m : Int) := by
  intro m
  induction m with
  | zero => intro k; rw [pl_L]; omega
  | succ m ih =>
    intro k
    have h1 := ih (k + 1)
    have h2 := pl_lst_bd h8 k (d 0 1)
    rw [pl_L]; omega
theorem pl_low {d : pl_D} (ok : pl_ok d) {y : Nat → Nat} : ∀ m k, k + m = d 0 0 → (∀ i, k ≤ i → i < d 0 0 → pl_let d y i = true) → pl_P d y k + pl_L d k m ≤ pl_P d y (d 0 0) := by
  intro m
  induction m with
  | zero => intro k hk _; rw [pl_L, ← hk]; show pl_P d y k + 0 ≤ pl_P d y (k + 0); rw [Nat.add_zero]; omega
  | succ m ih =>
    intro k hk hl
    have h1 := ih (k + 1) (by omega) (fun i a b => hl i (by omega) b)
    rw [pl_L]
    have hk0 := hl k (Nat.le_refl _) (by omega)
    have h2 : pl_P d y k + pl_lst d k (d 0 1) ≤ pl_P d y (k + 1) := by
      rcases (pl_let_iff d y k).mp hk0 with e | ⟨⟨e1, e2, e3⟩, _⟩
      · rw [pl_P_no ok e]
        have := pl_lst_no d k (d 0 1); omega
      · rw [pl_P_h ok rfl e1 e2]
        have := pl_lst_h e2 e3 (d 0 1) e1
        split <;> omega
    omega
