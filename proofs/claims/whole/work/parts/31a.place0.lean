/-! PLACE, as numbers. d is the table of what is given: 0: children, homes, keep; 1 need, 2 first, 3 last, 4 group, 5 the home had, one more (0 none), 6 beds, 7 fits and 8 wishes (at 5 * child + home). x is a choice: a home, or the number of homes for none. -/
abbrev pl_D : Type := Nat → Nat → Nat
def pl_set (x : Nat → Nat) (k h : Nat) : Nat → Nat := fun i => if i = k then h else x i
theorem pl_set_k (x : Nat → Nat) (k h : Nat) : pl_set x k h k = h := if_pos rfl
theorem pl_set_n (x : Nat → Nat) {k h i : Nat} (hi : i < k) : pl_set x k h i = x i := if_neg (by omega)
def pl_cnt (p : Nat → Bool) : Nat → Nat
  | 0 => 0
  | k + 1 => pl_cnt p k + (if p k = true then 1 else 0)
theorem pl_cnt_cg {p q : Nat → Bool} : ∀ k, (∀ i, i < k → p i = q i) → pl_cnt p k = pl_cnt q k := by
  intro k
  induction k with
  | zero => intro _; rfl
  | succ k ih => intro h; rw [pl_cnt, pl_cnt, ih (fun i hi => h i (by omega)), h k (by omega)]
theorem pl_cnt_le {p q : Nat → Bool} : ∀ k, (∀ i, i < k → p i = true → q i = true) → pl_cnt p k ≤ pl_cnt q k := by
  intro k
  induction k with
  | zero => intro _; exact Nat.le_refl _
  | succ k ih =>
    intro h
    have h1 := ih (fun i hi => h i (by omega))
    have h2 := h k (by omega)
    rw [pl_cnt, pl_cnt]
    by_cases hp : p k = true
    · rw [if_pos hp, if_pos (h2 hp)]; omega
    · rw [if_neg hp]; omega
theorem pl_cnt_0 {p : Nat → Bool} : ∀ k, (∀ i, i < k → p i = false) → pl_cnt p k = 0 := by
  intro k
  induction k with
  | zero => intro _; rfl
  | succ k ih =>
    intro h
    rw [pl_cnt, ih (fun i hi => h i (by omega)), h k (by omega)]; rfl
theorem pl_cnt_ex {p : Nat → Bool} : ∀ k, 0 < pl_cnt p k → ∃ i, i < k ∧ p i = true := by
  intro k
  induction k with
  | zero => intro h; exact absurd h (Nat.lt_irrefl 0)
  | succ k ih =>
    intro h
    by_cases hp : p k = true
    · exact ⟨k, by omega, hp⟩
    · rw [pl_cnt, if_neg hp] at h
      obtain ⟨i, hi, e⟩ := ih h
      exact ⟨i, by omega, e⟩
theorem pl_cnt_tail {p : Nat → Bool} {k : Nat} : ∀ m, (∀ i, k ≤ i → i < k + m → p i = false) → pl_cnt p (k + m) = pl_cnt p k := by
  intro m
  induction m with
  | zero => intro _; rfl
  | succ m ih =>
    intro h
    rw [← Nat.add_assoc, pl_cnt, ih (fun i h1 h2 => h i h1 (by omega)), h (k + m) (by omega) (by omega)]; rfl
def pl_on (d : pl_D) (o day : Nat) : Bool := decide (d 2 o ≤ day ∧ day ≤ d 3 o)
/-- how many of the first k that chose h need a bed on a day -/
def pl_occ (d : pl_D) (x : Nat → Nat) (h day k : Nat) : Nat := pl_cnt (fun o => decide (x o = h) && pl_on d o day) k
theorem pl_occ_cg {d : pl_D} {x y : Nat → Nat} {h day k : Nat} (e : ∀ i, i < k → y i = x i) : pl_occ d y h day k = pl_occ d x h day k := pl_cnt_cg k (fun i hi => by rw [e i hi])
abbrev pl_free (d : pl_D) (x : Nat → Nat) (c : Nat) : Prop := ∀ day, day < 1000 → d 2 c ≤ day → day ≤ d 3 c → 1 + pl_occ d x (x c) day c ≤ d 6 (x c)
def pl_let (d : pl_D) (x : Nat → Nat) (c : Nat) : Bool := decide (x c = d 0 1) || (decide (x c < d 0 1 ∧ d 1 c = 1 ∧ d 7 (5 * c + x c) = 1) && decide (pl_free d x c))
theorem pl_let_iff (d : pl_D) (x : Nat → Nat) (c : Nat) : pl_let d x c = true ↔ (x c = d 0 1 ∨ ((x c < d 0 1 ∧ d 1 c = 1 ∧ d 7 (5 * c + x c) = 1) ∧ pl_free d x c)) := by
  unfold pl_let
  rw [Bool.or_eq_true, Bool.and_eq_true, decide_eq_true_iff, decide_eq_true_iff, decide_eq_true_iff]
theorem pl_let_cg {d : pl_D} {x y : Nat → Nat} {c : Nat} (e : ∀ i, i ≤ c → y i = x i) : pl_let d y c = pl_let d x c := by
  have h1 := e c (Nat.le_refl _)
  have h2 : ∀ day, pl_occ d y (x c) day c = pl_occ d x (x c) day c := fun day => pl_occ_cg (fun i hi => e i (by omega))
  rw [Bool.eq_iff_iff, pl_let_iff, pl_let_iff]
  unfold pl_free
  simp only [h1, h2]
/-! the figures of a choice -/
def pl_W (d : pl_D) (x : Nat → Nat) : Nat → Nat
  | 0 => 0
  | k + 1 => pl_W d x k + (if x k = d 0 1 ∧ d 1 k = 1 then 1 else 0)
def pl_M (d : pl_D) (x : Nat → Nat) : Nat → Nat
  | 0 => 0
  | k + 1 => pl_M d x k + (if d 1 k = 1 ∧ d 5 k ≠ 0 ∧ d 5 k ≠ x k + 1 then 1 else 0)
def pl_V (d : pl_D) (x : Nat → Nat) : Nat → Nat
  | 0 => 0
  | k + 1 => pl_V d x k + (if x k < d 0 1 then d 8 (5 * k + x k) else 0)
def pl_gm (d : pl_D) (x : Nat → Nat) (g : Nat) : Nat → Nat
  | 0 => 0
  | k + 1 => if d 4 k = g ∧ x k < d 0 1 then pl_gm d x g k ||| 2 ^ (x k) else pl_gm d x g k
def pl_rm (x : Nat → Nat) (h : Nat) : Nat → Nat
  | 0 => 0
  | k + 1 => if x k = h then pl_rm x h k ||| 2 ^ k else pl_rm x h k
def pl_pop (m : Nat) : Nat := pl_cnt m.testBit 7
def pl_pt (m : Nat) : Nat := if 2 ≤ pl_pop m then 1 else 0
def pl_G (d : pl_D) (x : Nat → Nat) (k : Nat) : Nat := pl_pt (pl_gm d x 1 k) + pl_pt (pl_gm d x 2 k) + pl_pt (pl_gm d x 3 k)
def pl_P (d : pl_D) (x : Nat → Nat) (k : Nat) : Int := 524288 * (pl_W d x k : Int) + 131072 * (pl_G d x k : Int) + (if d 0 2 = 1 then 16384 * (pl_M d x k : Int) else 0) - (pl_V d x k : Int)
theorem pl_cg {d : pl_D} {x y : Nat → Nat} : ∀ k, (∀ i, i < k → y i = x i) → pl_W d y k = pl_W d x k ∧ pl_M d y k = pl_M d x k ∧ pl_V d y k = pl_V d x k ∧ (∀ g, pl_gm d y g k = pl_gm d x g k) ∧ ∀ h, pl_rm y h k = pl_rm x h k := by
  intro k
  induction k with
  | zero => intro _; exact ⟨rfl, rfl, rfl, fun _ => rfl, fun _ => rfl⟩
  | succ k ih =>
    intro e
    obtain ⟨a1, a2, a3, a4, a5⟩ := ih (fun i hi => e i (by omega))
    have ek := e k (by omega)
    exact ⟨by rw [pl_W, pl_W, a1, ek], by rw [pl_M, pl_M, a2, ek], by rw [pl_V, pl_V, a3, ek], fun g => by rw [pl_gm, pl_gm, a4, ek], fun h => by rw [pl_rm, pl_rm, a5, ek]⟩
theorem pl_G_cg {d : pl_D} {x y : Nat → Nat} {k : Nat} (e : ∀ i, i < k → y i = x i) : pl_G d y k = pl_G d x k := by
  unfold pl_G
  rw [(pl_cg k e).2.2.2.1, (pl_cg k e).2.2.2.1, (pl_cg k e).2.2.2.1]
theorem pl_P_cg {d : pl_D} {x y : Nat → Nat} {k : Nat} (e : ∀ i, i < k → y i = x i) : pl_P d y k = pl_P d x k := by
  unfold pl_P
  rw [pl_G_cg e, (pl_cg k e).1, (pl_cg k e).2.1, (pl_cg k e).2.2.1]
theorem pl_bd {d : pl_D} (h8 : ∀ j, d 8 j ≤ 2000) (x : Nat → Nat) : ∀ k, pl_W d x k ≤ k ∧ pl_M d x k ≤ k ∧ pl_V d x k ≤ 2000 * k := by
  intro k
  induction k with
  | zero => exact ⟨Nat.le_refl _, Nat.le_refl _, Nat.le_refl _⟩
  | succ k ih =>
    have := h8 (5 * k + x k)
    rw [pl_W, pl_M, pl_V]
    refine ⟨?_, ?_, ?_⟩ <;> split <;> omega
theorem pl_pt_1 (m : Nat) : pl_pt m ≤ 1 := by unfold pl_pt; split <;> omega
theorem pl_G_3 (d : pl_D) (x : Nat → Nat) (k : Nat) : pl_G d x k ≤ 3 := by
  have h1 := pl_pt_1 (pl_gm d x 1 k)
  have h2 := pl_pt_1 (pl_gm d x 2 k)
  have h3 := pl_pt_1 (pl_gm d x 3 k)
  unfold pl_G; omega
theorem pl_P_bd {d : pl_D} (h8 : ∀ j, d 8 j ≤ 2000) (x : Nat → Nat) {k : Nat} (hk : k ≤ 7) : -14000 ≤ pl_P d x k ∧ pl_P d x k ≤ 4200000 := by
  have h1 := pl_bd h8 x k
  have h2 := pl_G_3 d x k
  unfold pl_P
  split <;> omega
/-- the order of the price is that of the four figures -/
theorem pl_ord {d : pl_D} (h8 : ∀ j, d 8 j ≤ 2000) (x y : Nat → Nat) {k : Nat} (hk : k ≤ 7) : pl_P d x k < pl_P d y k ↔ (if pl_W d x k = pl_W d y k then (if pl_G d x k = pl_G d y k then (if d 0 2 = 1 ∧ ¬ pl_M d x k = pl_M d y k then pl_M d x k < pl_M d y k else pl_V d y k < pl_V d x k) else pl_G d x k < pl_G d y k) else pl_W d x k < pl_W d y k) := by
  have h1 := pl_bd h8 x k
  have h2 := pl_G_3 d x k
  have h3 := pl_bd h8 y k
  have h4 := pl_G_3 d y k
  unfold pl_P
  by_cases hk2 : d 0 2 = 1
  · rw [if_pos hk2, if_pos hk2]
    by_cases e1 : pl_W d x k = pl_W d y k
    · rw [if_pos e1]
      by_cases e2 : pl_G d x k = pl_G d y k
      · rw [if_pos e2]
        by_cases e3 : pl_M d x k = pl_M d y k
        · rw [if_neg (fun h => h.2 e3)]; omega
        · rw [if_pos ⟨hk2, e3⟩]; omega
      · rw [if_neg e2]; omega
    · rw [if_neg e1]; omega
  · rw [if_neg hk2, if_neg hk2]
    by_cases e1 : pl_W d x k = pl_W d y k
    · rw [if_pos e1]
      by_cases e2 : pl_G d x k = pl_G d y k
      · rw [if_pos e2, if_neg (fun h => hk2 h.1)]; omega
      · rw [if_neg e2]; omega
    · rw [if_neg e1]; omega
/-! the search without leaving anything out -/
def pl_bt (d : pl_D) (b : Option (Nat → Nat)) (x : Nat → Nat) : Bool := b.elim true (fun y => decide (pl_P d x (d 0 0) < pl_P d y (d 0 0)))
def pl_lp (f : (Nat → Nat) → Option (Nat → Nat) → Option (Nat → Nat)) (d : pl_D) (k : Nat) (x : Nat → Nat) : Nat → Nat → Option (Nat → Nat) → Option (Nat → Nat)
  | 0, _, b => b
  | n + 1, h, b => pl_lp f d k x n (h + 1) (if pl_let d (pl_set x k h) k = true then f (pl_set x k h) b else b)
def pl_S (d : pl_D) : Nat → Nat → (Nat → Nat) → Option (Nat → Nat) → Option (Nat → Nat)
  | 0, _, x, b => if pl_bt d b x = true then some x else b
  | m + 1, k, x, b => pl_lp (pl_S d m (k + 1)) d k x (d 0 1 + 1) 0 b
theorem pl_prune (d : pl_D) (b : Option (Nat → Nat)) : ∀ m k x, k + m = d 0 0 → (∀ y, (∀ i, i < k → y i = x i) → (∀ i, k ≤ i → i < d 0 0 → pl_let d y i = true) → pl_bt d b y = false) → pl_S d m k x b = b := by
  intro m
  induction m with
  | zero =>
    intro k x hk h
    rw [pl_S, h x (fun _ _ => rfl) (fun i h1 h2 => by omega)]
    rfl
  | succ m ih =>
    intro k x hk h
    rw [pl_S]
    have step : ∀ n h', pl_lp (pl_S d m (k + 1)) d k x n h' b = b := by
      intro n
      induction n with
      | zero => intro h'; rfl
      | succ n ihn =>
        intro h'
        rw [pl_lp]
        by_cases hl : pl_let d (pl_set x k h') k = true
        · rw [if_pos hl, ih (k + 1) (pl_set x k h') (by omega) (fun y e1 e2 => h y (fun i hi => by rw [e1 i (by omega), pl_set_n x hi]) (fun i h1 h2 => by
            by_cases hik : i = k
            · subst hik
              rw [pl_let_cg (x := pl_set x i h') (fun j hj => e1 j (by omega))]; exact hl
            · exact e2 i (by omega) h2))]
          exact ihn (h' + 1)
        · rw [if_neg hl]; exact ihn (h' + 1)
    exact step _ _
