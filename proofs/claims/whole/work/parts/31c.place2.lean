/-! PLACE: the reference's questions. -/
/-- what is given, as the reference keeps it -/
def pl_m (d : pl_D) (s : hf_St) : Prop := s.1 0 1 = nI (d 0 0) ∧ s.1 0 7 = nI (d 0 1) ∧ (∀ c, c < d 0 0 → ((d 1 c = 0 ∧ s.2 1 c = 0) ∨ (d 1 c = 1 ∧ s.2 1 c = 1)) ∧ (d 1 c = 1 → s.2 2 c = nI (d 2 c) ∧ s.2 3 c = nI (d 3 c)) ∧ s.2 0 c = nI (d 4 c) ∧ s.2 32 c = (if d 5 c = 0 then -1 else nI (d 5 c - 1))) ∧ (∀ h, h < d 0 1 → s.2 5 h = nI (d 6 h) ∧ d 6 h ≤ 6) ∧ ∀ c h, c < d 0 0 → h < d 0 1 → d 1 c = 1 → s.2 35 (5 * c + h) = nI (d 7 (5 * c + h)) ∧ d 7 (5 * c + h) ≤ 1 ∧ s.2 36 (5 * c + h) = nI (d 8 (5 * c + h))
/-- only the choice and the best have changed -/
def pl_fm (s s' : hf_St) : Prop := (∀ k, ¬ (51 ≤ k ∧ k ≤ 54) → s'.1 0 k = s.1 0 k) ∧ ∀ a, ¬ (a = 33 ∨ a = 34) → s'.2 a = s.2 a
theorem pl_fmf (s : hf_St) : pl_fm s s := ⟨fun _ _ => rfl, fun _ _ => rfl⟩
theorem pl_fmt {a b c : hf_St} (h : pl_fm a b) (g : pl_fm b c) : pl_fm a c := ⟨fun k q => by rw [g.1 k q, h.1 k q], fun k q => by rw [g.2 k q, h.2 k q]⟩
theorem pl_fmA {s : hf_St} {a : Nat} {f : Nat → Int32} (h : a = 33 ∨ a = 34) : pl_fm s (hf_pA s a f) := ⟨fun _ _ => rfl, fun k q => by rw [hf_pA_2, if_neg (by omega)]⟩
theorem pl_fmI {s : hf_St} {k : Nat} {v : Int32} (h : 51 ≤ k ∧ k ≤ 54) : pl_fm s (hf_pI s 0 k v) := ⟨fun k' q => by rw [hf_pI_1, if_neg (by omega)], fun _ _ => rfl⟩
theorem pl_mf {d : pl_D} {s s' : hf_St} (h : pl_m d s) (g : pl_fm s s') : pl_m d s' := by
  unfold pl_m at *
  simp only [g.1 1 (by omega), g.1 7 (by omega), g.2 1 (by omega), g.2 2 (by omega), g.2 3 (by omega), g.2 0 (by omega), g.2 32 (by omega), g.2 5 (by omega), g.2 35 (by omega), g.2 36 (by omega)]
  exact h
theorem pl_let_in {d : pl_D} {s : hf_St} {x : Nat → Nat} {c h day : Nat} (ok : pl_ok d) (hm : pl_m d s) (hc : c < d 0 0) (hh : h < d 0 1) (hx : ∀ i, i < c → s.2 33 i = nI (x i)) (hle : ∀ i, i < c → x i ≤ d 0 1) (hn : ∀ i, i < c → x i = h → d 1 i = 1) (hday : day < 1000) (K : Int32 → Int32 → Int32 → Option Int32) : ∀ m o f, o + m = c → m < f → Fm_md_isLet_l64 s K f (nI c) (nI h) (nI day) (nI (1 + pl_occ d x h day o)) (nI o) = if 1 + pl_occ d x h day c ≤ d 6 h then K (nI c) (nI h) (nI (day + 1)) else some 0 := by
  have h7 := ok.1
  have h5 := ok.2.1
  intro m
  induction m with
  | zero =>
    intro o f ho hf
    obtain ⟨f, rfl⟩ : ∃ k, f = k + 1 := ⟨f - 1, by omega⟩
    have e : o = c := by omega
    subst e
    have hb := hm.2.2.2.1 h hh
    have ob : pl_occ d x h day o ≤ o := by
      unfold pl_occ
      have : ∀ (p : Nat → Bool) k, pl_cnt p k ≤ k := by
        intro p k
        induction k with
        | zero => exact Nat.le_refl _
        | succ k ih => rw [pl_cnt]; split <;> omega
      exact this _ o
    rw [Fm_md_isLet_l64, if_pos (by rw [hp_le, hp_nI (by omega)]; exact Int.le_refl _), hp_gd (hp_ix (show h < 5 by omega) (by omega)), hp_cl (by omega), hb.1, hp_z0, hp_succ]
    by_cases hl : 1 + pl_occ d x h day o ≤ d 6 h
    · rw [if_pos hl, if_pos (by rw [hp_le, hp_nI (by omega), hp_nI (by omega)]; omega)]
    · rw [if_neg hl, if_neg (by rw [hp_le, hp_nI (by omega), hp_nI (by omega)]; omega)]
  | succ m ih =>
    intro o f ho hf
    obtain ⟨f, rfl⟩ : ∃ k, f = k + 1 := ⟨f - 1, by omega⟩
    have ix : hf_ix (nI o) 7 := hp_ix (by omega) (by omega)
    have IH := ih (o + 1) f (by omega) (by omega)
    have occ1 : pl_occ d x h day (o + 1) = pl_occ d x h day o + (if (decide (x o = h) && pl_on d o day) = true then 1 else 0) := rfl
    rw [Fm_md_isLet_l64, if_neg (hp_nle (by omega) (by omega))]
    simp only [hp_gd ix, hp_cl (show o < 2147483648 by omega), hp_let, hp_a0, hp_succ]
    rw [hx o (by omega)]
    have hxo := hle o (by omega)
    by_cases e : x o = h
    · obtain ⟨r2, r3⟩ := (hm.2.2.1 o (by omega)).2.1 (hn o (by omega) e)
      have d3 := ok.2.2.1 o (hn o (by omega) e)
      rw [if_pos (by rw [e]), r2, r3]
      by_cases h1 : day < d 2 o
      · rw [if_pos (by rw [hp_lt, hp_nI (by omega), hp_nI (by omega)]; omega)]
        have z : (decide (x o = h) && pl_on d o day) = false := by unfold pl_on; rw [decide_eq_true e, decide_eq_false (by omega)]; rfl
        rw [occ1, z] at IH; exact IH
      · rw [if_neg (by rw [hp_lt, hp_nI (by omega), hp_nI (by omega)]; omega)]
        by_cases h2 : d 3 o < day
        · rw [if_pos (by rw [hp_lt, hp_nI (by omega), hp_nI (by omega)]; omega)]
          have z : (decide (x o = h) && pl_on d o day) = false := by unfold pl_on; rw [decide_eq_true e, decide_eq_false (by omega)]; rfl
          rw [occ1, z] at IH; exact IH
        · rw [if_neg (by rw [hp_lt, hp_nI (by omega), hp_nI (by omega)]; omega)]
          have z : (decide (x o = h) && pl_on d o day) = true := by unfold pl_on; rw [decide_eq_true e, decide_eq_true (by omega)]; rfl
          rw [occ1, z] at IH
          exact IH
    · rw [if_neg (by rw [nI_eq (by omega) (by omega)]; exact e)]
      have z : (decide (x o = h) && pl_on d o day) = false := by rw [decide_eq_false e]; rfl
      rw [occ1, z] at IH; exact IH
theorem pl_let_day {d : pl_D} {s : hf_St} {x : Nat → Nat} {c h : Nat} (ok : pl_ok d) (hm : pl_m d s) (hc : c < d 0 0) (hh : h < d 0 1) (hx : ∀ i, i < c → s.2 33 i = nI (x i)) (hle : ∀ i, i < c → x i ≤ d 0 1) (hn : ∀ i, i < c → x i = h → d 1 i = 1) (hnc : d 1 c = 1) : ∀ m day f, day + m = d 3 c + 1 → m < f → ((∀ day', day ≤ day' → day' ≤ d 3 c → 1 + pl_occ d x h day' c ≤ d 6 h) → Fm_md_isLet_l48 s f (nI c) (nI h) (nI day) = some 1) ∧ (¬ (∀ day', day ≤ day' → day' ≤ d 3 c → 1 + pl_occ d x h day' c ≤ d 6 h) → Fm_md_isLet_l48 s f (nI c) (nI h) (nI day) = some 0) := by
  have h7 := ok.1
  obtain ⟨r2, r3⟩ := (hm.2.2.1 c hc).2.1 hnc
  have d3 := ok.2.2.1 c hnc
  have ix : hf_ix (nI c) 7 := hp_ix (by omega) (by omega)
  intro m
  induction m with
  | zero =>
    intro day f hd hf
    obtain ⟨f, rfl⟩ : ∃ k, f = k + 1 := ⟨f - 1, by omega⟩
    rw [Fm_md_isLet_l48, hp_gd ix, hp_cl (by omega), r3, if_pos (by rw [hp_lt, hp_nI (by omega), hp_nI (by omega)]; omega), hp_z1]
    exact ⟨fun _ => rfl, fun a => absurd (fun day' h1 h2 => by omega) a⟩
  | succ m ih =>
    intro day f hd hf
    obtain ⟨f, rfl⟩ : ∃ k, f = k + 1 := ⟨f - 1, by omega⟩
    have L := pl_let_in (day := day) ok hm hc hh hx hle hn (by omega) (fun z0 z1 z2 => Fm_md_isLet_l48 s f z0 z1 z2) c 0 hf_fuel (by omega) (by unfold hf_fuel; omega)
    have e0 : (1 : Int32) = nI (1 + pl_occ d x h day 0) := rfl
    rw [Fm_md_isLet_l48, hp_gd ix, hp_cl (by omega), r3, if_neg (by rw [hp_lt, hp_nI (by omega), hp_nI (by omega)]; omega)]
    have L2 : Fm_md_isLet_l64 s (fun z0 z1 z2 => Fm_md_isLet_l48 s f z0 z1 z2) hf_fuel (nI c) (nI h) (nI day) 1 0 = _ := L
    rw [L2]
    obtain ⟨i1, i2⟩ := ih (day + 1) f (by omega) (by omega)
    by_cases hl : 1 + pl_occ d x h day c ≤ d 6 h
    · rw [if_pos hl]
      refine ⟨fun a => i1 (fun day' h1 h2 => a day' (by omega) h2), fun a => i2 (fun b => a (fun day' h1 h2 => ?_))⟩
      by_cases e : day' = day
      · rw [e]; exact hl
      · exact b day' (by omega) h2
    · rw [if_neg hl]
      exact ⟨fun a => absurd (a day (by omega) (by omega)) hl, fun _ => rfl⟩
theorem pl_isLet {d : pl_D} {s : hf_St} {x : Nat → Nat} {c : Nat} (ok : pl_ok d) (hm : pl_m d s) (hc : c < d 0 0) (hx : ∀ i, i ≤ c → s.2 33 i = nI (x i)) (hle : ∀ i, i ≤ c → x i ≤ d 0 1) (hn : ∀ i, i < c → x i < d 0 1 → d 1 i = 1) : Fm_md_isLet s (nI c) = some (if pl_let d x c = true then 1 else 0) := by
  have h7 := ok.1
  have h5 := ok.2.1
  have hxc := hle c (Nat.le_refl _)
  have ix : hf_ix (nI c) 7 := hp_ix (by omega) (by omega)
  have e5 : (5 : Int32) * nI c + nI (x c) = nI (5 * c + x c) := by rw [show (5 : Int32) = nI 5 from rfl, pk_mul, nI_add]
  unfold Fm_md_isLet
  simp only [hp_gd ix, hp_let, hp_cl (show c < 2147483648 by omega), hp_z0, hp_z1]
  rw [hx c (Nat.le_refl _), hm.2.1, e5]
  by_cases e : x c = d 0 1
  · rw [if_pos (by rw [e]), if_pos ((pl_let_iff d x c).mpr (Or.inl e))]
  · rw [if_neg (by rw [nI_eq (by omega) (by omega)]; exact e)]
    have hh : x c < d 0 1 := by omega
    obtain ⟨q1, q2, q3, q4⟩ := hm.2.2.1 c hc
    rcases q1 with ⟨n0, m0⟩ | ⟨n1, m1⟩
    · rw [if_pos m0, if_neg (fun a => by
        rcases (pl_let_iff d x c).mp a with b | b
        · exact e b
        · have := b.1.2.1; omega)]
    · obtain ⟨p1, p2, p3⟩ := hm.2.2.2.2 c (x c) hc hh n1
      obtain ⟨r2, r3⟩ := q2 n1
      have d3 := ok.2.2.1 c n1
      rw [if_neg (by rw [m1]; decide), hp_gd (hp_ix (show 5 * c + x c < 35 by omega) (by omega)), hp_cl (by omega), p1]
      by_cases hf : d 7 (5 * c + x c) = 1
      · rw [hf, if_neg (by decide), r2]
        obtain ⟨i1, i2⟩ := pl_let_day ok hm hc hh (fun i hi => hx i (by omega)) (fun i hi => hle i (by omega)) (fun i hi ei => hn i hi (by omega)) n1 (d 3 c + 1 - d 2 c) (d 2 c) hf_fuel (by omega) (by unfold hf_fuel; omega)
        by_cases fr : ∀ day', d 2 c ≤ day' → day' ≤ d 3 c → 1 + pl_occ d x (x c) day' c ≤ d 6 (x c)
        · rw [i1 fr, if_pos ((pl_let_iff d x c).mpr (Or.inr ⟨⟨hh, n1, hf⟩, fun day _ a b => fr day a b⟩))]
        · rw [i2 fr, if_neg (fun a => by
            rcases (pl_let_iff d x c).mp a with b | b
            · exact e b
            · exact fr (fun day' h1 h2 => b.2 day' (by omega) h1 h2))]
      · rw [if_pos (show nI (d 7 (5 * c + x c)) = 0 from by rw [show d 7 (5 * c + x c) = 0 by omega]; rfl), if_neg (fun a => by
          rcases (pl_let_iff d x c).mp a with b | b
          · exact e b
          · exact hf b.1.2.2)]
/-! parted -/
def pl_pr (d : pl_D) (x : Nat → Nat) (g a b : Nat) : Bool := decide (d 4 a = g ∧ d 4 b = g ∧ x a < d 0 1 ∧ x b < d 0 1 ∧ x a ≠ x b)
def pl_any (p : Nat → Bool) : Nat → Nat → Bool → Bool
  | 0, _, v => v
  | m + 1, b, v => pl_any p m (b + 1) (v || p b)
def pl_any2 (p : Nat → Nat → Bool) : Nat → Nat → Bool → Bool
  | 0, _, v => v
  | m + 1, a, v => pl_any2 p m (a + 1) (pl_any (p a) a 0 v)
theorem pl_any_iff (p : Nat → Bool) : ∀ m b v, pl_any p m b v = true ↔ (v = true ∨ ∃ i, b ≤ i ∧ i < b + m ∧ p i = true) := by
  intro m
  induction m with
  | zero => intro b v; exact ⟨fun a => Or.inl a, fun a => a.elim id (fun ⟨i, h1, h2, _⟩ => absurd h2 (by omega))⟩
  | succ m ih =>
    intro b v
    rw [pl_any, ih, Bool.or_eq_true]
    constructor
    · rintro ((a | a) | ⟨i, h1, h2, h3⟩)
      · exact Or.inl a
      · exact Or.inr ⟨b, by omega, by omega, a⟩
      · exact Or.inr ⟨i, by omega, by omega, h3⟩
    · rintro (a | ⟨i, h1, h2, h3⟩)
      · exact Or.inl (Or.inl a)
      · by_cases e : i = b
        · subst e; exact Or.inl (Or.inr h3)
        · exact Or.inr ⟨i, by omega, by omega, h3⟩
theorem pl_any2_iff (p : Nat → Nat → Bool) : ∀ m a v, pl_any2 p m a v = true ↔ (v = true ∨ ∃ i j, a ≤ i ∧ i < a + m ∧ j < i ∧ p i j = true) := by
  intro m
  induction m with
  | zero => intro b v; exact ⟨fun a => Or.inl a, fun a => a.elim id (fun ⟨i, j, h1, h2, _⟩ => absurd h2 (by omega))⟩
  | succ m ih =>
    intro a v
    rw [pl_any2, ih, pl_any_iff]
    constructor
    · rintro ((b | ⟨i, h1, h2, h3⟩) | ⟨i, j, h1, h2, h3, h4⟩)
      · exact Or.inl b
      · exact Or.inr ⟨a, i, by omega, by omega, by omega, h3⟩
      · exact Or.inr ⟨i, j, by omega, by omega, h3, h4⟩
    · rintro (b | ⟨i, j, h1, h2, h3, h4⟩)
      · exact Or.inl (Or.inl b)
      · by_cases e : i = a
        · subst e; exact Or.inl (Or.inr ⟨j, by omega, by omega, h4⟩)
        · exact Or.inr ⟨i, j, by omega, by omega, h3, h4⟩
theorem pl_two : ∀ m, m < 32 → (2 ≤ pl_pop m ↔ ¬ ∀ h1, h1 < 5 → ∀ h2, h2 < 5 → m.testBit h1 = true → m.testBit h2 = true → h1 = h2) := by decide +kernel
theorem pl_pt_any {d : pl_D} (ok : pl_ok d) (x : Nat → Nat) (g k : Nat) : nI (pl_pt (pl_gm d x g k)) = ho_b (pl_any2 (pl_pr d x g) k 0 false) := by
  have h5 := ok.2.1
  have T := pl_two (pl_gm d x g k) (pl_gm_lt ok x g k)
  unfold pl_pt ho_b
  by_cases e : pl_any2 (pl_pr d x g) k 0 false = true
  · rw [if_pos e, if_pos]
    · rfl
    · rw [T]
      intro a
      rcases (pl_any2_iff _ _ _ _).mp e with b | ⟨i, j, h1, h2, h3, h4⟩
      · cases b
      · unfold pl_pr at h4
        rw [decide_eq_true_iff] at h4
        exact h4.2.2.2.2 (a (x i) (by omega) (x j) (by omega) ((pl_gm_bit d x g k (x i)).mpr ⟨i, by omega, h4.1, rfl, h4.2.2.1⟩) ((pl_gm_bit d x g k (x j)).mpr ⟨j, by omega, h4.2.1, rfl, h4.2.2.2.1⟩))
  · rw [if_neg e, if_neg]
    · rfl
    · rw [T]
      intro a
      apply a
      intro p1 hp1 p2 hp2 b1 b2
      obtain ⟨i, i1, i2, i3, i4⟩ := (pl_gm_bit d x g k p1).mp b1
      obtain ⟨j, j1, j2, j3, j4⟩ := (pl_gm_bit d x g k p2).mp b2
      by_cases hne : p1 = p2
      · exact hne
      · exfalso
        apply e
        refine (pl_any2_iff _ _ _ _).mpr (Or.inr ?_)
        rcases Nat.lt_or_ge i j with hij | hij
        · exact ⟨j, i, by omega, by omega, hij, by unfold pl_pr; rw [decide_eq_true_iff]; exact ⟨j2, i2, by omega, by omega, by omega⟩⟩
        · have : i ≠ j := fun e => hne (by rw [← i3, ← j3, e])
          exact ⟨i, j, by omega, by omega, by omega, by unfold pl_pr; rw [decide_eq_true_iff]; exact ⟨i2, j2, by omega, by omega, by omega⟩⟩
theorem pl_par_in {d : pl_D} {s : hf_St} {x : Nat → Nat} {g a : Nat} (ok : pl_ok d) (hm : pl_m d s) (hg : g < 4) (ha : a < d 0 0) (hx : ∀ i, i < d 0 0 → s.2 33 i = nI (x i)) (hle : ∀ i, i < d 0 0 → x i ≤ d 0 1) (k4 : Int32 → Int32 → Option Int32) (K : Int32 → Int32 → Int32 → Int32 → Option Int32) (l1 : Int32) : ∀ m b v f, b + m = a → m < f → Fm_md_parted_l26 s k4 K f l1 (nI g) (ho_b v) (nI a) (nI b) = K l1 (nI g) (ho_b (pl_any (pl_pr d x g a) m b v)) (nI (a + 1)) := by
  have h7 := ok.1
  have h5 := ok.2.1
  intro m
  induction m with
  | zero =>
    intro b v f hb hf
    obtain ⟨f, rfl⟩ : ∃ k, f = k + 1 := ⟨f - 1, by omega⟩
    rw [Fm_md_parted_l26, if_pos (by rw [hp_le, hp_nI (by omega), hp_nI (by omega)]; omega), hp_succ]
    rfl
  | succ m ih =>
    intro b v f hb hf
    obtain ⟨f, rfl⟩ : ∃ k, f = k + 1 := ⟨f - 1, by omega⟩
    have ia : hf_ix (nI a) 7 := hp_ix (by omega) (by omega)
    have ib : hf_ix (nI b) 7 := hp_ix (by omega) (by omega)
    have iF := ih (b + 1) false f (by omega) (by omega)
    have iT := ih (b + 1) true f (by omega) (by omega)
    have ga := (hm.2.2.1 a ha).2.2.1
    have gb := (hm.2.2.1 b (by omega)).2.2.1
    have qa := ok.2.2.2.2.1 a
    have qb := ok.2.2.2.2.1 b
    have xa := hle a ha
    have xb := hle b (by omega)
    rw [Fm_md_parted_l26, if_neg (hp_nle (by omega) (by omega)), pl_any]
    simp only [hp_gd ia, hp_gd ib, hp_cl (show a < 2147483648 by omega), hp_cl (show b < 2147483648 by omega), hp_succ, ga, gb, hx a ha, hx b (show b < d 0 0 by omega), hm.2.1]
    cases v with
    | true =>
      rw [if_neg (show ¬ ho_b true = 0 by decide), Bool.true_or]
      exact iT
    | false =>
      rw [if_pos (show ho_b false = 0 from rfl), Bool.false_or]
      have eF : ∀ z, pl_pr d x g a b = z → ho_b z = ho_b (pl_pr d x g a b) := fun z e => by rw [e]
      have F : pl_pr d x g a b = false → Fm_md_parted_l26 s k4 K f l1 (nI g) 0 (nI a) (nI (b + 1)) = K l1 (nI g) (ho_b (pl_any (pl_pr d x g a) m (b + 1) (pl_pr d x g a b))) (nI (a + 1)) := fun e => by rw [e]; exact iF
      have T : pl_pr d x g a b = true → Fm_md_parted_l26 s k4 K f l1 (nI g) 1 (nI a) (nI (b + 1)) = K l1 (nI g) (ho_b (pl_any (pl_pr d x g a) m (b + 1) (pl_pr d x g a b))) (nI (a + 1)) := fun e => by rw [e]; exact iT
      by_cases e1 : d 4 a = g
      · rw [if_pos (by rw [e1])]
        by_cases e2 : d 4 b = g
        · rw [if_pos (by rw [e2])]
          by_cases e3 : x a < d 0 1
          · rw [if_neg (hp_nle e3 (by omega))]
            by_cases e4 : x b < d 0 1
            · rw [if_neg (hp_nle e4 (by omega))]
              by_cases e5 : x a = x b
              · rw [if_pos (by rw [e5])]
                exact F (decide_eq_false (fun h => h.2.2.2.2 e5))
              · rw [if_neg (by rw [nI_eq (by omega) (by omega)]; exact e5)]
                exact T (decide_eq_true ⟨e1, e2, e3, e4, e5⟩)
            · rw [if_pos (by rw [hp_le, hp_nI (by omega), hp_nI (by omega)]; omega)]
              exact F (decide_eq_false (fun h => e4 h.2.2.2.1))
          · rw [if_pos (by rw [hp_le, hp_nI (by omega), hp_nI (by omega)]; omega)]
            exact F (decide_eq_false (fun h => e3 h.2.2.1))
        · rw [if_neg (by rw [nI_eq (by omega) (by omega)]; exact e2)]
          exact F (decide_eq_false (fun h => e2 h.2.1))
      · rw [if_neg (by rw [nI_eq (by omega) (by omega)]; exact e1)]
        exact F (decide_eq_false (fun h => e1 h.1))
theorem pl_par_out {d : pl_D} {s : hf_St} {x : Nat → Nat} {g : Nat} (ok : pl_ok d) (hm : pl_m d s) (hg : g < 4) (hx : ∀ i, i < d 0 0 → s.2 33 i = nI (x i)) (hle : ∀ i, i < d 0 0 → x i ≤ d 0 1) (k4 : Int32 → Int32 → Option Int32) (l1 : Int32) : ∀ m a v f, a + m = d 0 0 → m < f → Fm_md_parted_l14 s k4 f l1 (nI g) (ho_b v) (nI a) = k4 (l1 + ho_b (pl_any2 (pl_pr d x g) m a v)) (nI (g + 1)) := by
  have h7 := ok.1
  intro m
  induction m with
  | zero =>
    intro a v f ha hf
    obtain ⟨f, rfl⟩ : ∃ k, f = k + 1 := ⟨f - 1, by omega⟩
    rw [Fm_md_parted_l14, hm.1, if_pos (by rw [hp_le, hp_nI (by omega), hp_nI (by omega)]; omega), hp_let, hp_let, hp_succ, pl_any2]
    cases v with
    | true => rw [if_neg (show ¬ ho_b true = 0 by decide)]; rfl
    | false => rw [if_pos (show ho_b false = 0 from rfl)]; rfl
  | succ m ih =>
    intro a v f ha hf
    obtain ⟨f, rfl⟩ : ∃ k, f = k + 1 := ⟨f - 1, by omega⟩
    have I := pl_par_in (a := a) ok hm hg (by omega) hx hle k4 (fun z0 z1 z2 z3 => Fm_md_parted_l14 s k4 f z0 z1 z2 z3) l1 a 0 v hf_fuel (by omega) (by unfold hf_fuel; omega)
    have I2 : Fm_md_parted_l26 s k4 (fun z0 z1 z2 z3 => Fm_md_parted_l14 s k4 f z0 z1 z2 z3) hf_fuel l1 (nI g) (ho_b v) (nI a) 0 = _ := I
    rw [Fm_md_parted_l14, hm.1, if_neg (hp_nle (by omega) (by omega)), I2, pl_any2]
    exact ih (a + 1) _ f (by omega) (by omega)
theorem pl_parted {d : pl_D} {s : hf_St} {x : Nat → Nat} (ok : pl_ok d) (hm : pl_m d s) (hx : ∀ i, i < d 0 0 → s.2 33 i = nI (x i)) (hle : ∀ i, i < d 0 0 → x i ≤ d 0 1) : Fm_md_parted s = some (nI (pl_G d x (d 0 0))) := by
  have h7 := ok.1
  have st : ∀ g f n, 1 ≤ g → g < 4 → Fm_md_parted_l4 s (f + 1) (nI n) (nI g) = Fm_md_parted_l4 s f (nI (n + pl_pt (pl_gm d x g (d 0 0)))) (nI (g + 1)) := by
    intro g f n hg1 hg
    have O := pl_par_out (g := g) ok hm hg hx hle (fun z0 z1 => Fm_md_parted_l4 s f z0 z1) (nI n) (d 0 0) 0 false hf_fuel (by omega) (by unfold hf_fuel; omega)
    have O2 : Fm_md_parted_l14 s (fun z0 z1 => Fm_md_parted_l4 s f z0 z1) hf_fuel (nI n) (nI g) 0 0 = _ := O
    rw [Fm_md_parted_l4, if_neg (by rw [hp_le, hp_4, hp_nI (by omega)]; omega), O2, ← pl_pt_any ok, nI_add]
  unfold Fm_md_parted hf_fuel
  have a1 := st 1 999999 0 (by omega) (by omega)
  have a2 := st 2 999998 (0 + pl_pt (pl_gm d x 1 (d 0 0))) (by omega) (by omega)
  have a3 := st 3 999997 (0 + pl_pt (pl_gm d x 1 (d 0 0)) + pl_pt (pl_gm d x 2 (d 0 0))) (by omega) (by omega)
  have a4 : ∀ n, Fm_md_parted_l4 s (999996 + 1) (nI n) (nI 4) = some (nI n) := by
    intro n
    rw [Fm_md_parted_l4, if_pos (by decide)]
  have b1 : Fm_md_parted_l4 s 1000000 0 1 = _ := a1
  rw [b1, a2, a3, a4]
  unfold pl_G
  rw [Nat.zero_add]
