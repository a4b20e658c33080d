/-! PLACE: the reference's weighing of a whole choice. -/
def pl_bm (d : pl_D) (b : Option (Nat → Nat)) (s : hf_St) : Prop := (b = none ∧ s.1 0 51 = nI 99) ∨ ∃ y, b = some y ∧ s.1 0 51 = nI (pl_W d y (d 0 0)) ∧ s.1 0 52 = nI (pl_G d y (d 0 0)) ∧ s.1 0 53 = nI (pl_M d y (d 0 0)) ∧ s.1 0 54 = nI (pl_V d y (d 0 0)) ∧ ∀ i, i < d 0 0 → s.2 34 i = nI (y i)
def pl_cmp (s : hf_St) (l1 l2 l3 l4 l5 : Int32) : Option hf_St := (if l1 = (s.1 0 51) then (if l3 = (s.1 0 52) then (if l2 = 0 then Fm_md_weighs_b194 s l1 l3 l4 l5 else (if l4 = (s.1 0 53) then Fm_md_weighs_b194 s l1 l3 l4 l5 else (if (s.1 0 53) ≤ l4 then Fm_md_weighs_b208 s l1 l3 l4 l5 ((0 : Int32)) else Fm_md_weighs_b208 s l1 l3 l4 l5 ((1 : Int32))))) else (if (s.1 0 52) ≤ l3 then Fm_md_weighs_b208 s l1 l3 l4 l5 ((0 : Int32)) else Fm_md_weighs_b208 s l1 l3 l4 l5 ((1 : Int32)))) else (if (s.1 0 51) ≤ l1 then Fm_md_weighs_b208 s l1 l3 l4 l5 ((0 : Int32)) else Fm_md_weighs_b208 s l1 l3 l4 l5 ((1 : Int32))))
theorem pl_LG_le {d : pl_D} {x : Nat → Nat} {k : Nat} (h : pl_LG d x k) : ∀ i, i < k → x i ≤ d 0 1 := by
  intro i hi
  rcases (pl_let_iff d x i).mp (h i hi) with e | e
  · omega
  · have := e.1.1; omega
theorem pl_weigh_l {d : pl_D} {s : hf_St} {x : Nat → Nat} (ok : pl_ok d) (hm : pl_m d s) (hx : ∀ i, i < d 0 0 → s.2 33 i = nI (x i)) (hl : pl_LG d x (d 0 0)) (l1 l2 l3 : Int32) : ∀ m c f, c + m = d 0 0 → m < f → Fm_md_weighs_l14 f s l1 l2 l3 (nI (pl_M d x c)) (nI (pl_V d x c)) (nI c) = pl_cmp s l1 l2 l3 (nI (pl_M d x (d 0 0))) (nI (pl_V d x (d 0 0))) := by
  have h7 := ok.1
  have h5 := ok.2.1
  intro m
  induction m with
  | zero =>
    intro c f hc hf
    obtain ⟨f, rfl⟩ : ∃ k, f = k + 1 := ⟨f - 1, by omega⟩
    have e : c = d 0 0 := by omega
    subst e
    rw [Fm_md_weighs_l14, hm.1, if_pos (by rw [hp_le]; exact Int.le_refl _)]
    rfl
  | succ m ih =>
    intro c f hc hf
    obtain ⟨f, rfl⟩ : ∃ k, f = k + 1 := ⟨f - 1, by omega⟩
    have IH := ih (c + 1) f (by omega) (by omega)
    have ix : hf_ix (nI c) 7 := hp_ix (by omega) (by omega)
    have hxc := pl_LG_le hl c (by omega)
    have e5 : (5 : Int32) * nI c + nI (x c) = nI (5 * c + x c) := by rw [show (5 : Int32) = nI 5 from rfl, pk_mul, nI_add]
    obtain ⟨q1, q2, q3, q4⟩ := hm.2.2.1 c (by omega)
    have B67 : ∀ t0 n, pl_M d x (c + 1) = n + t0 → Fm_md_weighs_b67 (fun z0 z1 z2 z3 z4 z5 z6 => Fm_md_weighs_l14 f z0 z1 z2 z3 z4 z5 z6) s l1 l2 l3 (nI (pl_V d x c)) (nI c) (nI t0) (nI n) = pl_cmp s l1 l2 l3 (nI (pl_M d x (d 0 0))) (nI (pl_V d x (d 0 0))) := by
      intro t0 n hM
      unfold Fm_md_weighs_b67
      simp only [hp_gd ix, hp_let, hp_cl (show c < 2147483648 by omega), hp_succ, nI_add, hx c (show c < d 0 0 by omega), hm.2.1, e5, hp_a0]
      by_cases e : x c < d 0 1
      · obtain ⟨p1, p2, p3⟩ := hm.2.2.2.2 c (x c) (by omega) e (pl_need (hl c (by omega)) e).1
        rw [if_neg (hp_nle e (by omega)), hp_gd (hp_ix (show 5 * c + x c < 35 by omega) (by omega)), hp_cl (by omega), p3, nI_add]
        rw [hM, pl_V, if_pos e] at IH
        exact IH
      · rw [if_pos (by rw [hp_le, hp_nI (by omega), hp_nI (by omega)]; omega)]
        rw [hM, pl_V, if_neg e] at IH
        exact IH
    have B66 : pl_M d x (c + 1) = pl_M d x c → Fm_md_weighs_b66 (fun z0 z1 z2 z3 z4 z5 z6 => Fm_md_weighs_l14 f z0 z1 z2 z3 z4 z5 z6) s l1 l2 l3 (nI (pl_V d x c)) (nI c) (nI (pl_M d x c)) = pl_cmp s l1 l2 l3 (nI (pl_M d x (d 0 0))) (nI (pl_V d x (d 0 0))) := by
      intro hM
      unfold Fm_md_weighs_b66
      exact B67 0 (pl_M d x c) (by rw [hM, Nat.add_zero])
    rw [Fm_md_weighs_l14, hm.1, if_neg (hp_nle (by omega) (by omega))]
    simp only [hp_gd ix, hp_cl (show c < 2147483648 by omega)]
    rcases q1 with ⟨n0, m0⟩ | ⟨n1, m1⟩
    · rw [if_pos m0]
      exact B66 (by rw [pl_M, if_neg (by omega)]; rfl)
    · rw [if_neg (by rw [m1]; decide)]
      have h55 := ok.2.2.2.2.2 c
      by_cases e0 : d 5 c = 0
      · rw [q4, if_pos e0, if_pos (by decide)]
        exact B66 (by rw [pl_M, if_neg (by omega)]; rfl)
      · rw [q4, if_neg e0, if_neg (by rw [hp_lt, hp_nI (by omega), hp_0]; omega), hx c (by omega)]
        by_cases e1 : d 5 c = x c + 1
        · rw [if_pos (by rw [nI_eq (by omega) (by omega)]; omega)]
          exact B66 (by rw [pl_M, if_neg (by omega)]; rfl)
        · rw [if_neg (by rw [nI_eq (by omega) (by omega)]; omega)]
          exact B67 1 (pl_M d x c) (by rw [pl_M, if_pos ⟨n1, e0, e1⟩])
theorem pl_best_l {d : pl_D} (ok : pl_ok d) : ∀ m c s f, c + m = d 0 0 → m < f → s.1 0 1 = nI (d 0 0) → ∃ s', Fm_md_weighs_l241 f s (nI c) = some s' ∧ s'.1 = s.1 ∧ (∀ a, ¬ a = 34 → s'.2 a = s.2 a) ∧ ∀ i, i < d 0 0 → s'.2 34 i = if c ≤ i then s.2 33 i else s.2 34 i := by
  have h7 := ok.1
  intro m
  induction m with
  | zero =>
    intro c s f hc hf h1
    obtain ⟨f, rfl⟩ : ∃ k, f = k + 1 := ⟨f - 1, by omega⟩
    refine ⟨s, ?_, rfl, fun _ _ => rfl, fun i hi => by rw [if_neg (by omega)]⟩
    rw [Fm_md_weighs_l241, h1, if_pos (by rw [hp_le, hp_nI (by omega), hp_nI (by omega)]; omega)]
  | succ m ih =>
    intro c s f hc hf h1
    obtain ⟨f, rfl⟩ : ∃ k, f = k + 1 := ⟨f - 1, by omega⟩
    have ix : hf_ix (nI c) 7 := hp_ix (by omega) (by omega)
    rw [Fm_md_weighs_l241, h1, if_neg (hp_nle (by omega) (by omega)), hp_gd ix, hp_gd ix, hp_let, hp_cl (by omega), hp_succ]
    obtain ⟨s', a, b, c', e⟩ := ih (c + 1) (hf_pA s 34 (upd (s.2 34) c (s.2 33 c))) f (by omega) (by omega) h1
    refine ⟨s', a, b, fun x hx => by rw [c' x hx, hf_pA_2, if_neg hx], fun i hi => ?_⟩
    rw [e i hi]
    show (if c + 1 ≤ i then s.2 33 i else upd (s.2 34) c (s.2 33 c) i) = _
    rw [hp_upd]
    by_cases e1 : i = c
    · rw [if_neg (by omega), if_pos e1, if_pos (by omega), e1]
    · rw [if_neg e1]
      by_cases e2 : c ≤ i
      · rw [if_pos (by omega), if_pos e2]
      · rw [if_neg (by omega), if_neg e2]
theorem pl_weighs {d : pl_D} {s : hf_St} {x : Nat → Nat} {b : Option (Nat → Nat)} (ok : pl_ok d) (hm : pl_m d s) (hx : ∀ i, i < d 0 0 → s.2 33 i = nI (x i)) (hl : pl_LG d x (d 0 0)) (hb : pl_bm d b s) (keep : Int32) (hk : keep = 0 ↔ ¬ d 0 2 = 1) : ∃ s', Fm_md_weighs s (nI (pl_W d x (d 0 0))) keep = some s' ∧ pl_fm s s' ∧ s'.2 33 = s.2 33 ∧ pl_bm d (if pl_bt d b x = true then some x else b) s' := by
  have h7 := ok.1
  have h8 := ok.2.2.2.1
  have bx := pl_bd h8 x (d 0 0)
  have gx := pl_G_3 d x (d 0 0)
  have z1 : ¬ (1 : Int32) = 0 := by decide
  have V0 : Fm_md_weighs_b208 s (nI (pl_W d x (d 0 0))) (nI (pl_G d x (d 0 0))) (nI (pl_M d x (d 0 0))) (nI (pl_V d x (d 0 0))) 0 = some s := by
    unfold Fm_md_weighs_b208; rw [if_pos rfl]
  obtain ⟨t, t1, t2, t3, t4⟩ : ∃ t, Fm_md_weighs_b208 s (nI (pl_W d x (d 0 0))) (nI (pl_G d x (d 0 0))) (nI (pl_M d x (d 0 0))) (nI (pl_V d x (d 0 0))) 1 = some t ∧ pl_fm s t ∧ t.2 33 = s.2 33 ∧ pl_bm d (some x) t := by
    obtain ⟨t, a1, a2, a3, a4⟩ := pl_best_l ok (d 0 0) 0 (hf_pI (hf_pI (hf_pI (hf_pI s 0 51 (nI (pl_W d x (d 0 0)))) 0 52 (nI (pl_G d x (d 0 0)))) 0 53 (nI (pl_M d x (d 0 0)))) 0 54 (nI (pl_V d x (d 0 0)))) hf_fuel (by omega) (by unfold hf_fuel; omega) (by
      rw [hf_pI_1, if_neg (by omega), hf_pI_1, if_neg (by omega), hf_pI_1, if_neg (by omega), hf_pI_1, if_neg (by omega)]; exact hm.1)
    refine ⟨t, ?_, ⟨fun k q => ?_, fun a q => ?_⟩, ?_, Or.inr ⟨x, rfl, ?_, ?_, ?_, ?_, fun i hi => ?_⟩⟩
    · unfold Fm_md_weighs_b208
      rw [if_neg z1, hp_let, hp_let, hp_let, hp_let]
      exact a1
    · rw [a2, hf_pI_1, if_neg (by omega), hf_pI_1, if_neg (by omega), hf_pI_1, if_neg (by omega), hf_pI_1, if_neg (by omega)]
    · rw [a3 a (by omega)]; rfl
    · rw [a3 33 (by omega)]; rfl
    · rw [a2]; rfl
    · rw [a2]; rfl
    · rw [a2]; rfl
    · rw [a2]; rfl
    · rw [a4 i hi, if_pos (Nat.zero_le _)]
      exact hx i hi
  have main : Fm_md_weighs s (nI (pl_W d x (d 0 0))) keep = if pl_bt d b x = true then some t else some s := by
    unfold Fm_md_weighs
    have L : Fm_md_weighs_l14 hf_fuel s (nI (pl_W d x (d 0 0))) keep (nI (pl_G d x (d 0 0))) 0 0 0 = _ := pl_weigh_l ok hm hx hl (nI (pl_W d x (d 0 0))) keep (nI (pl_G d x (d 0 0))) (d 0 0) 0 hf_fuel (by omega) (by unfold hf_fuel; omega)
    rw [pl_parted ok hm hx (pl_LG_le hl), hp_b1, L]
    unfold pl_cmp Fm_md_weighs_b194
    rw [V0, t1]
    rcases hb with ⟨e, e51⟩ | ⟨y, e, e51, e52, e53, e54, ey⟩
    · rw [e, e51, if_neg (by rw [nI_eq (by omega) (by omega)]; omega), if_neg (by rw [hp_le, hp_nI (by omega), hp_nI (by omega)]; omega)]
      rfl
    · have by' := pl_bd h8 y (d 0 0)
      have gy := pl_G_3 d y (d 0 0)
      have O := pl_ord h8 x y h7
      rw [e, e51, e52, e53, e54]
      have B : pl_bt d (some y) x = true ↔ pl_P d x (d 0 0) < pl_P d y (d 0 0) := decide_eq_true_iff
      have D : ∀ p : Prop, (pl_P d x (d 0 0) < pl_P d y (d 0 0) ↔ p) → (p → (if pl_bt d (some y) x = true then some t else some s) = some t) ∧ (¬ p → (if pl_bt d (some y) x = true then some t else some s) = some s) := by
        intro p hp
        exact ⟨fun a => if_pos (B.mpr (hp.mpr a)), fun a => if_neg (fun c => a (hp.mp (B.mp c)))⟩
      obtain ⟨D1, D2⟩ := D _ O
      by_cases w : pl_W d x (d 0 0) = pl_W d y (d 0 0)
      · rw [if_pos (by rw [w])]
        simp only [if_pos w] at D1 D2
        by_cases g : pl_G d x (d 0 0) = pl_G d y (d 0 0)
        · rw [if_pos (by rw [g])]
          simp only [if_pos g] at D1 D2
          have vv : (if d 0 2 = 1 ∧ ¬ pl_M d x (d 0 0) = pl_M d y (d 0 0) then pl_M d x (d 0 0) < pl_M d y (d 0 0) else pl_V d y (d 0 0) < pl_V d x (d 0 0)) = (pl_V d y (d 0 0) < pl_V d x (d 0 0)) → (if nI (pl_V d x (d 0 0)) ≤ nI (pl_V d y (d 0 0)) then some s else some t) = if pl_bt d (some y) x = true then some t else some s := by
            intro q
            rw [q] at D1 D2
            by_cases v : pl_V d y (d 0 0) < pl_V d x (d 0 0)
            · rw [D1 v, if_neg (hp_nle v (by omega))]
            · rw [D2 v, if_pos (by rw [hp_le, hp_nI (by omega), hp_nI (by omega)]; omega)]
          by_cases k : d 0 2 = 1
          · rw [if_neg (fun a => hk.mp a k)]
            by_cases q : pl_M d x (d 0 0) = pl_M d y (d 0 0)
            · rw [if_pos (by rw [q])]
              exact vv (if_neg (fun a => a.2 q))
            · rw [if_neg (by rw [nI_eq (by omega) (by omega)]; exact q)]
              simp only [if_pos (show d 0 2 = 1 ∧ ¬ pl_M d x (d 0 0) = pl_M d y (d 0 0) from ⟨k, q⟩)] at D1 D2
              by_cases v : pl_M d x (d 0 0) < pl_M d y (d 0 0)
              · rw [D1 v, if_neg (hp_nle v (by omega))]
              · rw [D2 v, if_pos (by rw [hp_le, hp_nI (by omega), hp_nI (by omega)]; omega)]
          · rw [if_pos (hk.mpr k)]
            exact vv (if_neg (fun a => k a.1))
        · rw [if_neg (by rw [nI_eq (by omega) (by omega)]; exact g)]
          simp only [if_neg g] at D1 D2
          by_cases v : pl_G d x (d 0 0) < pl_G d y (d 0 0)
          · rw [D1 v, if_neg (hp_nle v (by omega))]
          · rw [D2 v, if_pos (by rw [hp_le, hp_nI (by omega), hp_nI (by omega)]; omega)]
      · rw [if_neg (by rw [nI_eq (by omega) (by omega)]; exact w)]
        simp only [if_neg w] at D1 D2
        by_cases v : pl_W d x (d 0 0) < pl_W d y (d 0 0)
        · rw [D1 v, if_neg (hp_nle v (by omega))]
        · rw [D2 v, if_pos (by rw [hp_le, hp_nI (by omega), hp_nI (by omega)]; omega)]
  rw [main]
  by_cases e : pl_bt d b x = true
  · rw [if_pos e, if_pos e]; exact ⟨t, rfl, t2, t3, t4⟩
  · rw [if_neg e, if_neg e]; exact ⟨s, rfl, pl_fmf s, rfl, hb⟩
/-! the reference's search -/
def pl_T : Nat → Nat
  | 0 => 0
  | m + 1 => 6 * (1 + pl_T m) + 1
theorem pl_W_mono (d : pl_D) (y : Nat → Nat) (k : Nat) : ∀ m, pl_W d y k ≤ pl_W d y (k + m) := by
  intro m
  induction m with
  | zero => exact Nat.le_refl _
  | succ m ih => rw [← Nat.add_assoc, pl_W]; omega
/-- what is left out for those without a home is no better -/
theorem pl_cut {d : pl_D} (ok : pl_ok d) {x : Nat → Nat} {k m : Nat} {b : Option (Nat → Nat)} {s : hf_St} (hb : pl_bm d b s) (hk : k + m = d 0 0) (hlt : s.1 0 51 < nI (pl_W d x k)) : pl_S d m k x b = b := by
  have h7 := ok.1
  have h8 := ok.2.2.2.1
  have bx := pl_bd h8 x k
  refine pl_prune d b m k x hk (fun y e _ => ?_)
  rcases hb with ⟨e', e51⟩ | ⟨z, e', e51, _⟩
  · rw [e51, hp_lt, hp_nI (by omega), hp_nI (by omega)] at hlt
    omega
  · have bz := pl_bd h8 z (d 0 0)
    rw [e51, hp_lt, hp_nI (by omega), hp_nI (by omega)] at hlt
    have h1 := pl_W_mono d y k m
    rw [hk, (pl_cg (d := d) k e).1] at h1
    rw [e']
    refine decide_eq_false ?_
    rw [pl_ord h8 y z h7, if_neg (by omega)]
    omega
theorem pl_dfs {d : pl_D} (ok : pl_ok d) (keep : Int32) (hkp : keep = 0 ↔ ¬ d 0 2 = 1) : ∀ m k x b s f, k + m = d 0 0 → 1 ≤ m → pl_LG d x k → pl_m d s → (∀ i, i < k → s.2 33 i = nI (x i)) → (∀ i, k ≤ i → i < d 0 0 → s.2 33 i = -1) → pl_bm d b s → pl_T m ≤ f → ∃ f' s', f ≤ f' + pl_T m ∧ Fm_md_place_l139 f s keep (nI k) (nI (pl_W d x k)) = Fm_md_place_l139 f' s' keep (nI k + (-1)) (nI (pl_W d x k)) ∧ pl_fm s s' ∧ (∀ i, i < k → s'.2 33 i = nI (x i)) ∧ (∀ i, k ≤ i → i < d 0 0 → s'.2 33 i = -1) ∧ pl_bm d (pl_S d m k x b) s' := by
  have h7 := ok.1
  have h5 := ok.2.1
  have h8 := ok.2.2.2.1
  intro m
  induction m with
  | zero => intro k x b s f _ h; omega
  | succ m IH =>
    intro k x b s f hk _ hl hm hx hy hb hf
    have ix : hf_ix (nI k) 7 := hp_ix (by omega) (by omega)
    have ck : (nI k).toNatClampNeg = k := hp_cl (by omega)
    have nd := (fun (s : hf_St) (hm : pl_m d s) => (hm.2.2.1 k (by omega)).1)
    have inner : ∀ n h b s f, h + n = d 0 1 + 1 → pl_m d s → (∀ i, i < k → s.2 33 i = nI (x i)) → s.2 33 k = (if h = 0 then -1 else nI (h - 1)) → (∀ i, k < i → i < d 0 0 → s.2 33 i = -1) → pl_bm d b s → n * (1 + pl_T m) + 1 ≤ f → ∃ f' s', f ≤ f' + (n * (1 + pl_T m) + 1) ∧ Fm_md_place_l139 f s keep (nI k) (nI (pl_W d x k + (if n = 0 ∧ d 1 k = 1 then 1 else 0))) = Fm_md_place_l139 f' s' keep (nI k + (-1)) (nI (pl_W d x k)) ∧ pl_fm s s' ∧ (∀ i, i < k → s'.2 33 i = nI (x i)) ∧ (∀ i, k ≤ i → i < d 0 0 → s'.2 33 i = -1) ∧ pl_bm d (pl_lp (pl_S d m (k + 1)) d k x n h b) s' := by
      intro n
      induction n with
      | zero =>
        intro h b s f hh hm hx hxk hy hb hf
        obtain ⟨f, rfl⟩ : ∃ k, f = k + 1 := ⟨f - 1, by omega⟩
        have e : s.2 33 k = nI (d 0 1) := by rw [hxk, if_neg (by omega), show h - 1 = d 0 1 by omega]
        refine ⟨f, hf_pA s 33 (upd (s.2 33) k (-1)), by omega, ?_, pl_fmA (by omega), fun i hi => ?_, fun i h1 h2 => ?_, ?_⟩
        · rw [Fm_md_place_l139, hm.1, if_neg (by rw [hp_le, hp_nI (by omega), hp_0]; omega), if_neg (by rw [hp_lt, hp_nI (by omega), hp_0]; omega), hp_gd ix, ck, e, hm.2.1, if_pos rfl, hp_gd ix]
          unfold Fm_md_place_b178
          simp only [hp_gd ix, hp_let, ck]
          rcases nd s hm with ⟨n0, m0⟩ | ⟨n1, m1⟩
          · rw [if_pos m0, if_neg (show ¬ (True ∧ d 1 k = 1) by omega), Nat.add_zero, show nI (pl_W d x k) - 0 = nI (pl_W d x k) from Int32.sub_zero _]
          · rw [if_neg (by rw [m1]; decide), if_pos (show (True ∧ d 1 k = 1) from ⟨trivial, n1⟩), nI_pred]
        · show upd (s.2 33) k (-1) i = _
          rw [hp_upd, if_neg (by omega)]; exact hx i hi
        · show upd (s.2 33) k (-1) i = _
          rw [hp_upd]
          by_cases hik : i = k
          · rw [if_pos hik]
          · rw [if_neg hik]; exact hy i (by omega) h2
        · exact hb
      | succ n ihn =>
        intro h b s f hh hm hx hxk hy hb hf
        obtain ⟨f, rfl⟩ : ∃ k, f = k + 1 := ⟨f - 1, by omega⟩
        have eT : (n + 1) * (1 + pl_T m) = n * (1 + pl_T m) + (1 + pl_T m) := Nat.succ_mul n (1 + pl_T m)
        rw [eT] at hf ⊢
        generalize hnT : n * (1 + pl_T m) = nT at *
        generalize hxh : pl_set x k h = xh at *
        have xk : xh k = h := by rw [← hxh, pl_set_k]
        have xi : ∀ i, i < k → xh i = x i := fun i hi => by rw [← hxh, pl_set_n x hi]
        have Wx : pl_W d xh k = pl_W d x k := (pl_cg (d := d) k xi).1
        have W1 : pl_W d xh (k + 1) = pl_W d x k + (if n = 0 ∧ d 1 k = 1 then 1 else 0) := by
          rw [pl_W, Wx, xk]
          by_cases e : h = d 0 1
          · by_cases e2 : d 1 k = 1
            · rw [if_pos ⟨e, e2⟩, if_pos ⟨by omega, e2⟩]
            · rw [if_neg (fun a => e2 a.2), if_neg (fun a => e2 a.2)]
          · rw [if_neg (fun a => e a.1), if_neg (fun a => e (by omega))]
        obtain ⟨s1, es1⟩ : ∃ s1, s1 = hf_pA s 33 (upd (s.2 33) k (nI h)) := ⟨_, rfl⟩
        have f1 : pl_fm s s1 := by rw [es1]; exact pl_fmA (by omega)
        have hm1 := pl_mf hm f1
        have r33 : ∀ i, s1.2 33 i = if i = k then nI h else s.2 33 i := fun i => by rw [es1]; rfl
        have x1 : ∀ i, i ≤ k → s1.2 33 i = nI (xh i) := by
          intro i hi
          rw [r33]
          by_cases hik : i = k
          · rw [if_pos hik, hik, xk]
          · rw [if_neg hik, hx i (by omega), xi i (by omega)]
        have y1 : ∀ i, k + 1 ≤ i → i < d 0 0 → s1.2 33 i = -1 := by
          intro i h1 h2
          rw [r33, if_neg (by omega)]; exact hy i (by omega) h2
        have b1 : pl_bm d b s1 := by rw [es1]; exact hb
        have bW := pl_bd h8 xh (k + 1)
        -- one step of the loop
        have step : Fm_md_place_l139 (f + 1) s keep (nI k) (nI (pl_W d x k)) = Fm_md_place_b231 (fun z0 z1 z2 z3 => Fm_md_place_l139 f z0 z1 z2 z3) s1 keep (nI k) (nI (if n = 0 ∧ d 1 k = 1 then 1 else 0)) (nI (pl_W d x k)) := by
          have ne : ¬ s.2 33 k = nI (d 0 1) := by
            rw [hxk]
            by_cases h0 : h = 0
            · rw [if_pos h0, hp_eq, hp_m1, hp_nI (by omega)]; omega
            · rw [if_neg h0, nI_eq (by omega) (by omega)]; omega
          have inc : s.2 33 k + 1 = nI h := by
            rw [hxk]
            by_cases h0 : h = 0
            · rw [if_pos h0, h0]; rfl
            · rw [if_neg h0, hp_succ, Nat.sub_add_cancel (by omega)]
          rw [Fm_md_place_l139, hm.1, if_neg (by rw [hp_le, hp_nI (by omega), hp_0]; omega), if_neg (by rw [hp_lt, hp_nI (by omega), hp_0]; omega), hp_gd ix, ck, hm.2.1, if_neg ne, hp_gd ix, hp_gd ix, hp_let, inc, ← es1, hp_gd ix, r33, if_pos rfl, hm1.2.1]
          unfold Fm_md_place_b230
          by_cases e : h = d 0 1
          · rw [if_pos (by rw [e]), hp_gd ix]
            rcases nd s1 hm1 with ⟨n0, m0⟩ | ⟨n1, m1⟩
            · rw [if_pos m0, if_neg (show ¬ (n = 0 ∧ d 1 k = 1) by omega)]; rfl
            · rw [if_neg (by rw [m1]; decide), if_pos (show (n = 0 ∧ d 1 k = 1) from ⟨by omega, n1⟩)]; rfl
          · rw [if_neg (by rw [nI_eq (by omega) (by omega)]; exact e), if_neg (show ¬ (n = 0 ∧ d 1 k = 1) by omega)]; rfl
        -- what is done at this home
        have mid : ∃ f1 s2, f ≤ f1 + pl_T m ∧ Fm_md_place_b231 (fun z0 z1 z2 z3 => Fm_md_place_l139 f z0 z1 z2 z3) s1 keep (nI k) (nI (if n = 0 ∧ d 1 k = 1 then 1 else 0)) (nI (pl_W d x k)) = Fm_md_place_l139 f1 s2 keep (nI k) (nI (pl_W d xh (k + 1))) ∧ pl_fm s1 s2 ∧ (∀ i, i < k + 1 → s2.2 33 i = nI (xh i)) ∧ (∀ i, k + 1 ≤ i → i < d 0 0 → s2.2 33 i = -1) ∧ pl_bm d (if pl_let d xh k = true then pl_S d m (k + 1) xh b else b) s2 := by
          unfold Fm_md_place_b231
          rw [hp_let, nI_add, ← W1]
          by_cases hcut : s1.1 0 51 < nI (pl_W d xh (k + 1))
          · rw [if_pos hcut]
            have c := pl_cut ok (m := m) b1 (by omega) hcut
            refine ⟨f, s1, by omega, rfl, pl_fmf s1, fun i hi => x1 i (by omega), y1, ?_⟩
            rw [c]
            split <;> exact b1
          · rw [if_neg hcut, pl_isLet ok hm1 (by omega) x1 (fun i hi => by
              by_cases hik : i = k
              · rw [hik, xk]; omega
              · rw [xi i (by omega)]; exact pl_LG_le hl i (by omega)) (fun i hi hlt => by
              rw [xi i hi] at hlt
              exact (pl_need (hl i hi) hlt).1), hp_b1]
            by_cases hlet : pl_let d xh k = true
            · rw [if_pos hlet, if_neg (show ¬ (1 : Int32) = 0 by decide), if_pos hlet, hm1.1, hp_succ]
              have lg : pl_LG d xh (k + 1) := by rw [← hxh]; exact pl_LG_set hl (by rw [hxh]; exact hlet)
              by_cases hlast : k + 1 < d 0 0
              · rw [if_neg (hp_nle hlast (by omega))]
                obtain ⟨f2, s2, g1, g2, g3, g4, g5, g6⟩ := IH (k + 1) xh b s1 f (by omega) (by omega) lg hm1 (fun i hi => x1 i (by omega)) y1 b1 (by omega)
                rw [pk_m1] at g2
                exact ⟨f2, s2, g1, g2, g3, g4, g5, g6⟩
              · rw [if_pos (by rw [hp_le, hp_nI (by omega), hp_nI (by omega)]; omega)]
                have e0 : k + 1 = d 0 0 := by omega
                have m0 : m = 0 := by omega
                subst m0
                rw [e0]
                obtain ⟨s2, g1, g2, g3, g4⟩ := pl_weighs ok hm1 (x := xh) (fun i hi => x1 i (by omega)) (by rw [← e0]; exact lg) b1 keep hkp
                rw [g1, hp_b0]
                exact ⟨f, s2, by omega, rfl, g2, fun i hi => by rw [g3]; exact x1 i (by omega), fun i h1 h2 => by omega, g4⟩
            · rw [if_neg hlet, if_pos rfl, if_neg hlet]
              exact ⟨f, s1, by omega, rfl, pl_fmf s1, fun i hi => x1 i (by omega), y1, b1⟩
        obtain ⟨f2, s2, g1, g2, g3, g4, g5, g6⟩ := mid
        have hm2 := pl_mf hm1 g3
        obtain ⟨f3, s3, j1, j2, j3, j4, j5, j6⟩ := ihn (h + 1) (if pl_let d xh k = true then pl_S d m (k + 1) xh b else b) s2 f2 (by omega) hm2 (fun i hi => by rw [g4 i (by omega), xi i hi]) (by rw [g4 k (by omega), xk, if_neg (by omega)]; rfl) (fun i h1 h2 => g5 i (by omega) h2) g6 (by omega)
        refine ⟨f3, s3, by omega, ?_, pl_fmt f1 (pl_fmt g3 j3), j4, j5, ?_⟩
        · rw [if_neg (show ¬ (n + 1 = 0 ∧ d 1 k = 1) by omega)]
          show Fm_md_place_l139 (f + 1) s keep (nI k) (nI (pl_W d x k)) = _
          rw [step, g2, W1]; exact j2
        · rw [pl_lp, hxh]; exact j6
    have T6 : (d 0 1 + 1) * (1 + pl_T m) ≤ 6 * (1 + pl_T m) := Nat.mul_le_mul_right _ (by omega)
    have hT : pl_T (m + 1) = 6 * (1 + pl_T m) + 1 := rfl
    obtain ⟨f', s', a1, a2, a3, a4, a5, a6⟩ := inner (d 0 1 + 1) 0 b s f (by omega) hm hx (hy k (by omega) (by omega)) (fun i h1 h2 => hy i (by omega) h2) hb (by omega)
    rw [if_neg (show ¬ (d 0 1 + 1 = 0 ∧ d 1 k = 1) by omega), Nat.add_zero] at a2
    exact ⟨f', s', by omega, a2, a3, a4, a5, a6⟩
