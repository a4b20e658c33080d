/-! PLACE: the class settles. -/
/-- along the way: the first c are counted -/
def pl_SI (d : pl_D) (y : Nat → Nat) (s0 : hf_St) (c : Nat) (s : hf_St) : Prop := s.1 = s0.1 ∧ (∀ a, ¬ a = 30 → ¬ a = 31 → ¬ a = 39 → s.2 a = s0.2 a) ∧ pl_fg s (pl_N d c) (pl_W d y c) 0 (pl_M d y c) (pl_V d y c) ∧ (∀ g, g < 4 → s.2 39 g = nI (pl_gm d y g c)) ∧ ∀ i, s.2 30 i = if i < c then pl_en d (y i) else s0.2 30 i
theorem pl_settle_l {nc : Nat} {d : pl_D} {s0 σm : hf_St} (ok : pl_ok d) (d00 : d 0 0 = nc) (hch : hr_chl nc s0 σm) (dc : ∀ c, c < nc → ((d 1 c = 0 ∧ σm.2 1 c = 0) ∨ (d 1 c = 1 ∧ σm.2 1 c = 1)) ∧ s0.2 0 c = nI (d 4 c) ∧ s0.2 30 c = (if d 5 c = 0 then -1 else nI (d 5 c - 1))) (hpr : ∀ c h, c < nc → h < d 0 1 → d 1 c = 1 → d 7 (5 * c + h) = 1 → s0.2 32 (5 * c + h) = nI (d 8 (5 * c + h))) {y : Nat → Nat} (hl : pl_LG d y nc) (h41 : ∀ i, i < nc → s0.2 41 i = pl_en d (y i)) : ∀ m c s f, c + m = nc → m < f → pl_SI d y s0 c s → ∃ s', Fc_placer_settle_l17 f s (nI c) = Fc_placer_settle_l81 hf_fuel s' 1 ∧ pl_SI d y s0 nc s' := by
  have h7 := ok.1
  have h5 := ok.2.1
  have m1m : ∀ n, n < 2147483648 → ¬ nI n = (-1 : Int32) := fun n hn e => by rw [hp_eq, hp_nI hn, hp_m1] at e; omega
  intro m
  induction m with
  | zero =>
    intro c s f hc hf hs
    obtain ⟨f, rfl⟩ : ∃ k, f = k + 1 := ⟨f - 1, by omega⟩
    have e : c = nc := by omega
    subst e
    refine ⟨s, ?_, hs⟩
    rw [Fc_placer_settle_l17, Fc_children_size, hp_b1, hs.1, hch.1, if_pos (by rw [hp_le]; exact Int.le_refl _)]
  | succ m ih =>
    intro c s f hc hf hs
    obtain ⟨f, rfl⟩ : ∃ k, f = k + 1 := ⟨f - 1, by omega⟩
    obtain ⟨s1, s2, s3, s4, s5⟩ := hs
    have ix : hf_ix (nI c) 7 := hp_ix (by omega) (by omega)
    have ck : (nI c).toNatClampNeg = c := hp_cl (by omega)
    have hcs : hr_chl nc s σm := by
      unfold hr_chl at hch ⊢
      rw [s1, s2 0 (by omega) (by omega) (by omega), s2 1 (by omega) (by omega) (by omega), s2 2 (by omega) (by omega) (by omega), s2 3 (by omega) (by omega) (by omega), s2 4 (by omega) (by omega) (by omega)]
      exact hch
    have hyc := pl_LG_le hl c (by omega)
    have d5 := ok.2.2.2.2.2 c
    -- the last step at a child
    have b59 : ∀ t : hf_St, t.1 = s0.1 → (∀ a, ¬ a = 30 → ¬ a = 31 → ¬ a = 39 → t.2 a = s0.2 a) → pl_fg t (pl_N d (c + 1)) (pl_W d y (c + 1)) 0 (pl_M d y (c + 1)) (pl_V d y (c + 1)) → (∀ g, g < 4 → t.2 39 g = nI (pl_gm d y g (c + 1))) → t.2 30 = s.2 30 → ∃ s', Fc_placer_settle_b59 (fun z0 z1 => Fc_placer_settle_l17 f z0 z1) t (nI c) = Fc_placer_settle_l81 hf_fuel s' 1 ∧ pl_SI d y s0 nc s' := by
      intro t t1 t2 t3 t4 t5
      unfold Fc_placer_settle_b59 Fc_latest_setHome
      rw [hp_gd ix, if_neg (by rw [hp_lt, hp_nI (by omega), hp_0]; omega), if_neg (by rw [hp_le, hp_nI (by omega), hp_7]; omega), hp_gd ix, hp_let, hp_b0, ck, t2 41 (by omega) (by omega) (by omega), h41 c (by omega), hp_succ]
      refine ih (c + 1) _ f (by omega) (by omega) ⟨t1, fun a e1 e2 e3 => by rw [hf_pA_2, if_neg e1]; exact t2 a e1 e2 e3, t3, t4, fun i => ?_⟩
      show upd (t.2 30) c (pl_en d (y c)) i = _
      rw [hp_upd, t5, s5]
      by_cases e : i = c
      · rw [if_pos e, if_pos (by omega), e]
      · rw [if_neg e]
        by_cases e2 : i < c
        · rw [if_pos e2, if_pos (by omega)]
        · rw [if_neg e2, if_neg (by omega)]
    rw [Fc_placer_settle_l17, Fc_children_size, hp_b1, s1, hch.1, if_neg (hp_nle (by omega) (by omega)), fc_hasNeedN hcs (show c < nc by omega), hp_b1]
    obtain ⟨nd, gr, had⟩ := dc c (by omega)
    rcases nd with ⟨n0, m0⟩ | ⟨n1, m1⟩
    · rw [if_pos ((hp_t0 _).mpr (fun e => e m0))]
      have yn : y c = d 0 1 := by
        rcases (pl_let_iff d y c).mp (hl c (by omega)) with e | e
        · exact e
        · have := e.1.2.1; omega
      refine b59 s s1 s2 ?_ (fun g hg => ?_) rfl
      · have a1 : pl_N d (c + 1) = pl_N d c := by unfold pl_N; rw [pl_cnt, decide_eq_false (by omega)]; rfl
        have a2 : pl_W d y (c + 1) = pl_W d y c := by rw [pl_W, if_neg (by omega)]; rfl
        have a3 : pl_M d y (c + 1) = pl_M d y c := by rw [pl_M, if_neg (by omega)]; rfl
        have a4 : pl_V d y (c + 1) = pl_V d y c := by rw [pl_V, if_neg (by omega)]; rfl
        rw [a1, a2, a3, a4]; exact s3
      · rw [pl_gm, if_neg (by omega)]; exact s4 g hg
    · rw [if_neg (fun e => (hp_t0 _).mp e (by rw [m1]; decide))]
      obtain ⟨t3, x1, x2, x3⟩ := pl_rs0 s3 1
      have x1' : Fc_latest_raise s 0 1 = some t3 := x1
      have aN : pl_N d (c + 1) = pl_N d c + 1 := by unfold pl_N; rw [pl_cnt, decide_eq_true n1]; rfl
      rw [x1', hp_b0, hp_gd ix, ck, x3.2 41 (by omega), s2 41 (by omega) (by omega) (by omega), h41 c (by omega)]
      -- b28
      have b28 : ∀ t : hf_St, t.1 = s0.1 → (∀ a, ¬ a = 31 → t.2 a = s.2 a) → pl_fg t (pl_N d (c + 1)) (pl_W d y c) 0 (pl_M d y (c + 1)) (pl_V d y c) → ∃ s', hf_b0 (Fc_placer_countChild_b28 t (nI c) (pl_en d (y c))) (fun s4 => Fc_placer_settle_b59 (fun z0 z1 => Fc_placer_settle_l17 f z0 z1) s4 (nI c)) = Fc_placer_settle_l81 hf_fuel s' 1 ∧ pl_SI d y s0 nc s' := by
        intro t t1 t2 t3
        unfold Fc_placer_countChild_b28 pl_en
        by_cases e : y c < d 0 1
        · rw [if_pos e, if_neg (m1m _ (by omega))]
          obtain ⟨_, fit, _⟩ := pl_need (hl c (by omega)) e
          have d4 := ok.2.2.2.2.1 c
          have i4 : hf_ix (nI (d 4 c)) 4 := hp_ix (by omega) (by omega)
          have c4 : (nI (d 4 c)).toNatClampNeg = d 4 c := hp_cl (by omega)
          have e5 : nI c * 5 + nI (y c) = nI (5 * c + y c) := by rw [show (5 : Int32) = nI 5 from rfl, pk_mul, nI_add, Nat.mul_comm c 5]
          have GO : Fc_children_groupOf t (nI c) = some (nI (d 4 c)) := by
            unfold Fc_children_groupOf
            rw [fc_has_c (s := t) (n := nc) (by rw [t1]; exact hch.1) (by omega), hp_b1, if_neg (fun e => (hp_t0 _).mp e (by rw [hp_nI (by omega)]; omega)), hp_gd ix, ck, t2 0 (by omega), s2 0 (by omega) (by omega) (by omega), gr]
          have orr : t.2 39 (d 4 c) ||| (1 : Int32) <<< (nI (y c) &&& 31) = nI (pl_gm d y (d 4 c) c ||| 2 ^ (y c)) := by
            rw [t2 39 (by omega), s4 (d 4 c) (by omega), pl_sh (y c) (by omega), fa_or]
          rw [GO, hp_b1, hp_gd i4, hp_gd i4, hp_let, c4, orr, e5, hp_gd (hp_ix (show 5 * c + y c < 35 by omega) (by omega)), hp_cl (by omega)]
          have ew : (hf_pA t 39 (upd (t.2 39) (d 4 c) (nI (pl_gm d y (d 4 c) c ||| 2 ^ (y c))))).2 32 (5 * c + y c) = nI (d 8 (5 * c + y c)) := by
            show t.2 32 (5 * c + y c) = _
            rw [t2 32 (by omega), s2 32 (by omega) (by omega) (by omega)]
            exact hpr c (y c) (by omega) e n1 fit
          have t3' : pl_fg (hf_pA t 39 (upd (t.2 39) (d 4 c) (nI (pl_gm d y (d 4 c) c ||| 2 ^ (y c))))) (pl_N d (c + 1)) (pl_W d y c) 0 (pl_M d y (c + 1)) (pl_V d y c) := t3
          obtain ⟨u, u1, u2, u3⟩ := pl_rs4 t3' (d 8 (5 * c + y c))
          rw [ew, u1, hp_b0, hp_b0]
          refine b59 u (by rw [u3.1]; exact t1) (fun a e1 e2 e3 => by rw [u3.2 a e2, hf_pA_2, if_neg e3, t2 a e2]; exact s2 a e1 e2 e3) ?_ (fun g hg => ?_) (by rw [u3.2 30 (by omega)]; exact t2 30 (by omega))
          · have a2 : pl_W d y (c + 1) = pl_W d y c := by rw [pl_W, if_neg (by omega)]; rfl
            have a4 : pl_V d y (c + 1) = pl_V d y c + d 8 (5 * c + y c) := by rw [pl_V, if_pos e]
            rw [a2, a4]; exact u2
          · rw [u3.2 39 (by omega)]
            show upd (t.2 39) (d 4 c) (nI (pl_gm d y (d 4 c) c ||| 2 ^ (y c))) g = _
            rw [hp_upd, pl_gm]
            by_cases eg : g = d 4 c
            · rw [if_pos eg, if_pos ⟨eg.symm, e⟩, eg]
            · rw [if_neg eg, if_neg (fun a => eg a.1.symm), t2 39 (by omega)]; exact s4 g hg
        · rw [if_neg e, if_pos rfl]
          obtain ⟨u, u1, u2, u3⟩ := pl_rs1 t3 1
          have u1' : Fc_latest_raise t 1 1 = some u := u1
          rw [u1', hp_b0, hp_b0]
          refine b59 u (by rw [u3.1]; exact t1) (fun a e1 e2 e3 => by rw [u3.2 a e2, t2 a e2]; exact s2 a e1 e2 e3) ?_ (fun g hg => ?_) (by rw [u3.2 30 (by omega)]; exact t2 30 (by omega))
          · have a2 : pl_W d y (c + 1) = pl_W d y c + 1 := by rw [pl_W, if_pos ⟨by omega, n1⟩]
            have a4 : pl_V d y (c + 1) = pl_V d y c := by rw [pl_V, if_neg e]; rfl
            rw [a2, a4]; exact u2
          · rw [u3.2 39 (by omega), t2 39 (by omega), pl_gm, if_neg (fun a => e a.2)]; exact s4 g hg
      have t31 : t3.1 = s0.1 := by rw [x3.1]; exact s1
      unfold Fc_placer_countChild Fc_latest_homeOf
      rw [if_neg (by rw [hp_lt, hp_nI (by omega), hp_0]; omega), if_neg (by rw [hp_le, hp_nI (by omega), hp_7]; omega), hp_gd ix, ck, hp_b1, x3.2 30 (by omega), s5, if_neg (show ¬ c < c by omega), had]
      by_cases e0 : d 5 c = 0
      · rw [if_pos e0, if_pos rfl]
        have aM : pl_M d y (c + 1) = pl_M d y c := by rw [pl_M, if_neg (by omega)]; rfl
        exact b28 t3 t31 (fun a ha => x3.2 a ha) (by rw [aN, aM]; exact x2)
      · rw [if_neg e0, if_neg (m1m _ (by omega))]
        by_cases e1 : d 5 c = y c + 1
        · have aM : pl_M d y (c + 1) = pl_M d y c := by rw [pl_M, if_neg (by omega)]; rfl
          rw [if_pos (show nI (d 5 c - 1) = pl_en d (y c) by unfold pl_en; rw [if_pos (by omega), show d 5 c - 1 = y c by omega])]
          exact b28 t3 t31 (fun a ha => x3.2 a ha) (by rw [aN, aM]; exact x2)
        · have aM : pl_M d y (c + 1) = pl_M d y c + 1 := by rw [pl_M, if_pos ⟨n1, e0, e1⟩]
          rw [if_neg (show ¬ nI (d 5 c - 1) = pl_en d (y c) by
            unfold pl_en
            by_cases e : y c < d 0 1
            · rw [if_pos e, nI_eq (by omega) (by omega)]; omega
            · rw [if_neg e]; exact m1m _ (by omega))]
          obtain ⟨u, u1, u2, u3⟩ := pl_rs3 x2 1
          have u1' : Fc_latest_raise t3 3 1 = some u := u1
          rw [u1', hp_b0]
          exact b28 u (by rw [u3.1]; exact t31) (fun a ha => by rw [u3.2 a ha, x3.2 a ha]) (by rw [aN, aM]; exact u2)
theorem pl_groups {d : pl_D} (ok : pl_ok d) {y : Nat → Nat} {k n0 n1 n3 n4 : Nat} : ∀ m g s f n2, g + m = 4 → 1 ≤ g → m < f → pl_fg s n0 n1 n2 n3 n4 → (∀ g, g < 4 → s.2 39 g = nI (pl_gm d y g k)) → ∃ s' n2', Fc_placer_settle_l81 f s (nI g) = some s' ∧ pl_fg s' n0 n1 n2' n3 n4 ∧ pl_x31 s s' ∧ n2' = n2 + (if g ≤ 1 then pl_pt (pl_gm d y 1 k) else 0) + (if g ≤ 2 then pl_pt (pl_gm d y 2 k) else 0) + (if g ≤ 3 then pl_pt (pl_gm d y 3 k) else 0) := by
  intro m
  induction m with
  | zero =>
    intro g s f n2 hg h1 hf hs h39
    obtain ⟨f, rfl⟩ : ∃ k, f = k + 1 := ⟨f - 1, by omega⟩
    have e : g = 4 := by omega
    subst e
    refine ⟨s, n2, ?_, hs, ⟨rfl, fun _ _ => rfl⟩, rfl⟩
    rw [Fc_placer_settle_l81, if_pos (by decide)]
  | succ m ih =>
    intro g s f n2 hg h1 hf hs h39
    obtain ⟨f, rfl⟩ : ∃ k, f = k + 1 := ⟨f - 1, by omega⟩
    have glt := pl_gm_lt ok y g k
    have g7 := pl_pop_7 (pl_gm d y g k) (by omega)
    have step : ∃ t, Fc_placer_settle_l81 (f + 1) s (nI g) = Fc_placer_settle_l81 f t (nI (g + 1)) ∧ pl_fg t n0 n1 (n2 + pl_pt (pl_gm d y g k)) n3 n4 ∧ pl_x31 s t := by
      rw [Fc_placer_settle_l81, if_neg (by rw [hp_lt, hp_3, hp_nI (by omega)]; omega), hp_gd (hp_ix (show g < 4 by omega) (by omega)), hp_cl (by omega), h39 g (by omega), pl_bc s (by omega), hp_b1]
      unfold Fc_placer_settle_b109
      by_cases e : 2 ≤ pl_pop (pl_gm d y g k)
      · have ep : pl_pt (pl_gm d y g k) = 1 := if_pos e
        obtain ⟨t, a1, a2, a3⟩ := pl_rs2 hs 1
        have a1' : Fc_latest_raise s 2 1 = some t := a1
        rw [if_neg (by rw [hp_le, hp_1, hp_nI (by omega)]; omega), a1', hp_b0, hp_succ, ep]
        exact ⟨t, rfl, a2, a3⟩
      · have ep : pl_pt (pl_gm d y g k) = 0 := if_neg e
        obtain ⟨t, a1, a2, a3⟩ := pl_rs2 hs 0
        have a1' : Fc_latest_raise s 2 0 = some t := a1
        rw [if_pos (by rw [hp_le, hp_1, hp_nI (by omega)]; omega), a1', hp_b0, hp_succ, ep]
        exact ⟨t, rfl, a2, a3⟩
    obtain ⟨t, b1, b2, b3⟩ := step
    obtain ⟨s', n2', c1, c2, c3, c4⟩ := ih (g + 1) t f (n2 + pl_pt (pl_gm d y g k)) (by omega) (by omega) (by omega) b2 (fun g hg => by rw [b3.2 39 (by omega)]; exact h39 g hg)
    refine ⟨s', n2', by rw [b1]; exact c1, c2, ⟨by rw [c3.1, b3.1], fun r hr => by rw [c3.2 r hr, b3.2 r hr]⟩, ?_⟩
    rw [c4]
    rcases (show g = 1 ∨ g = 2 ∨ g = 3 by omega) with rfl | rfl | rfl <;> simp <;> omega
theorem fc_place {t nc nh np nf nt nr : Nat} {σc σm : hf_St} (hn : hr_n t nc nh np nf nt nr σc σm) (a : Int32) {d : pl_D} (hd : d = pl_dd σm nc nh np nf nr t (if a = 0 then 0 else 1)) {y : Nat → Nat} (hy : pl_S d nc 0 (fun _ => 0) none = some y) (hl : pl_LG d y nc) : ∃ s', Fc_hf_place σc a = some (nI (pl_W d y nc), s') ∧ (∀ j k, j < 7 → s'.1 j k = σc.1 j k) ∧ (∀ r, r < 22 → s'.2 r = σc.2 r) ∧ pl_fg s' (pl_N d nc) (pl_W d y nc) (pl_G d y nc) (pl_M d y nc) (pl_V d y nc) ∧ ∀ i, s'.2 30 i = if i < nc then pl_en d (y i) else σc.2 30 i := by
  have h7 := hn.2.1.2.2.1
  have h5 := hn.2.2.1.2.2.1
  obtain ⟨ok, d00, d01, d02, dc, dh, df⟩ := pl_dd_all hn _ hd
  -- the weighing
  have W : ∃ s1, Fc_placer_weigh σc a (σc.1 0 10) = some s1 ∧ pl_WI d σc nh nc 0 s1 := by
    have w0 : pl_WI d σc nh 0 0 σc := ⟨hq_wrf σc, fun c' h' h1 => by omega, fun c' h1 => by omega⟩
    unfold Fc_placer_weigh
    rw [hn.1.1]
    by_cases e : a = 0
    · rw [if_pos e]
      exact pl_weigh_c hn hd (mv := 0) (by rw [d02, if_pos e]; rfl) nc 0 σc hf_fuel (by omega) (by unfold hf_fuel; omega) w0
    · rw [if_neg e]
      exact pl_weigh_c hn hd (mv := 16384) (by rw [d02, if_neg e]; rfl) nc 0 σc hf_fuel (by omega) (by unfold hf_fuel; omega) w0
  obtain ⟨s1, e1, w1, w2, w3⟩ := W
  have hs1 := hr_frw hn w1
  have pr1 : ∀ c' h, c' < d 0 0 → h < d 0 1 → pl_PR d s1 c' h := fun c' h h1 h2 => w2 c' h (by omega) (by omega)
  obtain ⟨s2, e2, f2, r2, g2⟩ := pl_sum ok (s := s1) (by rw [d00]; exact hs1.2.1.1) (by rw [d01]; exact hs1.2.2.1.1) pr1 (fun c' h => w3 c' (by omega))
  have q2 : hq_w σc s2 := hq_wtr w1 ⟨fun j k _ => by rw [f2], fun x hx => r2 x (by omega)⟩
  obtain ⟨s3, e3, f3, r3, g3⟩ := pl_tog hn hd nc 0 s2 hf_fuel (by omega) (by unfold hf_fuel; omega) q2 (fun c' h => by omega)
  have q3 : hq_w σc s3 := hq_wtr q2 ⟨fun j k _ => by rw [f3], fun x hx => r3 x (by omega)⟩
  have p7 : 2 ^ (d 0 0) ≤ 2 ^ 7 := Nat.pow_le_pow_right (by omega) ok.1
  have p8 : (2 : Nat) ^ 7 = 128 := by decide
  obtain ⟨s4, e4, f4, r4, g4⟩ := pl_peaks ok (2 ^ (d 0 0)) 0 s3 hf_fuel (by omega) (by unfold hf_fuel; omega) (by rw [d00]; exact (hr_frw hn q3).2.1.1) (fun c hc => by rw [d00] at hc ⊢; exact g3 c hc) (fun q h => by omega)
  obtain ⟨s5, e5, f5, r5, g5⟩ := pl_f380 s4
  obtain ⟨s6, e6, f6, r6, g6⟩ := pl_f390 s5
  obtain ⟨s7, es7⟩ : ∃ s7, s7 = hf_pI s6 12 14 2147483647 := ⟨_, rfl⟩
  have n7 : ∀ j k, ¬ (j = 12 ∧ k = 14) → s7.1 j k = s1.1 j k := fun j k h => by rw [es7, hf_pI_1, if_neg h, f6, f5, f4, f3, f2]
  have a7 : ∀ r, ¬ (35 ≤ r ∧ r ≤ 39) → s7.2 r = s1.2 r := fun r h => by
    rw [es7, hf_pI_2, r6 r (by omega), r5 r (by omega), r4 r (by omega), r3 r (by omega), r2 r (by omega)]
  have c7 : pl_c d s7 := by
    refine ⟨by rw [n7 1 5 (by omega), d00]; exact hs1.2.1.1, by rw [n7 2 2 (by omega), d01]; exact hs1.2.2.1.1, fun c hc => ?_, fun h hh => ?_, fun c h hc hh => ?_, fun c hc => ?_, fun k m hk => ?_, fun m hm => ?_⟩
    · rw [a7 0 (by omega), hs1.2.1.2.2.2.1]; exact (dc c (by omega)).2.2.1
    · rw [a7 5 (by omega), hs1.2.2.1.2.2.2.1]; exact dh h (by omega)
    · rw [a7 33 (by omega)]
      rcases pr1 c h hc hh with ⟨x1, _, x3⟩ | x
      · exact Or.inl ⟨x1, x3⟩
      · exact Or.inr x
    · rw [a7 34 (by omega)]; exact w3 c (by omega)
    · have : s7.2 35 = s2.2 35 := by rw [es7, hf_pI_2, r6 35 (by omega), r5 35 (by omega), r4 35 (by omega), r3 35 (by omega)]
      rw [this]; exact g2 k m hk
    · have : s7.2 37 = s4.2 37 := by rw [es7, hf_pI_2, r6 37 (by omega), r5 37 (by omega)]
      rw [this]; exact g4 m hm
  have cs7 : pl_cs d (fun _ => 0) 0 none s7 := by
    refine ⟨fun h hh => ?_, fun g hg => ?_, fun i hi => by omega, Or.inl ⟨rfl, by rw [es7]; simp [hf_pI]⟩⟩
    · rw [es7, hf_pI_2, r6 38 (by omega), g5 h (by omega)]; rfl
    · rw [es7, hf_pI_2, g6 g hg]
      split <;> rfl
  obtain ⟨s8, e8, f8, x1, x2, x3, x4⟩ := pl_sea ok nc 0 (fun _ => 0) none s7 0 9 (by omega) (by omega) (fun c hc => by omega) c7 cs7 (by
    show (0 : Int32).toInt = pl_P d (fun _ => 0) 0
    have z : pl_G d (fun _ => 0) 0 = 0 := by show pl_pt 0 + pl_pt 0 + pl_pt 0 = 0; decide
    unfold pl_P
    rw [z]
    split <;> rfl)
  rw [hy] at x4
  have e8' : Fc_search 9 s7 0 0 = some s8 := e8
  have h41 : ∀ i, i < nc → s8.2 41 i = pl_en d (y i) := by
    rcases x4 with ⟨e, _⟩ | ⟨z, e, _, e41⟩
    · cases e
    · cases e; exact fun i hi => e41 i (by omega)
  have B : Fc_placer_findBest s1 = some s8 := by
    unfold Fc_placer_findBest Fc_placer_findTogether Fc_placer_findPeaks
    have e3' : Fc_placer_findTogether_l2 hf_fuel s2 0 = some s3 := e3
    have e4' : Fc_placer_findPeaks_l2 hf_fuel s3 0 = some s4 := e4
    rw [e2, hp_b0, e3', hp_b0, e4', hp_b0, e5, hp_b0, e6, hp_b0, hp_let, ← es7, e8', hp_b0]
  -- the settling
  have n8 : ∀ j k, ¬ (j = 12 ∧ k = 14) → s8.1 j k = s1.1 j k := fun j k h => by rw [f8.1 j k h, n7 j k h]
  have a8 : ∀ r, ¬ (35 ≤ r ∧ r ≤ 41) → s8.2 r = s1.2 r := fun r h => by rw [f8.2 r (by omega), a7 r (by omega)]
  obtain ⟨s9, e9, f9, r9, g9⟩ := pl_f310 s8
  obtain ⟨s10, e10, f10, r10, g10⟩ := pl_f390 s9
  have q8 : hq_w σc s8 := hq_wtr w1 ⟨fun j k h => n8 j k (by omega), fun x hx => a8 x (by omega)⟩
  have n10 : s10.1 = s8.1 := by rw [f10, f9]
  have a10 : ∀ r, ¬ r = 31 → ¬ r = 39 → s10.2 r = s8.2 r := fun r h1 h2 => by rw [r10 r h2, r9 r h1]
  have hch10 : hr_chl nc s10 σm := by
    have := (hr_frw hn q8).2.1
    unfold hr_chl at this ⊢
    rw [n10, a10 0 (by omega) (by omega), a10 1 (by omega) (by omega), a10 2 (by omega) (by omega), a10 3 (by omega) (by omega), a10 4 (by omega) (by omega)]
    exact this
  have c30 : ∀ i, s10.2 30 i = σc.2 30 i := fun i => by rw [a10 30 (by omega) (by omega), q8.2 30 (by omega)]
  have SI0 : pl_SI d y s10 0 s10 := by
    refine ⟨rfl, fun _ _ _ _ => rfl, ⟨?_, ?_, ?_, ?_, ?_⟩, fun g hg => ?_, fun i => by rw [if_neg (by omega)]⟩
    · rw [r10 31 (by omega), g9 0 (by omega)]; rfl
    · rw [r10 31 (by omega), g9 1 (by omega)]; rfl
    · rw [r10 31 (by omega), g9 2 (by omega)]; rfl
    · rw [r10 31 (by omega), g9 3 (by omega)]; rfl
    · rw [r10 31 (by omega), g9 4 (by omega)]; rfl
    · rw [g10 g hg]; rfl
  obtain ⟨s11, e11, SI⟩ := pl_settle_l (y := y) ok d00 hch10 (fun c hc => ⟨(dc c hc).1, by
      have := hch10.2.2.2.1
      rw [this]; exact (dc c hc).2.2.1, by
      rw [c30, hn.2.2.2.2.2.2.2.1 c (by omega), if_pos hc]; exact (dc c hc).2.2.2⟩) (fun c h hc hh hnd hfit => by
      rw [a10 32 (by omega) (by omega), a8 32 (by omega)]
      rcases pr1 c h (by omega) (by omega) with ⟨_, x, _⟩ | ⟨x, _⟩
      · exact x
      · exact absurd ⟨hnd, hfit⟩ x) hl (fun i hi => by rw [a10 41 (by omega) (by omega)]; exact h41 i hi) nc 0 s10 hf_fuel (by omega) (by unfold hf_fuel; omega) SI0
  obtain ⟨j1, j2, j3, j4, j5⟩ := SI
  obtain ⟨s12, n2, e12, k2, k3, k4⟩ := pl_groups (y := y) ok 3 1 s11 hf_fuel 0 (by omega) (by omega) (by unfold hf_fuel; omega) j3 j4
  have en2 : n2 = pl_G d y nc := by rw [k4]; unfold pl_G; simp
  rw [en2] at k2
  have S : Fc_placer_settle s8 = some s12 := by
    unfold Fc_placer_settle Fc_latest_clearFigures
    have e11' : Fc_placer_settle_l17 hf_fuel s10 0 = _ := e11
    have e12' : Fc_placer_settle_l81 hf_fuel s11 1 = some s12 := e12
    rw [e9, hp_b0, hp_b0, e10, hp_b0, e11', e12']
  refine ⟨s12, ?_, fun j k h => ?_, fun r h => ?_, k2, fun i => ?_⟩
  · unfold Fc_hf_place Fc_latest_figure
    rw [e1, hp_b0, B, hp_b0, S, hp_b0, if_neg (by decide), if_neg (by decide), hp_gd (by decide), hp_b1]
    have := k2.2.1
    have t1 : (1 : Int32).toNatClampNeg = 1 := rfl
    rw [t1, this]
  · rw [k3.1, j1, n10, q8.1 j k h]
  · rw [k3.2 r (by omega), j2 r (by omega) (by omega) (by omega), a10 r (by omega) (by omega), q8.2 r (by omega)]
  · rw [k3.2 30 (by omega), j5 i, c30]
theorem hr_place {σc σm : hf_St} (h : hr σc σm) (a : Int32) : hr_ok (Fc_hf_place σc a) (Fm_md_place σm a) := by
  obtain ⟨t, nc, nh, np, nf, nt, nr, hn⟩ := h
  obtain ⟨d, hd⟩ : ∃ d, d = pl_dd σm nc nh np nf nr t (if a = 0 then 0 else 1) := ⟨_, rfl⟩
  obtain ⟨ok, d00, d01, d02, dc, dh, df⟩ := pl_dd_all hn _ hd
  obtain ⟨sm, y, hy, hl, m1, m2, m3, m4, m5, m6, m7, m8, m9, m10⟩ := fm_place hn a hd
  obtain ⟨sc, c1, c2, c3, ⟨c4, c5, c6, c7, c8⟩, c9⟩ := fc_place hn a hd hy hl
  have h7 := hn.2.1.2.2.1
  have h5 := hn.2.2.1.2.2.1
  obtain ⟨x1, x2, x3, x4, x5, x6, x7, x8⟩ := hn
  refine ⟨_, sc, sm, c1, m1, t, nc, nh, np, nf, nt, nr, ?_, ?_, ?_, ?_, ?_, ?_, ?_, ?_⟩
  · unfold hr_clk at *
    rw [c2 0 10 (by omega), m2 0 (by omega)]; exact x1
  · unfold hr_chl hr_kid at *
    rw [c2 1 5 (by omega), m2 1 (by omega), c3 0 (by omega), c3 1 (by omega), c3 2 (by omega), c3 3 (by omega), c3 4 (by omega), m3 0 (by omega), m3 1 (by omega), m3 2 (by omega), m3 3 (by omega), m3 4 (by omega)]
    exact x2
  · unfold hr_hom at *
    rw [c2 2 2 (by omega), m2 7 (by omega), c3 5 (by omega), c3 6 (by omega), m3 5 (by omega), m3 6 (by omega)]
    exact x3
  · unfold hr_pap at *
    rw [c2 3 3 (by omega), m2 10 (by omega), c3 7 (by omega), c3 8 (by omega), c3 9 (by omega), m3 7 (by omega), m3 8 (by omega), m3 9 (by omega)]
    exact x4
  · unfold hr_fac hr_one at *
    rw [c2 4 5 (by omega), m2 14 (by omega), c3 10 (by omega), c3 11 (by omega), c3 12 (by omega), c3 13 (by omega), c3 14 (by omega), m3 10 (by omega), m3 11 (by omega), m3 12 (by omega), m3 13 (by omega), m3 14 (by omega)]
    exact x5
  · unfold hr_tap at *
    rw [c2 5 1 (by omega), m2 21 (by omega), c3 15 (by omega), m3 15 (by omega)]
    exact x6
  · unfold hr_rul hr_rule at *
    rw [c2 6 6 (by omega), m2 24 (by omega), c3 16 (by omega), c3 (16 + 1) (by omega), c3 (16 + 2) (by omega), c3 (16 + 3) (by omega), c3 (16 + 4) (by omega), c3 (16 + 5) (by omega), m3 16 (by omega), m3 (16 + 1) (by omega), m3 (16 + 2) (by omega), m3 (16 + 3) (by omega), m3 (16 + 4) (by omega), m3 (16 + 5) (by omega), m3 (16 + 6) (by omega), m3 (16 + 7) (by omega)]
    exact x7
  · refine ⟨fun i hi => ?_, fun i hi => ?_, Or.inr ⟨m4, ?_, ?_, ?_, ?_, ?_⟩⟩
    · rw [c9 i]
      by_cases e : i < nc
      · rw [if_pos e, if_pos e, m10 i e]
      · rw [if_neg e, if_neg e]
        have := x8.1 i hi
        rw [if_neg e] at this; exact this
    · rw [m10 i hi]
      unfold pl_en
      by_cases e : y i < d 0 1
      · rw [if_pos e, hp_nI (by omega)]; omega
      · rw [if_neg e, hp_m1]; omega
    · rw [c4, m5]
    · rw [c5, m6]
    · rw [c6, m7]
    · rw [c7, m8]
    · rw [c8, m9]
