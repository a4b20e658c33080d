/-! PLACE: the whole of the reference's. -/
theorem pl_nb1 : vp_nar .boolean 1 = 1 := by first | rfl | decide
theorem pl_nb0 : vp_nar .boolean 0 = 0 := by first | rfl | decide
theorem pl_init_h {t nc nh np nf nt nr : Nat} {σc σm : hf_St} (hn : hr_n t nc nh np nf nt nr σc σm) {keep : Nat} {d : pl_D} (hd : d = pl_dd σm nc nh np nf nr t keep) {c : Nat} (hc : c < nc) (hneed : ¬ σm.2 1 c = 0) (K : hf_St → Int32 → Int32 → Option (Int32 × hf_St)) (l1 : Int32) : ∀ n h s f, h + n = nh → n < f → hq_7 σm s → ∃ s', Fm_md_place_l47 K f s l1 (nI c) (nI h) = K s' l1 (nI (c + 1)) ∧ hq_7 σm s' ∧ s'.1 0 56 = s.1 0 56 ∧ s'.2 33 = s.2 33 ∧ (∀ i, i < 5 * c + h ∨ 5 * c + nh ≤ i → s'.2 35 i = s.2 35 i ∧ s'.2 36 i = s.2 36 i) ∧ ∀ h', h ≤ h' → h' < nh → s'.2 35 (5 * c + h') = nI (d 7 (5 * c + h')) ∧ s'.2 36 (5 * c + h') = nI (d 8 (5 * c + h')) := by
  have h7 := hn.2.1.2.2.1
  have h5 := hn.2.2.1.2.2.1
  obtain ⟨ok, d00, d01, d02, dc, dh, df⟩ := pl_dd_all hn keep hd
  have ix : hf_ix (nI c) 7 := hp_ix (by omega) (by omega)
  have ck : (nI c).toNatClampNeg = c := hp_cl (by omega)
  intro n
  induction n with
  | zero =>
    intro h s f hh hf hq
    obtain ⟨f, rfl⟩ : ∃ k, f = k + 1 := ⟨f - 1, by omega⟩
    refine ⟨s, ?_, hq, rfl, rfl, fun _ _ => ⟨rfl, rfl⟩, fun h' h1 h2 => by omega⟩
    rw [Fm_md_place_l47, hq.1 7 (by omega), hn.2.2.1.2.1, if_pos (by rw [hp_le, hp_nI (by omega), hp_nI (by omega)]; omega), hp_succ]
  | succ n ih =>
    intro h s f hh hf hq
    obtain ⟨f, rfl⟩ : ∃ k, f = k + 1 := ⟨f - 1, by omega⟩
    have e5 : (5 : Int32) * nI c + nI h = nI (5 * c + h) := by rw [show (5 : Int32) = nI 5 from rfl, pk_mul, nI_add]
    have i35 : hf_ix (nI (5 * c + h)) 35 := hp_ix (by omega) (by omega)
    have c35 : (nI (5 * c + h)).toNatClampNeg = 5 * c + h := hp_cl (by omega)
    obtain ⟨sm, b1, b2⟩ := fm_find7 hn hq hc (show h < nh by omega) hneed
    obtain ⟨f1, f2⟩ := df c h (by omega)
    have B87 : ∀ t0 : Int32, vp_nar .boolean t0 = nI (d 7 (5 * c + h)) → ∃ s', Fm_md_place_b87 K (fun z0 z1 z2 z3 => Fm_md_place_l47 K f z0 z1 z2 z3) sm l1 (nI c) (nI h) t0 (nI (5 * c + h)) = K s' l1 (nI (c + 1)) ∧ hq_7 σm s' ∧ s'.1 0 56 = s.1 0 56 ∧ s'.2 33 = s.2 33 ∧ (∀ i, i < 5 * c + h ∨ 5 * c + nh ≤ i → s'.2 35 i = s.2 35 i ∧ s'.2 36 i = s.2 36 i) ∧ ∀ h', h ≤ h' → h' < nh → s'.2 35 (5 * c + h') = nI (d 7 (5 * c + h')) ∧ s'.2 36 (5 * c + h') = nI (d 8 (5 * c + h')) := by
      intro t0 ht
      unfold Fm_md_place_b87
      have q1 : hq_7 σm (hf_pA sm 35 (upd (sm.2 35) (5 * c + h) (nI (d 7 (5 * c + h))))) := hq_7tr hq (hq_7tr (hq_7m b2) (hq_7A (by omega)))
      rw [hp_gd i35, hp_let, c35, ht, fm_wish7 hn q1 hc (show h < nh by omega), hp_b1, e5, hp_gd i35, hp_let, c35, hp_succ, f2]
      obtain ⟨s3, es3⟩ : ∃ s3, s3 = hf_pA (hf_pA sm 35 (upd (sm.2 35) (5 * c + h) (nI (d 7 (5 * c + h))))) 36 (upd (sm.2 36) (5 * c + h) (nI (d 8 (5 * c + h)))) := ⟨_, rfl⟩
      have q3 : hq_7 σm s3 := by rw [es3]; exact hq_7tr q1 (hq_7A (by omega))
      obtain ⟨s', a1, a2, a3, a4, a5, a6⟩ := ih (h + 1) s3 f (by omega) (by omega) q3
      have r35 : ∀ i, s3.2 35 i = if i = 5 * c + h then nI (d 7 (5 * c + h)) else s.2 35 i := fun i => by rw [es3, ← b2.2 35 (by omega)]; rfl
      have r36 : ∀ i, s3.2 36 i = if i = 5 * c + h then nI (d 8 (5 * c + h)) else s.2 36 i := fun i => by rw [es3, ← b2.2 36 (by omega)]; rfl
      refine ⟨s', ?_, a2, ?_, ?_, fun i hi => ?_, fun h' h1 h2 => ?_⟩
      · rw [es3] at a1; exact a1
      · rw [a3, es3]
        show sm.1 0 56 = _
        exact b2.1 56 (by omega)
      · rw [a4, es3]
        show sm.2 33 = _
        exact b2.2 33 (by omega)
      · rw [(a5 i (by omega)).1, (a5 i (by omega)).2, r35, r36, if_neg (by omega), if_neg (by omega)]; exact ⟨rfl, rfl⟩
      · by_cases e : h' = h
        · subst e
          rw [(a5 _ (by omega)).1, (a5 _ (by omega)).2, r35, r36, if_pos rfl, if_pos rfl]; exact ⟨rfl, rfl⟩
        · exact a6 h' (by omega) h2
    rw [Fm_md_place_l47, hq.1 7 (by omega), hn.2.2.1.2.1, if_neg (hp_nle (by omega) (by omega)), hp_gd ix, ck, hq.2 1 (by omega), if_neg hneed, b1, hp_b2, e5]
    by_cases e : pl_r σm nf np nr t c h = 0
    · rw [if_pos e]
      exact B87 1 (by rw [f1, if_pos e, pl_nb1]; rfl)
    · rw [if_neg e]
      exact B87 0 (by rw [f1, if_neg e, pl_nb0]; rfl)
/-- how many need a home -/
def pl_N (d : pl_D) (k : Nat) : Nat := pl_cnt (fun i => decide (d 1 i = 1)) k
/-- behind the reference's first loop -/
def pl_go (s : hf_St) (l1 : Int32) : Option (Int32 × hf_St) := hf_lt (hf_pI s 0 51 ((99 : Int32))) (fun s1 => (if (s1.1 0 1) = 0 then hf_b0 (Fm_md_weighs s1 ((0 : Int32)) l1) (fun s2 => Fm_md_place_l139 hf_fuel s2 l1 ((0 : Int32)) ((0 : Int32))) else Fm_md_place_l139 hf_fuel s1 l1 ((0 : Int32)) ((0 : Int32))))
theorem pl_init {t nc nh np nf nt nr : Nat} {σc σm : hf_St} (hn : hr_n t nc nh np nf nt nr σc σm) {keep : Nat} {d : pl_D} (hd : d = pl_dd σm nc nh np nf nr t keep) (l1 : Int32) : ∀ m c s f, c + m = nc → m < f → hq_7 σm s → s.1 0 56 = nI (pl_N d c) → (∀ i, i < c → s.2 33 i = -1) → (∀ c' h, c' < c → h < nh → d 1 c' = 1 → s.2 35 (5 * c' + h) = nI (d 7 (5 * c' + h)) ∧ s.2 36 (5 * c' + h) = nI (d 8 (5 * c' + h))) → ∃ s', Fm_md_place_l7 f s l1 (nI c) = pl_go s' l1 ∧ hq_7 σm s' ∧ s'.1 0 56 = nI (pl_N d nc) ∧ (∀ i, i < nc → s'.2 33 i = -1) ∧ ∀ c' h, c' < nc → h < nh → d 1 c' = 1 → s'.2 35 (5 * c' + h) = nI (d 7 (5 * c' + h)) ∧ s'.2 36 (5 * c' + h) = nI (d 8 (5 * c' + h)) := by
  have h7 := hn.2.1.2.2.1
  have h5 := hn.2.2.1.2.2.1
  obtain ⟨ok, d00, d01, d02, dc, dh, df⟩ := pl_dd_all hn keep hd
  intro m
  induction m with
  | zero =>
    intro c s f hm hf hq e56 e33 e35
    obtain ⟨f, rfl⟩ : ∃ k, f = k + 1 := ⟨f - 1, by omega⟩
    have ec : c = nc := by omega
    subst ec
    refine ⟨s, ?_, hq, e56, e33, e35⟩
    rw [Fm_md_place_l7, hq.1 1 (by omega), hn.2.1.2.1, if_pos (by rw [hp_le]; exact Int.le_refl _)]
    rfl
  | succ m ih =>
    intro c s f hm hf hq e56 e33 e35
    obtain ⟨f, rfl⟩ : ∃ k, f = k + 1 := ⟨f - 1, by omega⟩
    have ix : hf_ix (nI c) 7 := hp_ix (by omega) (by omega)
    have ck : (nI c).toNatClampNeg = c := hp_cl (by omega)
    obtain ⟨s3, es3⟩ : ∃ s3, s3 = hf_pA s 33 (upd (s.2 33) c (-1)) := ⟨_, rfl⟩
    have q3 : hq_7 σm s3 := by rw [es3]; exact hq_7tr hq (hq_7A (by omega))
    have s31 : s3.1 0 56 = nI (pl_N d c) := by rw [es3]; exact e56
    have s33 : ∀ i, i < c + 1 → s3.2 33 i = -1 := by
      intro i hi
      rw [es3]
      show upd (s.2 33) c (-1) i = -1
      rw [hp_upd]
      by_cases e : i = c
      · rw [if_pos e]
      · rw [if_neg e]; exact e33 i (by omega)
    have s35 : ∀ a, ¬ a = 33 → s3.2 a = s.2 a := fun a ha => by rw [es3, hf_pA_2, if_neg ha]
    have ih' := fun s' (q : hq_7 σm s') (w1) (w2) (w3) => ih (c + 1) s' f (by omega) (by omega) q w1 w2 w3
    rw [Fm_md_place_l7, hq.1 1 (by omega), hn.2.1.2.1, if_neg (hp_nle (by omega) (by omega)), hp_gd ix, hp_let, ck, ← es3, hp_gd ix, q3.2 1 (by omega), s31]
    unfold Fm_md_place_b41
    rw [hp_let, hp_let]
    rcases (dc c (by omega)).1 with ⟨n0, m0⟩ | ⟨n1, m1⟩
    · rw [if_pos m0, hp_a0]
      have N1 : pl_N d (c + 1) = pl_N d c := by unfold pl_N; rw [pl_cnt, decide_eq_false (by omega)]; rfl
      have L : Fm_md_place_l47 (fun z0 z1 z2 => Fm_md_place_l7 f z0 z1 z2) hf_fuel (hf_pI s3 0 56 (nI (pl_N d c))) l1 (nI c) 0 = Fm_md_place_l7 f (hf_pI s3 0 56 (nI (pl_N d c))) l1 (nI (c + 1)) := by
        obtain ⟨g, hg⟩ : ∃ g, hf_fuel = g + 1 := ⟨hf_fuel - 1, rfl⟩
        rw [hg, Fm_md_place_l47, hf_pI_2, hp_gd ix, ck, q3.2 1 (by omega), if_pos m0, hp_succ]
        split <;> rfl
      rw [L]
      refine ih' (hf_pI s3 0 56 (nI (pl_N d c))) (hq_7tr q3 (hq_7I (by omega))) (by rw [N1]; simp [hf_pI]) s33 (fun c' h h1 h2 h3 => ?_)
      rw [hf_pI_2, s35 35 (by omega), s35 36 (by omega)]
      exact e35 c' h (by
        by_cases e : c' = c
        · subst e; omega
        · omega) h2 h3
    · rw [if_neg (by rw [m1]; decide), show (1 : Int32) = nI 1 from rfl, nI_add]
      have N1 : pl_N d (c + 1) = pl_N d c + 1 := by unfold pl_N; rw [pl_cnt, decide_eq_true n1]; rfl
      obtain ⟨s', a1, a2, a3, a4, a5, a6⟩ := pl_init_h hn hd (show c < nc by omega) (by rw [m1]; decide) (fun z0 z1 z2 => Fm_md_place_l7 f z0 z1 z2) l1 nh 0 (hf_pI s3 0 56 (nI (pl_N d c + 1))) hf_fuel (by omega) (by unfold hf_fuel; omega) (hq_7tr q3 (hq_7I (by omega)))
      have a1' : Fm_md_place_l47 (fun z0 z1 z2 => Fm_md_place_l7 f z0 z1 z2) hf_fuel (hf_pI s3 0 56 (nI (pl_N d c + 1))) l1 (nI c) 0 = _ := a1
      rw [a1']
      refine ih' s' a2 (by rw [a3, N1]; simp [hf_pI]) (fun i hi => by rw [a4]; exact s33 i hi) (fun c' h h1 h2 h3 => ?_)
      by_cases e : c' = c
      · subst e; exact a6 h (Nat.zero_le _) h2
      · rw [(a5 _ (by omega)).1, (a5 _ (by omega)).2, hf_pI_2, s35 35 (by omega), s35 36 (by omega)]
        exact e35 c' h (by omega) h2 h3
theorem pl_end_l {d : pl_D} (ok : pl_ok d) {y : Nat → Nat} (hle : ∀ i, i < d 0 0 → y i ≤ d 0 1) : ∀ m i s f, i + m = d 0 0 → m < f → s.1 0 1 = nI (d 0 0) → s.1 0 7 = nI (d 0 1) → (∀ j, j < d 0 0 → s.2 34 j = nI (y j)) → ∃ s', Fm_md_place_l280 f s (nI i) = some (s'.1 0 51, s') ∧ s'.1 0 55 = 1 ∧ (∀ k, ¬ k = 55 → s'.1 0 k = s.1 0 k) ∧ (∀ a, ¬ a = 32 → s'.2 a = s.2 a) ∧ ∀ j, j < d 0 0 → s'.2 32 j = if i ≤ j then pl_en d (y j) else s.2 32 j := by
  have h7 := ok.1
  have h5 := ok.2.1
  intro m
  induction m with
  | zero =>
    intro i s f hi hf e1 e7 e34
    obtain ⟨f, rfl⟩ : ∃ k, f = k + 1 := ⟨f - 1, by omega⟩
    refine ⟨hf_pI s 0 55 1, ?_, by simp [hf_pI], fun k hk => by rw [hf_pI_1, if_neg (by omega)], fun _ _ => rfl, fun j hj => by rw [if_neg (by omega)]; rfl⟩
    rw [Fm_md_place_l280, e1, if_pos (by rw [hp_le, hp_nI (by omega), hp_nI (by omega)]; omega), hp_let]
  | succ m ih =>
    intro i s f hi hf e1 e7 e34
    obtain ⟨f, rfl⟩ : ∃ k, f = k + 1 := ⟨f - 1, by omega⟩
    have ix : hf_ix (nI i) 7 := hp_ix (by omega) (by omega)
    have hy := hle i (by omega)
    have st : Fm_md_place_l280 (f + 1) s (nI i) = Fm_md_place_l280 f (hf_pA s 32 (upd (s.2 32) i (pl_en d (y i)))) (nI (i + 1)) := by
      rw [Fm_md_place_l280, e1, if_neg (hp_nle (by omega) (by omega))]
      unfold Fm_md_place_b320
      simp only [hp_gd ix, hp_let, hp_cl (show i < 2147483648 by omega), hp_succ, e34 i (show i < d 0 0 by omega), e7]
      unfold pl_en
      by_cases e : y i < d 0 1
      · rw [if_neg (hp_nle e (by omega)), if_pos e]
      · rw [if_pos (by rw [hp_le, hp_nI (by omega), hp_nI (by omega)]; omega), if_neg e]
    rw [st]
    obtain ⟨s', a1, a2, a3, a4, a5⟩ := ih (i + 1) (hf_pA s 32 (upd (s.2 32) i (pl_en d (y i)))) f (by omega) (by omega) e1 e7 e34
    refine ⟨s', a1, a2, a3, fun a ha => by rw [a4 a ha, hf_pA_2, if_neg ha], fun j hj => ?_⟩
    rw [a5 j hj]
    show (if i + 1 ≤ j then _ else upd (s.2 32) i (pl_en d (y i)) j) = _
    rw [hp_upd]
    by_cases e : j = i
    · rw [if_neg (by omega), if_pos e, if_pos (by omega), e]
    · rw [if_neg e]
      by_cases e2 : i ≤ j
      · rw [if_pos (by omega), if_pos e2]
      · rw [if_neg (by omega), if_neg e2]
/-! there is a best -/
theorem pl_lp_some {d : pl_D} {f : (Nat → Nat) → Option (Nat → Nat) → Option (Nat → Nat)} (hf : ∀ x b, f x b ≠ none) (k : Nat) (x : Nat → Nat) : ∀ n h b, h + n = d 0 1 + 1 → (1 ≤ n ∨ b ≠ none) → pl_lp f d k x n h b ≠ none := by
  intro n
  induction n with
  | zero => intro h b _ hb; exact hb.resolve_left (by omega)
  | succ n ih =>
    intro h b hh hb
    rw [pl_lp]
    by_cases e : n = 0
    · subst e
      refine ih (h + 1) _ (by omega) (Or.inr ?_)
      rw [if_pos ((pl_let_iff d _ k).mpr (Or.inl (by rw [pl_set_k]; omega)))]
      exact hf _ _
    · exact ih (h + 1) _ (by omega) (Or.inl (by omega))
theorem pl_S_some (d : pl_D) : ∀ m k x b, pl_S d m k x b ≠ none := by
  intro m
  induction m with
  | zero =>
    intro k x b
    rw [pl_S]
    cases b with
    | none => intro h; cases h
    | some y => split <;> (intro h; cases h)
  | succ m ih =>
    intro k x b
    rw [pl_S]
    exact pl_lp_some (fun x b => ih (k + 1) x b) k x _ _ _ (by omega) (Or.inl (by omega))
theorem pl_S_LG (d : pl_D) : ∀ m k x b, k + m = d 0 0 → pl_LG d x k → (∀ y, b = some y → pl_LG d y (d 0 0)) → ∀ y, pl_S d m k x b = some y → pl_LG d y (d 0 0) := by
  intro m
  induction m with
  | zero =>
    intro k x b hk hl hb y hy
    rw [pl_S] at hy
    by_cases e : pl_bt d b x = true
    · rw [if_pos e] at hy; cases hy; rw [← hk]; exact hl
    · rw [if_neg e] at hy; exact hb y hy
  | succ m ih =>
    intro k x b hk hl hb y hy
    rw [pl_S] at hy
    have go : ∀ n h b, (∀ y, b = some y → pl_LG d y (d 0 0)) → ∀ y, pl_lp (pl_S d m (k + 1)) d k x n h b = some y → pl_LG d y (d 0 0) := by
      intro n
      induction n with
      | zero => intro h b hb y hy; exact hb y hy
      | succ n ihn =>
        intro h b hb y hy
        rw [pl_lp] at hy
        refine ihn (h + 1) _ (fun z hz => ?_) y hy
        by_cases e : pl_let d (pl_set x k h) k = true
        · rw [if_pos e] at hz
          exact ih (k + 1) _ b (by omega) (pl_LG_set hl e) hb z hz
        · rw [if_neg e] at hz; exact hb z hz
    exact go _ _ _ hb y hy
theorem fm_place {t nc nh np nf nt nr : Nat} {σc σm : hf_St} (hn : hr_n t nc nh np nf nt nr σc σm) (a : Int32) {d : pl_D} (hd : d = pl_dd σm nc nh np nf nr t (if a = 0 then 0 else 1)) : ∃ s' y, pl_S d nc 0 (fun _ => 0) none = some y ∧ pl_LG d y nc ∧ Fm_md_place σm a = some (nI (pl_W d y nc), s') ∧ (∀ k, k < 22 ∨ k = 24 → s'.1 0 k = σm.1 0 k) ∧ (∀ r, r < 24 → s'.2 r = σm.2 r) ∧ s'.1 0 55 = 1 ∧ s'.1 0 56 = nI (pl_N d nc) ∧ s'.1 0 51 = nI (pl_W d y nc) ∧ s'.1 0 52 = nI (pl_G d y nc) ∧ s'.1 0 53 = nI (pl_M d y nc) ∧ s'.1 0 54 = nI (pl_V d y nc) ∧ ∀ i, i < nc → s'.2 32 i = pl_en d (y i) := by
  have h7 := hn.2.1.2.2.1
  have h5 := hn.2.2.1.2.2.1
  obtain ⟨ok, d00, d01, d02, dc, dh, df⟩ := pl_dd_all hn _ hd
  have hkp : a = 0 ↔ ¬ d 0 2 = 1 := by
    rw [d02]
    by_cases e : a = 0
    · rw [if_pos e]; exact ⟨fun _ => by omega, fun _ => e⟩
    · rw [if_neg e]; exact ⟨fun h => absurd h e, fun h => absurd rfl h⟩
  obtain ⟨s1, a1, a2, a3, a4, a5⟩ := pl_init hn hd a nc 0 (hf_pI σm 0 56 0) hf_fuel (by omega) (by unfold hf_fuel; omega) (hq_7I (by omega)) (by simp [hf_pI]; rfl) (fun i hi => by omega) (fun c' h hh => by omega)
  have e0 : Fm_md_place σm a = pl_go s1 a := by
    unfold Fm_md_place
    rw [hp_let]; exact a1
  obtain ⟨s2, es2⟩ : ∃ s2, s2 = hf_pI s1 0 51 99 := ⟨_, rfl⟩
  have q2 : hq_7 σm s2 := by rw [es2]; exact hq_7tr a2 (hq_7I (by omega))
  have r2 : s2.2 = s1.2 := by rw [es2]; rfl
  have n56 : s2.1 0 56 = nI (pl_N d nc) := by rw [es2, hf_pI_1, if_neg (by omega)]; exact a3
  have b0 : pl_bm d none s2 := Or.inl ⟨rfl, by rw [es2]; simp [hf_pI]; rfl⟩
  have m2 : pl_m d s2 := by
    refine ⟨by rw [q2.1 1 (by omega), d00]; exact hn.2.1.2.1, by rw [q2.1 7 (by omega), d01]; exact hn.2.2.1.2.1, fun c hc => ?_, fun h hh => ?_, fun c h hc hh hnd => ?_⟩
    · rw [q2.2 1 (by omega), q2.2 2 (by omega), q2.2 3 (by omega), q2.2 0 (by omega), q2.2 32 (by omega)]
      exact dc c (by omega)
    · rw [q2.2 5 (by omega)]; exact dh h (by omega)
    · rw [r2]
      obtain ⟨w1, w2⟩ := a5 c h (by omega) (by omega) hnd
      refine ⟨w1, ?_, w2⟩
      rw [(df c h (by omega)).1]; split <;> omega
  have key : ∃ s3 f3, 0 < f3 ∧ pl_go s1 a = Fm_md_place_l280 f3 s3 0 ∧ 7 < f3 ∧ pl_fm s2 s3 ∧ pl_bm d (pl_S d nc 0 (fun _ => 0) none) s3 := by
    unfold pl_go
    rw [hp_let, ← es2, m2.1]
    by_cases e : nc = 0
    · obtain ⟨s3, g1, g2, g3, g4⟩ := pl_weighs (x := fun _ => 0) ok m2 (fun i hi => by omega) (fun c hc => by omega) b0 a hkp
      have w0 : pl_W d (fun _ => 0) (d 0 0) = 0 := by rw [d00, e]; rfl
      rw [w0] at g1
      have g1' : Fm_md_weighs s2 0 a = some s3 := g1
      rw [if_pos (by rw [d00, e]; rfl), g1', hp_b0]
      have m3 := pl_mf m2 g2
      refine ⟨s3, hf_fuel, by unfold hf_fuel; omega, ?_, by unfold hf_fuel; omega, g2, ?_⟩
      · obtain ⟨g, hg⟩ : ∃ g, hf_fuel = g + 1 := ⟨hf_fuel - 1, rfl⟩
        rw [hg, Fm_md_place_l139, ← hg, m3.1, if_pos (by rw [d00, e]; decide)]
      · rw [e, pl_S]; exact g4
    · rw [if_neg (by rw [d00]; exact nI_ne0 (by omega) (by omega))]
      have T7 : pl_T nc ≤ 391909 := by
        rcases (show nc = 1 ∨ nc = 2 ∨ nc = 3 ∨ nc = 4 ∨ nc = 5 ∨ nc = 6 ∨ nc = 7 by omega) with e | e | e | e | e | e | e <;> rw [e] <;> decide
      obtain ⟨f', s3, g1, g2, g3, g4, g5, g6⟩ := pl_dfs ok a hkp nc 0 (fun _ => 0) none s2 hf_fuel (by omega) (by omega) (fun c hc => by omega) m2 (fun i hi => by omega) (fun i _ hi => by rw [r2]; exact a4 i (by omega)) b0 (by unfold hf_fuel; omega)
      have g2' : Fm_md_place_l139 hf_fuel s2 a 0 0 = Fm_md_place_l139 f' s3 a (nI 0 + (-1)) (nI (pl_W d (fun _ => 0) 0)) := g2
      rw [g2']
      have m3 := pl_mf m2 g3
      unfold hf_fuel at g1
      obtain ⟨f', rfl⟩ : ∃ k, f' = k + 1 := ⟨f' - 1, by omega⟩
      refine ⟨s3, hf_fuel, by unfold hf_fuel; omega, ?_, by unfold hf_fuel; omega, g3, g6⟩
      rw [Fm_md_place_l139, m3.1, if_neg (by rw [d00, hp_le, hp_nI (by omega), hp_0]; omega), if_pos (by decide)]
  obtain ⟨s3, f3, _, k1, k2, k3, k4⟩ := key
  obtain ⟨y, hy⟩ : ∃ y, pl_S d nc 0 (fun _ => 0) none = some y := by
    cases e : pl_S d nc 0 (fun _ => 0) none with
    | none => exact absurd e (pl_S_some d _ _ _ _)
    | some y => exact ⟨y, rfl⟩
  have lg : pl_LG d y (d 0 0) := pl_S_LG d nc 0 (fun _ => 0) none (by omega) (fun c hc => by omega) (fun y h => by cases h) y hy
  have hle := pl_LG_le lg
  rw [hy] at k4
  rcases k4 with ⟨e, _⟩ | ⟨z, e, e51, e52, e53, e54, e34⟩
  · cases e
  · cases e
    have m3 := pl_mf m2 k3
    obtain ⟨s', w1, w2, w3, w4, w5⟩ := pl_end_l ok hle (d 0 0) 0 s3 f3 (by omega) (by omega) m3.1 m3.2.1 e34
    rw [d00] at e51 e52 e53 e54 w5 lg
    refine ⟨s', y, hy, lg, ?_, fun k hk => ?_, fun r hr => ?_, w2, ?_, ?_, ?_, ?_, ?_, fun i hi => ?_⟩
    · rw [e0, k1]
      have w1' : Fm_md_place_l280 f3 s3 0 = _ := w1
      rw [w1', w3 51 (by omega), e51]
    · rw [w3 k (by omega), k3.1 k (by omega), q2.1 k (by omega)]
    · rw [w4 r (by omega), k3.2 r (by omega), q2.2 r (by omega)]
    · rw [w3 56 (by omega), k3.1 56 (by omega)]; exact n56
    · rw [w3 51 (by omega)]; exact e51
    · rw [w3 52 (by omega)]; exact e52
    · rw [w3 53 (by omega)]; exact e53
    · rw [w3 54 (by omega)]; exact e54
    · rw [w5 i hi, if_pos (Nat.zero_le _)]
