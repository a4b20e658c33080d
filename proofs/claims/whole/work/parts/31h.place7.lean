/-! PLACE: the class weighs. -/
/-- what the class knows of child c and home h -/
def pl_PR (d : pl_D) (s : hf_St) (c h : Nat) : Prop := ((d 1 c = 1 ∧ d 7 (5 * c + h) = 1) ∧ s.2 32 (5 * c + h) = nI (d 8 (5 * c + h)) ∧ (s.2 33 (5 * c + h)).toInt = pl_ch d c h) ∨ (¬ (d 1 c = 1 ∧ d 7 (5 * c + h) = 1) ∧ s.2 33 (5 * c + h) = 2147483647)
def pl_WI (d : pl_D) (σc : hf_St) (nh c h : Nat) (s : hf_St) : Prop := hq_w σc s ∧ (∀ c' h', c' < c ∨ (c' = c ∧ h' < h) → h' < nh → pl_PR d s c' h') ∧ ∀ c', c' < c → (s.2 34 c').toInt = pl_no d c'
theorem pl_PR_fr {d : pl_D} {s s' : hf_St} {c h : Nat} (hp : pl_PR d s c h) (e1 : s'.2 32 (5 * c + h) = s.2 32 (5 * c + h)) (e2 : s'.2 33 (5 * c + h) = s.2 33 (5 * c + h)) : pl_PR d s' c h := by
  unfold pl_PR at *
  rw [e1, e2]; exact hp
theorem pl_weigh_h {t nc nh np nf nt nr : Nat} {σc σm : hf_St} (hn : hr_n t nc nh np nf nt nr σc σm) {keep : Nat} {d : pl_D} (hd : d = pl_dd σm nc nh np nf nr t keep) {mv : Int32} (hmv : mv.toInt = if d 0 2 = 1 then 16384 else 0) {c : Nat} (hc : c < nc) (K : hf_St → Int32 → Int32 → Int32 → Option hf_St) : ∀ n h s f, h + n = nh → n < f → pl_WI d σc nh c h s → ∃ s', Fc_placer_weigh_l41 K f s (nI t) mv (nI c) (if d 5 c = 0 then -1 else nI (d 5 c - 1)) (nI h) = K s' (nI t) mv (nI (c + 1)) ∧ pl_WI d σc nh (c + 1) 0 s' := by
  have h7 := hn.2.1.2.2.1
  have h5 := hn.2.2.1.2.2.1
  obtain ⟨ok, d00, d01, d02, dc, dh, df⟩ := pl_dd_all hn keep hd
  have d5 := ok.2.2.2.2.2 c
  rw [d01] at d5
  have bmv : 0 ≤ mv.toInt ∧ mv.toInt ≤ 16384 := by rw [hmv]; split <;> omega
  have ix : hf_ix (nI c) 7 := hp_ix (by omega) (by omega)
  have ck : (nI c).toNatClampNeg = c := hp_cl (by omega)
  have b24 : (524288 : Int32).toInt = 524288 := rfl
  intro n
  induction n with
  | zero =>
    intro h s f hh hf hw
    obtain ⟨f, rfl⟩ : ∃ k, f = k + 1 := ⟨f - 1, by omega⟩
    obtain ⟨w1, w2, w3⟩ := hw
    have hs := hr_frw hn w1
    have fin : ∀ v : Int32, v.toInt = pl_no d c → ∃ s', Fc_placer_weigh_b205 K s (nI t) mv (nI c) v (nI c) = K s' (nI t) mv (nI (c + 1)) ∧ pl_WI d σc nh (c + 1) 0 s' := by
      intro v hv
      unfold Fc_placer_weigh_b205
      rw [hp_gd ix, hp_let, ck, hp_succ]
      refine ⟨_, rfl, hq_wtr w1 (hq_wA (by omega)), fun c' h' h1 h2 => ?_, fun c' h1 => ?_⟩
      · exact pl_PR_fr (w2 c' h' (by omega) h2) rfl rfl
      · show (upd (s.2 34) c v c').toInt = _
        rw [hp_upd]
        by_cases e : c' = c
        · rw [if_pos e, e]; exact hv
        · rw [if_neg e]; exact w3 c' (by omega)
    have b178 : ∀ t0 : Int32, t0.toInt = (if d 0 2 = 1 ∧ d 5 c ≠ 0 then 16384 else 0) → ∃ s', Fc_placer_weigh_b178 K s (nI t) mv (nI c) t0 524288 = K s' (nI t) mv (nI (c + 1)) ∧ pl_WI d σc nh (c + 1) 0 s' := by
      intro t0 ht
      have bt : 0 ≤ t0.toInt ∧ t0.toInt ≤ 16384 := by rw [ht]; split <;> omega
      unfold Fc_placer_weigh_b178
      rw [hp_let, fc_hasNeedN hs.2.1 hc, hp_b1]
      rcases (dc c hc).1 with ⟨n0, m0⟩ | ⟨n1, m1⟩
      · rw [if_pos ((hp_t0 _).mpr (fun e => e m0))]
        exact fin 0 (by unfold pl_no; rw [if_neg (by omega)]; rfl)
      · rw [if_neg (fun e => (hp_t0 _).mp e (by rw [m1]; decide))]
        refine fin _ ?_
        unfold pl_no
        rw [if_pos n1, hp_add (by omega) (by omega), b24, ht]
    rw [Fc_placer_weigh_l41, Fc_homes_size, hp_b1, hs.2.2.1.1, if_pos (by rw [hp_le, hp_nI (by omega), hp_nI (by omega)]; omega)]
    by_cases e : d 5 c = 0
    · rw [if_pos e, if_pos rfl]
      exact b178 0 (by rw [if_neg (fun a => a.2 e)]; rfl)
    · rw [if_neg e, if_neg (by rw [hp_eq, hp_nI (by omega), hp_m1]; omega)]
      refine b178 mv ?_
      rw [hmv]
      by_cases k : d 0 2 = 1
      · rw [if_pos k, if_pos ⟨k, e⟩]
      · rw [if_neg k, if_neg (fun a => k a.1)]
  | succ n ih =>
    intro h s f hh hf hw
    obtain ⟨f, rfl⟩ : ∃ k, f = k + 1 := ⟨f - 1, by omega⟩
    obtain ⟨w1, w2, w3⟩ := hw
    have hs := hr_frw hn w1
    have e5 : nI c * 5 + nI h = nI (5 * c + h) := by rw [show (5 : Int32) = nI 5 from rfl, pk_mul, nI_add, Nat.mul_comm c 5]
    have i35 : hf_ix (nI (5 * c + h)) 35 := hp_ix (by omega) (by omega)
    have c35 : (nI (5 * c + h)).toNatClampNeg = 5 * c + h := hp_cl (by omega)
    obtain ⟨f1, f2⟩ := df c h (by omega)
    -- behind the rows' filling
    have done : ∀ s4 wv pv, hq_w σc s4 → (∀ a, 30 ≤ a → s4.2 a = s.2 a) → (((d 1 c = 1 ∧ d 7 (5 * c + h) = 1) ∧ wv = nI (d 8 (5 * c + h)) ∧ pv.toInt = pl_ch d c h) ∨ (¬ (d 1 c = 1 ∧ d 7 (5 * c + h) = 1) ∧ pv = 2147483647)) → pl_WI d σc nh c (h + 1) (hf_pA (hf_pA s4 32 (upd (s4.2 32) (5 * c + h) wv)) 33 (upd (s4.2 33) (5 * c + h) pv)) := by
      intro s4 wv pv q4 r4 hv
      have g32 : ∀ i, (hf_pA (hf_pA s4 32 (upd (s4.2 32) (5 * c + h) wv)) 33 (upd (s4.2 33) (5 * c + h) pv)).2 32 i = if i = 5 * c + h then wv else s.2 32 i := fun i => by rw [← r4 32 (by omega)]; rfl
      have g33 : ∀ i, (hf_pA (hf_pA s4 32 (upd (s4.2 32) (5 * c + h) wv)) 33 (upd (s4.2 33) (5 * c + h) pv)).2 33 i = if i = 5 * c + h then pv else s.2 33 i := fun i => by rw [← r4 33 (by omega)]; rfl
      have g34 : (hf_pA (hf_pA s4 32 (upd (s4.2 32) (5 * c + h) wv)) 33 (upd (s4.2 33) (5 * c + h) pv)).2 34 = s.2 34 := r4 34 (by omega)
      refine ⟨hq_wtr q4 (hq_wtr (hq_wA (by omega)) (hq_wA (by omega))), fun c' h' h1 h2 => ?_, fun c' h1 => by rw [g34]; exact w3 c' h1⟩
      by_cases e : c' = c ∧ h' = h
      · obtain ⟨rfl, rfl⟩ := e
        unfold pl_PR
        rw [g32, g33, if_pos rfl, if_pos rfl]
        exact hv
      · have ne : ¬ 5 * c' + h' = 5 * c + h := by omega
        exact pl_PR_fr (w2 c' h' (by omega) h2) (by rw [g32, if_neg ne]) (by rw [g33, if_neg ne])
    have b111 : ∀ (s4 : hf_St) (l8 wv : Int32), hq_w σc s4 → (∀ a, 30 ≤ a → s4.2 a = s.2 a) → ((l8 = 1 ∧ (d 1 c = 1 ∧ d 7 (5 * c + h) = 1) ∧ wv = nI (d 8 (5 * c + h))) ∨ (l8 = 0 ∧ ¬ (d 1 c = 1 ∧ d 7 (5 * c + h) = 1))) → ∃ s', Fc_placer_weigh_b111 K (fun z0 z1 z2 z3 z4 z5 => Fc_placer_weigh_l41 K f z0 z1 z2 z3 z4 z5) s4 (nI t) mv (nI c) (if d 5 c = 0 then -1 else nI (d 5 c - 1)) (nI h) (nI (5 * c + h)) l8 wv (nI (5 * c + h)) = K s' (nI t) mv (nI (c + 1)) ∧ pl_WI d σc nh (c + 1) 0 s' := by
      intro s4 l8 wv q4 r4 hv
      have b8 := ok.2.2.2.1 (5 * c + h)
      have b130 : ∀ t0 : Int32, t0.toInt = (if d 0 2 = 1 ∧ d 5 c ≠ 0 ∧ d 5 c ≠ h + 1 then 16384 else 0) → ∃ s', Fc_placer_weigh_b130 K (fun z0 z1 z2 z3 z4 z5 => Fc_placer_weigh_l41 K f z0 z1 z2 z3 z4 z5) (hf_pA s4 32 (upd (s4.2 32) (5 * c + h) wv)) (nI t) mv (nI c) (if d 5 c = 0 then -1 else nI (d 5 c - 1)) (nI h) (nI (5 * c + h)) l8 t0 = K s' (nI t) mv (nI (c + 1)) ∧ pl_WI d σc nh (c + 1) 0 s' := by
        intro t0 ht
        have bt : 0 ≤ t0.toInt ∧ t0.toInt ≤ 16384 := by rw [ht]; split <;> omega
        have ew : (hf_pA s4 32 (upd (s4.2 32) (5 * c + h) wv)).2 32 (5 * c + h) = wv := by
          show upd (s4.2 32) (5 * c + h) wv (5 * c + h) = wv
          rw [hp_upd, if_pos rfl]
        unfold Fc_placer_weigh_b130 Fc_placer_weigh_b158
        simp only [hp_gd i35, hp_let, c35, hp_succ, ew]
        rcases hv with ⟨e8, e1, e2⟩ | ⟨e8, e1⟩
        · rw [if_neg (by rw [e8]; decide)]
          refine ih (h + 1) _ f (by omega) (by omega) (done s4 wv (t0 - wv) q4 r4 (Or.inl ⟨e1, e2, ?_⟩))
          have ev : wv.toInt = (d 8 (5 * c + h) : Int) := by rw [e2, hp_nI (by omega)]
          rw [hp_sub (by omega) (by omega), ev, ht]
          rfl
        · rw [if_pos e8]
          exact ih (h + 1) _ f (by omega) (by omega) (done s4 wv 2147483647 q4 r4 (Or.inr ⟨e1, rfl⟩))
      unfold Fc_placer_weigh_b111 Fc_placer_weigh_b129
      rw [hp_gd i35, hp_let, c35]
      by_cases e : d 5 c = 0
      · have z := b130 0 (by rw [if_neg (fun a => a.2.1 e)]; rfl)
        rw [if_pos e] at z ⊢
        rw [if_pos rfl]
        exact z
      · by_cases e2 : d 5 c = h + 1
        · have z := b130 0 (by rw [if_neg (fun a => a.2.2 e2)]; rfl)
          rw [if_neg e] at z ⊢
          rw [if_neg (by rw [hp_eq, hp_nI (by omega), hp_m1]; omega), if_pos (by rw [nI_eq (by omega) (by omega)]; omega)]
          exact z
        · have z := b130 mv (by
            rw [hmv]
            by_cases k : d 0 2 = 1
            · rw [if_pos k, if_pos ⟨k, e, e2⟩]
            · rw [if_neg k, if_neg (fun a => k a.1)])
          rw [if_neg e] at z ⊢
          rw [if_neg (by rw [hp_eq, hp_nI (by omega), hp_m1]; omega), if_neg (by rw [nI_eq (by omega) (by omega)]; omega)]
          exact z
    rw [Fc_placer_weigh_l41, Fc_homes_size, hp_b1, hs.2.2.1.1, if_neg (hp_nle (by omega) (by omega)), hp_let, e5]
    unfold Fc_placer_weigh_b82
    rcases (dc c hc).1 with ⟨n0, m0⟩ | ⟨n1, m1⟩
    · rw [fc_find_no hs hc m0, hp_b2, if_neg (show ¬ (-1 : Int32) = 0 by decide), if_pos rfl]
      exact b111 _ 0 0 (hq_wtr w1 (hq_wc (hq_I (by omega)))) (fun _ _ => rfl) (Or.inr ⟨rfl, by omega⟩)
    · have need : ¬ σm.2 1 c = 0 := by rw [m1]; decide
      obtain ⟨⟨sc, x1, x2⟩, _⟩ := hr_find2 hs hc (show h < nh by omega) need
      have q4 := hq_wtr w1 (hq_wc x2)
      have r4 : ∀ a, 30 ≤ a → sc.2 a = s.2 a := fun a ha => x2.2 a (by omega)
      rw [x1, hp_b2]
      by_cases e : pl_r σm nf np nr t c h = 0
      · rw [if_pos e, if_neg (show ¬ (1 : Int32) = 0 by decide)]
        obtain ⟨s6, y1, y2, y3⟩ := fc_wishOf (hr_frw hn q4) hc (show h < nh by omega) need
        have y1' : Fc_judge_wishOf sc (nI c) (nI h) (nI t) = some (pl_w σm nf nr t c h, s6) := y1
        rw [y1', hp_b2, f2]
        exact b111 s6 1 _ (hq_wtr q4 (hq_wc y2)) (fun a ha => by rw [y2.2 a (by omega), r4 a ha]) (Or.inl ⟨rfl, ⟨n1, by rw [f1, if_pos e]⟩, rfl⟩)
      · rw [if_neg e, if_pos rfl]
        exact b111 sc 0 0 q4 r4 (Or.inr ⟨rfl, by rw [f1, if_neg e]; omega⟩)
theorem pl_weigh_c {t nc nh np nf nt nr : Nat} {σc σm : hf_St} (hn : hr_n t nc nh np nf nt nr σc σm) {keep : Nat} {d : pl_D} (hd : d = pl_dd σm nc nh np nf nr t keep) {mv : Int32} (hmv : mv.toInt = if d 0 2 = 1 then 16384 else 0) : ∀ m c s f, c + m = nc → m < f → pl_WI d σc nh c 0 s → ∃ s', Fc_placer_weigh_l15 f s (nI t) mv (nI c) = some s' ∧ pl_WI d σc nh nc 0 s' := by
  have h7 := hn.2.1.2.2.1
  obtain ⟨ok, d00, d01, d02, dc, dh, df⟩ := pl_dd_all hn keep hd
  intro m
  induction m with
  | zero =>
    intro c s f hc hf hw
    obtain ⟨f, rfl⟩ : ∃ k, f = k + 1 := ⟨f - 1, by omega⟩
    have ec : c = nc := by omega
    subst ec
    refine ⟨s, ?_, hw⟩
    rw [Fc_placer_weigh_l15, Fc_children_size, hp_b1, (hr_frw hn hw.1).2.1.1, if_pos (by rw [hp_le]; exact Int.le_refl _)]
  | succ m ih =>
    intro c s f hc hf hw
    obtain ⟨f, rfl⟩ : ∃ k, f = k + 1 := ⟨f - 1, by omega⟩
    have hs := hr_frw hn hw.1
    have had : Fc_latest_homeOf s (nI c) = some (if d 5 c = 0 then -1 else nI (d 5 c - 1)) := by
      unfold Fc_latest_homeOf
      rw [if_neg (by rw [hp_lt, hp_nI (by omega), hp_0]; omega), if_neg (by rw [hp_le, hp_nI (by omega), hp_7]; omega), hp_gd (hp_ix (show c < 7 by omega) (by omega)), hp_cl (by omega), hs.2.2.2.2.2.2.2.1 c (by omega), if_pos (show c < nc by omega), (dc c (by omega)).2.2.2]
    rw [Fc_placer_weigh_l15, Fc_children_size, hp_b1, hs.2.1.1, if_neg (hp_nle (by omega) (by omega)), had, hp_b1]
    obtain ⟨s', a1, a2⟩ := pl_weigh_h hn hd hmv (show c < nc by omega) (fun z0 z1 z2 z3 => Fc_placer_weigh_l15 f z0 z1 z2 z3) nh 0 s hf_fuel (by omega) (by have := hn.2.2.1.2.2.1; unfold hf_fuel; omega) hw
    have a1' : Fc_placer_weigh_l41 (fun z0 z1 z2 z3 => Fc_placer_weigh_l15 f z0 z1 z2 z3) hf_fuel s (nI t) mv (nI c) (if d 5 c = 0 then -1 else nI (d 5 c - 1)) 0 = _ := a1
    rw [a1']
    exact ih (c + 1) s' f (by omega) (by omega) a2
/-! the class's tables -/
theorem pl_min {a b : Int32} : (hf_min a b).toInt = min a.toInt b.toInt := by
  unfold hf_min
  split
  · rename_i h; rw [hp_lt] at h; omega
  · rename_i h; rw [hp_lt] at h; omega
theorem pl_max (a b : Nat) (ha : a < 2147483648) (hb : b < 2147483648) : hf_max (nI a) (nI b) = nI (max a b) := by
  unfold hf_max
  by_cases h : a < b
  · rw [if_pos (by rw [hp_lt, hp_nI ha, hp_nI hb]; omega), Nat.max_eq_right (by omega)]
  · rw [if_neg (by rw [hp_lt, hp_nI ha, hp_nI hb]; omega), Nat.max_eq_left (by omega)]
theorem pl_sum_h {d : pl_D} (ok : pl_ok d) {c : Nat} (hc : c < d 0 0) (K : hf_St → Int32 → Option hf_St) {s : hf_St} (h22 : s.1 2 2 = nI (d 0 1)) (hpr : ∀ h, h < d 0 1 → pl_PR d s c h) : ∀ n h (l : Int32) f, h + n = d 0 1 → n < f → l.toInt = pl_lst d c h → ∃ v : Int32, v.toInt = pl_lst d c (d 0 1) ∧ Fc_placer_sumLeastPrices_l36 K f s (nI c) l (nI h) = K (hf_pA s 35 (upd (s.2 35) c (s.2 35 (c + 1) + v))) (nI c + (-1)) := by
  have h7 := ok.1
  have h5 := ok.2.1
  have mx : (2147483647 : Int32).toInt = 2147483647 := rfl
  intro n
  induction n with
  | zero =>
    intro h l f hh hf hl
    obtain ⟨f, rfl⟩ : ∃ k, f = k + 1 := ⟨f - 1, by omega⟩
    refine ⟨l, by rw [hl, show h = d 0 1 by omega], ?_⟩
    rw [Fc_placer_sumLeastPrices_l36, Fc_homes_size, hp_b1, h22, if_pos (by rw [hp_le, hp_nI (by omega), hp_nI (by omega)]; omega), hp_succ, hp_gd (hp_ix (show c + 1 < 8 by omega) (by omega)), hp_gd (hp_ix (show c < 8 by omega) (by omega)), hp_let, hp_cl (by omega), hp_cl (by omega)]
  | succ n ih =>
    intro h l f hh hf hl
    obtain ⟨f, rfl⟩ : ∃ k, f = k + 1 := ⟨f - 1, by omega⟩
    have e5 : nI c * 5 + nI h = nI (5 * c + h) := by rw [show (5 : Int32) = nI 5 from rfl, pk_mul, nI_add, Nat.mul_comm c 5]
    have bl := pl_lst_bd ok.2.2.2.1 c h
    rw [Fc_placer_sumLeastPrices_l36, Fc_homes_size, hp_b1, h22, if_neg (hp_nle (by omega) (by omega)), e5, hp_gd (hp_ix (show 5 * c + h < 35 by omega) (by omega)), hp_let, hp_cl (by omega), hp_succ]
    refine ih (h + 1) _ f (by omega) (by omega) ?_
    rw [pl_min, hl, pl_lst]
    rcases hpr h (by omega) with ⟨e, _, e3⟩ | ⟨e, e3⟩
    · rw [if_pos e, e3]
    · rw [if_neg e, e3, mx]; omega
theorem pl_sum_c {d : pl_D} (ok : pl_ok d) : ∀ c m s f, c + m = d 0 0 → c < f → s.1 2 2 = nI (d 0 1) → (∀ c' h, c' < d 0 0 → h < d 0 1 → pl_PR d s c' h) → (∀ c', c' < d 0 0 → (s.2 34 c').toInt = pl_no d c') → (∀ k m', c ≤ k → k + m' = d 0 0 → (s.2 35 k).toInt = pl_L d k m') → ∃ s', Fc_placer_sumLeastPrices_l23 f s (nI c + (-1)) = some s' ∧ s'.1 = s.1 ∧ (∀ a, ¬ a = 35 → s'.2 a = s.2 a) ∧ ∀ k m', k + m' = d 0 0 → (s'.2 35 k).toInt = pl_L d k m' := by
  have h7 := ok.1
  intro c
  induction c with
  | zero =>
    intro m s f hc hf h22 hpr h34 h35
    obtain ⟨f, rfl⟩ : ∃ k, f = k + 1 := ⟨f - 1, by omega⟩
    refine ⟨s, ?_, rfl, fun _ _ => rfl, fun k m' e => h35 k m' (Nat.zero_le _) e⟩
    rw [Fc_placer_sumLeastPrices_l23, if_pos (by decide)]
  | succ c ih =>
    intro m s f hc hf h22 hpr h34 h35
    obtain ⟨f, rfl⟩ : ∃ k, f = k + 1 := ⟨f - 1, by omega⟩
    obtain ⟨v, v1, v2⟩ := pl_sum_h ok (show c < d 0 0 by omega) (fun z0 z1 => Fc_placer_sumLeastPrices_l23 f z0 z1) h22 (fun h hh => hpr c h (by omega) hh) (d 0 1) 0 (s.2 34 c) hf_fuel (by omega) (by have := ok.2.1; unfold hf_fuel; omega) (h34 c (by omega))
    have v2' : Fc_placer_sumLeastPrices_l36 (fun z0 z1 => Fc_placer_sumLeastPrices_l23 f z0 z1) hf_fuel s (nI c) (s.2 34 c) 0 = _ := v2
    have bl := pl_lst_bd ok.2.2.2.1 c (d 0 1)
    have bL := pl_L_bd ok.2.2.2.1 m (c + 1)
    have e1 := h35 (c + 1) m (by omega) (by omega)
    rw [Fc_placer_sumLeastPrices_l23, pk_m1, if_neg (by rw [hp_lt, hp_nI (by omega), hp_0]; omega), hp_gd (hp_ix (show c < 7 by omega) (by omega)), hp_let, hp_cl (by omega), v2']
    obtain ⟨s', a1, a2, a3, a4⟩ := ih (m + 1) (hf_pA s 35 (upd (s.2 35) c (s.2 35 (c + 1) + v))) f (by omega) (by omega) h22 hpr h34 (fun k m' h1 h2 => by
      show (upd (s.2 35) c (s.2 35 (c + 1) + v) k).toInt = _
      rw [hp_upd]
      by_cases e : k = c
      · subst e
        have em : m' = m + 1 := by omega
        rw [if_pos rfl, em, pl_L, hp_add (by omega) (by omega), e1, v1]
      · rw [if_neg e]; exact h35 k m' (by omega) h2)
    exact ⟨s', a1, a2, fun a ha => by rw [a3 a ha, hf_pA_2, if_neg ha], a4⟩
theorem pl_sum {d : pl_D} (ok : pl_ok d) {s : hf_St} (h15 : s.1 1 5 = nI (d 0 0)) (h22 : s.1 2 2 = nI (d 0 1)) (hpr : ∀ c' h, c' < d 0 0 → h < d 0 1 → pl_PR d s c' h) (h34 : ∀ c', c' < d 0 0 → (s.2 34 c').toInt = pl_no d c') : ∃ s', Fc_placer_sumLeastPrices s = some s' ∧ s'.1 = s.1 ∧ (∀ a, ¬ a = 35 → s'.2 a = s.2 a) ∧ ∀ k m', k + m' = d 0 0 → (s'.2 35 k).toInt = pl_L d k m' := by
  have h7 := ok.1
  obtain ⟨s', a1, a2, a3, a4⟩ := pl_sum_c ok (d 0 0) 0 (hf_pA s 35 (upd (s.2 35) (d 0 0) 0)) hf_fuel (by omega) (by unfold hf_fuel; omega) h22 hpr h34 (fun k m' h1 h2 => by
    have ek : k = d 0 0 := by omega
    have em : m' = 0 := by omega
    show (upd (s.2 35) (d 0 0) 0 k).toInt = _
    rw [hp_upd, if_pos ek, em]; rfl)
  refine ⟨s', ?_, a2, fun a ha => by rw [a3 a ha, hf_pA_2, if_neg ha], a4⟩
  unfold Fc_placer_sumLeastPrices Fc_children_size
  rw [hp_b1, h15, hp_gd (hp_ix (show d 0 0 < 8 by omega) (by omega)), hp_let, hp_cl (by omega), hp_b1, hp_let]
  have e : (hf_pA s 35 (upd (s.2 35) (d 0 0) 0)).1 1 5 - 1 = nI (d 0 0) + (-1) := by
    show s.1 1 5 - 1 = _
    rw [h15, Int32.sub_eq_add_neg]
  rw [e]; exact a1
