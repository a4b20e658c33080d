/-! PLACE: the class's tables, and its end. -/
theorem pl_f38 : ∀ m k (s : hf_St) f, k + m = 5 → m < f → ∃ s', Fc_fill_placer_residents_l5 f s 0 (nI k) (nI 5) = some s' ∧ s'.1 = s.1 ∧ (∀ a, ¬ a = 38 → s'.2 a = s.2 a) ∧ (∀ i, i < k → s'.2 38 i = s.2 38 i) ∧ ∀ i, k ≤ i → i < 5 → s'.2 38 i = 0 := by
  intro m
  induction m with
  | zero =>
    intro k s f hk hf
    obtain ⟨n, rfl⟩ : ∃ n, f = n + 1 := ⟨f - 1, by omega⟩
    have e : k = 5 := by omega
    subst e
    refine ⟨s, ?_, rfl, fun _ _ => rfl, fun _ _ => rfl, fun i h1 h2 => by omega⟩
    rw [Fc_fill_placer_residents_l5, if_pos (by rw [hp_le]; omega)]
  | succ m ih =>
    intro k s f hk hf
    obtain ⟨n, rfl⟩ : ∃ n, f = n + 1 := ⟨f - 1, by omega⟩
    obtain ⟨s', e1, e3, e4, e5, e6⟩ := ih (k + 1) (hf_pA s 38 (upd (s.2 38) k 0)) n (by omega) (by omega)
    refine ⟨s', ?_, e3, fun a ha => by rw [e4 a ha, hf_pA_2, if_neg ha], fun i hi => ?_, fun i h1 h2 => ?_⟩
    · rw [Fc_fill_placer_residents_l5, if_neg (hp_nle (by omega) (by omega)), hp_gd (hp_ix (by omega) (by omega)), hp_let, hp_cl (by omega), hp_succ, e1]
    · rw [e5 i (by omega), hf_pA_2, if_pos rfl, hp_upd, if_neg (by omega)]
    · by_cases hi : i = k
      · rw [e5 i (by omega), hf_pA_2, if_pos rfl, hp_upd, if_pos hi]
      · exact e6 i (by omega) h2
theorem pl_f380 (s : hf_St) : ∃ s', Fc_fill_placer_residents s 0 = some s' ∧ s'.1 = s.1 ∧ (∀ a, ¬ a = 38 → s'.2 a = s.2 a) ∧ ∀ i, i < 5 → s'.2 38 i = 0 := by
  obtain ⟨s', a1, a2, a3, a4, a5⟩ := pl_f38 5 0 s hf_fuel (by omega) (by unfold hf_fuel; omega)
  refine ⟨s', ?_, a2, a3, fun i hi => a5 i (Nat.zero_le _) hi⟩
  unfold Fc_fill_placer_residents
  rw [hp_let]; exact a1
theorem pl_f39 : ∀ m k (s : hf_St) f, k + m = 4 → m < f → ∃ s', Fc_fill_placer_homesOfGroup_l5 f s 0 (nI k) (nI 4) = some s' ∧ s'.1 = s.1 ∧ (∀ a, ¬ a = 39 → s'.2 a = s.2 a) ∧ (∀ i, i < k → s'.2 39 i = s.2 39 i) ∧ ∀ i, k ≤ i → i < 4 → s'.2 39 i = 0 := by
  intro m
  induction m with
  | zero =>
    intro k s f hk hf
    obtain ⟨n, rfl⟩ : ∃ n, f = n + 1 := ⟨f - 1, by omega⟩
    have e : k = 4 := by omega
    subst e
    refine ⟨s, ?_, rfl, fun _ _ => rfl, fun _ _ => rfl, fun i h1 h2 => by omega⟩
    rw [Fc_fill_placer_homesOfGroup_l5, if_pos (by rw [hp_le]; omega)]
  | succ m ih =>
    intro k s f hk hf
    obtain ⟨n, rfl⟩ : ∃ n, f = n + 1 := ⟨f - 1, by omega⟩
    obtain ⟨s', e1, e3, e4, e5, e6⟩ := ih (k + 1) (hf_pA s 39 (upd (s.2 39) k 0)) n (by omega) (by omega)
    refine ⟨s', ?_, e3, fun a ha => by rw [e4 a ha, hf_pA_2, if_neg ha], fun i hi => ?_, fun i h1 h2 => ?_⟩
    · rw [Fc_fill_placer_homesOfGroup_l5, if_neg (hp_nle (by omega) (by omega)), hp_gd (hp_ix (by omega) (by omega)), hp_let, hp_cl (by omega), hp_succ, e1]
    · rw [e5 i (by omega), hf_pA_2, if_pos rfl, hp_upd, if_neg (by omega)]
    · by_cases hi : i = k
      · rw [e5 i (by omega), hf_pA_2, if_pos rfl, hp_upd, if_pos hi]
      · exact e6 i (by omega) h2
theorem pl_f390 (s : hf_St) : ∃ s', Fc_fill_placer_homesOfGroup s 0 = some s' ∧ s'.1 = s.1 ∧ (∀ a, ¬ a = 39 → s'.2 a = s.2 a) ∧ ∀ i, i < 4 → s'.2 39 i = 0 := by
  obtain ⟨s', a1, a2, a3, a4, a5⟩ := pl_f39 4 0 s hf_fuel (by omega) (by unfold hf_fuel; omega)
  refine ⟨s', ?_, a2, a3, fun i hi => a5 i (Nat.zero_le _) hi⟩
  unfold Fc_fill_placer_homesOfGroup
  rw [hp_let]; exact a1
theorem pl_f31 : ∀ m k (s : hf_St) f, k + m = 5 → m < f → ∃ s', Fc_fill_latest_figures_l5 f s 0 (nI k) (nI 5) = some s' ∧ s'.1 = s.1 ∧ (∀ a, ¬ a = 31 → s'.2 a = s.2 a) ∧ (∀ i, i < k → s'.2 31 i = s.2 31 i) ∧ ∀ i, k ≤ i → i < 5 → s'.2 31 i = 0 := by
  intro m
  induction m with
  | zero =>
    intro k s f hk hf
    obtain ⟨n, rfl⟩ : ∃ n, f = n + 1 := ⟨f - 1, by omega⟩
    have e : k = 5 := by omega
    subst e
    refine ⟨s, ?_, rfl, fun _ _ => rfl, fun _ _ => rfl, fun i h1 h2 => by omega⟩
    rw [Fc_fill_latest_figures_l5, if_pos (by rw [hp_le]; omega)]
  | succ m ih =>
    intro k s f hk hf
    obtain ⟨n, rfl⟩ : ∃ n, f = n + 1 := ⟨f - 1, by omega⟩
    obtain ⟨s', e1, e3, e4, e5, e6⟩ := ih (k + 1) (hf_pA s 31 (upd (s.2 31) k 0)) n (by omega) (by omega)
    refine ⟨s', ?_, e3, fun a ha => by rw [e4 a ha, hf_pA_2, if_neg ha], fun i hi => ?_, fun i h1 h2 => ?_⟩
    · rw [Fc_fill_latest_figures_l5, if_neg (hp_nle (by omega) (by omega)), hp_gd (hp_ix (by omega) (by omega)), hp_let, hp_cl (by omega), hp_succ, e1]
    · rw [e5 i (by omega), hf_pA_2, if_pos rfl, hp_upd, if_neg (by omega)]
    · by_cases hi : i = k
      · rw [e5 i (by omega), hf_pA_2, if_pos rfl, hp_upd, if_pos hi]
      · exact e6 i (by omega) h2
theorem pl_f310 (s : hf_St) : ∃ s', Fc_fill_latest_figures s 0 = some s' ∧ s'.1 = s.1 ∧ (∀ a, ¬ a = 31 → s'.2 a = s.2 a) ∧ ∀ i, i < 5 → s'.2 31 i = 0 := by
  obtain ⟨s', a1, a2, a3, a4, a5⟩ := pl_f31 5 0 s hf_fuel (by omega) (by unfold hf_fuel; omega)
  refine ⟨s', ?_, a2, a3, fun i hi => a5 i (Nat.zero_le _) hi⟩
  unfold Fc_fill_latest_figures
  rw [hp_let]; exact a1
theorem pl_tog_o {nc : Nat} {s σm : hf_St} {d : pl_D} (ok : pl_ok d) (d00 : d 0 0 = nc) (dc : ∀ c, c < nc → ((d 1 c = 0 ∧ σm.2 1 c = 0) ∨ (d 1 c = 1 ∧ σm.2 1 c = 1)) ∧ (d 1 c = 1 → σm.2 2 c = nI (d 2 c) ∧ σm.2 3 c = nI (d 3 c))) (hch : hr_chl nc s σm) {c : Nat} (hc : c < nc) (K : hf_St → Int32 → Option hf_St) : ∀ m o f, o + m = nc → m < f → Fc_placer_findTogether_l17 K f s (nI c) (nI (pl_tg d c o)) (nI o) = K (hf_pA s 36 (upd (s.2 36) c (nI (pl_tg d c nc)))) (nI (c + 1)) := by
  have h7 := hch.2.2.1
  have ix : hf_ix (nI c) 7 := hp_ix (by omega) (by omega)
  intro m
  induction m with
  | zero =>
    intro o f ho hf
    obtain ⟨f, rfl⟩ : ∃ k, f = k + 1 := ⟨f - 1, by omega⟩
    have e : o = nc := by omega
    subst e
    rw [Fc_placer_findTogether_l17, Fc_children_size, hp_b1, hch.1, if_pos (by rw [hp_le]; exact Int.le_refl _), hp_gd ix, hp_let, hp_cl (by omega), hp_succ]
  | succ m ih =>
    intro o f ho hf
    obtain ⟨f, rfl⟩ : ∃ k, f = k + 1 := ⟨f - 1, by omega⟩
    have IH := ih (o + 1) f (by omega) (by omega)
    have orr : nI (pl_tg d c o) ||| (1 : Int32) <<< (nI o &&& 31) = nI (pl_tg d c o ||| 2 ^ o) := by rw [pl_sh o (by omega), fa_or]
    have fd : Fc_children_firstDay s (nI c) = some (if d 1 c = 1 then nI (d 2 c) else -1) := by
      rcases (dc c hc).1 with ⟨n0, m0⟩ | ⟨n1, m1⟩
      · unfold Fc_children_firstDay
        rw [fc_hasNeedN hch hc, hp_b1, if_pos ((hp_t0 _).mpr (fun e => e m0)), if_neg (by omega)]
      · rw [fc_firstDay hch hc (by rw [m1]; decide), if_pos n1, ((dc c hc).2 n1).1]
    rw [Fc_placer_findTogether_l17, Fc_children_size, hp_b1, hch.1, if_neg (hp_nle (by omega) (by omega)), fd, hp_b1, fc_needsOn hch (show o < nc by omega), hp_b1, hp_let, orr, hp_succ]
    have key : hn_on σm o (if d 1 c = 1 then nI (d 2 c) else -1) ↔ (d 1 c = 1 ∧ d 1 o = 1 ∧ pl_on d o (d 2 c) = true) := by
      unfold pl_on
      rw [decide_eq_true_iff]
      rcases (dc o (by omega)).1 with ⟨n0, m0⟩ | ⟨n1, m1⟩
      · exact ⟨fun a => absurd m0 a.1, fun a => by omega⟩
      · obtain ⟨e2, e3⟩ := (dc o (by omega)).2 n1
        have b := ok.2.2.1 o n1
        by_cases k : d 1 c = 1
        · have bc := ok.2.2.1 c k
          unfold hn_on
          rw [if_pos k, e2, e3, m1, hp_lt, hp_lt, hp_nI (by omega), hp_nI (by omega), hp_nI (by omega)]
          constructor
          · rintro ⟨_, a, b⟩; exact ⟨k, n1, by omega, by omega⟩
          · rintro ⟨_, _, a, b⟩; exact ⟨by decide, by omega, by omega⟩
        · unfold hn_on
          rw [if_neg k, e2, hp_lt, hp_m1, hp_nI (by omega)]
          exact ⟨fun a => absurd (by omega) a.2.1, fun a => absurd a.1 k⟩
    rw [pl_tg] at IH
    by_cases e : d 1 c = 1 ∧ d 1 o = 1 ∧ pl_on d o (d 2 c) = true
    · rw [if_neg (fun a => (hp_t0 _).mp a (key.mpr e))]
      rw [if_pos e] at IH; exact IH
    · rw [if_pos ((hp_t0 _).mpr (fun a => e (key.mp a)))]
      rw [if_neg e] at IH; exact IH
theorem pl_tog {t nc nh np nf nt nr : Nat} {σc σm : hf_St} (hn : hr_n t nc nh np nf nt nr σc σm) {keep : Nat} {d : pl_D} (hd : d = pl_dd σm nc nh np nf nr t keep) : ∀ m c s f, c + m = nc → m < f → hq_w σc s → (∀ c', c' < c → s.2 36 c' = nI (pl_tg d c' nc)) → ∃ s', Fc_placer_findTogether_l2 f s (nI c) = some s' ∧ s'.1 = s.1 ∧ (∀ a, ¬ a = 36 → s'.2 a = s.2 a) ∧ ∀ c', c' < nc → s'.2 36 c' = nI (pl_tg d c' nc) := by
  have h7 := hn.2.1.2.2.1
  obtain ⟨ok, d00, d01, d02, dc, dh, df⟩ := pl_dd_all hn keep hd
  intro m
  induction m with
  | zero =>
    intro c s f hc hf hw h36
    obtain ⟨f, rfl⟩ : ∃ k, f = k + 1 := ⟨f - 1, by omega⟩
    have ec : c = nc := by omega
    subst ec
    refine ⟨s, ?_, rfl, fun _ _ => rfl, h36⟩
    rw [Fc_placer_findTogether_l2, Fc_children_size, hp_b1, (hr_frw hn hw).2.1.1, if_pos (by rw [hp_le]; exact Int.le_refl _)]
  | succ m ih =>
    intro c s f hc hf hw h36
    obtain ⟨f, rfl⟩ : ∃ k, f = k + 1 := ⟨f - 1, by omega⟩
    have hch := (hr_frw hn hw).2.1
    have O := pl_tog_o ok d00 (fun c hc => ⟨(dc c hc).1, (dc c hc).2.1⟩) hch (show c < nc by omega) (fun z0 z1 => Fc_placer_findTogether_l2 f z0 z1) nc 0 hf_fuel (by omega) (by unfold hf_fuel; omega)
    have O' : Fc_placer_findTogether_l17 (fun z0 z1 => Fc_placer_findTogether_l2 f z0 z1) hf_fuel s (nI c) 0 0 = _ := O
    rw [Fc_placer_findTogether_l2, Fc_children_size, hp_b1, hch.1, if_neg (hp_nle (by omega) (by omega)), O']
    obtain ⟨s', a1, a2, a3, a4⟩ := ih (c + 1) (hf_pA s 36 (upd (s.2 36) c (nI (pl_tg d c nc)))) f (by omega) (by omega) (hq_wtr hw (hq_wA (by omega))) (fun c' h => by
      show upd (s.2 36) c (nI (pl_tg d c nc)) c' = _
      rw [hp_upd]
      by_cases e : c' = c
      · rw [if_pos e, e]
      · rw [if_neg e]; exact h36 c' (by omega))
    exact ⟨s', a1, a2, fun a ha => by rw [a3 a ha, hf_pA_2, if_neg ha], a4⟩
theorem pl_bit : ∀ m, m < 128 → ∀ c, c < 7 → (((nI m >>> (nI c &&& 31)) &&& 1 = (1 : Int32)) ↔ m.testBit c = true) := by decide +kernel
theorem pl_peak_c {d : pl_D} (ok : pl_ok d) {s : hf_St} (h15 : s.1 1 5 = nI (d 0 0)) (h36 : ∀ c, c < d 0 0 → s.2 36 c = nI (pl_tg d c (d 0 0))) {q : Nat} (hq : q < 128) (K : hf_St → Int32 → Option hf_St) : ∀ m c f, c + m = d 0 0 → m < f → Fc_placer_findPeaks_l19 K f s (nI q) (nI (pl_pk d q c)) (nI c) = K (hf_pA s 37 (upd (s.2 37) q (nI (pl_pk d q (d 0 0))))) (nI (q + 1)) := by
  have h7 := ok.1
  have lt : ∀ c, pl_tg d c (d 0 0) &&& q < 128 := fun c => by
    have := Nat.and_le_right (n := pl_tg d c (d 0 0)) (m := q)
    omega
  have pk7 : ∀ c, pl_pk d q c ≤ 7 := fun c => (pl_pk_le d q 7 c).mpr (fun c' _ _ => pl_pop_7 _ (lt c'))
  intro m
  induction m with
  | zero =>
    intro c f hc hf
    obtain ⟨f, rfl⟩ : ∃ k, f = k + 1 := ⟨f - 1, by omega⟩
    have e : c = d 0 0 := by omega
    subst e
    rw [Fc_placer_findPeaks_l19, Fc_children_size, hp_b1, h15, if_pos (by rw [hp_le]; exact Int.le_refl _), hp_gd (hp_ix hq (by omega)), hp_let, hp_cl (by omega), hp_succ]
  | succ m ih =>
    intro c f hc hf
    obtain ⟨f, rfl⟩ : ∃ k, f = k + 1 := ⟨f - 1, by omega⟩
    have IH := ih (c + 1) f (by omega) (by omega)
    have B := pl_bit q hq c (by omega)
    rw [Fc_placer_findPeaks_l19, Fc_children_size, hp_b1, h15, if_neg (hp_nle (by omega) (by omega)), hp_gd (hp_ix (show c < 7 by omega) (by omega)), hp_cl (by omega), h36 c (by omega), fa_and, pl_bc s (lt c), hp_b1, hp_let, pl_max _ _ (by have := pk7 c; omega) (by have := pl_pop_7 _ (lt c); omega), hp_succ]
    rw [pl_pk] at IH
    by_cases e : q.testBit c = true
    · rw [if_pos (B.mpr e)]
      rw [if_pos e] at IH; exact IH
    · rw [if_neg (fun a => e (B.mp a))]
      rw [if_neg e] at IH; exact IH
theorem pl_peaks {d : pl_D} (ok : pl_ok d) : ∀ n q s f, q + n = 2 ^ (d 0 0) → n < f → s.1 1 5 = nI (d 0 0) → (∀ c, c < d 0 0 → s.2 36 c = nI (pl_tg d c (d 0 0))) → (∀ q', q' < q → s.2 37 q' = nI (pl_pk d q' (d 0 0))) → ∃ s', Fc_placer_findPeaks_l2 f s (nI q) = some s' ∧ s'.1 = s.1 ∧ (∀ a, ¬ a = 37 → s'.2 a = s.2 a) ∧ ∀ q', q' < 2 ^ (d 0 0) → s'.2 37 q' = nI (pl_pk d q' (d 0 0)) := by
  have h7 := ok.1
  have p7 : 2 ^ (d 0 0) ≤ 2 ^ 7 := Nat.pow_le_pow_right (by omega) h7
  have p8 : (2 : Nat) ^ 7 = 128 := by decide
  have sh := pl_sh (d 0 0) (by omega)
  intro n
  induction n with
  | zero =>
    intro q s f hq hf h15 h36 h37
    obtain ⟨f, rfl⟩ : ∃ k, f = k + 1 := ⟨f - 1, by omega⟩
    refine ⟨s, ?_, rfl, fun _ _ => rfl, fun q' h => h37 q' (by omega)⟩
    rw [Fc_placer_findPeaks_l2, Fc_children_size, hp_b1, h15, sh, if_pos (by rw [hp_le, hp_nI (by omega), hp_nI (by omega)]; omega)]
  | succ n ih =>
    intro q s f hq hf h15 h36 h37
    obtain ⟨f, rfl⟩ : ∃ k, f = k + 1 := ⟨f - 1, by omega⟩
    have C := pl_peak_c ok h15 h36 (show q < 128 by omega) (fun z0 z1 => Fc_placer_findPeaks_l2 f z0 z1) (d 0 0) 0 hf_fuel (by omega) (by unfold hf_fuel; omega)
    have C' : Fc_placer_findPeaks_l19 (fun z0 z1 => Fc_placer_findPeaks_l2 f z0 z1) hf_fuel s (nI q) 0 0 = _ := C
    rw [Fc_placer_findPeaks_l2, Fc_children_size, hp_b1, h15, sh, if_neg (hp_nle (by omega) (by omega)), C']
    obtain ⟨s', a1, a2, a3, a4⟩ := ih (q + 1) (hf_pA s 37 (upd (s.2 37) q (nI (pl_pk d q (d 0 0))))) f (by omega) (by omega) h15 h36 (fun q' h => by
      show upd (s.2 37) q (nI (pl_pk d q (d 0 0))) q' = _
      rw [hp_upd]
      by_cases e : q' = q
      · rw [if_pos e, e]
      · rw [if_neg e]; exact h37 q' (by omega))
    exact ⟨s', a1, a2, fun a ha => by rw [a3 a ha, hf_pA_2, if_neg ha], a4⟩
/-! the figures -/
def pl_fg (s : hf_St) (a b c e f : Nat) : Prop := s.2 31 0 = nI a ∧ s.2 31 1 = nI b ∧ s.2 31 2 = nI c ∧ s.2 31 3 = nI e ∧ s.2 31 4 = nI f
def pl_x31 (s s' : hf_St) : Prop := s'.1 = s.1 ∧ ∀ r, ¬ r = 31 → s'.2 r = s.2 r
theorem pl_rs0 {s : hf_St} {a b c e f : Nat} (h : pl_fg s a b c e f) (v : Nat) : ∃ s', Fc_latest_raise s 0 (nI v) = some s' ∧ pl_fg s' (a + v) b c e f ∧ pl_x31 s s' := by
  obtain ⟨h0, h1, h2, h3, h4⟩ := h
  refine ⟨hf_pA s 31 (upd (s.2 31) 0 (nI (a + v))), ?_, ?_, rfl, fun r hr => by rw [hf_pA_2, if_neg hr]⟩
  · unfold Fc_latest_raise
    rw [if_neg (by decide), if_neg (by decide), hp_gd (by decide), hp_gd (by decide), hp_let, show ((0 : Int32)).toNatClampNeg = 0 from rfl, h0, nI_add]
  · refine ⟨?_, ?_, ?_, ?_, ?_⟩
    · show upd (s.2 31) 0 (nI (a + v)) 0 = _; rw [hp_upd]; rw [if_pos rfl]
    · show upd (s.2 31) 0 (nI (a + v)) 1 = _; rw [hp_upd]; rw [if_neg (by omega)]; exact h1
    · show upd (s.2 31) 0 (nI (a + v)) 2 = _; rw [hp_upd]; rw [if_neg (by omega)]; exact h2
    · show upd (s.2 31) 0 (nI (a + v)) 3 = _; rw [hp_upd]; rw [if_neg (by omega)]; exact h3
    · show upd (s.2 31) 0 (nI (a + v)) 4 = _; rw [hp_upd]; rw [if_neg (by omega)]; exact h4
theorem pl_rs1 {s : hf_St} {a b c e f : Nat} (h : pl_fg s a b c e f) (v : Nat) : ∃ s', Fc_latest_raise s 1 (nI v) = some s' ∧ pl_fg s' a (b + v) c e f ∧ pl_x31 s s' := by
  obtain ⟨h0, h1, h2, h3, h4⟩ := h
  refine ⟨hf_pA s 31 (upd (s.2 31) 1 (nI (b + v))), ?_, ?_, rfl, fun r hr => by rw [hf_pA_2, if_neg hr]⟩
  · unfold Fc_latest_raise
    rw [if_neg (by decide), if_neg (by decide), hp_gd (by decide), hp_gd (by decide), hp_let, show ((1 : Int32)).toNatClampNeg = 1 from rfl, h1, nI_add]
  · refine ⟨?_, ?_, ?_, ?_, ?_⟩
    · show upd (s.2 31) 1 (nI (b + v)) 0 = _; rw [hp_upd]; rw [if_neg (by omega)]; exact h0
    · show upd (s.2 31) 1 (nI (b + v)) 1 = _; rw [hp_upd]; rw [if_pos rfl]
    · show upd (s.2 31) 1 (nI (b + v)) 2 = _; rw [hp_upd]; rw [if_neg (by omega)]; exact h2
    · show upd (s.2 31) 1 (nI (b + v)) 3 = _; rw [hp_upd]; rw [if_neg (by omega)]; exact h3
    · show upd (s.2 31) 1 (nI (b + v)) 4 = _; rw [hp_upd]; rw [if_neg (by omega)]; exact h4
theorem pl_rs2 {s : hf_St} {a b c e f : Nat} (h : pl_fg s a b c e f) (v : Nat) : ∃ s', Fc_latest_raise s 2 (nI v) = some s' ∧ pl_fg s' a b (c + v) e f ∧ pl_x31 s s' := by
  obtain ⟨h0, h1, h2, h3, h4⟩ := h
  refine ⟨hf_pA s 31 (upd (s.2 31) 2 (nI (c + v))), ?_, ?_, rfl, fun r hr => by rw [hf_pA_2, if_neg hr]⟩
  · unfold Fc_latest_raise
    rw [if_neg (by decide), if_neg (by decide), hp_gd (by decide), hp_gd (by decide), hp_let, show ((2 : Int32)).toNatClampNeg = 2 from rfl, h2, nI_add]
  · refine ⟨?_, ?_, ?_, ?_, ?_⟩
    · show upd (s.2 31) 2 (nI (c + v)) 0 = _; rw [hp_upd]; rw [if_neg (by omega)]; exact h0
    · show upd (s.2 31) 2 (nI (c + v)) 1 = _; rw [hp_upd]; rw [if_neg (by omega)]; exact h1
    · show upd (s.2 31) 2 (nI (c + v)) 2 = _; rw [hp_upd]; rw [if_pos rfl]
    · show upd (s.2 31) 2 (nI (c + v)) 3 = _; rw [hp_upd]; rw [if_neg (by omega)]; exact h3
    · show upd (s.2 31) 2 (nI (c + v)) 4 = _; rw [hp_upd]; rw [if_neg (by omega)]; exact h4
theorem pl_rs3 {s : hf_St} {a b c e f : Nat} (h : pl_fg s a b c e f) (v : Nat) : ∃ s', Fc_latest_raise s 3 (nI v) = some s' ∧ pl_fg s' a b c (e + v) f ∧ pl_x31 s s' := by
  obtain ⟨h0, h1, h2, h3, h4⟩ := h
  refine ⟨hf_pA s 31 (upd (s.2 31) 3 (nI (e + v))), ?_, ?_, rfl, fun r hr => by rw [hf_pA_2, if_neg hr]⟩
  · unfold Fc_latest_raise
    rw [if_neg (by decide), if_neg (by decide), hp_gd (by decide), hp_gd (by decide), hp_let, show ((3 : Int32)).toNatClampNeg = 3 from rfl, h3, nI_add]
  · refine ⟨?_, ?_, ?_, ?_, ?_⟩
    · show upd (s.2 31) 3 (nI (e + v)) 0 = _; rw [hp_upd]; rw [if_neg (by omega)]; exact h0
    · show upd (s.2 31) 3 (nI (e + v)) 1 = _; rw [hp_upd]; rw [if_neg (by omega)]; exact h1
    · show upd (s.2 31) 3 (nI (e + v)) 2 = _; rw [hp_upd]; rw [if_neg (by omega)]; exact h2
    · show upd (s.2 31) 3 (nI (e + v)) 3 = _; rw [hp_upd]; rw [if_pos rfl]
    · show upd (s.2 31) 3 (nI (e + v)) 4 = _; rw [hp_upd]; rw [if_neg (by omega)]; exact h4
theorem pl_rs4 {s : hf_St} {a b c e f : Nat} (h : pl_fg s a b c e f) (v : Nat) : ∃ s', Fc_latest_raise s 4 (nI v) = some s' ∧ pl_fg s' a b c e (f + v) ∧ pl_x31 s s' := by
  obtain ⟨h0, h1, h2, h3, h4⟩ := h
  refine ⟨hf_pA s 31 (upd (s.2 31) 4 (nI (f + v))), ?_, ?_, rfl, fun r hr => by rw [hf_pA_2, if_neg hr]⟩
  · unfold Fc_latest_raise
    rw [if_neg (by decide), if_neg (by decide), hp_gd (by decide), hp_gd (by decide), hp_let, show ((4 : Int32)).toNatClampNeg = 4 from rfl, h4, nI_add]
  · refine ⟨?_, ?_, ?_, ?_, ?_⟩
    · show upd (s.2 31) 4 (nI (f + v)) 0 = _; rw [hp_upd]; rw [if_neg (by omega)]; exact h0
    · show upd (s.2 31) 4 (nI (f + v)) 1 = _; rw [hp_upd]; rw [if_neg (by omega)]; exact h1
    · show upd (s.2 31) 4 (nI (f + v)) 2 = _; rw [hp_upd]; rw [if_neg (by omega)]; exact h2
    · show upd (s.2 31) 4 (nI (f + v)) 3 = _; rw [hp_upd]; rw [if_neg (by omega)]; exact h3
    · show upd (s.2 31) 4 (nI (f + v)) 4 = _; rw [hp_upd]; rw [if_pos rfl]
