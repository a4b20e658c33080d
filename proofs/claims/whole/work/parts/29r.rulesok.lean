/-! The copying of the rules, on either side. -/
theorem fm_cpy_in {k tc : Nat} (hk : k < 20) (htc : tc ≤ 6) (K : hf_St → Int32 → Int32 → Option (Int32 × hf_St)) (l1 : Int32) : ∀ m j s f, j + m = tc → m < f → s.2 18 k = nI tc → ∃ s', Fm_md_rules_l183 K f s l1 (nI k) (nI (6 * k + j)) = K s' l1 (nI (k + 1)) ∧ s'.1 = s.1 ∧ (∀ a, a < 19 ∨ 23 < a → s'.2 a = s.2 a) ∧ ∀ a, 19 ≤ a → a ≤ 23 → ∀ i, s'.2 a i = if 6 * k + j ≤ i ∧ i < 6 * k + tc then s.2 (a + 8) i else s.2 a i := by
  have ix : hf_ix (nI k) 20 := hp_ix hk (by omega)
  have ck : (nI k).toNatClampNeg = k := hp_cl (by omega)
  have e6 : (6 : Int32) * nI k + nI tc = nI (6 * k + tc) := by rw [show (6 : Int32) = nI 6 from rfl, pk_mul, nI_add]
  intro m
  induction m with
  | zero =>
    intro j s f hj hf h18
    obtain ⟨f, rfl⟩ : ∃ k, f = k + 1 := ⟨f - 1, by omega⟩
    refine ⟨s, ?_, rfl, fun _ _ => rfl, fun a _ _ i => by rw [if_neg (by omega)]⟩
    rw [Fm_md_rules_l183, hp_gd ix, ck, h18, e6, if_pos (by rw [hp_le, hp_nI (by omega), hp_nI (by omega)]; omega), hp_succ]
  | succ m ih =>
    intro j s f hj hf h18
    obtain ⟨f, rfl⟩ : ∃ k, f = k + 1 := ⟨f - 1, by omega⟩
    have i1 : hf_ix (nI (6 * k + j)) 126 := hp_ix (by omega) (by omega)
    have i2 : hf_ix (nI (6 * k + j)) 120 := hp_ix (by omega) (by omega)
    rw [Fm_md_rules_l183, hp_gd ix, ck, h18, e6, if_neg (hp_nle (by omega) (by omega))]
    simp only [hp_gd i1, hp_gd i2, hp_let, hp_cl (show 6 * k + j < 2147483648 by omega), hp_succ]
    generalize hs5 : hf_pA (hf_pA (hf_pA (hf_pA (hf_pA s 19 _) 20 _) 21 _) 22 _) 23 _ = s5
    have e5 : ∀ a, s5.2 a = if a = 23 then upd (s.2 23) (6 * k + j) (s.2 31 (6 * k + j)) else if a = 22 then upd (s.2 22) (6 * k + j) (s.2 30 (6 * k + j)) else if a = 21 then upd (s.2 21) (6 * k + j) (s.2 29 (6 * k + j)) else if a = 20 then upd (s.2 20) (6 * k + j) (s.2 28 (6 * k + j)) else if a = 19 then upd (s.2 19) (6 * k + j) (s.2 27 (6 * k + j)) else s.2 a := by
      intro a; rw [← hs5]; rfl
    have n5 : s5.1 = s.1 := by rw [← hs5]; rfl
    have eo : ∀ a, a < 19 ∨ 23 < a → s5.2 a = s.2 a := fun a h => by
      rw [e5, if_neg (by omega), if_neg (by omega), if_neg (by omega), if_neg (by omega), if_neg (by omega)]
    have ei : ∀ a, 19 ≤ a → a ≤ 23 → s5.2 a = upd (s.2 a) (6 * k + j) (s.2 (a + 8) (6 * k + j)) := fun a h1 h2 => by
      rcases (show a = 19 ∨ a = 20 ∨ a = 21 ∨ a = 22 ∨ a = 23 by omega) with rfl | rfl | rfl | rfl | rfl <;> rw [e5] <;> rfl
    obtain ⟨s', x1, x2, x3, x4⟩ := ih (j + 1) s5 f (by omega) (by omega) (by rw [eo 18 (by omega)]; exact h18)
    refine ⟨s', x1, by rw [x2, n5], fun a h => by rw [x3 a h, eo a h], fun a h1 h2 i => ?_⟩
    rw [x4 a h1 h2 i, eo (a + 8) (by omega), ei a h1 h2, hp_upd]
    by_cases hi : i = 6 * k + j
    · rw [if_neg (by omega), if_pos hi, if_pos (by omega), hi]
    · rw [if_neg hi]
      by_cases hr : 6 * k + j ≤ i ∧ i < 6 * k + tc
      · rw [if_pos (by omega), if_pos hr]
      · rw [if_neg (by omega), if_neg hr]
theorem fm_cpy {nr : Nat} (hnr : nr ≤ 20) : ∀ m k s f, k + m = nr → m < f → (∀ k', k' < nr → ∃ tc, tc ≤ 6 ∧ s.2 26 k' = nI tc) → ∃ s', Fm_md_rules_l128 f s (nI nr) (nI k) = some (nI nr, s') ∧ s'.1 = s.1 ∧ (∀ a, a < 16 ∨ 23 < a → s'.2 a = s.2 a) ∧ (∀ a i, 16 ≤ a → a ≤ 18 → s'.2 a i = if k ≤ i ∧ i < nr then s.2 (a + 8) i else s.2 a i) ∧ (∀ a i, 19 ≤ a → a ≤ 23 → i < 6 * k → s'.2 a i = s.2 a i) ∧ (∀ a k' j tc, 19 ≤ a → a ≤ 23 → k ≤ k' → k' < nr → s.2 26 k' = nI tc → tc ≤ 6 → j < tc → s'.2 a (6 * k' + j) = s.2 (a + 8) (6 * k' + j)) := by
  intro m
  induction m with
  | zero =>
    intro k s f hk hf h26
    obtain ⟨f, rfl⟩ : ∃ k, f = k + 1 := ⟨f - 1, by omega⟩
    refine ⟨s, ?_, rfl, fun _ _ => rfl, fun a i _ _ => by rw [if_neg (by omega)], fun _ _ _ _ _ => rfl, fun a k' j tc _ _ h1 h2 => by omega⟩
    rw [Fm_md_rules_l128, if_pos (by rw [hp_le, hp_nI (by omega), hp_nI (by omega)]; omega)]
  | succ m ih =>
    intro k s f hk hf h26
    obtain ⟨f, rfl⟩ : ∃ k, f = k + 1 := ⟨f - 1, by omega⟩
    have i1 : hf_ix (nI k) 21 := hp_ix (by omega) (by omega)
    have i2 : hf_ix (nI k) 20 := hp_ix (by omega) (by omega)
    obtain ⟨tc, htc, e26⟩ := h26 k (by omega)
    rw [Fm_md_rules_l128, if_neg (hp_nle (by omega) (by omega))]
    simp only [hp_gd i1, hp_gd i2, hp_let, hp_cl (show k < 2147483648 by omega)]
    generalize hs3 : hf_pA (hf_pA (hf_pA s 16 _) 17 _) 18 _ = s3
    have e3 : ∀ a, s3.2 a = if a = 18 then upd (s.2 18) k (s.2 26 k) else if a = 17 then upd (s.2 17) k (s.2 25 k) else if a = 16 then upd (s.2 16) k (s.2 24 k) else s.2 a := by
      intro a; rw [← hs3]; rfl
    have n3 : s3.1 = s.1 := by rw [← hs3]; rfl
    have eo : ∀ a, a < 16 ∨ 18 < a → s3.2 a = s.2 a := fun a h => by
      rw [e3, if_neg (by omega), if_neg (by omega), if_neg (by omega)]
    have ei : ∀ a, 16 ≤ a → a ≤ 18 → s3.2 a = upd (s.2 a) k (s.2 (a + 8) k) := fun a h1 h2 => by
      rcases (show a = 16 ∨ a = 17 ∨ a = 18 by omega) with rfl | rfl | rfl <;> rw [e3] <;> rfl
    have e6 : (6 : Int32) * nI k = nI (6 * k + 0) := by rw [show (6 : Int32) = nI 6 from rfl, pk_mul, Nat.add_zero]
    rw [e6]
    obtain ⟨s4, y1, y2, y3, y4⟩ := fm_cpy_in (k := k) (tc := tc) (by omega) htc (fun z0 z1 z2 => Fm_md_rules_l128 f z0 z1 z2) (nI nr) tc 0 s3 hf_fuel (by omega) (by unfold hf_fuel; omega) (by rw [ei 18 (by omega) (by omega), hp_upd, if_pos rfl]; exact e26)
    rw [y1]
    have f26 : s4.2 26 = s.2 26 := by rw [y3 26 (by omega), eo 26 (by omega)]
    obtain ⟨s', x1, x2, x3, x4, x5, x6⟩ := ih (k + 1) s4 f (by omega) (by omega) (fun k' h => by rw [f26]; exact h26 k' h)
    refine ⟨s', x1, by rw [x2, y2, n3], fun a h => by rw [x3 a h, y3 a (by omega), eo a (by omega)], fun a i h1 h2 => ?_, fun a i h1 h2 h3 => ?_, fun a k' j tc' h1 h2 h3 h4 h5 h6 h7 => ?_⟩
    · rw [x4 a i h1 h2, y3 (a + 8) (by omega), eo (a + 8) (by omega), y3 a (by omega), ei a h1 h2, hp_upd]
      by_cases hi : i = k
      · rw [if_neg (by omega), if_pos hi, if_pos (by omega), hi]
      · rw [if_neg hi]
        by_cases hr : k ≤ i ∧ i < nr
        · rw [if_pos (by omega), if_pos hr]
        · rw [if_neg (by omega), if_neg hr]
    · rw [x5 a i h1 h2 (by omega), y4 a h1 h2 i, if_neg (by omega), eo a (by omega)]
    · by_cases hk' : k' = k
      · subst hk'
        have : tc' = tc := by
          have := h5.symm.trans e26
          rwa [nI_eq (by omega) (by omega)] at this
        subst this
        rw [x5 a _ h1 h2 (by omega), y4 a h1 h2, if_pos (by omega), eo (a + 8) (by omega)]
      · rw [x6 a k' j tc' h1 h2 (by omega) h4 (by rw [f26]; exact h5) h6 h7, y3 (a + 8) (by omega), eo (a + 8) (by omega)]
theorem fc_take {s : hf_St} : ∃ s', Fc_book_takeFrom s = some s' ∧ (∀ j k, ¬ (j = 6 ∧ k = 6) → s'.1 j k = s.1 j k) ∧ s'.1 6 6 = s.1 8 6 ∧ (∀ a, a < 16 ∨ 21 < a → s'.2 a = s.2 a) ∧ (∀ a i, 16 ≤ a → a ≤ 18 → i < 20 → s'.2 a i = s.2 (a + 6) i) ∧ (∀ a i, 19 ≤ a → a ≤ 21 → i < 120 → s'.2 a i = s.2 (a + 6) i) := by
  have z0 : (0 : Int32).toNatClampNeg = 0 := rfl
  have z20 : (20 : Int32).toNatClampNeg = 20 := rfl
  have z120 : (120 : Int32).toNatClampNeg = 120 := rfl
  unfold Fc_book_takeFrom
  simp only [hp_let, z0, z20, z120]
  refine ⟨_, rfl, fun j k h => ?_, ?_, fun a h => ?_, fun a i h1 h2 h3 => ?_, fun a i h1 h2 h3 => ?_⟩
  · rw [hf_pI_1, if_neg h]; rfl
  · rw [hf_pI_1, if_pos ⟨rfl, rfl⟩]; rfl
  · rw [hf_pI_2]
    simp only [hf_pA_2]
    rw [if_neg (by omega), if_neg (by omega), if_neg (by omega), if_neg (by omega), if_neg (by omega), if_neg (by omega)]
  · rcases (show a = 16 ∨ a = 17 ∨ a = 18 by omega) with rfl | rfl | rfl
    · show va_cpy (s.2 22) (s.2 16) 0 0 20 i = s.2 22 i
      rw [pk_cpy_in (by omega) (by omega)]; simp
    · show va_cpy (s.2 23) (s.2 17) 0 0 20 i = s.2 23 i
      rw [pk_cpy_in (by omega) (by omega)]; simp
    · show va_cpy (s.2 24) (s.2 18) 0 0 20 i = s.2 24 i
      rw [pk_cpy_in (by omega) (by omega)]; simp
  · rcases (show a = 19 ∨ a = 20 ∨ a = 21 by omega) with rfl | rfl | rfl
    · show va_cpy (s.2 25) (s.2 19) 0 0 120 i = s.2 25 i
      rw [pk_cpy_in (by omega) (by omega)]; simp
    · show va_cpy (s.2 26) (s.2 20) 0 0 120 i = s.2 26 i
      rw [pk_cpy_in (by omega) (by omega)]; simp
    · show va_cpy (s.2 27) (s.2 21) 0 0 120 i = s.2 27 i
      rw [pk_cpy_in (by omega) (by omega)]; simp
/-! RULES -/
theorem pr_hqc {a b : hf_St} (h : pc_fr a b) : hq_c a b := ⟨fun j k q => h.2 j k (by omega) (by omega), fun x q => h.1 x (by omega)⟩
theorem pr_hqm {a b : hf_St} (h : pm_fr a b) : hq_m a b := ⟨fun k q => h.2 k (by omega), fun x q => h.1 x (by omega)⟩
theorem hr_rules {σc σm : hf_St} (h : hr σc σm) : hr_ok (Fc_hf_rules σc) (Fm_md_rules σm) := by
  obtain ⟨t, nc, nh, np, nf, nt, nr, hn⟩ := h
  obtain ⟨hcl, hch, hho, hpa, hfa, ⟨t1, t2, t3, t4⟩, hru, hpl⟩ := id hn
  have n1 : ¬ (1 : Int32) = 0 := by decide
  have hbs : ∃ bs : Nat → Nat, ∀ i, i < nt → bs i < 256 ∧ σc.2 15 i = nI (bs i) ∧ σm.2 15 i = (nI (bs i)).toInt8.toInt32 :=
    ⟨fun i => if hi : i < nt then (t4 i hi).choose else 0, fun i hi => by
      simp only [dif_pos hi]
      exact (t4 i hi).choose_spec⟩
  obtain ⟨bs, hbs⟩ := hbs
  -- the class's start
  obtain ⟨c0, ec0⟩ : ∃ c0, c0 = hf_pI (hf_pI (hf_pI σc 8 6 0) 7 4 (-1)) 7 3 0 := ⟨_, rfl⟩
  have fc0 : pc_fr σc c0 := by rw [ec0]; exact pc_frt (pc_frt pc_fr8 pc_fr4) (pc_frz (pz_frI (Or.inr rfl)))
  have hc0 : pz_c bs nt c0 := pc_c ⟨t1, t3, fun i hi => ⟨(hbs i hi).1, (hbs i hi).2.1⟩⟩ fc0
  obtain ⟨c1, g1, g2, g3, g4⟩ := fc_step (p := 0) hc0 (by omega) (by rw [ec0]; simp [hf_pI]; rfl)
  obtain ⟨m0, em0⟩ : ∃ m0, m0 = hf_pI (hf_pI σm 0 22 0) 0 23 0 := ⟨_, rfl⟩
  have fm0 : pm_fr σm m0 := by rw [em0]; exact pm_frt (pm_frs (pz_fsI (by omega))) (pm_frs (pz_fsI (by omega)))
  have hm0 : pz_m bs nt m0 := pm_m ⟨t2, t3, fun i hi => ⟨(hbs i hi).1, (hbs i hi).2.2⟩⟩ fm0
  obtain ⟨m1, d1, d2, d3, d4, d5⟩ := fm_see (p := 0) hm0 (by omega) (by rw [em0]; simp [hf_pI]; rfl)
  have hsk := pz_sk_in bs (nt - 0) 0
  have hss := pz_sk_sk bs (nt - 0) 0
  generalize hq : pz_sk bs (nt - 0) 0 = q at *
  have hB : pr_B bs nt q σc σm c1 m1 := ⟨pz_cf hc0 g2, pz_mf hm0 d2, ⟨by omega, g3, g4⟩, ⟨q, by omega, d3, by rw [show nt - q = nt - 0 - (q - 0) by omega]; exact hss⟩, by rw [d2.2 23 (by omega), em0]; simp [hf_pI], by rw [g2.2 7 4 (by omega), ec0]; simp [hf_pI], pc_frt fc0 (pc_frz g2), pm_frt fm0 (pm_frs (pz_fsm d2))⟩
  have hR : pr_R 0 c1 m1 := ⟨by rw [g2.2 8 6 (by omega), ec0]; simp [hf_pI]; rfl, fun k' hk => by omega⟩
  have C : Fc_reader_read σc = if q < nt then Fc_reader_read_l36 hf_fuel c1 1 0 else some (-1, c1) := by
    unfold Fc_reader_read Fc_draft_clear Fc_reader_isAtEnd Fc_tape_size
    simp only [hp_b0, hp_let, hp_b1]
    rw [← ec0, g1, hp_b0, (hB.1).1, g3]
    by_cases hlt : q < nt
    · rw [if_pos (show nI q < nI nt by rw [hp_lt, hp_nI (by omega), hp_nI (by omega)]; omega), hp_z0, hp_b1, if_pos rfl, if_pos hlt]
    · rw [if_neg (show ¬ nI q < nI nt by rw [hp_lt, hp_nI (by omega), hp_nI (by omega)]; omega), hp_z1, hp_b1, if_neg n1, if_neg hlt, pr_stop (by unfold hf_fuel; omega), hB.2.2.2.2.2.1]
  have M : Fm_md_rules σm = if q < nt then Fm_md_rules_l28 hf_fuel m1 0 1 1 else Fm_md_rules_b103 m1 0 1 := by
    unfold Fm_md_rules
    rw [hp_let, hp_let, ← em0, d1, hp_b2]
    by_cases hlt : q < nt
    · have := (hbs q hlt).1
      rw [if_pos hlt, if_neg (show ¬ nI (bs q) = -1 by rw [hp_eq, hp_nI (by omega), hp_m1]; omega), if_pos hlt]
    · rw [if_neg hlt, if_pos rfl, if_neg hlt, pr_stopm (by unfold hf_fuel; omega) _ _ _ _ (Or.inr rfl)]
  have key : (∃ σc' σm' l v, Fc_reader_read σc = some (v, σc') ∧ ¬ v = -1 ∧ Fm_md_rules σm = Fm_md_rules_b103 σm' l 0 ∧ σm'.1 0 23 = v ∧ pc_fr σc σc' ∧ pm_fr σm σm') ∨
    (∃ σc' σm' k', Fc_reader_read σc = some (-1, σc') ∧ Fm_md_rules σm = Fm_md_rules_b103 σm' (nI k') 1 ∧ k' ≤ 20 ∧ pr_R k' σc' σm' ∧ pc_fr σc σc' ∧ pm_fr σm σm') := by
    rw [C, M]
    by_cases hlt : q < nt
    · rw [if_pos hlt, if_pos hlt]
      exact pr_loop 20 0 q c1 m1 hf_fuel hf_fuel (by omega) (by unfold hf_fuel; omega) (by unfold hf_fuel; omega) hB hR
    · rw [if_neg hlt, if_neg hlt]
      exact Or.inr ⟨c1, m1, 0, rfl, rfl, by omega, hR, hB.2.2.2.2.2.2.1, hB.2.2.2.2.2.2.2⟩
  have cut : ∀ s : hf_St, pc_fr σc s → Fc_tape_cut s 0 = some (1, hf_pI s 5 1 0) := by
    intro s hs
    unfold Fc_tape_cut
    rw [if_neg (by decide), hs.2 5 1 (by omega) (by omega), t1, if_pos (by rw [hp_le, hp_0, hp_nI (by omega)]; omega), hp_let, hp_z1]
  unfold Fc_hf_rules
  rcases key with ⟨σc', σm', l, v, k1, k2, k3, k4, k5, k6⟩ | ⟨σc', σm', k', k1, k2, k3, k4, k5, k6⟩
  · rw [k1, hp_b2, cut σc' k5, hp_b2, if_neg k2, k3]
    have hn2 := hr_frm (hr_fr hn (pr_hqc k5)) (pr_hqm k6)
    obtain ⟨x1, x2, x3, x4, x5, x6, x7, x8⟩ := hn2
    refine ⟨-2 - v, hf_pI σc' 5 1 0, hf_pI σm' 0 21 0, rfl, ?_, t, nc, nh, np, nf, 0, nr, x1, x2, x3, x4, x5, ⟨rfl, rfl, by omega, fun i hi => by omega⟩, x7, x8⟩
    unfold Fm_md_rules_b103
    rw [hp_let, if_pos rfl, hf_pI_1, if_neg (by omega), k4]
  · rw [k1, hp_b2, cut σc' k5, hp_b2, if_pos rfl, k2]
    obtain ⟨s5, y1, y2, y3, y4, y5, y6⟩ := fc_take (s := hf_pI σc' 5 1 0)
    unfold Fc_book_size
    rw [y1, hp_b0, hp_b1]
    unfold Fm_md_rules_b103
    rw [hp_let, if_neg n1, hp_let]
    have hterm : ∀ k'', k'' < k' → ∃ tc, tc ≤ 6 ∧ (hf_pI (hf_pI σm' 0 21 0) 0 24 (nI k')).2 26 k'' = nI tc := by
      intro k'' hk
      obtain ⟨kd, tc, _, _, z1, _, _, _, _, _, z2, _⟩ := k4.2 k'' hk
      exact ⟨tc, z1, z2⟩
    obtain ⟨s6, w1, w2, w3, w4, w5, w6⟩ := fm_cpy k3 k' 0 (hf_pI (hf_pI σm' 0 21 0) 0 24 (nI k')) hf_fuel (by omega) (by unfold hf_fuel; omega) hterm
    have hn2 := hr_frm (hr_fr hn (pr_hqc k5)) (pr_hqm k6)
    obtain ⟨x1, x2, x3, x4, x5, x6, x7, x8⟩ := hn2
    have e8 : s5.1 6 6 = nI k' := by rw [y3]; exact k4.1
    have yj : ∀ j k, ¬ (j = 6 ∧ k = 6) → ¬ (j = 5 ∧ k = 1) → s5.1 j k = σc'.1 j k := fun j k h1 h2 => by
      rw [y2 j k h1, hf_pI_1, if_neg h2]
    have wj : ∀ k, ¬ k = 21 → ¬ k = 24 → s6.1 0 k = σm'.1 0 k := fun k h1 h2 => by
      rw [w2, hf_pI_1, if_neg (by omega), hf_pI_1, if_neg (by omega)]
    have ya : ∀ a, a < 16 ∨ 21 < a → s5.2 a = σc'.2 a := fun a h => y4 a h
    have wa : ∀ a, a < 16 ∨ 23 < a → s6.2 a = σm'.2 a := fun a h => w3 a h
    refine ⟨nI k', s5, s6, by rw [e8], w1, t, nc, nh, np, nf, 0, k', ?_, ?_, ?_, ?_, ?_, ⟨?_, ?_, by omega, fun i hi => by omega⟩, ⟨e8, ?_, k3, fun k'' hk => ?_⟩, ?_⟩
    · unfold hr_clk at *
      rw [yj 0 10 (by omega) (by omega), wj 0 (by omega) (by omega)]; exact x1
    · unfold hr_chl at *
      simp only [yj 1 5 (by omega) (by omega), wj 1 (by omega) (by omega), ya 0 (by omega), ya 1 (by omega), ya 2 (by omega), ya 3 (by omega), ya 4 (by omega), wa 0 (by omega), wa 1 (by omega), wa 2 (by omega), wa 3 (by omega), wa 4 (by omega), hr_kid] at *
      exact x2
    · unfold hr_hom at *
      simp only [yj 2 2 (by omega) (by omega), wj 7 (by omega) (by omega), ya 5 (by omega), ya 6 (by omega), wa 5 (by omega), wa 6 (by omega)]
      exact x3
    · unfold hr_pap at *
      simp only [yj 3 3 (by omega) (by omega), wj 10 (by omega) (by omega), ya 7 (by omega), ya 8 (by omega), ya 9 (by omega), wa 7 (by omega), wa 8 (by omega), wa 9 (by omega)]
      exact x4
    · unfold hr_fac at *
      simp only [yj 4 5 (by omega) (by omega), wj 14 (by omega) (by omega), ya 10 (by omega), ya 11 (by omega), ya 12 (by omega), ya 13 (by omega), ya 14 (by omega), wa 10 (by omega), wa 11 (by omega), wa 12 (by omega), wa 13 (by omega), wa 14 (by omega), hr_one] at *
      exact x5
    · rw [y2 5 1 (by omega)]; rfl
    · rw [w2]; rfl
    · rw [w2]; rfl
    · obtain ⟨kd, tc, z1, z2⟩ := pr_open (k4.2 k'' hk)
      have z3 := z2.2.1
      have z4 : σm'.2 26 k'' = nI tc := z2.2.2.2.2.2.2.2.1
      refine pr_full (pr_rl_tr ?_ ?_ ?_ ?_ z2) z1
      · intro a ha
        rw [y5 (16 + a) k'' (by omega) (by omega) (by omega), show 16 + a + 6 = 22 + a by omega]; rfl
      · intro a ha
        rw [w4 (16 + a) k'' (by omega) (by omega), if_pos (by omega), show 16 + a + 8 = 24 + a by omega]; rfl
      · intro a j h1 h2 h3
        rw [y6 (16 + a) _ (by omega) (by omega) (by omega), show 16 + a + 6 = 22 + a by omega]; rfl
      · intro a j h1 h2 h3
        rw [w6 (16 + a) k'' j tc (by omega) (by omega) (by omega) hk z4 z3 h3, show 16 + a + 8 = 24 + a by omega]; rfl
    · unfold hr_pla at *
      simp only [wj 51 (by omega) (by omega), wj 52 (by omega) (by omega), wj 53 (by omega) (by omega), wj 54 (by omega) (by omega), wj 55 (by omega) (by omega), wj 56 (by omega) (by omega), ya 30 (by omega), ya 31 (by omega), wa 32 (by omega)]
      exact x8
