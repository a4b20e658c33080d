theorem hp_t0i (p : Prop) [Decidable p] : ((hp_t p).toInt = 0) ↔ ¬ p := by
  unfold hp_t; split <;> simp [*] <;> decide
theorem hp_succ (n : Nat) : nI n + 1 = nI (n + 1) := nI_1 n
theorem hp_pred (n : Nat) : nI (n + 1) - 1 = nI n := nI_pred n
theorem hp_nar0 : vp_nar .boolean (0 : Int32) = 0 := rfl
theorem hp_nar1 : vp_nar .boolean (1 : Int32) = 1 := rfl
theorem hr_child {σc σm : hf_St} (h : hr σc σm) (a : Int32) : hr_ok (Fc_hf_child σc a) (Fm_md_child σm a) := by
  obtain ⟨t, nc, nh, np, nf, nt, nr, hcl, ⟨h1, h2, h3, g0, g1, g2, g3, g4, g5, g6⟩, hho, hpa, hfa, hta, hru, ⟨p1, p2, p3⟩⟩ := id h
  have e := hp_nI (show nc < 2147483648 by omega)
  have ec := hp_cl (show nc < 2147483648 by omega)
  unfold Fc_hf_child Fc_children_add Fm_md_child
  simp only [hp_let, hf_pA_1, hf_pI_1, h1, h2, hp_lt, hp_le, hp_eq, e, ec, hp_7, hp_3, and_self, if_true, hp_succ, hp_pred, fm_in, hp_b1, hp_t0, hp_t0i, hp_0]
  by_cases hc : nc < 7 ∧ 0 ≤ a.toInt ∧ a.toInt ≤ 3
  · rw [if_neg (by omega), if_neg (by omega), if_pos (by omega), hp_gd (by omega), hp_b2, if_neg (by omega), if_neg (by omega), hp_gd (by omega), hp_gd (by omega)]
    refine ⟨nI nc, _, _, rfl, rfl, t, nc + 1, nh, np, nf, nt, nr, hcl, ⟨rfl, rfl, by omega, ?_, g1, g2, g3, g4, fun i hi => ?_, fun i hi => g6 i (by omega)⟩, hho, hpa, hfa, hta, hru, ⟨fun i hi => ?_, fun i hi => ?_, p3⟩⟩
    · show upd (σc.2 0) nc a = upd (σm.2 0) nc a
      rw [g0]
    · show (0 ≤ (upd (σm.2 0) nc a i).toInt ∧ (upd (σm.2 0) nc a i).toInt ≤ 3) ∧ _
      by_cases hi2 : i = nc
      · subst hi2
        rw [hp_upd, if_pos rfl]
        have := g6 i (Nat.le_refl _)
        exact ⟨hc.2, Or.inl this.1, fun h => absurd (this.1.symm.trans h) (by decide), Or.inl this.2⟩
      · rw [hp_upd, if_neg hi2]
        exact g5 i (by omega)
    · show σc.2 30 i = if i < nc + 1 then upd (σm.2 32) nc (-1) i else -1
      rw [p1 i hi, hp_upd]
      by_cases hi2 : i = nc
      · subst hi2; rw [if_neg (by omega), if_pos (by omega), if_pos rfl]
      · by_cases hi3 : i < nc
        · rw [if_pos hi3, if_pos (by omega), if_neg hi2]
        · rw [if_neg hi3, if_neg (by omega)]
    · show -1 ≤ (upd (σm.2 32) nc (-1) i).toInt ∧ (upd (σm.2 32) nc (-1) i).toInt < nh
      rw [hp_upd]
      by_cases hi2 : i = nc
      · rw [if_pos hi2, hp_m1]; omega
      · rw [if_neg hi2]; exact p2 i (by omega)
  · refine ⟨-1, σc, σm, ?_, ?_, h⟩
    · by_cases h7 : nc < 7
      · rw [if_neg (by omega)]
        by_cases h0 : a.toInt < 0
        · rw [if_pos h0]; rfl
        · rw [if_neg h0, if_neg (by omega)]; rfl
      · rw [if_pos (by omega)]; rfl
    · by_cases h7 : nc < 7
      · rw [if_neg (by omega), if_pos (by omega)]
      · rw [if_pos (by omega)]
theorem hr_home {σc σm : hf_St} (h : hr σc σm) (a : Int32) : hr_ok (Fc_hf_home σc a) (Fm_md_home σm a) := by
  obtain ⟨t, nc, nh, np, nf, nt, nr, hcl, hch, ⟨h1, h2, h3, g0, g1, g2⟩, hpa, hfa, hta, hru, ⟨p1, p2, p3⟩⟩ := id h
  have e := hp_nI (show nh < 2147483648 by omega)
  have ec := hp_cl (show nh < 2147483648 by omega)
  unfold Fc_hf_home Fc_homes_add Fm_md_home
  simp only [hp_let, hf_pA_1, hf_pI_1, h1, h2, hp_lt, hp_le, hp_eq, e, ec, hp_5, hp_1, hp_6, and_self, if_true, hp_succ, hp_pred, fm_in, hp_b1, hp_t0, hp_t0i, hp_0]
  by_cases hc : nh < 5 ∧ 1 ≤ a.toInt ∧ a.toInt ≤ 6
  · rw [if_neg (by omega), if_neg (by omega), if_pos (by omega), hp_gd (by omega), hp_gd (by omega), hp_b2, if_neg (by omega), if_neg (by omega), hp_gd (by omega), hp_gd (by omega)]
    refine ⟨nI nh, _, _, rfl, rfl, t, nc, nh + 1, np, nf, nt, nr, hcl, hch, ⟨rfl, rfl, by omega, ?_, ?_, fun i hi => ?_⟩, hpa, hfa, hta, hru, ⟨p1, fun i hi => ?_, p3⟩⟩
    · show upd (σc.2 5) nh a = upd (σm.2 5) nh a
      rw [g0]
    · show upd (σc.2 6) nh (-1) = upd (σm.2 6) nh (-1)
      rw [g1]
    · show (1 ≤ (upd (σm.2 5) nh a i).toInt ∧ (upd (σm.2 5) nh a i).toInt ≤ 6) ∧ (-1 ≤ (upd (σm.2 6) nh (-1) i).toInt ∧ (upd (σm.2 6) nh (-1) i).toInt ≤ 999)
      rw [hp_upd, hp_upd]
      by_cases hi2 : i = nh
      · rw [if_pos hi2, if_pos hi2, hp_m1]; exact ⟨hc.2, by omega, by omega⟩
      · rw [if_neg hi2, if_neg hi2]; exact g2 i (by omega)
    · have := p2 i hi
      show -1 ≤ (σm.2 32 i).toInt ∧ (σm.2 32 i).toInt < ((nh + 1 : Nat) : Int)
      omega
  · refine ⟨-1, σc, σm, ?_, ?_, h⟩
    · by_cases h7 : nh < 5
      · rw [if_neg (by omega)]
        by_cases h0 : a.toInt < 1
        · rw [if_pos h0]; rfl
        · rw [if_neg h0, if_neg (by omega)]; rfl
      · rw [if_pos (by omega)]; rfl
    · by_cases h7 : nh < 5
      · rw [if_neg (by omega), if_pos (by omega)]
      · rw [if_pos (by omega)]
theorem hr_paper {σc σm : hf_St} (h : hr σc σm) (a b c : Int32) : hr_ok (Fc_hf_paper σc a b c) (Fm_md_paper σm a b c) := by
  obtain ⟨t, nc, nh, np, nf, nt, nr, hcl, hch, hho, ⟨h1, h2, h3, g0, g1, g2, g3⟩, hfa, hta, hru, hpl⟩ := id h
  have e := hp_nI (show np < 2147483648 by omega)
  have ec := hp_cl (show np < 2147483648 by omega)
  unfold Fc_hf_paper Fc_papers_add Fm_md_paper
  simp only [fc_has_h hho.1 hho.2.2.1, fm_isHome hho.2.1 hho.2.2.1, fc_isDay, fm_isDay, fm_in, hp_b1, hp_t0, hp_t0i, hp_0, hp_let, hf_pA_1, hf_pI_1, h1, h2, hp_lt, hp_le, hp_eq, e, ec, hp_30, hp_999, and_self, if_true, hp_succ, hp_pred]
  by_cases hc : np < 30 ∧ (0 ≤ a.toInt ∧ a.toInt < nh) ∧ 0 ≤ b.toInt ∧ b.toInt ≤ c.toInt ∧ c.toInt ≤ 999
  · rw [if_neg (by omega), if_neg (by omega), if_neg (by omega), if_pos (by omega), if_pos (by omega), hp_gd (by omega), hp_gd (by omega), hp_gd (by omega), hp_b2, if_neg (by omega), if_neg (by omega), if_neg (by omega), if_neg (by omega), hp_gd (by omega), hp_gd (by omega), hp_gd (by omega)]
    refine ⟨nI np, _, _, rfl, rfl, t, nc, nh, np + 1, nf, nt, nr, hcl, hch, hho, ⟨rfl, rfl, by omega, ?_, ?_, ?_, fun i hi => ?_⟩, hfa, hta, hru, hpl⟩
    · show upd (σc.2 7) np a = upd (σm.2 7) np a
      rw [g0]
    · show upd (σc.2 8) np b = upd (σm.2 8) np b
      rw [g1]
    · show upd (σc.2 9) np c = upd (σm.2 9) np c
      rw [g2]
    · show 0 ≤ (upd (σm.2 8) np b i).toInt ∧ (upd (σm.2 8) np b i).toInt ≤ (upd (σm.2 9) np c i).toInt ∧ (upd (σm.2 9) np c i).toInt ≤ 999
      rw [hp_upd, hp_upd]
      by_cases hi2 : i = np
      · rw [if_pos hi2, if_pos hi2]; exact hc.2.2
      · rw [if_neg hi2, if_neg hi2]; exact g3 i (by omega)
  · refine ⟨-1, σc, σm, ?_, ?_, h⟩
    · by_cases ha : 0 ≤ a.toInt ∧ a.toInt < nh
      · rw [if_neg (by omega)]
        by_cases hb : 0 ≤ b.toInt ∧ b.toInt ≤ 999
        · rw [if_neg (by omega)]
          by_cases hcc : 0 ≤ c.toInt ∧ c.toInt ≤ 999
          · rw [if_neg (by omega)]
            by_cases hbc : b.toInt ≤ c.toInt
            · rw [if_pos hbc, if_neg (by omega)]; rfl
            · rw [if_neg hbc]
          · rw [if_pos (by omega)]
        · rw [if_pos (by omega)]
      · rw [if_pos (by omega)]
    · by_cases h30 : np < 30
      · rw [if_neg (by omega)]
        by_cases ha : 0 ≤ a.toInt ∧ a.toInt < nh
        · rw [if_neg (by omega)]
          by_cases hb : 0 ≤ b.toInt ∧ b.toInt ≤ 999
          · rw [if_neg (by omega), if_pos (by omega)]
          · rw [if_pos (by omega)]
        · rw [if_pos (by omega)]
      · rw [if_pos (by omega)]
theorem hr_close {σc σm : hf_St} (h : hr σc σm) (a b : Int32) : hr_ok (Fc_hf_close σc a b) (Fm_md_close σm a b) := by
  obtain ⟨t, nc, nh, np, nf, nt, nr, hcl, hch, ⟨h1, h2, h3, g0, g1, g2⟩, hpa, hfa, hta, hru, hpl⟩ := id h
  unfold Fc_hf_close Fc_hf_close_b25 Fc_homes_closeFrom Fm_md_close Fm_md_close_b22
  simp only [fc_has_h h1 h3, fm_isHome h2 h3, fc_isDay, fm_isDay, hp_b1, hp_t0, hp_t0i, hp_0, hp_let, hp_eq, hp_m1, hp_z0, hp_z1]
  by_cases ha : 0 ≤ a.toInt ∧ a.toInt < nh
  · by_cases hb : b.toInt = -1 ∨ (0 ≤ b.toInt ∧ b.toInt ≤ 999)
    · obtain ⟨n, hn, rfl, hn2⟩ := hp_of (x := a) (by omega)
      have ec := hp_cl (show n < 2147483648 by omega)
      refine ⟨1, hf_pA σc 6 (upd (σc.2 6) n b), hf_pA σm 6 (upd (σm.2 6) n b), ?_, ?_, t, nc, nh, np, nf, nt, nr, hcl, hch, ⟨h1, h2, h3, g0, ?_, fun i hi => ⟨(g2 i hi).1, ?_⟩⟩, hpa, hfa, hta, hru, hpl⟩
      · rw [if_neg (by omega)]
        by_cases hb2 : b.toInt = -1
        · rw [if_pos hb2, if_neg (by omega), hp_gd (by omega), ec]; rfl
        · rw [if_neg hb2, if_neg (by omega), if_neg (by omega), hp_gd (by omega), ec]; rfl
      · rw [if_neg (by omega)]
        by_cases hb2 : b.toInt = -1
        · rw [if_pos hb2, hp_gd (by omega), ec]
        · rw [if_neg hb2, if_neg (by omega), hp_gd (by omega), ec]
      · show upd (σc.2 6) n b = upd (σm.2 6) n b
        rw [g1]
      · show -1 ≤ (upd (σm.2 6) n b i).toInt ∧ (upd (σm.2 6) n b i).toInt ≤ 999
        rw [hp_upd]
        by_cases hi2 : i = n
        · rw [if_pos hi2]; omega
        · rw [if_neg hi2]; exact (g2 i hi).2
    · refine ⟨0, σc, σm, ?_, ?_, h⟩
      · rw [if_neg (by omega), if_neg (by omega), if_pos (by omega)]
      · rw [if_neg (by omega), if_neg (by omega), if_pos (by omega)]
  · refine ⟨0, σc, σm, ?_, ?_, h⟩
    · rw [if_pos (by omega)]
    · rw [if_pos (by omega)]
theorem hp_nar {a : Int32} (h : a = 0 ∨ a = 1) : vp_nar .boolean a = a := by rcases h with rfl | rfl <;> rfl
theorem hr_need {σc σm : hf_St} (h : hr σc σm) (a b c q : Int32) (hq : q = 0 ∨ q = 1) : hr_ok (Fc_hf_need σc a b c q) (Fm_md_need σm a b c q) := by
  obtain ⟨t, nc, nh, np, nf, nt, nr, hcl, ⟨h1, h2, h3, g0, g1, g2, g3, g4, g5, g6⟩, hho, hpa, hfa, hta, hru, hpl⟩ := id h
  unfold Fc_hf_need Fc_hf_need_b34 Fc_hf_need_b35 Fc_children_setNeed Fm_md_need
  simp only [fc_has_c h1 h3, fm_isChild h2 h3, fc_isDay, fm_isDay, fm_in, hp_b1, hp_t0, hp_t0i, hp_0, hp_let, hp_lt, hp_le, hp_z0, hp_z1, hp_nar1, hp_nar hq, hp_999]
  by_cases hd : 0 ≤ b.toInt ∧ b.toInt ≤ c.toInt ∧ c.toInt ≤ 999
  · have es : (c - b).toInt = c.toInt - b.toInt := hp_sub (by omega) (by omega)
    have es2 : (c - b + 1).toInt = c.toInt - b.toInt + 1 := by rw [hp_add (by rw [es, hp_1]; omega) (by rw [es, hp_1]; omega), es, hp_1]
    simp only [es, es2, hp_59, hp_60]
    by_cases hc : (0 ≤ a.toInt ∧ a.toInt < nc) ∧ c.toInt - b.toInt ≤ 59
    · obtain ⟨n, hn, rfl, hn2⟩ := hp_of (x := a) (by omega)
      have ec := hp_cl (show n < 2147483648 by omega)
      rw [if_neg (by omega), if_neg (by omega), if_neg (by omega), if_neg (by omega), if_neg (by decide), if_pos (by omega), if_neg (by omega), hp_gd (by omega), hp_gd (by omega), hp_gd (by omega), hp_gd (by omega), hp_b0, if_neg (by omega), if_neg (by omega), if_neg (by omega), if_pos (by omega), hp_gd (by omega), hp_gd (by omega), hp_gd (by omega), hp_gd (by omega), ec]
      refine ⟨1, _, _, rfl, rfl, t, nc, nh, np, nf, nt, nr, hcl, ⟨h1, h2, h3, g0, ?_, ?_, ?_, ?_, fun i hi => ?_, fun i hi => ?_⟩, hho, hpa, hfa, hta, hru, hpl⟩
      · show upd (σc.2 1) n 1 = upd (σm.2 1) n 1
        rw [g1]
      · show upd (σc.2 2) n b = upd (σm.2 2) n b
        rw [g2]
      · show upd (σc.2 3) n c = upd (σm.2 3) n c
        rw [g3]
      · show upd (σc.2 4) n q = upd (σm.2 4) n q
        rw [g4]
      · show _ ∧ (upd (σm.2 1) n 1 i = 0 ∨ upd (σm.2 1) n 1 i = 1) ∧ (upd (σm.2 1) n 1 i = 1 → 0 ≤ (upd (σm.2 2) n b i).toInt ∧ (upd (σm.2 2) n b i).toInt ≤ (upd (σm.2 3) n c i).toInt ∧ (upd (σm.2 3) n c i).toInt ≤ 999 ∧ (upd (σm.2 3) n c i).toInt - (upd (σm.2 2) n b i).toInt ≤ 59) ∧ (upd (σm.2 4) n q i = 0 ∨ upd (σm.2 4) n q i = 1)
        simp only [hp_upd]
        by_cases hi2 : i = n
        · simp only [if_pos hi2]
          exact ⟨(g5 i hi).1, Or.inr trivial, fun _ => ⟨hd.1, hd.2.1, hd.2.2, hc.2⟩, hq⟩
        · simp only [if_neg hi2]
          exact g5 i hi
      · show upd (σm.2 1) n 1 i = 0 ∧ upd (σm.2 4) n q i = 0
        rw [hp_upd, hp_upd, if_neg (by omega), if_neg (by omega)]
        exact g6 i hi
    · refine ⟨0, σc, σm, ?_, ?_, h⟩
      · by_cases ha : 0 ≤ a.toInt ∧ a.toInt < nc
        · rw [if_neg (by omega), if_neg (by omega), if_neg (by omega), if_neg (by omega), if_neg (by decide), if_neg (by omega)]
        · rw [if_pos (by omega), if_pos trivial]
      · by_cases ha : 0 ≤ a.toInt ∧ a.toInt < nc
        · rw [if_neg (by omega), if_neg (by omega), if_neg (by omega), if_neg (by omega)]
        · rw [if_pos (by omega)]
  · refine ⟨0, σc, σm, ?_, ?_, h⟩
    · by_cases ha : 0 ≤ a.toInt ∧ a.toInt < nc
      · rw [if_neg (by omega)]
        by_cases hb : 0 ≤ b.toInt ∧ b.toInt ≤ 999
        · rw [if_neg (by omega)]
          by_cases hcc : 0 ≤ c.toInt ∧ c.toInt ≤ 999
          · rw [if_neg (by omega), if_pos (by omega), if_pos trivial]
          · rw [if_pos (by omega), if_pos trivial]
        · rw [if_pos (by omega), if_pos trivial]
      · rw [if_pos (by omega), if_pos trivial]
    · by_cases ha : 0 ≤ a.toInt ∧ a.toInt < nc
      · rw [if_neg (by omega)]
        by_cases hb : 0 ≤ b.toInt ∧ b.toInt ≤ 999
        · rw [if_neg (by omega), if_pos (by omega)]
        · rw [if_pos (by omega)]
      · rw [if_pos (by omega)]
/-- the class's hasNeed -/
theorem fc_hasNeed {s : hf_St} {n : Nat} (h : s.1 1 5 = nI n) (hn : n ≤ 7) (a : Int32) : Fc_children_hasNeed s a = some (hp_t ((0 ≤ a.toInt ∧ a.toInt < n) ∧ ¬ s.2 1 a.toNatClampNeg = 0)) := by
  unfold Fc_children_hasNeed
  simp only [fc_has_c h hn, hp_b1, hp_t0, hp_t0i, hp_0, hp_z0, hp_z1]
  by_cases ha : 0 ≤ a.toInt ∧ a.toInt < n
  · rw [if_neg (by omega), hp_gd (by omega)]
    by_cases hz : s.2 1 a.toNatClampNeg = 0
    · rw [if_pos hz, hp_tneg (fun h => h.2 hz)]
    · rw [if_neg hz, hp_tpos ⟨ha, hz⟩]
  · rw [if_pos (by omega), hp_tneg (fun h => ha h.1)]
theorem hr_ends {σc σm : hf_St} (h : hr σc σm) (a : Int32) : hr_ok (Fc_hf_ends σc a) (Fm_md_ends σm a) := by
  obtain ⟨t, nc, nh, np, nf, nt, nr, hcl, ⟨h1, h2, h3, g0, g1, g2, g3, g4, g5, g6⟩, hho, hpa, hfa, hta, hru, hpl⟩ := id h
  unfold Fc_hf_ends Fc_children_endNeed Fm_md_ends
  simp only [fc_hasNeed h1 h3, fm_isChild h2 h3, hp_b1, hp_t0, hp_t0i, hp_0, hp_let, hp_z0, hp_z1, hp_nar0, g1]
  by_cases ha : 0 ≤ a.toInt ∧ a.toInt < nc
  · obtain ⟨n, hn, rfl, hn2⟩ := hp_of (x := a) (by omega)
    have ec := hp_cl (show n < 2147483648 by omega)
    rw [ec]
    by_cases hz : σm.2 1 n = 0
    · refine ⟨0, σc, σm, ?_, ?_, h⟩
      · rw [if_pos (fun h => h.2 hz)]; rfl
      · rw [if_neg (by omega), hp_gd (by omega), if_pos hz]
    · refine ⟨1, hf_pA σc 1 (upd (σm.2 1) n 0), hf_pA σm 1 (upd (σm.2 1) n 0), ?_, ?_, t, nc, nh, np, nf, nt, nr, hcl, ⟨h1, h2, h3, g0, rfl, g2, g3, g4, fun i hi => ?_, fun i hi => ?_⟩, hho, hpa, hfa, hta, hru, hpl⟩
      · rw [if_neg (fun h => h ⟨ha, hz⟩), hp_gd (by omega)]; rfl
      · rw [if_neg (by omega), hp_gd (by omega), if_neg hz, hp_gd (by omega)]
      · show _ ∧ (upd (σm.2 1) n 0 i = 0 ∨ upd (σm.2 1) n 0 i = 1) ∧ (upd (σm.2 1) n 0 i = 1 → _) ∧ _
        rw [hp_upd]
        by_cases hi2 : i = n
        · simp only [if_pos hi2]
          exact ⟨(g5 i hi).1, Or.inl trivial, fun h => absurd h (by decide), (g5 i hi).2.2.2⟩
        · simp only [if_neg hi2]
          exact g5 i hi
      · show upd (σm.2 1) n 0 i = 0 ∧ _
        rw [hp_upd, if_neg (by omega)]
        exact g6 i hi
  · refine ⟨0, σc, σm, ?_, ?_, h⟩
    · rw [if_pos (fun h => ha h.1)]; rfl
    · rw [if_pos (by omega)]
