theorem pz_te_we {bs : Nat → Nat} {n q : Nat} (h : ¬ pz_we bs (n - q) q = q) : pz_te bs n q = pz_we bs (n - q) q := by unfold pz_te; rw [if_neg h]
theorem pz_te_1 {bs : Nat → Nat} {n q : Nat} (hq : q < n) (h : ¬ pz_wd (bs q)) : pz_we bs (n - q) q = q ∧ pz_te bs n q = q + 1 := by
  have e : pz_we bs (n - q) q = q := by
    obtain ⟨m, hm⟩ : ∃ m, n - q = m + 1 := ⟨n - q - 1, by omega⟩
    rw [hm, pz_we, if_neg h]
  exact ⟨e, by unfold pz_te; rw [if_pos e, if_pos hq]⟩
theorem pz_sf_we {bs : Nat → Nat} {n q : Nat} {many : Prop} [Decidable many] (h : pz_sf bs n q many = none) : ¬ pz_we bs (n - q) q = q := by
  intro e
  unfold pz_sf at h
  by_cases hf : pz_fld bs n q
  · have := hf.1; omega
  · rw [if_neg hf] at h
    by_cases hn : pz_num bs n q
    · have := hn.1; omega
    · rw [if_neg hn] at h; cases h
theorem pz_sf_many {bs : Nat → Nat} {n q : Nat} {many : Prop} [Decidable many] (h : pz_sf bs n q many = none) : ¬ many := by
  intro e
  unfold pz_sf at h
  by_cases hf : pz_fld bs n q
  · rw [if_pos hf, if_pos e] at h; cases h
  · rw [if_neg hf] at h
    by_cases hn : pz_num bs n q
    · rw [if_pos hn] at h
      by_cases h4 : pz_we bs (n - q) q - q ≤ 4
      · rw [if_pos h4, if_pos e] at h; cases h
      · rw [if_neg h4] at h; cases h
    · rw [if_neg hn] at h; cases h
theorem pz_sf_kd {bs : Nat → Nat} {n q kd : Nat} {many : Prop} [Decidable many] (h : pz_sf bs n q many = some kd) : kd ≤ 2 := by
  unfold pz_sf at h
  by_cases hf : pz_fld bs n q
  · rw [if_pos hf] at h
    by_cases e : many
    · rw [if_pos e] at h; cases h; omega
    · rw [if_neg e] at h; cases h
  · rw [if_neg hf] at h
    by_cases hn : pz_num bs n q
    · rw [if_pos hn] at h
      by_cases h4 : pz_we bs (n - q) q - q ≤ 4
      · rw [if_pos h4] at h
        by_cases e : many
        · rw [if_pos e] at h; cases h; omega
        · rw [if_neg e] at h; cases h
      · rw [if_neg h4] at h; cases h; omega
    · rw [if_neg hn] at h; cases h; omega
/-- what the reference does behind a term -/
def pr_and (K : hf_St → Int32 → Int32 → Option (Int32 × hf_St)) (l1 : Int32) (s7 : hf_St) : Option (Int32 × hf_St) := hf_b0 (Fm_md_looks s7) (fun s8 => hf_b1 (Fm_md_isAnd s8) (fun v9 => (if v9 = 0 then K s8 l1 v9 else hf_lt (hf_pI s8 0 22 ((s8.1 0 41) + (s8.1 0 42))) (fun s10 => K s10 l1 v9))))
theorem pr_term {bs : Nat → Nat} {n q k t kd : Nat} {c0 m0 σc σm : hf_St} (hB : pr_B bs n q c0 m0 σc σm) (hD : pr_D k t kd σc σm) (hk : k < 20) (ht : t ≤ 6) {l : Int32} (hl : t = 6 → ¬ l = 0) (K : hf_St → Int32 → Int32 → Option (Int32 × hf_St)) :
    (∃ σc' σm', Fc_reader_readTerm_b12 σc l = some (0, σc') ∧ Fm_md_rule_b244 K σm (nI k) (nI (6 * k + t)) l = some (0, σm') ∧ pr_bad c0 m0 σc' σm') ∨
    (∃ σc' σm' q', Fc_reader_readTerm_b12 σc l = some (1, σc') ∧ Fm_md_rule_b244 K σm (nI k) (nI (6 * k + t)) l = pr_and K (nI k) σm' ∧ pr_B bs n q' c0 m0 σc' σm' ∧ t < 6 ∧ pr_D k (t + 1) kd σc' σm') := by
  obtain ⟨hc, hm, htk, ⟨p, hp, h22, hpq⟩, h23, h4, fc, fm⟩ := hB
  have h5 := hc.2.1
  have hqn := htk.1
  have SC := fc_readSide hc htk l
  have SM := fm_side hm hp h22 h23 l
  rw [hpq] at SM
  unfold Fc_reader_readTerm_b12 Fm_md_rule_b244
  cases hs : pz_sf bs n q (¬ l = 0) with
  | some kd' =>
    obtain ⟨s1, a1, a2⟩ := SC.1 kd' hs
    obtain ⟨m1, b1, b2, b3⟩ := SM.1 kd' hs
    refine Or.inl ⟨s1, m1, ?_, ?_, by rw [a2]; exact pc_frt fc pc_fr4, pm_frt fm (pm_frs b2), q, kd', by omega, pz_sf_kd hs, by rw [a2]; simp [hf_pI], b3⟩
    · rw [a1, hp_b2, if_pos rfl, hp_z0]
    · rw [b1, hp_b2, if_pos rfl, hp_z0]
  | none =>
    have hwe := pz_sf_we hs
    have ht6 : t < 6 := by
      rcases Nat.lt_or_ge t 6 with h | h
      · exact h
      · exact absurd (hl (by omega)) (pz_sf_many hs)
    obtain ⟨v, c1, a1, a2, a3, a4, a5⟩ := SC.2 hs
    obtain ⟨m1, b1, b2, b3, b4, b5⟩ := SM.2 hs
    rw [← a5] at b5
    rw [pz_te_we hwe] at a4
    have hin := pz_we_in bs (n - q) q
    clear SC SM hs a5
    generalize hw : pz_we bs (n - q) q = w at *
    generalize hq1 : pz_sk bs (n - w) w = q1 at *
    have iy : hf_ix (nI (6 * k + t)) 126 := hp_ix (by omega) (by omega)
    have cl : (nI (6 * k + t)).toNatClampNeg = 6 * k + t := hp_cl (by omega)
    simp only [a1, b1, hp_b2, if_neg a2, if_neg (show ¬ (1 : Int32) = 0 by decide), hp_gd iy, cl, hp_let]
    have fm2 : pm_fr m1 (hf_pA (hf_pA m1 27 (upd (m1.2 27) (6 * k + t) (m1.1 0 43))) 28 (upd ((hf_pA m1 27 (upd (m1.2 27) (6 * k + t) (m1.1 0 43))).2 28) (6 * k + t) ((hf_pA m1 27 (upd (m1.2 27) (6 * k + t) (m1.1 0 43))).1 0 44))) := pm_frt (pm_frA (by omega)) (pm_frA (by omega))
    have hm2 := pm_m (pm_m hm (pm_frs b2)) fm2
    obtain ⟨m3, d1, d2, d3, d4, d5⟩ := fm_see (p := w) hm2 (by omega) b4
    have hc1 := pz_cf hc a3
    rw [hq1] at d1 d3
    rw [d1, hp_b2, a4.2.1, fc_byteAt hc1 q1 (by have := a4.1; omega), hp_b1]
    have hq1n := a4.1
    have f23 : m3.1 0 23 = 0 := by rw [d2.2 23 (by omega)]; exact b3
    have hm3 := pz_mf hm2 d2
    have fmm := pm_frt (pm_frt (pm_frt fm (pm_frs b2)) fm2) (pm_frs (pz_fsm d2))
    have fcc := pc_frt fc (pc_frz a3)
    by_cases hsg : q1 < n ∧ (bs q1 = 60 ∨ bs q1 = 62 ∨ bs q1 = 61)
    · -- a sign
      obtain ⟨hq1l, hsg⟩ := hsg
      rw [if_pos hq1l]
      have hte := (pz_te_1 (bs := bs) hq1l (by unfold pz_wd; omega)).2
      obtain ⟨c2, g1, g2, g3⟩ := fc_next hc1 a4
      rw [hte] at g3
      have X : ∀ b : Nat, b = bs q1 → (nI b = 60 ∨ nI b = 62 ∨ nI b = 61) → 
          (∃ σc' σm', Fc_reader_readTerm_b59 c1 v (nI b) = some (0, σc') ∧ Fm_md_rule_b309 K m3 (nI k) (nI (6 * k + t)) (nI b) = some (0, σm') ∧ pr_bad c0 m0 σc' σm') ∨ (∃ σc' σm' q', Fc_reader_readTerm_b59 c1 v (nI b) = some (1, σc') ∧ Fm_md_rule_b309 K m3 (nI k) (nI (6 * k + t)) (nI b) = pr_and K (nI k) σm' ∧ pr_B bs n q' c0 m0 σc' σm' ∧ t < 6 ∧ pr_D k (t + 1) kd σc' σm') := by
        intro b hb hb2
        unfold Fc_reader_readTerm_b59 Fm_md_rule_b309
        rw [hp_gd iy, cl, hp_let, hp_let, g1, hp_b0]
        have e22 : (hf_pA m3 29 (upd (m3.2 29) (6 * k + t) (nI b))).1 0 22 + 1 = nI (q1 + 1) := by
          show m3.1 0 22 + 1 = _
          rw [d3, hp_succ]
        rw [e22]
        have fm4 : pm_fr m3 (hf_pI (hf_pA m3 29 (upd (m3.2 29) (6 * k + t) (nI b))) 0 22 (nI (q1 + 1))) := pm_frt (pm_frA (by omega)) (pm_frs (pz_fsI (by omega)))
        have hm4 := pm_m hm3 fm4
        have hc2 := pz_cf hc1 g2
        have SC2 := fc_readSide hc2 g3 0
        have SM2 := fm_side (p := q1 + 1) hm4 (by omega) (by simp [hf_pI]) f23 0
        generalize hq2 : pz_sk bs (n - (q1 + 1)) (q1 + 1) = q2 at *
        have hq2n := g3.1
        cases hs2 : pz_sf bs n q2 (¬ (0 : Int32) = 0) with
        | some kd' =>
          obtain ⟨s1, x1, x2⟩ := SC2.1 kd' hs2
          obtain ⟨m5, y1, y2, y3⟩ := SM2.1 kd' hs2
          refine Or.inl ⟨s1, m5, ?_, ?_, by rw [x2]; exact pc_frt (pc_frt fcc (pc_frz g2)) pc_fr4, pm_frt (pm_frt fmm fm4) (pm_frs y2), q2, kd', by omega, pz_sf_kd hs2, by rw [x2]; simp [hf_pI], y3⟩
          · rw [x1, hp_b2, if_pos rfl, hp_z0]
          · rw [y1, hp_b2, if_pos rfl, hp_z0]
        | none =>
          have hwe2 := pz_sf_we hs2
          obtain ⟨v2, c3, x1, x2, x3, x4, x5⟩ := SC2.2 hs2
          obtain ⟨m5, y1, y2, y3, y4, y5⟩ := SM2.2 hs2
          rw [← x5] at y5
          rw [pz_te_we hwe2] at x4
          have hin2 := pz_we_in bs (n - q2) q2
          clear SC2 SM2 hs2 x5
          generalize hw2 : pz_we bs (n - q2) q2 = w2 at *
          have e8 : c3.1 8 6 = nI (k + 1) := by
            rw [x3.2 8 6 (by omega), g2.2 8 6 (by omega), a3.2 8 6 (by omega)]; exact hD.1
          have ea : c3.2 = σc.2 := by rw [x3.1, g2.1, a3.1]
          have e24 : c3.2 24 k = nI t := by rw [ea]; exact hD.2.1.2.2.2.2.2.2.1
          have AT := pr_addTerm hk ht6 e8 e24 v (nI b) v2
          have ix : hf_ix (nI k) 21 := hp_ix (by omega) (by omega)
          have ck : (nI k).toNatClampNeg = k := hp_cl (by omega)
          have m5a : m5.2 = (hf_pI (hf_pA m3 29 (upd (m3.2 29) (6 * k + t) (nI b))) 0 22 (nI (q1 + 1))).2 := y2.1
          have r26 : m5.2 26 k = nI t := by
            rw [m5a]
            show m3.2 26 k = nI t
            rw [d2.1]
            show m1.2 26 k = nI t
            rw [b2.1]; exact hD.2.1.2.2.2.2.2.2.2.1
          simp only [x1, y1, hp_b2, if_neg x2, if_neg (show ¬ (1 : Int32) = 0 by decide), hp_gd iy, cl, hp_let, hp_gd ix, ck, AT, hp_b0, hp_z1]
          refine Or.inr ⟨_, hf_pA (hf_pA (hf_pA m5 30 (upd (m5.2 30) (6 * k + t) (m5.1 0 43))) 31 (upd (m5.2 31) (6 * k + t) (m5.1 0 44))) 26 (upd (m5.2 26) k (nI (t + 1))), pz_sk bs (n - w2) w2, rfl, ?_, ⟨?_, ?_, x4, ⟨w2, by omega, y4, rfl⟩, y3, ?_, ?_, ?_⟩, ht6, ?_⟩
          · unfold pr_and
            have e : (hf_pA (hf_pA m5 30 (upd (m5.2 30) (6 * k + t) (m5.1 0 43))) 31 (upd ((hf_pA m5 30 (upd (m5.2 30) (6 * k + t) (m5.1 0 43))).2 31) (6 * k + t) ((hf_pA m5 30 (upd (m5.2 30) (6 * k + t) (m5.1 0 43))).1 0 44))).2 26 k + 1 = nI (t + 1) := by
              show m5.2 26 k + 1 = _
              rw [r26, hp_succ]
            rw [e]; rfl
          · exact pc_c (pz_cf hc2 x3) (pc_frt (pc_frt (pc_frt (pc_frA (by omega)) (pc_frA (by omega))) (pc_frA (by omega))) (pc_frA (by omega)))
          · exact pm_m (pz_mfs hm4 y2) (pm_frt (pm_frt (pm_frA (by omega)) (pm_frA (by omega))) (pm_frA (by omega)))
          · show c3.1 7 4 = -1
            rw [x3.2 7 4 (by omega), g2.2 7 4 (by omega), a3.2 7 4 (by omega)]; exact h4
          · exact pc_frt (pc_frt (pc_frt fcc (pc_frz g2)) (pc_frz x3)) (pc_frt (pc_frt (pc_frt (pc_frA (by omega)) (pc_frA (by omega))) (pc_frA (by omega))) (pc_frA (by omega)))
          · exact pm_frt (pm_frt (pm_frt fmm fm4) (pm_frs y2)) (pm_frt (pm_frt (pm_frA (by omega)) (pm_frA (by omega))) (pm_frA (by omega)))
          · have z : ∀ a, ¬ a = 27 → ¬ a = 28 → ¬ a = 29 → m5.2 a = σm.2 a := by
              intro a h1 h2 h3
              rw [m5a]
              show (if a = 29 then _ else m3.2 a) = _
              rw [if_neg h3, d2.1, hf_pA_2, if_neg h2, hf_pA_2, if_neg h1, b2.1]
            refine pr_Dadd (a := v) (b := nI b) (c := v2) (m1 := m1.1 0 43) (m2 := m1.1 0 44) (m3 := m5.1 0 43) (m4 := m5.1 0 44) hD ht6 ?_ ?_ ?_ ?_ ?_ ?_ ?_ ?_ ?_ ?_ ?_ ?_ ?_ ?_ ?_ b5 hb2 y5
            · show c3.1 8 6 = _; rw [e8, hD.1]
            · show c3.2 22 = _; rw [ea]
            · show c3.2 23 = _; rw [ea]
            · show upd (c3.2 24) k (nI (t + 1)) = _; rw [ea]
            · show upd (c3.2 25) (6 * k + t) v = _; rw [ea]
            · show upd (c3.2 26) (6 * k + t) (nI b) = _; rw [ea]
            · show upd (c3.2 27) (6 * k + t) v2 = _; rw [ea]
            · show m5.2 24 = _; exact z 24 (by omega) (by omega) (by omega)
            · show m5.2 25 = _; exact z 25 (by omega) (by omega) (by omega)
            · show upd (m5.2 26) k (nI (t + 1)) = _; rw [z 26 (by omega) (by omega) (by omega)]
            · show m5.2 27 = _
              rw [m5a]
              show m3.2 27 = _
              rw [d2.1]
              show upd (m1.2 27) (6 * k + t) (m1.1 0 43) = _
              rw [b2.1]
            · show m5.2 28 = _
              rw [m5a]
              show m3.2 28 = _
              rw [d2.1]
              show upd (m1.2 28) (6 * k + t) (m1.1 0 44) = _
              rw [b2.1]
            · show m5.2 29 = _
              rw [m5a]
              show upd (m3.2 29) (6 * k + t) (nI b) = _
              rw [d2.1]
              show upd (m1.2 29) (6 * k + t) (nI b) = _
              rw [b2.1]
            · show upd (m5.2 30) (6 * k + t) (m5.1 0 43) = _; rw [z 30 (by omega) (by omega) (by omega)]
            · show upd (m5.2 31) (6 * k + t) (m5.1 0 44) = _; rw [z 31 (by omega) (by omega) (by omega)]
      have key := X (bs q1) rfl
      rcases hsg with e | e | e
      · rw [if_pos (show nI (bs q1) = 60 by rw [e]; rfl), if_pos (show nI (bs q1) = 60 by rw [e]; rfl)]
        exact key (Or.inl (by rw [e]; rfl))
      · rw [if_neg (show ¬ nI (bs q1) = 60 by rw [e]; decide), if_neg (show ¬ nI (bs q1) = 60 by rw [e]; decide), if_pos (show nI (bs q1) = 62 by rw [e]; rfl), if_pos (show nI (bs q1) = 62 by rw [e]; rfl)]
        exact key (Or.inr (Or.inl (by rw [e]; rfl)))
      · rw [if_neg (show ¬ nI (bs q1) = 60 by rw [e]; decide), if_neg (show ¬ nI (bs q1) = 60 by rw [e]; decide), if_neg (show ¬ nI (bs q1) = 62 by rw [e]; decide), if_neg (show ¬ nI (bs q1) = 62 by rw [e]; decide), if_pos (show nI (bs q1) = 61 by rw [e]; rfl), if_pos (show nI (bs q1) = 61 by rw [e]; rfl)]
        exact key (Or.inr (Or.inr (by rw [e]; rfl)))
    · have N : ∀ c : Nat, (c = 60 ∨ c = 62 ∨ c = 61) → ¬ (if q1 < n then nI (bs q1) else -1) = nI c := by
        intro c hcc
        by_cases hl1 : q1 < n
        · rw [if_pos hl1, nI_eq (by have := (hc.2.2 q1 hl1).1; omega) (by omega)]
          omega
        · rw [if_neg hl1, hp_eq, hp_m1, hp_nI (by omega)]; omega
      have n0 : ¬ (if q1 < n then nI (bs q1) else -1) = (60 : Int32) := N 60 (by omega)
      have n1 : ¬ (if q1 < n then nI (bs q1) else -1) = (62 : Int32) := N 62 (by omega)
      have n2 : ¬ (if q1 < n then nI (bs q1) else -1) = (61 : Int32) := N 61 (by omega)
      have r1 : Fc_reader_refuse c1 0 = some (0, hf_pI c1 7 4 (pz_flt q1 0)) := fc_refuse a4.2.1 0
      have r2 : Fm_md_fails m3 0 (m3.1 0 22) = some (0, hf_pI m3 0 23 (pz_flt q1 0)) := by rw [d3]; exact fm_fails f23 q1 0
      simp only [if_neg n0, if_neg n1, if_neg n2, r1, r2, hp_b2, hp_z0]
      exact Or.inl ⟨_, _, rfl, rfl, pc_frt fcc pc_fr4, pm_frt fmm (pm_frs (pz_fsI (by omega))), q1, 0, by omega, by omega, by simp [hf_pI], by simp [hf_pI]⟩
