/-! A whole rule on either side. -/
theorem pr_rule {bs : Nat → Nat} {n q k : Nat} {c0 m0 σc σm : hf_St} (hB : pr_B bs n q c0 m0 σc σm) (hR : pr_R k σc σm) (hk : k ≤ 20) :
    (∃ σc' σm', pr_hd σc (nI k) = some (0, σc') ∧ Fm_md_rule σm (nI k) = some (0, σm') ∧ pr_bad c0 m0 σc' σm') ∨
    (∃ σc' σm' q', pr_hd σc (nI k) = some (1, σc') ∧ Fm_md_rule σm (nI k) = some (1, σm') ∧ pr_B bs n q' c0 m0 σc' σm' ∧ k < 20 ∧ pr_R (k + 1) σc' σm') := by
  obtain ⟨hc, hm, htk, ⟨p, hp, h22, hpq⟩, h23, h4, fc, fm⟩ := hB
  have n1 : ¬ (1 : Int32) = 0 := by decide
  have h5 := hc.2.1
  have hqn := htk.1
  obtain ⟨s1, a1, a2, a3, a4, a5⟩ := fm_looks hm hp h22
  rw [hpq] at a3 a4 a5
  have hm1 := pz_mf hm a2
  have ix : hf_ix (nI k) 21 := hp_ix (by omega) (by omega)
  have ck : (nI k).toNatClampNeg = k := hp_cl (by omega)
  obtain ⟨s3, e3⟩ : ∃ s3, s3 = hf_pA (hf_pA s1 25 (upd (s1.2 25) k 0)) 26 (upd (s1.2 26) k 0) := ⟨_, rfl⟩
  have f3 : pm_fr s1 s3 := by rw [e3]; exact pm_frt (pm_frA (by omega)) (pm_frA (by omega))
  have n3 : s3.1 = s1.1 := by rw [e3]; rfl
  have hm3 := pm_m hm1 f3
  have lk3 : pz_lk bs n q s3 := ⟨hqn, by rw [n3]; exact a3, by rw [n3]; exact a4, by rw [n3]; exact a5⟩
  have f23 : s3.1 0 23 = 0 := by rw [n3, a2.2 23 (by omega)]; exact h23
  have fm3 : pm_fr m0 s3 := pm_frt fm (pm_frt (pm_frs (pz_fsm a2)) f3)
  have r3 : ∀ i, s3.2 25 i = (if i = k then 0 else σm.2 25 i) ∧ s3.2 26 i = (if i = k then 0 else σm.2 26 i) := by
    intro i
    rw [e3, ← a2.1]
    exact ⟨rfl, rfl⟩
  have ro : ∀ a, ¬ a = 25 → ¬ a = 26 → s3.2 a = σm.2 a := by
    intro a x y
    rw [e3, hf_pA_2, if_neg y, hf_pA_2, if_neg x, a2.1]
  have R0 : Fm_md_rule σm (nI k) = (pz_kd bs n q).elim (some (0, hf_pI s3 0 23 (pz_flt q 0))) (fun kd => if kd = 0 then Fm_md_rule_b95 (hf_pA s3 24 (upd (s3.2 24) k 0)) (nI k) else if kd = 1 then Fm_md_rule_b95 (hf_pA s3 24 (upd (s3.2 24) k 1)) (nI k) else Fm_md_rule_b95 (hf_pA s3 24 (upd (s3.2 24) k 2)) (nI k)) := by
    unfold Fm_md_rule
    rw [a1, hp_b0, hp_gd ix, hp_let, hp_gd ix, hp_let, ck]
    have e3' : hf_pA (hf_pA s1 25 (upd (s1.2 25) k 0)) 26 (upd ((hf_pA s1 25 (upd (s1.2 25) k 0)).2 26) k 0) = s3 := by rw [e3]; rfl
    rw [e3', fm_kind hm3 lk3]
    have r0 : Fm_md_fails s3 0 (s3.1 0 41) = some (0, hf_pI s3 0 23 (pz_flt q 0)) := by rw [lk3.2.2.1]; exact fm_fails f23 q 0
    simp only [hp_gd ix, hp_let, r0, hp_b2, hp_z0]
  have r0 : Fc_reader_refuse σc 0 = some (0, hf_pI σc 7 4 (pz_flt q 0)) := fc_refuse htk.2.1 0
  have r2 : Fc_reader_refuse σc 2 = some (0, hf_pI σc 7 4 (pz_flt q 2)) := fc_refuse htk.2.1 2
  unfold pr_hd Fc_reader_readHead
  rw [r0, r2, R0]
  cases hkd : pz_kd bs n q with
  | none =>
    refine Or.inl ⟨hf_pI σc 7 4 (pz_flt q 0), hf_pI s3 0 23 (pz_flt q 0), ?_, rfl, pc_frt fc pc_fr4, pm_frt fm3 (pm_frs (pz_fsI (by omega))), q, 0, by omega, by omega, by simp [hf_pI], by simp [hf_pI]⟩
    rw [show Fc_reader_kindOfWord σc = some (-1) from by rw [fc_kind hc htk, hkd]; rfl, hp_b1, if_pos rfl, hp_b2, hp_z0, hp_b2, if_pos rfl]
  | some kd =>
    obtain ⟨hk3, hwe⟩ := pz_kd_lt hkd
    have hin := pz_we_in bs (n - q) q
    have nk : ¬ nI kd = -1 := by rw [hp_eq, hp_nI (by omega), hp_m1]; omega
    have R1 : (some kd : Option Nat).elim (some ((0 : Int32), hf_pI s3 0 23 (pz_flt q 0))) (fun kd => if kd = 0 then Fm_md_rule_b95 (hf_pA s3 24 (upd (s3.2 24) k 0)) (nI k) else if kd = 1 then Fm_md_rule_b95 (hf_pA s3 24 (upd (s3.2 24) k 1)) (nI k) else Fm_md_rule_b95 (hf_pA s3 24 (upd (s3.2 24) k 2)) (nI k)) = Fm_md_rule_b95 (hf_pA s3 24 (upd (s3.2 24) k (nI kd))) (nI k) := by
      rcases (show kd = 0 ∨ kd = 1 ∨ kd = 2 by omega) with rfl | rfl | rfl <;> rfl
    rw [R1]
    rw [show Fc_reader_kindOfWord σc = some (nI kd) from by rw [fc_kind hc htk, hkd]; rfl, hp_b1, if_neg nk]
    obtain ⟨s9, e9⟩ : ∃ s9, s9 = hf_pA s3 24 (upd (s3.2 24) k (nI kd)) := ⟨_, rfl⟩
    rw [← e9]
    have n9 : s9.1 = s3.1 := by rw [e9]; rfl
    have f9 : pm_fr s3 s9 := by rw [e9]; exact pm_frA (by omega)
    have m24 : ∀ i, s9.2 24 i = if i = k then nI kd else σm.2 24 i := by
      intro i
      rw [e9, ← ro 24 (by omega) (by omega)]
      rfl
    have ro9 : ∀ a, ¬ a = 24 → s9.2 a = s3.2 a := by
      intro a x
      rw [e9, hf_pA_2, if_neg x]
    have hm9 := pm_m hm3 f9
    unfold Fm_md_rule_b95
    by_cases h20 : k < 20
    · rw [if_pos (show nI k < (20 : Int32) by rw [hp_lt, hp_nI (by omega), hp_20]; omega), if_neg (show ¬ nI k = (20 : Int32) by rw [hp_eq, hp_nI (by omega), hp_20]; omega)]
      obtain ⟨c1, g1, g2, g3⟩ := fc_next hc htk
      rw [pz_te_we hwe] at g3
      have e22 : s9.1 0 41 + s9.1 0 42 = nI (pz_we bs (n - q) q) := by
        rw [n9, lk3.2.2.1, lk3.2.2.2, nI_add, Nat.add_sub_cancel' hin.1]
      rw [g1, hp_b0, hp_let, e22, hp_gd ix, ck]
      generalize hw : pz_we bs (n - q) q = w at *
      have hq1n := g3.1
      have ek : (hf_pI s9 0 22 (nI w)).2 24 k = nI kd := by
        rw [hf_pI_2, m24, if_pos rfl]
      have f10 : pm_fr m0 (hf_pI s9 0 22 (nI w)) := pm_frt fm3 (pm_frt f9 (pm_frs (pz_fsI (by omega))))
      have hm10 := pm_m hm9 (pm_frs (pz_fsI (k := 22) (v := nI w) (by omega)))
      have x23 : (hf_pI s9 0 22 (nI w)).1 0 23 = 0 := by
        rw [hf_pI_1, if_neg (by omega), n9]; exact f23
      have hc1 := pz_cf hc g2
      have c18 : c1.1 8 6 = σc.1 8 6 := g2.2 8 6 (by omega)
      have c174 : c1.1 7 4 = -1 := by rw [g2.2 7 4 (by omega)]; exact h4
      rw [ek]
      generalize hq1 : pz_sk bs (n - w) w = q1 at *
      by_cases hw2 : kd = 2
      · subst hw2
        rw [if_pos (show nI 2 = (2 : Int32) from rfl), if_pos (show nI 2 = (2 : Int32) from rfl), fc_weight hc1 g3]
        obtain ⟨s2, b1, b2, b3, b4, b5⟩ := fm_looks (p := w) hm10 (by omega) (by simp [hf_pI])
        rw [hq1] at b3 b4 b5
        have hm2 := pz_mf hm10 b2
        have lk2 : pz_lk bs n q1 s2 := ⟨hq1n, b3, b4, b5⟩
        have y23 : s2.1 0 23 = 0 := by rw [b2.2 23 (by omega)]; exact x23
        have hin1 := pz_we_in bs (n - q1) q1
        have t0 : Fm_md_fails s2 0 (s2.1 0 41) = some (0, hf_pI s2 0 23 (pz_flt q1 0)) := by rw [b4]; exact fm_fails y23 q1 0
        have t1 : Fm_md_fails s2 1 (s2.1 0 41) = some (0, hf_pI s2 0 23 (pz_flt q1 1)) := by rw [b4]; exact fm_fails y23 q1 1
        have fm2 : pm_fr m0 s2 := pm_frt f10 (pm_frs (pz_fsm b2))
        unfold Fm_md_rule_b176
        rw [b1, hp_b0, fm_isNumber hm2 lk2, hp_b1, t0, t1]
        simp only [hp_b2, hp_z0]
        have bad : ∀ kd', kd' ≤ 2 → pr_bad c0 m0 (hf_pI c1 7 4 (pz_flt q1 kd')) (hf_pI s2 0 23 (pz_flt q1 kd')) := fun kd' hh => ⟨pc_frt (pc_frt fc (pc_frz g2)) pc_fr4, pm_frt fm2 (pm_frs (pz_fsI (by omega))), q1, kd', by omega, hh, by simp [hf_pI], by simp [hf_pI]⟩
        have b45 : ∀ s, Fc_reader_readHead_b45 s (nI 2) (-1) = some (0, s) := by
          intro s
          unfold Fc_reader_readHead_b45
          rw [if_pos rfl, hp_z0]
        by_cases hn : pz_num bs n q1
        · rw [if_pos hn, hp_tpos hn, if_neg n1]
          by_cases hwt : pz_wt bs n q1
          · obtain ⟨w4, v1, v2⟩ := hwt
            obtain ⟨c2, d1, d2, d3⟩ := fc_next hc1 g3
            rw [pz_te_we (by have := hn.1; omega)] at d3
            rw [if_pos ⟨w4, v1, v2⟩, d1, hp_b0, hp_b2, fm_numberHere hm2 lk2 hn w4]
            simp only [hp_b1]
            generalize hval : pz_val bs q1 (pz_we bs (n - q1) q1 - q1) = val at *
            rw [if_neg (by rw [b5, hp_lt, hp_4, hp_nI (by omega)]; omega), fm_in, hp_b1, hp_tpos (show (1 : Int32).toInt ≤ (nI val).toInt ∧ (nI val).toInt ≤ (100 : Int32).toInt by rw [hp_nI (by omega), hp_1, hp_100]; omega), if_neg n1, hp_gd ix, hp_let, hp_let]
            have e4 : (hf_pA s2 25 (upd (s2.2 25) k (nI val))).1 0 41 + (hf_pA s2 25 (upd (s2.2 25) k (nI val))).1 0 42 = nI (pz_we bs (n - q1) q1) := by
              show s2.1 0 41 + s2.1 0 42 = _
              rw [b4, b5, nI_add, Nat.add_sub_cancel' hin1.1]
            rw [e4]
            have s2a : ∀ a, s2.2 a = s9.2 a := fun a => by rw [b2.1]; rfl
            have frx : pm_fr s2 (hf_pI (hf_pA s2 25 (upd (s2.2 25) k (nI val))) 0 22 (nI (pz_we bs (n - q1) q1))) := pm_frt (pm_frA (by omega)) (pm_frs (pz_fsI (by omega)))
            refine pr_tail (mA := hf_pI (hf_pA s2 25 (upd (s2.2 25) k (nI val))) 0 22 (nI (pz_we bs (n - q1) q1))) (w := nI val) (kd := 2) hR h20 (by omega) (by rw [hp_nI (by omega)]; omega) ⟨pz_cf hc1 d2, pm_m hm2 frx, d3, ⟨_, by omega, by simp [hf_pI], rfl⟩, y23, by rw [d2.2 7 4 (by omega)]; exact c174, pc_frt (pc_frt fc (pc_frz g2)) (pc_frz d2), pm_frt fm2 frx⟩ (by rw [d2.1, g2.1]) (by rw [d2.2 8 6 (by omega)]; exact c18) ?_ ?_ ?_ ?_
            · intro i
              show s2.2 24 i = _
              rw [s2a]; exact m24 i
            · intro i
              show upd (s2.2 25) k (nI val) i = _
              rw [hp_upd, s2a, ro9 25 (by omega), (r3 i).1]
              by_cases hi : i = k
              · rw [if_pos hi, if_pos hi]
              · rw [if_neg hi, if_neg hi, if_neg hi]
            · intro i
              show s2.2 26 i = _
              rw [s2a, ro9 26 (by omega)]; exact (r3 i).2
            · intro a x y
              rw [hf_pI_2, hf_pA_2, if_neg (by omega), s2a, ro9 a (by omega), ro a (by omega) (by omega)]
          · rw [if_neg hwt, hp_b2, b45, hp_b2, if_pos rfl]
            refine Or.inl ⟨_, hf_pI s2 0 23 (pz_flt q1 1), rfl, ?_, bad 1 (by omega)⟩
            by_cases w4 : pz_we bs (n - q1) q1 - q1 ≤ 4
            · have h9 := pz_val_4 w4 hn.2
              rw [fm_numberHere hm2 lk2 hn w4]
              simp only [hp_b1]
              rw [if_neg (by rw [b5, hp_lt, hp_4, hp_nI (by omega)]; omega), fm_in, hp_b1, hp_tneg (show ¬ ((1 : Int32).toInt ≤ (nI (pz_val bs q1 (pz_we bs (n - q1) q1 - q1))).toInt ∧ (nI (pz_val bs q1 (pz_we bs (n - q1) q1 - q1))).toInt ≤ (100 : Int32).toInt) by rw [hp_nI (by omega), hp_1, hp_100]; intro h; exact hwt ⟨w4, by omega, by omega⟩), if_pos rfl]
            · rw [if_pos (by rw [b5, hp_lt, hp_4, hp_nI (by omega)]; omega)]
        · rw [if_neg hn, hp_tneg hn, if_pos rfl, hp_b2, b45, hp_b2, if_pos rfl]
          exact Or.inl ⟨_, hf_pI s2 0 23 (pz_flt q1 0), rfl, rfl, bad 0 (by omega)⟩
      · have nk2 : ¬ nI kd = (2 : Int32) := by rw [hp_eq, hp_nI (by omega), hp_2]; omega
        rw [if_neg nk2, if_neg nk2]
        refine pr_tail (mA := hf_pI s9 0 22 (nI w)) (w := 0) hR h20 hk3 (by decide) ⟨hc1, hm10, g3, ⟨w, by omega, by simp [hf_pI], hq1⟩, x23, c174, pc_frt fc (pc_frz g2), f10⟩ g2.1 c18 ?_ ?_ ?_ ?_
        · intro i; rw [hf_pI_2]; exact m24 i
        · intro i; rw [hf_pI_2, ro9 25 (by omega)]; exact (r3 i).1
        · intro i; rw [hf_pI_2, ro9 26 (by omega)]; exact (r3 i).2
        · intro a x y
          rw [hf_pI_2, ro9 a (by omega), ro a (by omega) (by omega)]
    · have e20 : k = 20 := by omega
      rw [if_neg (show ¬ nI k < (20 : Int32) by rw [hp_lt, hp_nI (by omega), hp_20]; omega), if_pos (show nI k = (20 : Int32) by rw [e20]; rfl)]
      have t2 : Fm_md_fails s9 2 (s9.1 0 41) = some (0, hf_pI s9 0 23 (pz_flt q 2)) := by rw [n9, lk3.2.2.1]; exact fm_fails (by rw [n9]; exact f23) q 2
      rw [t2]
      simp only [hp_b2, hp_z0]
      exact Or.inl ⟨_, _, rfl, rfl, pc_frt fc pc_fr4, pm_frt fm3 (pm_frt f9 (pm_frs (pz_fsI (by omega)))), q, 2, by omega, by omega, by simp [hf_pI], by simp [hf_pI]⟩
/-- the end of the class's loop -/
theorem pr_stop {f : Nat} (hf : 0 < f) (s : hf_St) (l : Int32) : Fc_reader_read_l36 f s 0 l = some (s.1 7 4, s) := by
  obtain ⟨k, rfl⟩ : ∃ k, f = k + 1 := ⟨f - 1, by omega⟩
  rw [Fc_reader_read_l36, if_pos rfl]
/-- the ends of the reference's loop -/
theorem pr_stopm {g : Nat} (hg : 0 < g) (s : hf_St) (l1 l2 l3 : Int32) (h : l2 = 0 ∨ l3 = 0) : Fm_md_rules_l28 g s l1 l2 l3 = Fm_md_rules_b103 s l1 l2 := by
  obtain ⟨k, rfl⟩ : ∃ k, g = k + 1 := ⟨g - 1, by omega⟩
  rw [Fm_md_rules_l28]
  by_cases h2 : l2 = 0
  · rw [if_pos h2]
  · rw [if_neg h2, if_pos (h.resolve_left h2)]
theorem pr_loop {bs : Nat → Nat} {n : Nat} {c0 m0 : hf_St} : ∀ m k q σc σm f g, k + m = 20 → m + 1 < f → m + 1 < g → pr_B bs n q c0 m0 σc σm → pr_R k σc σm →
    (∃ σc' σm' l v, Fc_reader_read_l36 f σc 1 (nI k) = some (v, σc') ∧ ¬ v = -1 ∧ Fm_md_rules_l28 g σm (nI k) 1 1 = Fm_md_rules_b103 σm' l 0 ∧ σm'.1 0 23 = v ∧ pc_fr c0 σc' ∧ pm_fr m0 σm') ∨
    (∃ σc' σm' k', Fc_reader_read_l36 f σc 1 (nI k) = some (-1, σc') ∧ Fm_md_rules_l28 g σm (nI k) 1 1 = Fm_md_rules_b103 σm' (nI k') 1 ∧ k' ≤ 20 ∧ pr_R k' σc' σm' ∧ pc_fr c0 σc' ∧ pm_fr m0 σm') := by
  intro m
  induction m with
  | zero =>
    intro k q σc σm f g hkm hf hg hB hR
    obtain ⟨f, rfl⟩ : ∃ k, f = k + 1 := ⟨f - 1, by omega⟩
    obtain ⟨g, rfl⟩ : ∃ k, g = k + 1 := ⟨g - 1, by omega⟩
    have n1 : ¬ (1 : Int32) = 0 := by decide
    rcases pr_rule hB hR (by omega) with ⟨a, b, h1, h2, h3⟩ | ⟨a, b, q', h1, h2, h3, h6, h7⟩
    · obtain ⟨f1, f2, q2, kd, hq2, hkd, e1, e2⟩ := h3
      refine Or.inl ⟨a, b, nI k + 1, pz_flt q2 kd, ?_, ?_, ?_, e2, f1, f2⟩
      · rw [Fc_reader_read_l36, if_neg n1, if_neg (by rw [hp_lt, hp_20, hp_nI (by omega)]; omega), pr_hd_b h1, if_pos rfl, pr_stop (by omega), e1]
      · unfold pz_flt; rw [hp_eq, hp_nI (by omega), hp_m1]; omega
      · rw [Fm_md_rules_l28, if_neg n1, if_neg n1, h2, hp_b2, if_pos rfl]
        unfold Fm_md_rules_b61 Fm_md_rules_b62 Fm_md_rules_b86
        rw [if_pos rfl, if_pos rfl]
        exact pr_stopm (by omega) _ _ _ _ (Or.inl rfl)
    · omega
  | succ m ih =>
    intro k q σc σm f g hkm hf hg hB hR
    obtain ⟨f, rfl⟩ : ∃ k, f = k + 1 := ⟨f - 1, by omega⟩
    obtain ⟨g, rfl⟩ : ∃ k, g = k + 1 := ⟨g - 1, by omega⟩
    have n1 : ¬ (1 : Int32) = 0 := by decide
    rcases pr_rule hB hR (by omega) with ⟨a, b, h1, h2, h3⟩ | ⟨a, b, q', h1, h2, h3, h6, h7⟩
    · obtain ⟨f1, f2, q2, kd, hq2, hkd, e1, e2⟩ := h3
      refine Or.inl ⟨a, b, nI k + 1, pz_flt q2 kd, ?_, ?_, ?_, e2, f1, f2⟩
      · rw [Fc_reader_read_l36, if_neg n1, if_neg (by rw [hp_lt, hp_20, hp_nI (by omega)]; omega), pr_hd_b h1, if_pos rfl, pr_stop (by omega), e1]
      · unfold pz_flt; rw [hp_eq, hp_nI (by omega), hp_m1]; omega
      · rw [Fm_md_rules_l28, if_neg n1, if_neg n1, h2, hp_b2, if_pos rfl]
        unfold Fm_md_rules_b61 Fm_md_rules_b62 Fm_md_rules_b86
        rw [if_pos rfl, if_pos rfl]
        exact pr_stopm (by omega) _ _ _ _ (Or.inl rfl)
    · obtain ⟨hc, hm, htk, ⟨p, hp, h22, hpq⟩, h23, h4, fc, fm⟩ := h3
      have h5 := hc.2.1
      have hq'n := htk.1
      obtain ⟨s4, d1, d2, d3, d4, d5⟩ := fm_see hm hp h22
      rw [hpq] at d1 d3
      have hm4 := pz_mf hm d2
      have x23 : s4.1 0 23 = 0 := by rw [d2.2 23 (by omega)]; exact h23
      have fm4 := pm_frt fm (pm_frs (pz_fsm d2))
      have L1 : Fc_reader_read_l36 (f + 1) σc 1 (nI k) = hf_b2 (Fc_reader_readBetweenRules a) (fun v5 s6 => (if v5 = 0 then Fc_reader_read_l36 f s6 ((0 : Int32)) (nI k + (1 : Int32)) else Fc_reader_read_l36 f s6 ((1 : Int32)) (nI k + (1 : Int32)))) := by
        rw [Fc_reader_read_l36, if_neg n1, if_neg (by rw [hp_lt, hp_20, hp_nI (by omega)]; omega), pr_hd_b h1, if_neg n1]
      have L2 : Fm_md_rules_l28 (g + 1) σm (nI k) 1 1 = (if (if q' < n then nI (bs q') else -1) = ((-1 : Int32)) then Fm_md_rules_b61 (fun z0 z1 z2 z3 => Fm_md_rules_l28 g z0 z1 z2 z3) s4 (nI k + (1 : Int32)) 1 else Fm_md_rules_b62 (fun z0 z1 z2 z3 => Fm_md_rules_l28 g z0 z1 z2 z3) s4 (nI k + (1 : Int32)) 1 ((1 : Int32))) := by
        rw [Fm_md_rules_l28, if_neg n1, if_neg n1, h2, hp_b2, if_neg n1, d1, hp_b2]
      rw [L1, L2]
      unfold Fc_reader_readBetweenRules Fc_reader_isAtEnd Fc_tape_size
      simp only [hp_b1]
      rw [hc.1, htk.2.1]
      by_cases hlt : q' < n
      · have hb := (hc.2.2 q' hlt).1
        rw [if_pos (show nI q' < nI n by rw [hp_lt, hp_nI (by omega), hp_nI (by omega)]; omega), hp_z0, hp_b1, if_pos rfl, fc_byteAt hc q' (by omega), hp_b1, if_pos hlt, if_neg (show ¬ nI (bs q') = -1 by rw [hp_eq, hp_nI (by omega), hp_m1]; omega)]
        unfold Fm_md_rules_b62
        obtain ⟨s5, u1, u2, u3, u4, u5⟩ := fm_see hm4 hq'n d3
        have hsk : pz_sk bs (n - q') q' = q' := by
          have := pz_sk_sk bs (n - p) p
          rw [hpq] at this
          rw [show n - q' = n - p - (q' - p) from by have := pz_sk_in bs (n - p) p; rw [hpq] at this; omega]
          exact this
        rw [hsk] at u1 u3
        have y23 : s5.1 0 23 = 0 := by rw [u2.2 23 (by omega)]; exact x23
        have fm5 := pm_frt fm4 (pm_frs (pz_fsm u2))
        rw [if_neg n1, u1, hp_b2, if_pos hlt]
        by_cases h59 : bs q' = 59
        · have e59 : nI (bs q') = (59 : Int32) := by rw [h59]; rfl
          obtain ⟨c2, g1, g2, g3⟩ := fc_next hc htk
          have hte := (pz_te_1 (bs := bs) hlt (by unfold pz_wd; omega)).2
          rw [hte] at g3
          rw [if_pos e59, if_pos e59, g1, hp_b0, hp_z1, hp_b2, if_neg n1]
          unfold Fm_md_rules_b86
          rw [if_neg n1, hp_let, u3, hp_succ, hp_succ]
          have B2 : pr_B bs n (pz_sk bs (n - (q' + 1)) (q' + 1)) c0 m0 c2 (hf_pI s5 0 22 (nI (q' + 1))) := ⟨pz_cf hc g2, pz_mf (pz_mf hm4 u2) (pz_fmI (Or.inl rfl)), g3, ⟨q' + 1, by omega, by simp [hf_pI], rfl⟩, y23, by rw [g2.2 7 4 (by omega)]; exact h4, pc_frt fc (pc_frz g2), pm_frt fm5 (pm_frs (pz_fsI (by omega)))⟩
          have R2 : pr_R (k + 1) c2 (hf_pI s5 0 22 (nI (q' + 1))) := pr_Rf h7 (g2.2 8 6 (by omega)) g2.1 (by rw [hf_pI_2, u2.1, d2.1])
          exact ih (k + 1) _ c2 (hf_pI s5 0 22 (nI (q' + 1))) f g (by omega) (by omega) (by omega) B2 R2
        · have e59 : ¬ nI (bs q') = (59 : Int32) := by rw [show (59 : Int32) = nI 59 from rfl, nI_eq (by omega) (by omega)]; exact h59
          have r0 : Fc_reader_refuse a 0 = some (0, hf_pI a 7 4 (pz_flt q' 0)) := fc_refuse htk.2.1 0
          have t0 : Fm_md_fails s5 0 (s5.1 0 22) = some (0, hf_pI s5 0 23 (pz_flt q' 0)) := by rw [u3]; exact fm_fails y23 q' 0
          rw [if_neg e59, if_neg e59, r0, hp_b2, hp_z0, hp_b2, if_pos rfl, pr_stop (by omega), t0, hp_b2]
          unfold Fm_md_rules_b86
          rw [if_neg n1, hp_let]
          dsimp only
          rw [pr_stopm (by omega) _ _ _ _ (Or.inl rfl)]
          refine Or.inl ⟨hf_pI a 7 4 (pz_flt q' 0), _, _, pz_flt q' 0, by simp [hf_pI], ?_, rfl, by simp [hf_pI], pc_frt fc pc_fr4, pm_frt fm5 (pm_frt (pm_frs (pz_fsI (by omega))) (pm_frs (pz_fsI (by omega))))⟩
          unfold pz_flt; rw [hp_eq, hp_nI (by omega), hp_m1]; omega
      · rw [if_neg (show ¬ nI q' < nI n by rw [hp_lt, hp_nI (by omega), hp_nI (by omega)]; omega), hp_z1, hp_b1, if_neg n1, hp_z0, hp_b2, if_pos rfl, pr_stop (by omega), if_neg hlt, if_pos rfl]
        unfold Fm_md_rules_b61 Fm_md_rules_b62 Fm_md_rules_b86
        rw [if_pos rfl, if_pos rfl]
        dsimp only
        rw [pr_stopm (by omega) _ _ _ _ (Or.inr rfl), hp_succ]
        exact Or.inr ⟨a, s4, k + 1, by rw [h4], rfl, by omega, pr_Rf h7 rfl rfl d2.1, fc, fm4⟩
