/-! A rule's head: the kind's word, the weight. -/
def pz_kd (bs : Nat → Nat) (n q : Nat) : Option Nat := if pz_is bs n q 0 then some 0 else if pz_is bs n q 1 then some 1 else if pz_is bs n q 2 then some 2 else none
theorem pz_kd_lt {bs : Nat → Nat} {n q kd : Nat} (h : pz_kd bs n q = some kd) : kd < 3 ∧ ¬ pz_we bs (n - q) q = q := by
  unfold pz_kd at h
  by_cases h0 : pz_is bs n q 0
  · rw [if_pos h0] at h; cases h
    have := ((pz_is0 bs n q).mp h0).1
    exact ⟨by omega, by omega⟩
  · rw [if_neg h0] at h
    by_cases h1 : pz_is bs n q 1
    · rw [if_pos h1] at h; cases h
      have := ((pz_is1 bs n q).mp h1).1
      exact ⟨by omega, by omega⟩
    · rw [if_neg h1] at h
      by_cases h2 : pz_is bs n q 2
      · rw [if_pos h2] at h; cases h
        have := ((pz_is2 bs n q).mp h2).1
        exact ⟨by omega, by omega⟩
      · rw [if_neg h2] at h; cases h
theorem fc_kind {bs : Nat → Nat} {n q : Nat} {s : hf_St} (hc : pz_c bs n s) (ht : pz_tk bs n q s) : Fc_reader_kindOfWord s = some ((pz_kd bs n q).elim (-1) nI) := by
  have n1 : ¬ (1 : Int32) = 0 := by decide
  unfold Fc_reader_kindOfWord pz_kd
  rw [fc_isWord hc (show 0 < 4 by omega) ht, fc_isWord hc (show 1 < 4 by omega) ht, fc_isWord hc (show 2 < 4 by omega) ht]
  simp only [hp_b1]
  by_cases h0 : pz_is bs n q 0
  · rw [hp_tpos h0, if_neg n1, if_pos h0]; rfl
  · rw [hp_tneg h0, if_pos rfl, if_neg h0]
    by_cases h1 : pz_is bs n q 1
    · rw [hp_tpos h1, if_neg n1, if_pos h1]; rfl
    · rw [hp_tneg h1, if_pos rfl, if_neg h1]
      by_cases h2 : pz_is bs n q 2
      · rw [hp_tpos h2, if_neg n1, if_pos h2]; rfl
      · rw [hp_tneg h2, if_pos rfl, if_neg h2]; rfl
theorem fm_kind {α : Type} {bs : Nat → Nat} {n q : Nat} {s : hf_St} (hm : pz_m bs n s) (hk : pz_lk bs n q s) (F C0 C1 C2 : Option α) : hf_b1 (Fm_md_isLetters s ((109 : Int32)) ((117 : Int32)) ((115 : Int32)) ((116 : Int32))) (fun v4 => (if v4 = 0 then hf_b1 (Fm_md_isNight s) (fun v5 => (if v5 = 0 then hf_b1 (Fm_md_isLetters s ((119 : Int32)) ((105 : Int32)) ((115 : Int32)) ((104 : Int32))) (fun v6 => (if v6 = 0 then F else C2)) else C1)) else C0)) = (pz_kd bs n q).elim F (fun kd => if kd = 0 then C0 else if kd = 1 then C1 else C2) := by
  have n1 : ¬ (1 : Int32) = 0 := by decide
  have L0 : Fm_md_isLetters s 109 117 115 116 = some (hp_t (pz_we bs (n - q) q - q = 4 ∧ bs q = 109 ∧ bs (q + 1) = 117 ∧ bs (q + 2) = 115 ∧ bs (q + 3) = 116)) := fm_isLetters hm hk 109 117 115 116 (by decide) (by decide) (by decide) (by decide)
  have L2 : Fm_md_isLetters s 119 105 115 104 = some (hp_t (pz_we bs (n - q) q - q = 4 ∧ bs q = 119 ∧ bs (q + 1) = 105 ∧ bs (q + 2) = 115 ∧ bs (q + 3) = 104)) := fm_isLetters hm hk 119 105 115 104 (by decide) (by decide) (by decide) (by decide)
  rw [L0, L2, fm_isNight hm hk]
  simp only [hp_b1]
  unfold pz_kd
  by_cases h0 : pz_is bs n q 0
  · rw [hp_tpos ((pz_is0 bs n q).mp h0), if_neg n1, if_pos h0]; rfl
  · rw [hp_tneg (fun h => h0 ((pz_is0 bs n q).mpr h)), if_pos rfl, if_neg h0]
    by_cases h1 : pz_is bs n q 1
    · rw [hp_tpos ((pz_is1 bs n q).mp h1), if_neg n1, if_pos h1]; rfl
    · rw [hp_tneg (fun h => h1 ((pz_is1 bs n q).mpr h)), if_pos rfl, if_neg h1]
      by_cases h2 : pz_is bs n q 2
      · rw [hp_tpos ((pz_is2 bs n q).mp h2), if_neg n1, if_pos h2]; rfl
      · rw [hp_tneg (fun h => h2 ((pz_is2 bs n q).mpr h)), if_pos rfl, if_neg h2]; rfl
/-- the weight at q is a number from 1 to 100 -/
abbrev pz_wt (bs : Nat → Nat) (n q : Nat) : Prop := pz_we bs (n - q) q - q ≤ 4 ∧ 1 ≤ pz_val bs q (pz_we bs (n - q) q - q) ∧ pz_val bs q (pz_we bs (n - q) q - q) ≤ 100
theorem fc_weight {bs : Nat → Nat} {n q : Nat} {s : hf_St} (hc : pz_c bs n s) (ht : pz_tk bs n q s) : Fc_reader_readWeight s = if pz_num bs n q then (if pz_wt bs n q then hf_b0 (Fc_reader_step s) (fun s2 => some (nI (pz_val bs q (pz_we bs (n - q) q - q)), s2)) else some (-1, hf_pI s 7 4 (pz_flt q 1))) else some (-1, hf_pI s 7 4 (pz_flt q 0)) := by
  have n1 : ¬ (1 : Int32) = 0 := by decide
  have r0 : Fc_reader_refuse s 0 = some (0, hf_pI s 7 4 (pz_flt q 0)) := fc_refuse ht.2.1 0
  have r1 : Fc_reader_refuse s 1 = some (0, hf_pI s 7 4 (pz_flt q 1)) := fc_refuse ht.2.1 1
  unfold Fc_reader_readWeight Fc_reader_readWeight_b15 Fc_reader_readWeight_b43
  rw [fc_isNumber hc ht, r0, r1]
  simp only [hp_b1, hp_b2]
  by_cases hn : pz_num bs n q
  · rw [hp_tpos hn, if_neg n1, fc_numberOf hc ht hn, hp_b1, if_neg n1, if_pos hn]
    by_cases h4 : pz_we bs (n - q) q - q ≤ 4
    · have h9 := pz_val_4 h4 hn.2
      rw [if_pos h4]
      simp only [hp_lt, hp_le, hp_1, hp_100, hp_nI (show pz_val bs q (pz_we bs (n - q) q - q) < 2147483648 by omega)]
      by_cases hw : pz_wt bs n q
      · have := hw.2
        rw [if_pos hw, if_neg (by omega), if_pos (by omega)]
      · rw [if_neg hw]
        by_cases h1 : ((pz_val bs q (pz_we bs (n - q) q - q) : Nat) : Int) < 1
        · rw [if_pos h1]
        · rw [if_neg h1, if_neg (fun h => hw ⟨h4, by omega, by omega⟩)]
    · rw [if_neg h4, if_neg (show ¬ pz_wt bs n q from fun h => h4 h.1), if_pos (by decide)]
  · rw [hp_tneg hn, if_pos rfl, if_pos rfl, if_neg hn]
theorem pr_addRule {s : hf_St} {k : Nat} (hk : k < 20) (h8 : s.1 8 6 = nI k) (a b : Int32) : Fc_draft_addRule s a b = some (hf_pI (hf_pA (hf_pA (hf_pA s 22 (upd (s.2 22) k a)) 23 (upd (s.2 23) k b)) 24 (upd (s.2 24) k 0)) 8 6 (nI (k + 1))) := by
  have ix : hf_ix (nI k) 20 := hp_ix hk (by omega)
  unfold Fc_draft_addRule
  simp only [hp_let, hf_pA_1, h8, hp_gd ix, hp_cl (show k < 2147483648 by omega)]
  rw [if_neg (by rw [hp_le, hp_nI (by omega), hp_20]; omega), hp_succ]
  rfl
theorem pr_Radd {k kd : Nat} {σc σm σc' σm' : hf_St} {w : Int32} (h : pr_R k σc σm) (hkd : kd < 3) (hw : 0 ≤ w.toInt ∧ w.toInt ≤ 100) (h8 : σc'.1 8 6 = nI (k + 1)) (c22 : σc'.2 22 = upd (σc.2 22) k (nI kd)) (c23 : σc'.2 23 = upd (σc.2 23) k w) (c24 : σc'.2 24 = upd (σc.2 24) k 0) (cr : ∀ a, 25 ≤ a → a ≤ 27 → σc'.2 a = σc.2 a) (m24 : ∀ i, σm'.2 24 i = if i = k then nI kd else σm.2 24 i) (m25 : ∀ i, σm'.2 25 i = if i = k then w else σm.2 25 i) (m26 : ∀ i, σm'.2 26 i = if i = k then 0 else σm.2 26 i) (mr : ∀ a, 27 ≤ a → a ≤ 31 → σm'.2 a = σm.2 a) : pr_D k 0 kd σc' σm' := by
  refine ⟨h8, ⟨hkd, by omega, ?_, ?_, ?_, ?_, ?_, ?_, fun j hj => by omega⟩, fun k' hk' => ?_⟩
  · rw [c22, hp_upd, if_pos rfl]
  · rw [m24, if_pos rfl]
  · show 0 ≤ (σm'.2 25 k).toInt ∧ (σm'.2 25 k).toInt ≤ 100
    rw [m25, if_pos rfl]; exact hw
  · show σc'.2 23 k = σm'.2 25 k
    rw [c23, m25, hp_upd, if_pos rfl, if_pos rfl]
  · show σc'.2 24 k = nI 0
    rw [c24, hp_upd, if_pos rfl]; rfl
  · show σm'.2 26 k = nI 0
    rw [m26, if_pos rfl]; rfl
  · obtain ⟨kd', tc', q1, q2⟩ := pr_open (h.2 k' hk')
    have hne : ¬ k' = k := by omega
    refine pr_full (pr_rl_tr ?_ ?_ ?_ ?_ q2) q1
    · intro a ha
      have : a = 0 ∨ a = 1 ∨ a = 2 := by omega
      rcases this with rfl | rfl | rfl
      · show σc'.2 22 k' = σc.2 22 k'; rw [c22, hp_upd, if_neg hne]
      · show σc'.2 23 k' = σc.2 23 k'; rw [c23, hp_upd, if_neg hne]
      · show σc'.2 24 k' = σc.2 24 k'; rw [c24, hp_upd, if_neg hne]
    · intro a ha
      have : a = 0 ∨ a = 1 ∨ a = 2 := by omega
      rcases this with rfl | rfl | rfl
      · show σm'.2 24 k' = σm.2 24 k'; rw [m24, if_neg hne]
      · show σm'.2 25 k' = σm.2 25 k'; rw [m25, if_neg hne]
      · show σm'.2 26 k' = σm.2 26 k'; rw [m26, if_neg hne]
    · intro a j h3 h6 hj
      rw [cr (22 + a) (by omega) (by omega)]
    · intro a j h3 h6 hj
      rw [mr (24 + a) (by omega) (by omega)]
/-- the class's head and terms of a rule -/
def pr_hd (s : hf_St) (a : Int32) : Option (Int32 × hf_St) := hf_b2 (Fc_reader_readHead s a) (fun v1 s2 => if v1 = 0 then some ((0 : Int32), s2) else Fc_reader_readTerms s2)
theorem pr_hd_b {α : Type} {s : hf_St} {a v : Int32} {s' : hf_St} (h : pr_hd s a = some (v, s')) (F G : hf_St → Option α) : hf_b2 (Fc_reader_readHead s a) (fun v1 s2 => (if v1 = 0 then F s2 else hf_b2 (Fc_reader_readTerms s2) (fun v3 s4 => (if v3 = 0 then F s4 else G s4)))) = if v = 0 then F s' else G s' := by
  unfold pr_hd at h
  cases hh : Fc_reader_readHead s a with
  | none => rw [hh] at h; exact absurd h (by show ¬ (none : Option (Int32 × hf_St)) = _; intro h; cases h)
  | some z =>
    obtain ⟨v1, s2⟩ := z
    rw [hh, hp_b2] at h
    rw [hp_b2]
    by_cases h0 : v1 = 0
    · rw [if_pos h0] at h ⊢
      cases h
      rw [if_pos rfl]
    · rw [if_neg h0] at h ⊢
      rw [h, hp_b2]
theorem pr_tail {bs : Nat → Nat} {n q k kd : Nat} {c0 m0 σc σm cA mA : hf_St} {w : Int32} (hR : pr_R k σc σm) (hk : k < 20) (hkd : kd < 3) (hw : 0 ≤ w.toInt ∧ w.toInt ≤ 100) (hB : pr_B bs n q c0 m0 cA mA) (eA : cA.2 = σc.2) (e8 : cA.1 8 6 = σc.1 8 6) (m24 : ∀ i, mA.2 24 i = if i = k then nI kd else σm.2 24 i) (m25 : ∀ i, mA.2 25 i = if i = k then w else σm.2 25 i) (m26 : ∀ i, mA.2 26 i = if i = k then 0 else σm.2 26 i) (mr : ∀ a, 27 ≤ a → a ≤ 31 → mA.2 a = σm.2 a) :
    (∃ σc' σm', hf_b2 (Fc_reader_readHead_b45 cA (nI kd) w) (fun v1 s2 => if v1 = 0 then some ((0 : Int32), s2) else Fc_reader_readTerms s2) = some (0, σc') ∧ Fm_md_rule_l211 hf_fuel mA (nI k) 1 = some (0, σm') ∧ pr_bad c0 m0 σc' σm') ∨
    (∃ σc' σm' q', hf_b2 (Fc_reader_readHead_b45 cA (nI kd) w) (fun v1 s2 => if v1 = 0 then some ((0 : Int32), s2) else Fc_reader_readTerms s2) = some (1, σc') ∧ Fm_md_rule_l211 hf_fuel mA (nI k) 1 = some (1, σm') ∧ pr_B bs n q' c0 m0 σc' σm' ∧ k < 20 ∧ pr_R (k + 1) σc' σm') := by
  obtain ⟨hc, hm, htk, hpp, h23, h4, fc, fm⟩ := hB
  have nw : ¬ w = -1 := by rw [hp_eq, hp_m1]; omega
  have AR := pr_addRule hk (s := cA) (by rw [e8]; exact hR.1) (nI kd) w
  unfold Fc_reader_readHead_b45
  rw [if_neg nw, AR, hp_b0, hp_z1, hp_b2, if_neg (show ¬ (1 : Int32) = 0 by decide)]
  have fr : pc_fr cA (hf_pI (hf_pA (hf_pA (hf_pA cA 22 (upd (cA.2 22) k (nI kd))) 23 (upd (cA.2 23) k w)) 24 (upd (cA.2 24) k 0)) 8 6 (nI (k + 1))) := pc_frt (pc_frt (pc_frt (pc_frA (by omega)) (pc_frA (by omega))) (pc_frA (by omega))) pc_fr8
  have D : pr_D k 0 kd (hf_pI (hf_pA (hf_pA (hf_pA cA 22 (upd (cA.2 22) k (nI kd))) 23 (upd (cA.2 23) k w)) 24 (upd (cA.2 24) k 0)) 8 6 (nI (k + 1))) mA := by
    refine pr_Radd hR hkd hw (by simp [hf_pI]) ?_ ?_ ?_ ?_ m24 m25 m26 mr
    · show upd (cA.2 22) k (nI kd) = _; rw [eA]
    · show upd (cA.2 23) k w = _; rw [eA]
    · show upd (cA.2 24) k 0 = _; rw [eA]
    · intro a h1 h2
      rw [hf_pI_2, hf_pA_2, if_neg (by omega), hf_pA_2, if_neg (by omega), hf_pA_2, if_neg (by omega), eA]
  generalize hcB : hf_pI (hf_pA (hf_pA (hf_pA cA 22 (upd (cA.2 22) k (nI kd))) 23 (upd (cA.2 23) k w)) 24 (upd (cA.2 24) k 0)) 8 6 (nI (k + 1)) = cB at *
  have e7 : ∀ x, cB.1 7 x = cA.1 7 x := fun x => by rw [← hcB, hf_pI_1, if_neg (by omega)]; rfl
  have B2 : pr_B bs n q c0 m0 cB mA := ⟨pc_c hc fr, hm, ⟨htk.1, by rw [e7]; exact htk.2.1, by rw [e7]; exact htk.2.2⟩, hpp, h23, by rw [e7]; exact h4, pc_frt fc fr, fm⟩
  rcases pr_terms hk 6 0 q cB mA hf_fuel hf_fuel (by omega) (by unfold hf_fuel; omega) (by unfold hf_fuel; omega) B2 D with ⟨a, b, h1, h2, h3⟩ | ⟨a, b, q', h1, h2, h3, h6⟩
  · exact Or.inl ⟨a, b, h1, h2, h3⟩
  · exact Or.inr ⟨a, b, q', h1, h2, h3, hk, h6⟩
