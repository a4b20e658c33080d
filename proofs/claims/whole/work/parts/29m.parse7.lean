/-! A rule as it is read: kind, weight, terms so far. -/
def pr_rl (kd tc : Nat) (σc σm : hf_St) (kb km k : Nat) : Prop := kd < 3 ∧ tc ≤ 6 ∧ σc.2 kb k = nI kd ∧ σm.2 km k = nI kd ∧ (0 ≤ (σm.2 (km + 1) k).toInt ∧ (σm.2 (km + 1) k).toInt ≤ 100) ∧ σc.2 (kb + 1) k = σm.2 (km + 1) k ∧ σc.2 (kb + 2) k = nI tc ∧ σm.2 (km + 2) k = nI tc ∧ ∀ j, j < tc → hr_side (σc.2 (kb + 3) (6 * k + j)) (σm.2 (km + 3) (6 * k + j)) (σm.2 (km + 4) (6 * k + j)) ∧ (σm.2 (km + 5) (6 * k + j) = 60 ∨ σm.2 (km + 5) (6 * k + j) = 62 ∨ σm.2 (km + 5) (6 * k + j) = 61) ∧ σc.2 (kb + 4) (6 * k + j) = σm.2 (km + 5) (6 * k + j) ∧ hr_side (σc.2 (kb + 5) (6 * k + j)) (σm.2 (km + 6) (6 * k + j)) (σm.2 (km + 7) (6 * k + j))
theorem pr_full {kd tc : Nat} {σc σm : hf_St} {kb km k : Nat} (h : pr_rl kd tc σc σm kb km k) (h1 : 1 ≤ tc) : hr_rule σc σm kb km k := ⟨kd, tc, h.1, h1, h.2.1, h.2.2⟩
theorem pr_open {σc σm : hf_St} {kb km k : Nat} (h : hr_rule σc σm kb km k) : ∃ kd tc, 1 ≤ tc ∧ pr_rl kd tc σc σm kb km k := by
  obtain ⟨kd, tc, a, b, c, d⟩ := h
  exact ⟨kd, tc, b, a, c, d⟩
theorem pr_rl_tr {σc σm σc' σm' : hf_St} {kb km kb' km' k kd tc : Nat} (hc : ∀ a, a < 3 → σc'.2 (kb' + a) k = σc.2 (kb + a) k) (hm : ∀ a, a < 3 → σm'.2 (km' + a) k = σm.2 (km + a) k) (hct : ∀ a j, 3 ≤ a → a < 6 → j < tc → σc'.2 (kb' + a) (6 * k + j) = σc.2 (kb + a) (6 * k + j)) (hmt : ∀ a j, 3 ≤ a → a < 8 → j < tc → σm'.2 (km' + a) (6 * k + j) = σm.2 (km + a) (6 * k + j)) (h : pr_rl kd tc σc σm kb km k) : pr_rl kd tc σc' σm' kb' km' k := by
  obtain ⟨h1, h2, h3, h4, h5, h6, h7, h8, h9⟩ := h
  refine ⟨h1, h2, by have := hc 0 (by omega); rw [show kb' = kb' + 0 from rfl, this]; exact h3, by have := hm 0 (by omega); rw [show km' = km' + 0 from rfl, this]; exact h4, by rw [hm 1 (by omega)]; exact h5, by rw [hc 1 (by omega), hm 1 (by omega)]; exact h6, by rw [hc 2 (by omega)]; exact h7, by rw [hm 2 (by omega)]; exact h8, fun j hj => ?_⟩
  rw [hct 3 j (by omega) (by omega) hj, hct 4 j (by omega) (by omega) hj, hct 5 j (by omega) (by omega) hj, hmt 3 j (by omega) (by omega) hj, hmt 4 j (by omega) (by omega) hj, hmt 5 j (by omega) (by omega) hj, hmt 6 j (by omega) (by omega) hj, hmt 7 j (by omega) (by omega) hj]
  exact h9 j hj
theorem pr_eq2 {σc σm σc' σm' : hf_St} {kb km k kd tc : Nat} (hc : σc'.2 = σc.2) (hm : σm'.2 = σm.2) (h : pr_rl kd tc σc σm kb km k) : pr_rl kd tc σc' σm' kb km k := pr_rl_tr (fun _ _ => by rw [hc]) (fun _ _ => by rw [hm]) (fun _ _ _ _ _ => by rw [hc]) (fun _ _ _ _ _ => by rw [hm]) h
/-- the draft: k rules, and one more with t terms so far -/
def pr_D (k t kd : Nat) (σc σm : hf_St) : Prop := σc.1 8 6 = nI (k + 1) ∧ pr_rl kd t σc σm 22 24 k ∧ ∀ k', k' < k → hr_rule σc σm 22 24 k'
theorem pr_Df {k t kd : Nat} {σc σm σc' σm' : hf_St} (h : pr_D k t kd σc σm) (h8 : σc'.1 8 6 = σc.1 8 6) (hc : σc'.2 = σc.2) (hm : σm'.2 = σm.2) : pr_D k t kd σc' σm' := by
  refine ⟨by rw [h8]; exact h.1, pr_eq2 hc hm h.2.1, fun k' hk => ?_⟩
  obtain ⟨a, b, c, d⟩ := pr_open (h.2.2 k' hk)
  exact pr_full (pr_eq2 hc hm d) c
theorem pr_idx {k k' j t : Nat} (h : k' < k) (hj : j < 6) : ¬ 6 * k' + j = 6 * k + t := by omega
theorem pr_Dadd {k t kd : Nat} {σc σm σc' σm' : hf_St} {a b c m1 m2 m3 m4 : Int32} (h : pr_D k t kd σc σm) (ht : t < 6) (h8 : σc'.1 8 6 = σc.1 8 6) (c22 : σc'.2 22 = σc.2 22) (c23 : σc'.2 23 = σc.2 23) (c24 : σc'.2 24 = upd (σc.2 24) k (nI (t + 1))) (c25 : σc'.2 25 = upd (σc.2 25) (6 * k + t) a) (c26 : σc'.2 26 = upd (σc.2 26) (6 * k + t) b) (c27 : σc'.2 27 = upd (σc.2 27) (6 * k + t) c)
    (e24 : σm'.2 24 = σm.2 24) (e25 : σm'.2 25 = σm.2 25) (e26 : σm'.2 26 = upd (σm.2 26) k (nI (t + 1))) (e27 : σm'.2 27 = upd (σm.2 27) (6 * k + t) m1) (e28 : σm'.2 28 = upd (σm.2 28) (6 * k + t) m2) (e29 : σm'.2 29 = upd (σm.2 29) (6 * k + t) b) (e30 : σm'.2 30 = upd (σm.2 30) (6 * k + t) m3) (e31 : σm'.2 31 = upd (σm.2 31) (6 * k + t) m4)
    (s1 : hr_side a m1 m2) (sb : b = 60 ∨ b = 62 ∨ b = 61) (s2 : hr_side c m3 m4) : pr_D k (t + 1) kd σc' σm' := by
  obtain ⟨g1, ⟨r1, r2, r3, r4, r5, r6, r7, r8, r9⟩, g3⟩ := h
  refine ⟨by rw [h8]; exact g1, ⟨r1, by omega, by rw [c22]; exact r3, by rw [e24]; exact r4, by show 0 ≤ (σm'.2 25 k).toInt ∧ (σm'.2 25 k).toInt ≤ 100; rw [e25]; exact r5, by show σc'.2 23 k = σm'.2 25 k; rw [c23, e25]; exact r6, by show σc'.2 24 k = _; rw [c24, hp_upd, if_pos rfl], by show σm'.2 26 k = _; rw [e26, hp_upd, if_pos rfl], fun j hj => ?_⟩, fun k' hk' => ?_⟩
  · show hr_side (σc'.2 25 (6 * k + j)) (σm'.2 27 (6 * k + j)) (σm'.2 28 (6 * k + j)) ∧ (σm'.2 29 (6 * k + j) = 60 ∨ σm'.2 29 (6 * k + j) = 62 ∨ σm'.2 29 (6 * k + j) = 61) ∧ σc'.2 26 (6 * k + j) = σm'.2 29 (6 * k + j) ∧ hr_side (σc'.2 27 (6 * k + j)) (σm'.2 30 (6 * k + j)) (σm'.2 31 (6 * k + j))
    rw [c25, c26, c27, e27, e28, e29, e30, e31]
    simp only [hp_upd]
    by_cases e : j = t
    · simp only [if_pos (show 6 * k + j = 6 * k + t by omega)]
      exact ⟨s1, sb, trivial, s2⟩
    · simp only [if_neg (show ¬ 6 * k + j = 6 * k + t by omega)]
      exact r9 j (by omega)
  · obtain ⟨kd', tc', q1, q2⟩ := pr_open (g3 k' hk')
    have q3 := q2.2.1
    refine pr_full (pr_rl_tr ?_ ?_ ?_ ?_ q2) q1
    · intro a ha
      have : a = 0 ∨ a = 1 ∨ a = 2 := by omega
      rcases this with rfl | rfl | rfl
      · show σc'.2 22 k' = _; rw [c22]
      · show σc'.2 23 k' = _; rw [c23]
      · show σc'.2 24 k' = σc.2 24 k'; rw [c24, hp_upd, if_neg (by omega)]
    · intro a ha
      have : a = 0 ∨ a = 1 ∨ a = 2 := by omega
      rcases this with rfl | rfl | rfl
      · show σm'.2 24 k' = _; rw [e24]
      · show σm'.2 25 k' = _; rw [e25]
      · show σm'.2 26 k' = σm.2 26 k'; rw [e26, hp_upd, if_neg (by omega)]
    · intro a j h3 h6 hj
      have hn : ¬ 6 * k' + j = 6 * k + t := pr_idx hk' (by omega)
      have : a = 3 ∨ a = 4 ∨ a = 5 := by omega
      rcases this with rfl | rfl | rfl
      · show σc'.2 25 _ = σc.2 25 _; rw [c25, hp_upd, if_neg hn]
      · show σc'.2 26 _ = σc.2 26 _; rw [c26, hp_upd, if_neg hn]
      · show σc'.2 27 _ = σc.2 27 _; rw [c27, hp_upd, if_neg hn]
    · intro a j h3 h6 hj
      have hn : ¬ 6 * k' + j = 6 * k + t := pr_idx hk' (by omega)
      have : a = 3 ∨ a = 4 ∨ a = 5 ∨ a = 6 ∨ a = 7 := by omega
      rcases this with rfl | rfl | rfl | rfl | rfl
      · show σm'.2 27 _ = σm.2 27 _; rw [e27, hp_upd, if_neg hn]
      · show σm'.2 28 _ = σm.2 28 _; rw [e28, hp_upd, if_neg hn]
      · show σm'.2 29 _ = σm.2 29 _; rw [e29, hp_upd, if_neg hn]
      · show σm'.2 30 _ = σm.2 30 _; rw [e30, hp_upd, if_neg hn]
      · show σm'.2 31 _ = σm.2 31 _; rw [e31, hp_upd, if_neg hn]
/-! What reading touches. -/
def pc_fr (a b : hf_St) : Prop := (∀ k, ¬ (22 ≤ k ∧ k ≤ 27) → b.2 k = a.2 k) ∧ ∀ j k, ¬ (j = 7 ∧ (k = 2 ∨ k = 3 ∨ k = 4)) → ¬ (j = 8 ∧ k = 6) → b.1 j k = a.1 j k
def pm_fr (a b : hf_St) : Prop := (∀ k, ¬ (24 ≤ k ∧ k ≤ 31) → b.2 k = a.2 k) ∧ ∀ k, ¬ (k = 22 ∨ k = 23 ∨ k = 41 ∨ k = 42 ∨ k = 43 ∨ k = 44) → b.1 0 k = a.1 0 k
theorem pc_frf (a : hf_St) : pc_fr a a := ⟨fun _ _ => rfl, fun _ _ _ _ => rfl⟩
theorem pm_frf (a : hf_St) : pm_fr a a := ⟨fun _ _ => rfl, fun _ _ => rfl⟩
theorem pc_frt {a b c : hf_St} (h : pc_fr a b) (g : pc_fr b c) : pc_fr a c := ⟨fun k q => by rw [g.1 k q, h.1 k q], fun j k q r => by rw [g.2 j k q r, h.2 j k q r]⟩
theorem pm_frt {a b c : hf_St} (h : pm_fr a b) (g : pm_fr b c) : pm_fr a c := ⟨fun k q => by rw [g.1 k q, h.1 k q], fun k q => by rw [g.2 k q, h.2 k q]⟩
theorem pc_frz {a b : hf_St} (h : pz_fr a b) : pc_fr a b := ⟨fun k _ => by rw [h.1], fun j k q _ => h.2 j k (by omega)⟩
theorem pm_frs {a b : hf_St} (h : pz_fs a b) : pm_fr a b := ⟨fun k _ => by rw [h.1], fun k q => h.2 k q⟩
theorem pc_fr4 {s : hf_St} {v : Int32} : pc_fr s (hf_pI s 7 4 v) := ⟨fun _ _ => rfl, fun j k q _ => by rw [hf_pI_1, if_neg (by omega)]⟩
theorem pc_fr8 {s : hf_St} {v : Int32} : pc_fr s (hf_pI s 8 6 v) := ⟨fun _ _ => rfl, fun j k q r => by rw [hf_pI_1, if_neg (by omega)]⟩
theorem pc_frA {s : hf_St} {a : Nat} {f : Nat → Int32} (h : 22 ≤ a ∧ a ≤ 27) : pc_fr s (hf_pA s a f) := ⟨fun k q => by rw [hf_pA_2, if_neg (by omega)], fun _ _ _ _ => rfl⟩
theorem pm_frA {s : hf_St} {a : Nat} {f : Nat → Int32} (h : 24 ≤ a ∧ a ≤ 31) : pm_fr s (hf_pA s a f) := ⟨fun k q => by rw [hf_pA_2, if_neg (by omega)], fun _ _ => rfl⟩
theorem pc_c {bs : Nat → Nat} {n : Nat} {s s' : hf_St} (h : pz_c bs n s) (g : pc_fr s s') : pz_c bs n s' := ⟨by rw [g.2 5 1 (by omega) (by omega)]; exact h.1, h.2.1, fun i hi => by rw [g.1 15 (by omega)]; exact h.2.2 i hi⟩
theorem pm_m {bs : Nat → Nat} {n : Nat} {s s' : hf_St} (h : pz_m bs n s) (g : pm_fr s s') : pz_m bs n s' := ⟨by rw [g.2 21 (by omega)]; exact h.1, h.2.1, fun i hi => by rw [g.1 15 (by omega)]; exact h.2.2 i hi⟩
/-- behind a fault -/
def pr_bad (c0 m0 σc σm : hf_St) : Prop := pc_fr c0 σc ∧ pm_fr m0 σm ∧ ∃ q kd : Nat, q ≤ 500 ∧ kd ≤ 2 ∧ σc.1 7 4 = pz_flt q kd ∧ σm.1 0 23 = pz_flt q kd
/-- in the midst of a text: the class at the token q, the reference at blanks ahead of it -/
def pr_B (bs : Nat → Nat) (n q : Nat) (c0 m0 σc σm : hf_St) : Prop := pz_c bs n σc ∧ pz_m bs n σm ∧ pz_tk bs n q σc ∧ (∃ p, p ≤ n ∧ σm.1 0 22 = nI p ∧ pz_sk bs (n - p) p = q) ∧ σm.1 0 23 = 0 ∧ σc.1 7 4 = -1 ∧ pc_fr c0 σc ∧ pm_fr m0 σm
theorem pr_addTerm {s : hf_St} {k t : Nat} (hk : k < 20) (ht : t < 6) (h8 : s.1 8 6 = nI (k + 1)) (h24 : s.2 24 k = nI t) (a b c : Int32) : Fc_draft_addTerm s a b c = some (hf_pA (hf_pA (hf_pA (hf_pA s 25 (upd (s.2 25) (6 * k + t) a)) 26 (upd (s.2 26) (6 * k + t) b)) 27 (upd (s.2 27) (6 * k + t) c)) 24 (upd (s.2 24) k (nI (t + 1)))) := by
  have e1 : nI (k + 1) - 1 = nI k := by rw [show (1 : Int32) = nI 1 from rfl, pk_sub (by omega), Nat.add_sub_cancel]
  have e2 : nI k * 6 + nI t = nI (6 * k + t) := by rw [show (6 : Int32) = nI 6 from rfl, pk_mul, nI_add, Nat.mul_comm k 6]
  unfold Fc_draft_addTerm
  rw [hp_let, h8, e1, if_neg (by rw [hp_lt, hp_nI (by omega), hp_0]; omega)]
  have ix : hf_ix (nI k) 20 := hp_ix hk (by omega)
  have iy : hf_ix (nI (6 * k + t)) 120 := hp_ix (by omega) (by omega)
  simp only [hp_gd ix, hp_cl (show k < 2147483648 by omega), h24, hp_let, e2, hp_gd iy, hp_cl (show 6 * k + t < 2147483648 by omega)]
  rw [if_pos (by rw [hp_lt, hp_nI (by omega), hp_6]; omega)]
  show some (hf_pA (hf_pA (hf_pA (hf_pA s 25 (upd (s.2 25) (6 * k + t) a)) 26 (upd (s.2 26) (6 * k + t) b)) 27 (upd (s.2 27) (6 * k + t) c)) 24 (upd (s.2 24) k (s.2 24 k + 1))) = _
  rw [h24, hp_succ]
