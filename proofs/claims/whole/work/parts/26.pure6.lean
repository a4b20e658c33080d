/-! reviews on a day -/
theorem hw_two {f l : Int32} (h0 : 0 ≤ f.toInt) (hl : l.toInt ≤ 999) (hd : l.toInt - f.toInt ≤ 59) {k : Nat} (hk : 2 ≤ k) : hw_day f l k = -1 := by
  unfold hw_day
  rw [if_pos (by rw [if_neg (by omega)]; omega)]
abbrev hw_on (f l d : Int32) : Prop := hw_day f l 0 = d ∨ hw_day f l 1 = d
theorem hw_ne {f l d : Int32} (h0 : 0 ≤ f.toInt) (h1 : f.toInt ≤ l.toInt) (hl : l.toInt ≤ 999) (hd : 0 ≤ d.toInt) : ¬ (hw_day f l 0 = d ∧ hw_day f l 1 = d) := by
  rintro ⟨a, b⟩
  unfold hw_day at a b
  have e0 := hw_add (f := f) (k := 0) h0 (by omega) (by omega)
  have e1 := hw_add (f := f) (k := 1) h0 (by omega) (by omega)
  simp only [if_true, Nat.one_ne_zero, if_false] at a b e0 e1
  split at a
  · rw [← a, hp_m1] at hd; omega
  · split at b
    · rw [← b, hp_m1] at hd; omega
    · rw [← b, hp_eq, e0, e1] at a
      omega
theorem fc_hasReviewOn {σc σm : hf_St} {nc : Nat} (hch : hr_chl nc σc σm) {i : Nat} (hi : i < nc) (hneed : ¬ σm.2 1 i = 0) {d : Int32} (hd : 0 ≤ d.toInt) : Fc_children_hasReviewOn σc (nI i) d = some (hp_t (hw_on (σm.2 2 i) (σm.2 3 i) d)) := by
  obtain ⟨-, -, -, g0, g1, g2, g3, g4, g5, -⟩ := id hch
  obtain ⟨-, k2, k3, -⟩ := g5 i hi
  have kk := k3 (k2.resolve_left hneed)
  have r0 := fc_reviewDay hch hi (k := 0) (by omega) hneed
  have r1 := fc_reviewDay hch hi (k := 1) (by omega) hneed
  have r2 := fc_reviewDay hch hi (k := 2) (by omega) hneed
  rw [hw_two kk.1 kk.2.2.1 kk.2.2.2 (by omega)] at r2
  have hm : ¬ d = -1 := fun h => by rw [h, hp_m1] at hd; omega
  obtain ⟨n, hn⟩ := hp_fuel 3 (by omega)
  unfold Fc_children_hasReviewOn
  rw [hn, show n + 3 = n + 2 + 1 from rfl, Fc_children_hasReviewOn_l2, if_neg (by decide), show (0 : Int32) = nI 0 from rfl, r0, hp_b1]
  unfold Fc_children_hasReviewOn_b28
  by_cases c0 : hw_day (σm.2 2 i) (σm.2 3 i) 0 = -1
  · rw [if_pos c0, if_pos c0, hp_tneg]
    · rfl
    · rintro (h | h)
      · exact hm (by rw [← h, c0])
      · unfold hw_day at c0 h
        have e0 := hw_add (f := σm.2 2 i) (k := 0) kk.1 (by omega) (by omega)
        simp only [if_true, Nat.one_ne_zero, if_false] at c0 h e0
        split at c0
        · split at h
          · exact hm h.symm
          · omega
        · rw [hp_eq, e0, hp_m1] at c0; omega
  · rw [if_neg c0]
    by_cases c1 : hw_day (σm.2 2 i) (σm.2 3 i) 0 = d
    · rw [if_pos c1, if_neg c0, hp_tpos (Or.inl c1)]; rfl
    · rw [if_neg c1, show n + 2 = n + 1 + 1 from rfl, Fc_children_hasReviewOn_l2, if_neg (by decide), show nI 0 + 1 = nI 1 from rfl, r1, hp_b1]
      unfold Fc_children_hasReviewOn_b28
      by_cases c2 : hw_day (σm.2 2 i) (σm.2 3 i) 1 = -1
      · rw [if_pos c2, if_pos c2, hp_tneg]
        · rfl
        · rintro (h | h)
          · exact c1 h
          · exact hm (by rw [← h, c2])
      · rw [if_neg c2]
        by_cases c3 : hw_day (σm.2 2 i) (σm.2 3 i) 1 = d
        · rw [if_pos c3, if_neg c2, hp_tpos (Or.inr c3)]; rfl
        · rw [if_neg c3, Fc_children_hasReviewOn_l2, if_neg (by decide), show nI 1 + 1 = nI 2 from rfl, r2, hp_b1, if_pos rfl, hp_tneg (fun h => h.elim c1 c3)]
          rfl
/-- the reference's inner loop where nothing comes any more -/
theorem fm_rev_no {σm : hf_St} {K : Int32 → Int32 → Int32 → Option Int32} {d : Int32} {i : Nat} : ∀ m k (acc : Int32) f, k + m = 12 → m < f → (∀ k', k ≤ k' → k' < 12 → ∃ v, Fm_md_reviewOf σm (nI i) (nI k') = some v ∧ ¬ v = d) → Fm_md_reviews_l24 σm K f d acc (nI i) (nI k) = K d acc (nI i + 1) := by
  intro m
  induction m with
  | zero =>
    intro k acc f hk hf h
    obtain ⟨n, rfl⟩ : ∃ n, f = n + 1 := ⟨f - 1, by omega⟩
    have e : k = 12 := by omega
    subst e
    rw [Fm_md_reviews_l24, if_pos (by decide)]
  | succ m ih =>
    intro k acc f hk hf h
    obtain ⟨n, rfl⟩ : ∃ n, f = n + 1 := ⟨f - 1, by omega⟩
    obtain ⟨v, hv, hne⟩ := h k (Nat.le_refl _) (by omega)
    rw [Fm_md_reviews_l24, if_neg (by rw [hp_le, hp_nI (by omega), hp_12]; omega), hv, hp_b1, if_neg hne, hp_let, hp_a0, hp_succ k]
    exact ih (k + 1) acc n (by omega) (by omega) (fun k' h1 h2 => h k' (by omega) h2)
theorem fm_rev {σc σm : hf_St} {nc : Nat} (hch : hr_chl nc σc σm) {K : Int32 → Int32 → Int32 → Option Int32} {d : Int32} (hd : 0 ≤ d.toInt) {i : Nat} (hi : i < nc) (acc : Int32) : Fm_md_reviews_l24 σm K hf_fuel d acc (nI i) 0 = K d (if ¬ (σm.2 32 i).toInt < 0 ∧ ¬ σm.2 1 i = 0 ∧ hw_on (σm.2 2 i) (σm.2 3 i) d then acc + 1 else acc) (nI i + 1) := by
  have hm : ¬ d = -1 := fun h => by rw [h, hp_m1] at hd; omega
  obtain ⟨-, -, -, g0, g1, g2, g3, g4, g5, -⟩ := id hch
  by_cases hno : (σm.2 32 i).toInt < 0 ∨ σm.2 1 i = 0
  · rw [if_neg (fun h => hno.elim h.1 h.2.1)]
    refine fm_rev_no 12 0 acc hf_fuel rfl (by unfold hf_fuel; omega) (fun k' _ h2 => ⟨_, fm_reviewOf hch hi (by omega), ?_⟩)
    rw [if_pos hno]
    exact fun h => hm h.symm
  · have n1 : ¬ (σm.2 32 i).toInt < 0 := fun h => hno (Or.inl h)
    have n2 : ¬ σm.2 1 i = 0 := fun h => hno (Or.inr h)
    obtain ⟨-, k2, k3, -⟩ := g5 i hi
    have kk := k3 (k2.resolve_left n2)
    obtain ⟨n, hn⟩ := hp_fuel 20 (by omega)
    have rest : ∀ acc', Fm_md_reviews_l24 σm K (n + 18) d acc' (nI i) (nI 2) = K d acc' (nI i + 1) := fun acc' =>
      fm_rev_no 10 2 acc' (n + 18) rfl (by omega) (fun k' h1 h2 => ⟨_, fm_reviewOf hch hi (by omega), by rw [if_neg hno, hw_two kk.1 kk.2.2.1 kk.2.2.2 h1]; exact fun h => hm h.symm⟩)
    rw [hn, show n + 20 = n + 19 + 1 from rfl, Fm_md_reviews_l24, if_neg (by decide), show (0 : Int32) = nI 0 from rfl, fm_reviewOf hch hi (by omega), if_neg hno, hp_b1, hp_let, hp_let, show nI 0 + 1 = nI 1 from rfl]
    have hne := hw_ne (f := σm.2 2 i) (l := σm.2 3 i) (d := d) kk.1 kk.2.1 kk.2.2.1 hd
    have step : ∀ acc', Fm_md_reviews_l24 σm K (n + 19) d acc' (nI i) (nI 1) = K d (if hw_day (σm.2 2 i) (σm.2 3 i) 1 = d then acc' + 1 else acc') (nI i + 1) := by
      intro acc'
      rw [show n + 19 = n + 18 + 1 from rfl, Fm_md_reviews_l24, if_neg (by decide), fm_reviewOf hch hi (by omega), if_neg hno, hp_b1, hp_let, hp_let, hp_a0, show nI 1 + 1 = nI 2 from rfl, rest, rest]
      split <;> rfl
    rw [step, step]
    by_cases c0 : hw_day (σm.2 2 i) (σm.2 3 i) 0 = d
    · rw [if_pos c0, if_neg (fun h => hne ⟨c0, h⟩), if_pos ⟨n1, n2, Or.inl c0⟩]
    · rw [if_neg c0, show nI 0 = 0 from rfl, hp_a0]
      by_cases c1 : hw_day (σm.2 2 i) (σm.2 3 i) 1 = d
      · rw [if_pos c1, if_pos ⟨n1, n2, Or.inr c1⟩]
      · rw [if_neg c1, if_neg (fun h => h.2.2.elim c0 c1)]
theorem hr_reviews_l {σc σm : hf_St} {nc nh : Nat} (hch : hr_chl nc σc σm) (hpl : hr_pla nc nh σc σm) {d : Int32} (hd : 0 ≤ d.toInt) : ∀ m k (acc : Int32) f1 f2, k + m = nc → m < f1 → m < f2 → ∃ r, Fc_hf_reviews_l13 σc f1 d acc (nI k) = some r ∧ Fm_md_reviews_l13 σm f2 d acc (nI k) = some r := by
  have h7 := hch.2.2.1
  obtain ⟨h1, h2, -, -⟩ := id hch
  intro m
  induction m with
  | zero =>
    intro k acc f1 f2 hk hf1 hf2
    obtain ⟨n, rfl⟩ : ∃ n, f1 = n + 1 := ⟨f1 - 1, by omega⟩
    obtain ⟨n', rfl⟩ : ∃ n, f2 = n + 1 := ⟨f2 - 1, by omega⟩
    have e : k = nc := by omega
    subst e
    rw [Fc_hf_reviews_l13, Fm_md_reviews_l13, Fc_children_size, hp_b1, h1, h2, if_pos (by rw [hp_le]; omega), if_pos (by rw [hp_le]; omega)]
    exact ⟨acc, rfl, rfl⟩
  | succ m ih =>
    intro k acc f1 f2 hk hf1 hf2
    obtain ⟨n, rfl⟩ : ∃ n, f1 = n + 1 := ⟨f1 - 1, by omega⟩
    obtain ⟨n', rfl⟩ : ∃ n, f2 = n + 1 := ⟨f2 - 1, by omega⟩
    have hkn : k < nc := by omega
    rw [Fc_hf_reviews_l13, Fm_md_reviews_l13, Fc_children_size, hp_b1, h1, h2, if_neg (hp_nle (by omega) (by omega)), if_neg (hp_nle (by omega) (by omega))]
    rw [fc_homeN (show k < 7 by omega), hp_b1, hpl.1 k (by omega), if_pos hkn, fm_rev hch hd hkn, hp_succ]
    have q := hpl.2.1 k hkn
    have IH := fun acc' => ih (k + 1) acc' n n' (by omega) (by omega) (by omega)
    by_cases c0 : σm.2 32 k = -1
    · rw [if_pos c0, if_neg (fun h => h.1 (by rw [c0, hp_m1]; omega))]; exact IH acc
    · have c0' : ¬ (σm.2 32 k).toInt < 0 := fun h => c0 (by rw [hp_eq, hp_m1]; omega)
      rw [if_neg c0]
      by_cases c1 : σm.2 1 k = 0
      · rw [if_neg (fun h => h.2.1 c1)]
        have e : Fc_children_hasReviewOn σc (nI k) d = some 0 := by
          obtain ⟨n, hn⟩ := hp_fuel 1 (by omega)
          unfold Fc_children_hasReviewOn
          rw [hn, Fc_children_hasReviewOn_l2, if_neg (by decide), fc_review_no hch hkn _ c1, hp_b1, if_pos rfl]
          rfl
        rw [e, hp_b1, if_pos rfl]; exact IH acc
      · rw [fc_hasReviewOn hch hkn c1 hd, hp_b1]
        by_cases c2 : hw_on (σm.2 2 k) (σm.2 3 k) d
        · rw [hp_tpos c2, if_neg (by decide), if_pos ⟨c0', c1, c2⟩]; exact IH (acc + 1)
        · rw [hp_tneg c2, if_pos rfl, if_neg (fun h => c2 h.2.2)]; exact IH acc
theorem hr_reviews {σc σm : hf_St} (h : hr σc σm) (d : Int32) : ∃ r, Fc_hf_reviews σc d = some r ∧ Fm_md_reviews σm d = some r := by
  obtain ⟨t, nc, nh, np, nf, nt, nr, hcl, hch, hho, hpa, hfa, hta, hru, hpl⟩ := id h
  have h7 := hch.2.2.1
  unfold Fc_hf_reviews Fm_md_reviews
  simp only [fc_isDay, fm_isDay, hp_b1, hp_t0]
  by_cases hd : 0 ≤ d.toInt ∧ d.toInt ≤ 999
  · simp only [if_neg (show ¬ ¬ (0 ≤ d.toInt ∧ d.toInt ≤ 999) by omega)]
    exact hr_reviews_l hch hpl hd.1 nc 0 0 hf_fuel hf_fuel (by omega) (by unfold hf_fuel; omega) (by unfold hf_fuel; omega)
  · simp only [if_pos hd]; exact ⟨_, rfl, rfl⟩
