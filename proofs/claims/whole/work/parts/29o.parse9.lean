/-- blanks once passed are passed -/
theorem pz_sk_sk (bs : Nat → Nat) : ∀ m p, pz_sk bs (m - (pz_sk bs m p - p)) (pz_sk bs m p) = pz_sk bs m p := by
  intro m
  induction m with
  | zero => intro p; show pz_sk bs (0 - (p - p)) p = p; rw [Nat.zero_sub]; rfl
  | succ m ih =>
    intro p
    by_cases h : bs p = 32
    · rw [show pz_sk bs (m + 1) p = pz_sk bs m (p + 1) from if_pos h]
      have := ih (p + 1)
      have hin := pz_sk_in bs m (p + 1)
      rw [show m + 1 - (pz_sk bs m (p + 1) - p) = m - (pz_sk bs m (p + 1) - (p + 1)) by omega]
      exact this
    · rw [show pz_sk bs (m + 1) p = p from if_neg h, Nat.sub_self]
      exact if_neg h
/-- k whole rules of the draft -/
def pr_R (k : Nat) (σc σm : hf_St) : Prop := σc.1 8 6 = nI k ∧ ∀ k', k' < k → hr_rule σc σm 22 24 k'
theorem pr_DR {k t kd : Nat} {σc σm : hf_St} (h : pr_D k t kd σc σm) (h1 : 1 ≤ t) : pr_R (k + 1) σc σm := by
  refine ⟨h.1, fun k' hk => ?_⟩
  by_cases e : k' = k
  · subst e; exact pr_full h.2.1 h1
  · exact h.2.2 k' (by omega)
theorem pr_Rf {k : Nat} {σc σm σc' σm' : hf_St} (h : pr_R k σc σm) (h8 : σc'.1 8 6 = σc.1 8 6) (hc : σc'.2 = σc.2) (hm : σm'.2 = σm.2) : pr_R k σc' σm' := by
  refine ⟨by rw [h8]; exact h.1, fun k' hk => ?_⟩
  obtain ⟨a, b, c, d⟩ := pr_open (h.2 k' hk)
  exact pr_full (pr_eq2 hc hm d) c
theorem pr_terms {bs : Nat → Nat} {n k kd : Nat} {c0 m0 : hf_St} (hk : k < 20) : ∀ m t q σc σm f g, t + m = 6 → m < f → m + 1 < g → pr_B bs n q c0 m0 σc σm → pr_D k t kd σc σm →
    (∃ σc' σm', Fc_reader_readTerms_l2 f σc (nI t) = some (0, σc') ∧ Fm_md_rule_l211 g σm (nI k) 1 = some (0, σm') ∧ pr_bad c0 m0 σc' σm') ∨
    (∃ σc' σm' q', Fc_reader_readTerms_l2 f σc (nI t) = some (1, σc') ∧ Fm_md_rule_l211 g σm (nI k) 1 = some (1, σm') ∧ pr_B bs n q' c0 m0 σc' σm' ∧ pr_R (k + 1) σc' σm') := by
  intro m
  induction m with
  | zero =>
    intro t q σc σm f g htm hf hg hB hD
    obtain ⟨f, rfl⟩ : ∃ k, f = k + 1 := ⟨f - 1, by omega⟩
    obtain ⟨g, rfl⟩ : ∃ k, g = k + 1 := ⟨g - 1, by omega⟩
    have e26 : σm.2 26 k = nI t := hD.2.1.2.2.2.2.2.2.2.1
    have ht : t = 6 := by omega
    subst ht
    have ix : hf_ix (nI k) 21 := hp_ix (by omega) (by omega)
    have ev : 6 * nI k + nI 6 = nI (6 * k + 6) := by rw [show (6 : Int32) = nI 6 from rfl, pk_mul, nI_add]
    rw [Fc_reader_readTerms_l2, Fm_md_rule_l211, if_neg (show ¬ (6 : Int32) < nI 6 by decide), if_neg (show ¬ (1 : Int32) = 0 by decide), hp_gd ix, hp_cl (by omega), e26, ev, hp_let, hp_gd ix, if_pos (show nI 6 = 6 from rfl)]
    unfold Fc_reader_readTerm
    rw [if_neg (show ¬ nI 6 < (6 : Int32) by decide)]
    rcases pr_term hB hD hk (by omega) (l := 1) (fun _ => by decide) (fun z0 z1 z2 => Fm_md_rule_l211 g z0 z1 z2) with ⟨sc, sm, a1, a2, a3⟩ | ⟨sc, sm, q', a1, a2, a3, a4, a5⟩
    · exact Or.inl ⟨sc, sm, by rw [a1, hp_b2, if_pos rfl, hp_z0], a2, a3⟩
    · omega
  | succ m ih =>
    intro t q σc σm f g htm hf hg hB hD
    obtain ⟨f, rfl⟩ : ∃ k, f = k + 1 := ⟨f - 1, by omega⟩
    obtain ⟨g, rfl⟩ : ∃ k, g = k + 1 := ⟨g - 1, by omega⟩
    have e26 : σm.2 26 k = nI t := hD.2.1.2.2.2.2.2.2.2.1
    have ix : hf_ix (nI k) 21 := hp_ix (by omega) (by omega)
    have ev : 6 * nI k + nI t = nI (6 * k + t) := by rw [show (6 : Int32) = nI 6 from rfl, pk_mul, nI_add]
    rw [Fc_reader_readTerms_l2, Fm_md_rule_l211, if_neg (show ¬ (6 : Int32) < nI t by rw [hp_lt, hp_6, hp_nI (by omega)]; omega), if_neg (show ¬ (1 : Int32) = 0 by decide), hp_gd ix, hp_cl (by omega), e26, ev, hp_let, hp_gd ix, if_neg (show ¬ nI t = 6 by rw [show (6 : Int32) = nI 6 from rfl, nI_eq (by omega) (by omega)]; omega)]
    unfold Fc_reader_readTerm
    rw [if_pos (show nI t < (6 : Int32) by rw [hp_lt, hp_6, hp_nI (by omega)]; omega)]
    rcases pr_term hB hD hk (by omega) (l := 0) (fun h => by omega) (fun z0 z1 z2 => Fm_md_rule_l211 g z0 z1 z2) with ⟨sc, sm, a1, a2, a3⟩ | ⟨sc, sm, q', a1, a2, a3, a4, a5⟩
    · exact Or.inl ⟨sc, sm, by rw [a1, hp_b2, if_pos rfl, hp_z0], a2, a3⟩
    · obtain ⟨hc, hm, htk, ⟨p, hp, h22, hpq⟩, h23, h4, fc, fm⟩ := a3
      obtain ⟨s8, b1, b2, b3, b4, b5⟩ := fm_looks hm hp h22
      rw [hpq] at b3 b4 b5
      have hm8 := pz_mf hm b2
      have lk : pz_lk bs n q' s8 := ⟨htk.1, b3, b4, b5⟩
      have h5 := hc.2.1
      have hqn := htk.1
      have W := fc_isWord (w := 3) hc (by omega) htk
      have A := fm_isAnd hm8 lk
      rw [a1, a2, hp_b2, if_neg (show ¬ (1 : Int32) = 0 by decide), W, hp_b1]
      unfold pr_and
      rw [b1, hp_b0, A, hp_b1]
      have f23 : s8.1 0 23 = 0 := by rw [b2.2 23 (by omega)]; exact h23
      by_cases hand : pz_is bs n q' 3
      · have hand2 := (pz_is3 bs n q').mp hand
        rw [hp_tpos hand, hp_tpos hand2, if_neg (by decide), if_neg (by decide), hp_let, b4, b5, nI_add]
        have hin := pz_we_in bs (n - q') q'
        have hwe : ¬ pz_we bs (n - q') q' = q' := by have := hand2.1; omega
        obtain ⟨c2, g1, g2, g3⟩ := fc_next hc htk
        rw [pz_te_we hwe] at g3
        rw [g1, hp_b0, Nat.add_sub_cancel' hin.1, hp_succ]
        refine ih (t + 1) (pz_sk bs (n - pz_we bs (n - q') q') (pz_we bs (n - q') q')) c2 (hf_pI s8 0 22 (nI (pz_we bs (n - q') q'))) f g (by omega) (by omega) (by omega) ⟨pz_cf hc g2, pz_mf hm8 (pz_fmI (Or.inl rfl)), g3, ⟨_, by omega, by simp [hf_pI], rfl⟩, f23, by rw [g2.2 7 4 (by omega)]; exact h4, pc_frt fc (pc_frz g2), pm_frt fm (pm_frt (pm_frs (pz_fsm b2)) (pm_frs (pz_fsI (by omega))))⟩ (pr_Df a5 (g2.2 8 6 (by omega)) g2.1 b2.1)
      · have hand2 := fun h => hand ((pz_is3 bs n q').mpr h)
        rw [hp_tneg hand, hp_tneg hand2, if_pos rfl, if_pos rfl, hp_z1]
        obtain ⟨g, rfl⟩ : ∃ k, g = k + 1 := ⟨g - 1, by omega⟩
        refine Or.inr ⟨sc, s8, q', rfl, ?_, ⟨hc, hm8, htk, ⟨q', hqn, b3, ?_⟩, f23, h4, fc, pm_frt fm (pm_frs (pz_fsm b2))⟩, pr_Rf (pr_DR a5 (by omega)) rfl rfl b2.1⟩
        · show Fm_md_rule_l211 (g + 1) s8 (nI k) 0 = _
          rw [Fm_md_rule_l211, if_pos rfl, hp_z1]
        · have := pz_sk_sk bs (n - p) p
          rw [hpq] at this
          rw [show n - q' = n - p - (q' - p) from by have := pz_sk_in bs (n - p) p; rw [hpq] at this; omega]
          exact this
