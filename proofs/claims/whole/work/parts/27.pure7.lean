/-! What is only scratch: the class's reader, draft, judge, sheet, placer; the reference's own. -/
def hq_c (σ σ' : hf_St) : Prop := (∀ j k, j < 7 ∨ 11 ≤ j → σ'.1 j k = σ.1 j k) ∧ ∀ a, a < 22 ∨ 30 ≤ a → σ'.2 a = σ.2 a
theorem hq_rf (σ : hf_St) : hq_c σ σ := ⟨fun _ _ _ => rfl, fun _ _ => rfl⟩
theorem hq_tr {a b c : hf_St} (h : hq_c a b) (g : hq_c b c) : hq_c a c := ⟨fun j k q => by rw [g.1 j k q, h.1 j k q], fun x q => by rw [g.2 x q, h.2 x q]⟩
theorem hq_I {σ : hf_St} {j k : Nat} {v : Int32} (hj : ¬ (j < 7 ∨ 11 ≤ j)) : hq_c σ (hf_pI σ j k v) := ⟨fun j' k' q => by rw [hf_pI_1, if_neg (show ¬ (j' = j ∧ k' = k) by omega)], fun _ _ => rfl⟩
theorem hq_A {σ : hf_St} {a : Nat} {f : Nat → Int32} (ha : ¬ (a < 22 ∨ 30 ≤ a)) : hq_c σ (hf_pA σ a f) := ⟨fun _ _ _ => rfl, fun a' q => by rw [hf_pA_2, if_neg (show ¬ (a' = a) by omega)]⟩
theorem hr_fr {t nc nh np nf nt nr : Nat} {σc σc' σm : hf_St} (h : hr_n t nc nh np nf nt nr σc σm) (q : hq_c σc σc') : hr_n t nc nh np nf nt nr σc' σm := by
  obtain ⟨q1, q2⟩ := q
  obtain ⟨h1, h2, h3, h4, h5, h6, h7, h8⟩ := h
  unfold hr_clk at h1
  unfold hr_chl at h2
  unfold hr_hom at h3
  unfold hr_pap at h4
  unfold hr_fac hr_one at h5
  unfold hr_tap at h6
  unfold hr_rul hr_rule at h7
  unfold hr_pla at h8
  refine ⟨?_, ?_, ?_, ?_, ?_, ?_, ?_, ?_⟩
  · unfold hr_clk; rw [q1 0 10 (by omega)]; exact h1
  · unfold hr_chl; rw [q1 1 5 (by omega), q2 0 (by omega), q2 1 (by omega), q2 2 (by omega), q2 3 (by omega), q2 4 (by omega)]; exact h2
  · unfold hr_hom; rw [q1 2 2 (by omega), q2 5 (by omega), q2 6 (by omega)]; exact h3
  · unfold hr_pap; rw [q1 3 3 (by omega), q2 7 (by omega), q2 8 (by omega), q2 9 (by omega)]; exact h4
  · unfold hr_fac hr_one; rw [q1 4 5 (by omega), q2 10 (by omega), q2 11 (by omega), q2 12 (by omega), q2 13 (by omega), q2 14 (by omega)]; exact h5
  · unfold hr_tap; rw [q1 5 1 (by omega), q2 15 (by omega)]; exact h6
  · unfold hr_rul hr_rule; rw [q1 6 6 (by omega), q2 16 (by omega), q2 (16 + 1) (by omega), q2 (16 + 2) (by omega), q2 (16 + 3) (by omega), q2 (16 + 4) (by omega), q2 (16 + 5) (by omega)]; exact h7
  · unfold hr_pla; rw [q2 30 (by omega), q2 31 (by omega)]; exact h8
/-! The sheet: each field on a day. -/
/-- whose field stands in slot sl, for child c and home h -/
def hk_o (c h sl : Nat) : Nat := if sl < 8 then c else h
def hk_who (c h sl : Nat) : Int32 := nI (if sl < 8 then hk_o c h sl else hk_o c h sl + 100)
def hk_fld (sl : Nat) : Int32 := nI (if sl < 8 then sl else sl - 8)
def hk_best (σ : hf_St) (c h : Nat) (day known : Int32) (k sl : Nat) : Option Nat := hv_best σ (hk_who c h sl) (hk_fld sl) day known k
def hk_val (σ : hf_St) (nf c h : Nat) (day known : Int32) (sl : Nat) : Int32 := hv σ nf (hk_who c h sl) (hk_fld sl) day known
/-- fact k is of the child or the home, and known -/
abbrev hk_rel (σc σm : hf_St) (c h : Nat) (known : Int32) (k : Nat) : Prop := σc.2 11 k = (if 8 ≤ σc.2 10 k then nI h else nI c) ∧ ¬ known < σm.2 14 k
def hk_turn (σc σm : hf_St) (c h : Nat) (day known : Int32) : Nat → Int32
  | 0 => 1000
  | k + 1 => if hk_rel σc σm c h known k ∧ day < σm.2 13 k then hf_min (hk_turn σc σm c h day known k) (σm.2 13 k) else hk_turn σc σm c h day known k
/-- the sheet holds what the first k facts say -/
def hk_inv (σc σm : hf_St) (c h : Nat) (day known : Int32) (k : Nat) (s : hf_St) : Prop := hq_c σc s ∧ (∀ sl, sl < 16 → s.2 28 sl = hv_num σm (hk_best σm c h day known k sl) ∧ s.2 29 sl = hv_day σm (hk_best σm c h day known k sl)) ∧ s.1 10 2 = day ∧ s.1 10 3 = hk_turn σc σm c h day known k ∧ s.1 9 6 = σc.1 9 6
theorem hk_fill28 : ∀ m k (s : hf_St) f, k + m = 16 → m < f → ∃ s', Fc_fill_sheet_numbers_l5 f s 0 (nI k) (nI 16) = some s' ∧ hq_c s s' ∧ s'.1 = s.1 ∧ (∀ a, a ≠ 28 → s'.2 a = s.2 a) ∧ (∀ i, i < k → s'.2 28 i = s.2 28 i) ∧ ∀ i, k ≤ i → i < 16 → s'.2 28 i = 0 := by
  intro m
  induction m with
  | zero =>
    intro k s f hk hf
    obtain ⟨n, rfl⟩ : ∃ n, f = n + 1 := ⟨f - 1, by omega⟩
    have e : k = 16 := by omega
    subst e
    refine ⟨s, ?_, hq_rf s, rfl, fun _ _ => rfl, fun _ _ => rfl, fun i h1 h2 => by omega⟩
    rw [Fc_fill_sheet_numbers_l5, if_pos (by rw [hp_le]; omega)]
  | succ m ih =>
    intro k s f hk hf
    obtain ⟨n, rfl⟩ : ∃ n, f = n + 1 := ⟨f - 1, by omega⟩
    obtain ⟨s', e1, e2, e3, e4, e5, e6⟩ := ih (k + 1) (hf_pA s 28 (upd (s.2 28) k 0)) n (by omega) (by omega)
    refine ⟨s', ?_, hq_tr (hq_A (by omega)) e2, e3, fun a ha => by rw [e4 a ha, hf_pA_2, if_neg ha], fun i hi => ?_, fun i h1 h2 => ?_⟩
    · rw [Fc_fill_sheet_numbers_l5, if_neg (hp_nle (by omega) (by omega)), hp_gd (hp_ix (by omega) (by omega)), hp_let, hp_cl (by omega), hp_succ, e1]
    · rw [e5 i (by omega), hf_pA_2, if_pos rfl, hp_upd, if_neg (by omega)]
    · by_cases hi : i = k
      · rw [e5 i (by omega), hf_pA_2, if_pos rfl, hp_upd, if_pos hi]
      · exact e6 i (by omega) h2
theorem hk_fill29 : ∀ m k (s : hf_St) f, k + m = 16 → m < f → ∃ s', Fc_fill_sheet_sinces_l5 f s (-1) (nI k) (nI 16) = some s' ∧ hq_c s s' ∧ s'.1 = s.1 ∧ (∀ a, a ≠ 29 → s'.2 a = s.2 a) ∧ (∀ i, i < k → s'.2 29 i = s.2 29 i) ∧ ∀ i, k ≤ i → i < 16 → s'.2 29 i = -1 := by
  intro m
  induction m with
  | zero =>
    intro k s f hk hf
    obtain ⟨n, rfl⟩ : ∃ n, f = n + 1 := ⟨f - 1, by omega⟩
    have e : k = 16 := by omega
    subst e
    refine ⟨s, ?_, hq_rf s, rfl, fun _ _ => rfl, fun _ _ => rfl, fun i h1 h2 => by omega⟩
    rw [Fc_fill_sheet_sinces_l5, if_pos (by rw [hp_le]; omega)]
  | succ m ih =>
    intro k s f hk hf
    obtain ⟨n, rfl⟩ : ∃ n, f = n + 1 := ⟨f - 1, by omega⟩
    obtain ⟨s', e1, e2, e3, e4, e5, e6⟩ := ih (k + 1) (hf_pA s 29 (upd (s.2 29) k (-1))) n (by omega) (by omega)
    refine ⟨s', ?_, hq_tr (hq_A (by omega)) e2, e3, fun a ha => by rw [e4 a ha, hf_pA_2, if_neg ha], fun i hi => ?_, fun i h1 h2 => ?_⟩
    · rw [Fc_fill_sheet_sinces_l5, if_neg (hp_nle (by omega) (by omega)), hp_gd (hp_ix (by omega) (by omega)), hp_let, hp_cl (by omega), hp_succ, e1]
    · rw [e5 i (by omega), hf_pA_2, if_pos rfl, hp_upd, if_neg (by omega)]
    · by_cases hi : i = k
      · rw [e5 i (by omega), hf_pA_2, if_pos rfl, hp_upd, if_pos hi]
      · exact e6 i (by omega) h2
theorem hk_clear (σc σm : hf_St) (c h : Nat) (day known : Int32) : ∃ s, Fc_sheet_clear σc day = some s ∧ hk_inv σc σm c h day known 0 s := by
  obtain ⟨s1, a1, a2, a3, a4, a5, a6⟩ := hk_fill28 16 0 σc hf_fuel rfl (by unfold hf_fuel; omega)
  obtain ⟨s2, b1, b2, b3, b4, b5, b6⟩ := hk_fill29 16 0 s1 hf_fuel rfl (by unfold hf_fuel; omega)
  refine ⟨hf_pI (hf_pI s2 10 2 day) 10 3 1000, ?_, hq_tr (hq_tr (hq_tr a2 b2) (hq_I (by omega))) (hq_I (by omega)), fun sl hsl => ⟨?_, ?_⟩, ?_, ?_, ?_⟩
  · unfold Fc_sheet_clear Fc_fill_sheet_numbers Fc_fill_sheet_sinces
    rw [hp_let, show (0 : Int32) = nI 0 from rfl, ← show (0 : Int32) = nI 0 from rfl]
    rw [show Fc_fill_sheet_numbers_l5 hf_fuel σc 0 0 (nI 16) = some s1 from a1, hp_b0, hp_let, show Fc_fill_sheet_sinces_l5 hf_fuel s1 (-1) 0 (nI 16) = some s2 from b1, hp_b0, hp_let, hp_let]
  · show s2.2 28 sl = 0
    rw [b4 28 (by omega)]
    exact a6 sl (by omega) hsl
  · show s2.2 29 sl = -1
    exact b6 sl (by omega) hsl
  · simp [hf_pI]
  · simp [hf_pI, hk_turn]
  · show s2.1 9 6 = σc.1 9 6
    rw [b3, a3]
