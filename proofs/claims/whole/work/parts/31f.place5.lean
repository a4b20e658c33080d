/-! PLACE: what is given, out of the states. -/
/-- the bar of home h for child c -/
def pl_r (σ : hf_St) (nf np nr t c h : Nat) : Int32 := hb_sn (hb σ nf np nr c h (nI t)) (hb_scan (hb σ nf np nr c h (nI t)) (σ.2 2 c).toNatClampNeg ((σ.2 3 c).toNatClampNeg + 1 - (σ.2 2 c).toNatClampNeg))
def pl_w (σ : hf_St) (nf nr t c h : Nat) : Int32 := hw_sum σ nf c h (σ.2 2 c) (nI t) 0 nr 0
theorem pl_r_fr {σ σ' : hf_St} (q : ∀ a, a < 24 → σ'.2 a = σ.2 a) (nf np nr t c h : Nat) : pl_r σ' nf np nr t c h = pl_r σ nf np nr t c h := by
  have e : hb σ' nf np nr c h (nI t) = hb σ nf np nr c h (nI t) := by
    funext d
    unfold hb hb_want
    rw [q 6 (by omega), q 4 (by omega), hu_fr q, hb_br_fr q]
  unfold pl_r
  rw [e, q 2 (by omega), q 3 (by omega)]
theorem hw_fr {σ σ' : hf_St} (q : ∀ a, a < 24 → σ'.2 a = σ.2 a) (nf c h : Nat) (d k : Int32) : ∀ m j acc, hw_sum σ' nf c h d k j m acc = hw_sum σ nf c h d k j m acc := by
  intro m
  induction m with
  | zero => intro j acc; rfl
  | succ m ih => intro j acc; rw [hw_sum, hw_sum, ih, ho_so_fr q, q 16 (by omega), q 17 (by omega)]
theorem pl_w_fr {σ σ' : hf_St} (q : ∀ a, a < 24 → σ'.2 a = σ.2 a) (nf nr t c h : Nat) : pl_w σ' nf nr t c h = pl_w σ nf nr t c h := by
  unfold pl_w
  rw [hw_fr q, q 2 (by omega)]
theorem hw_bd {σc σm : hf_St} {nr nf c h : Nat} {d k : Int32} (hru : hr_rul nr σc σm) : ∀ m j (acc : Int32), j + m = nr → 0 ≤ acc.toInt → acc.toInt ≤ 100 * (j : Int) → 0 ≤ (hw_sum σm nf c h d k j m acc).toInt ∧ (hw_sum σm nf c h d k j m acc).toInt ≤ 100 * (nr : Int) := by
  have h20 := hru.2.2.1
  intro m
  induction m with
  | zero => intro j acc hj h0 h1; rw [hw_sum]; exact ⟨h0, by omega⟩
  | succ m ih =>
    intro j acc hj h0 h1
    rw [hw_sum]
    obtain ⟨kd, tc, _, _, _, _, _, w, _⟩ := hru.2.2.2 j (by omega)
    have w' : 0 ≤ (σm.2 17 j).toInt ∧ (σm.2 17 j).toInt ≤ 100 := w
    by_cases e : σm.2 16 j = 2 ∧ ho_so σm nf c h d k j = true
    · rw [if_pos e]
      have ea : (acc + σm.2 17 j).toInt = acc.toInt + (σm.2 17 j).toInt := hp_add (by omega) (by omega)
      exact ih (j + 1) _ (by omega) (by omega) (by omega)
    · rw [if_neg e]
      exact ih (j + 1) _ (by omega) h0 (by omega)
/-- findBar and barOf, by the bar itself -/
theorem hr_find2 {t nc nh np nf nt nr : Nat} {σc σm : hf_St} (hn : hr_n t nc nh np nf nt nr σc σm) {c h : Nat} (hc : c < nc) (hh : h < nh) (hneed : ¬ σm.2 1 c = 0) : (∃ sc, Fc_judge_findBar σc (nI c) (nI h) (nI t) = some (pl_r σm nf np nr t c h, sc) ∧ hq_c σc sc) ∧ ∃ sm, Fm_md_barOf σm (nI c) (nI h) = some (pl_r σm nf np nr t c h, sm) ∧ hq_m σm sm := by
  obtain ⟨hcl, hch, hho, hpa, hfa, hta, hru, hpl⟩ := id hn
  have h7 := hch.2.2.1
  have h5 := hho.2.2.1
  obtain ⟨-, k2, k3, -⟩ := hch.2.2.2.2.2.2.2.2.1 c hc
  have kk := k3 (k2.resolve_left hneed)
  obtain ⟨a, ha, ea, ea2⟩ := hp_of (x := σm.2 2 c) kk.1
  obtain ⟨b, hb', eb, eb2⟩ := hp_of (x := σm.2 3 c) (by omega)
  have hq1 : hq_c σc (hf_pI σc 9 6 (-1)) := hq_I (by omega)
  have hn1 := hr_fr hn hq1
  obtain ⟨sc, x1, x2, x3⟩ := fc_find_l hn hc hh hneed (show b ≤ 999 by omega) (b + 1 - a) a (nI a) (hf_pI σc 9 6 (-1)) hf_fuel (by omega) (by unfold hf_fuel; omega) hq1 (by simp [hf_pI]) (by rw [hp_nI (by omega)]; omega) (fun d' h1 h2 h3 => by rw [hp_nI (by omega)] at h3; omega)
  obtain ⟨sm, y1, y2, y3⟩ := fm_find_l hn hc hh (show b ≤ 999 by omega) eb (b + 1 - a) a σm hf_fuel (by omega) (by unfold hf_fuel; omega) (hq_mrf σm)
  have er : pl_r σm nf np nr t c h = hb_sn (hb σm nf np nr c h (nI t)) (hb_scan (hb σm nf np nr c h (nI t)) a (b + 1 - a)) := by
    unfold pl_r
    rw [ea, eb, hp_cl ha, hp_cl hb']
  rw [er]
  refine ⟨⟨sc, ?_, x2⟩, sm, ?_, y2⟩
  · unfold Fc_judge_findBar
    rw [hp_let, fc_hasNeedN hn1.2.1 hc, hp_b1, if_neg (fun e => (hp_t0 _).mp e hneed), fc_has_h hn1.2.2.1.1 hn1.2.2.1.2.2.1, hp_b1, if_neg (fun e => (hp_t0 _).mp e (by rw [hp_nI (by omega)]; omega)), fc_lastDay hn1.2.1 hc hneed, hp_b1, fc_firstDay hn1.2.1 hc hneed, hp_b1, ea, eb]
    exact x1
  · unfold Fm_md_barOf
    rw [hp_gd (hp_ix (show c < 7 by omega) (by omega)), hp_let, hp_cl (by omega), ea]
    exact y1
theorem fc_find_no {t nc nh np nf nt nr : Nat} {σc σm : hf_St} (hn : hr_n t nc nh np nf nt nr σc σm) {c : Nat} (hc : c < nc) (hneed : σm.2 1 c = 0) (b k : Int32) : Fc_judge_findBar σc (nI c) b k = some (-1, hf_pI σc 9 6 (-1)) := by
  have hn1 := hr_fr hn (hq_I (j := 9) (k := 6) (v := -1) (by omega))
  unfold Fc_judge_findBar
  rw [hp_let, fc_hasNeedN hn1.2.1 hc, hp_b1, if_pos ((hp_t0 _).mpr (fun e => e hneed))]
/-- less is left alone: rows and numbers of what was told, and the latest placing -/
def hq_w (σ σ' : hf_St) : Prop := (∀ j k, j < 7 → σ'.1 j k = σ.1 j k) ∧ ∀ a, a < 22 ∨ a = 30 ∨ a = 31 → σ'.2 a = σ.2 a
theorem hq_wrf (σ : hf_St) : hq_w σ σ := ⟨fun _ _ _ => rfl, fun _ _ => rfl⟩
theorem hq_wtr {a b c : hf_St} (h : hq_w a b) (g : hq_w b c) : hq_w a c := ⟨fun j k q => by rw [g.1 j k q, h.1 j k q], fun x q => by rw [g.2 x q, h.2 x q]⟩
theorem hq_wc {a b : hf_St} (h : hq_c a b) : hq_w a b := ⟨fun j k q => h.1 j k (by omega), fun x q => h.2 x (by omega)⟩
theorem hq_wA {σ : hf_St} {a : Nat} {f : Nat → Int32} (ha : 32 ≤ a) : hq_w σ (hf_pA σ a f) := ⟨fun _ _ _ => rfl, fun a' q => by rw [hf_pA_2, if_neg (show ¬ (a' = a) by omega)]⟩
theorem hr_frw {t nc nh np nf nt nr : Nat} {σc σc' σm : hf_St} (h : hr_n t nc nh np nf nt nr σc σm) (q : hq_w σc σc') : hr_n t nc nh np nf nt nr σc' σm := by
  obtain ⟨q1, q2⟩ := q
  obtain ⟨h1, h2, h3, h4, h5, h6, h7, h8⟩ := h
  unfold hr_clk at h1
  unfold hr_chl at h2
  unfold hr_hom at h3
  unfold hr_pap at h4
  unfold hr_fac hr_one at h5
  unfold hr_tap at h6
  unfold hr_rul hr_rule at h7
  unfold hr_pla at h8
  refine ⟨?_, ?_, ?_, ?_, ?_, ?_, ?_, ?_⟩
  · unfold hr_clk; rw [q1 0 10 (by omega)]; exact h1
  · unfold hr_chl; rw [q1 1 5 (by omega), q2 0 (by omega), q2 1 (by omega), q2 2 (by omega), q2 3 (by omega), q2 4 (by omega)]; exact h2
  · unfold hr_hom; rw [q1 2 2 (by omega), q2 5 (by omega), q2 6 (by omega)]; exact h3
  · unfold hr_pap; rw [q1 3 3 (by omega), q2 7 (by omega), q2 8 (by omega), q2 9 (by omega)]; exact h4
  · unfold hr_fac hr_one; rw [q1 4 5 (by omega), q2 10 (by omega), q2 11 (by omega), q2 12 (by omega), q2 13 (by omega), q2 14 (by omega)]; exact h5
  · unfold hr_tap; rw [q1 5 1 (by omega), q2 15 (by omega)]; exact h6
  · unfold hr_rul hr_rule; rw [q1 6 6 (by omega), q2 16 (by omega), q2 (16 + 1) (by omega), q2 (16 + 2) (by omega), q2 (16 + 3) (by omega), q2 (16 + 4) (by omega), q2 (16 + 5) (by omega)]; exact h7
  · unfold hr_pla; rw [q2 30 (by omega), q2 31 (by omega)]; exact h8
/-- the reference's state along the way: what was told is left alone -/
def hq_7 (σ s : hf_St) : Prop := (∀ k, k < 22 ∨ k = 24 ∨ k = 55 → s.1 0 k = σ.1 0 k) ∧ ∀ a, a < 24 ∨ a = 32 → s.2 a = σ.2 a
theorem hq_7rf (σ : hf_St) : hq_7 σ σ := ⟨fun _ _ => rfl, fun _ _ => rfl⟩
theorem hq_7tr {a b c : hf_St} (h : hq_7 a b) (g : hq_7 b c) : hq_7 a c := ⟨fun k q => by rw [g.1 k q, h.1 k q], fun x q => by rw [g.2 x q, h.2 x q]⟩
theorem hq_7m {a b : hf_St} (h : hq_m a b) : hq_7 a b := ⟨fun k q => h.1 k (by omega), fun x q => h.2 x (by omega)⟩
theorem hq_7A {σ : hf_St} {a : Nat} {f : Nat → Int32} (ha : 33 ≤ a) : hq_7 σ (hf_pA σ a f) := ⟨fun _ _ => rfl, fun a' q => by rw [hf_pA_2, if_neg (show ¬ (a' = a) by omega)]⟩
theorem hq_7I {σ : hf_St} {k : Nat} {v : Int32} (hk : 51 ≤ k ∧ ¬ k = 55) : hq_7 σ (hf_pI σ 0 k v) := ⟨fun k' q => by rw [hf_pI_1, if_neg (show ¬ (0 = 0 ∧ k' = k) by omega)], fun _ _ => rfl⟩
theorem hr_fr7 {t nc nh np nf nt nr : Nat} {σc σm s : hf_St} (h : hr_n t nc nh np nf nt nr σc σm) (q : hq_7 σm s) : ∃ σ', hr_n t nc nh np nf nt nr σ' s := by
  obtain ⟨q1, q2⟩ := q
  obtain ⟨h1, h2, h3, h4, h5, h6, h7, h8⟩ := h
  unfold hr_clk at h1
  unfold hr_chl hr_kid at h2
  unfold hr_hom at h3
  unfold hr_pap at h4
  unfold hr_fac hr_one at h5
  unfold hr_tap at h6
  unfold hr_rul hr_rule at h7
  unfold hr_pla at h8
  refine ⟨hf_pA σc 31 (fun k => if s.1 0 55 = 0 then -1 else if k = 0 then s.1 0 56 else if k = 1 then s.1 0 51 else if k = 2 then s.1 0 52 else if k = 3 then s.1 0 53 else s.1 0 54), ?_, ?_, ?_, ?_, ?_, ?_, ?_, ?_⟩
  · unfold hr_clk; rw [q1 0 (by omega)]; exact h1
  · unfold hr_chl hr_kid; rw [q1 1 (by omega), q2 0 (by omega), q2 1 (by omega), q2 2 (by omega), q2 3 (by omega), q2 4 (by omega)]; exact h2
  · unfold hr_hom; rw [q1 7 (by omega), q2 5 (by omega), q2 6 (by omega)]; exact h3
  · unfold hr_pap; rw [q1 10 (by omega), q2 7 (by omega), q2 8 (by omega), q2 9 (by omega)]; exact h4
  · unfold hr_fac hr_one; rw [q1 14 (by omega), q2 10 (by omega), q2 11 (by omega), q2 12 (by omega), q2 13 (by omega), q2 14 (by omega)]; exact h5
  · unfold hr_tap; rw [q1 21 (by omega), q2 15 (by omega)]; exact h6
  · unfold hr_rul hr_rule; rw [q1 24 (by omega), q2 16 (by omega), q2 (16 + 1) (by omega), q2 (16 + 2) (by omega), q2 (16 + 3) (by omega), q2 (16 + 4) (by omega), q2 (16 + 5) (by omega), q2 (16 + 6) (by omega), q2 (16 + 7) (by omega)]; exact h7
  · unfold hr_pla
    rw [q2 32 (by omega)]
    refine ⟨h8.1, h8.2.1, ?_⟩
    rcases h8.2.2 with ⟨e, _⟩ | ⟨e, _⟩
    · refine Or.inl ⟨by rw [q1 55 (by omega)]; exact e, fun k _ => ?_⟩
      show (if s.1 0 55 = 0 then _ else _) = _
      rw [if_pos (by rw [q1 55 (by omega)]; exact e)]
    · have n0 : ¬ s.1 0 55 = 0 := by rw [q1 55 (by omega), e]; decide
      refine Or.inr ⟨by rw [q1 55 (by omega)]; exact e, ?_, ?_, ?_, ?_, ?_⟩ <;> (show (if s.1 0 55 = 0 then _ else _) = _; rw [if_neg n0]) <;> rfl
theorem fm_find7 {t nc nh np nf nt nr : Nat} {σc σm s : hf_St} (hn : hr_n t nc nh np nf nt nr σc σm) (q : hq_7 σm s) {c h : Nat} (hc : c < nc) (hh : h < nh) (hneed : ¬ σm.2 1 c = 0) : ∃ sm, Fm_md_barOf s (nI c) (nI h) = some (pl_r σm nf np nr t c h, sm) ∧ hq_m s sm := by
  obtain ⟨σ', hn'⟩ := hr_fr7 hn q
  obtain ⟨_, sm, e1, e2⟩ := hr_find2 hn' hc hh (by rw [q.2 1 (by omega)]; exact hneed)
  rw [pl_r_fr (fun a ha => q.2 a (by omega))] at e1
  exact ⟨sm, e1, e2⟩
theorem fm_wish7 {t nc nh np nf nt nr : Nat} {σc σm s : hf_St} (hn : hr_n t nc nh np nf nt nr σc σm) (q : hq_7 σm s) {c h : Nat} (hc : c < nc) (hh : h < nh) : Fm_md_wishOf s (nI c) (nI h) = some (pl_w σm nf nr t c h) := by
  obtain ⟨σ', hn'⟩ := hr_fr7 hn q
  have h7 := hn.2.1.2.2.1
  have h5 := hn.2.2.1.2.2.1
  have e := fm_wishOf hn'.2.2.2.2.1.2.1 hn'.2.2.2.2.1.2.2.1 hn'.2.2.2.2.2.2.1 (show c < 7 by omega) (show h < 5 by omega) nr 0 hf_fuel 0 (by omega) (by have := hn.2.2.2.2.2.2.1.2.2.1; unfold hf_fuel; omega)
  unfold Fm_md_wishOf
  have e' : Fm_md_wishOf_l5 s hf_fuel (nI c) (nI h) 0 0 = _ := e
  rw [e', ← pl_w_fr (σ := σm) (σ' := s) (fun a ha => q.2 a (by omega))]
  unfold pl_w
  rw [hn'.1.2.1]
/-- the table of what is given -/
def pl_dd (σ : hf_St) (nc nh np nf nr t keep : Nat) : pl_D := fun r i => if r = 0 then (if i = 0 then nc else if i = 1 then nh else keep) else if r = 6 then (σ.2 5 i).toNatClampNeg else if r = 7 then (if pl_r σ nf np nr t (i / 5) (i % 5) = 0 then 1 else 0) else if r = 8 then min 2000 (pl_w σ nf nr t (i / 5) (i % 5)).toNatClampNeg else if i < nc then (if r = 1 then (if σ.2 1 i = 0 then 0 else 1) else if r = 2 then (σ.2 2 i).toNatClampNeg else if r = 3 then (σ.2 3 i).toNatClampNeg else if r = 4 then (σ.2 0 i).toNatClampNeg else (σ.2 32 i + 1).toNatClampNeg) else 0
theorem pl_dd_all {t nc nh np nf nt nr : Nat} {σc σm : hf_St} (hn : hr_n t nc nh np nf nt nr σc σm) (keep : Nat) {d : pl_D} (hd : d = pl_dd σm nc nh np nf nr t keep) : pl_ok d ∧ d 0 0 = nc ∧ d 0 1 = nh ∧ d 0 2 = keep ∧ (∀ c, c < nc → ((d 1 c = 0 ∧ σm.2 1 c = 0) ∨ (d 1 c = 1 ∧ σm.2 1 c = 1)) ∧ (d 1 c = 1 → σm.2 2 c = nI (d 2 c) ∧ σm.2 3 c = nI (d 3 c)) ∧ σm.2 0 c = nI (d 4 c) ∧ σm.2 32 c = (if d 5 c = 0 then -1 else nI (d 5 c - 1))) ∧ (∀ h, h < nh → σm.2 5 h = nI (d 6 h) ∧ d 6 h ≤ 6) ∧ ∀ c h, h < 5 → d 7 (5 * c + h) = (if pl_r σm nf np nr t c h = 0 then 1 else 0) ∧ pl_w σm nf nr t c h = nI (d 8 (5 * c + h)) := by
  obtain ⟨hcl, hch, hho, hpa, hfa, hta, hru, hpl⟩ := id hn
  have h7 := hch.2.2.1
  have h5 := hho.2.2.1
  have h20 := hru.2.2.1
  have r0 : ∀ i, d 0 i = if i = 0 then nc else if i = 1 then nh else keep := fun i => by rw [hd]; rfl
  have r6 : ∀ i, d 6 i = (σm.2 5 i).toNatClampNeg := fun i => by rw [hd]; rfl
  have r7 : ∀ i, d 7 i = if pl_r σm nf np nr t (i / 5) (i % 5) = 0 then 1 else 0 := fun i => by rw [hd]; rfl
  have r8 : ∀ i, d 8 i = min 2000 (pl_w σm nf nr t (i / 5) (i % 5)).toNatClampNeg := fun i => by rw [hd]; rfl
  have r1 : ∀ i, d 1 i = if i < nc then (if σm.2 1 i = 0 then 0 else 1) else 0 := fun i => by rw [hd]; rfl
  have r2 : ∀ i, d 2 i = if i < nc then (σm.2 2 i).toNatClampNeg else 0 := fun i => by rw [hd]; rfl
  have r3 : ∀ i, d 3 i = if i < nc then (σm.2 3 i).toNatClampNeg else 0 := fun i => by rw [hd]; rfl
  have r4 : ∀ i, d 4 i = if i < nc then (σm.2 0 i).toNatClampNeg else 0 := fun i => by rw [hd]; rfl
  have r5 : ∀ i, d 5 i = if i < nc then (σm.2 32 i + 1).toNatClampNeg else 0 := fun i => by rw [hd]; rfl
  have kid := fun c (hc : c < nc) => hch.2.2.2.2.2.2.2.2.1 c hc
  have W : ∀ c h, 0 ≤ (pl_w σm nf nr t c h).toInt ∧ (pl_w σm nf nr t c h).toInt ≤ 2000 := fun c h => by
    have := hw_bd (nf := nf) (c := c) (h := h) (d := σm.2 2 c) (k := nI t) hru nr 0 0 (by omega) (by decide) (by decide)
    unfold pl_w
    omega
  -- a child's had
  have had : ∀ c, c < nc → σm.2 32 c = (if d 5 c = 0 then -1 else nI (d 5 c - 1)) ∧ d 5 c ≤ nh := by
    intro c hc
    have b := hpl.2.1 c hc
    rw [r5, if_pos hc]
    by_cases e : (σm.2 32 c).toInt = -1
    · have e1 : σm.2 32 c = -1 := by rw [hp_eq, e]; rfl
      rw [e1]
      exact ⟨by rw [if_pos (by decide)], Nat.zero_le _⟩
    · obtain ⟨n, n1, n2, n3⟩ := hp_of (x := σm.2 32 c) (by omega)
      rw [n2, hp_succ, hp_cl (by omega), if_neg (by omega), Nat.add_sub_cancel]
      exact ⟨rfl, by omega⟩
  have chl : ∀ c, c < nc → ((d 1 c = 0 ∧ σm.2 1 c = 0) ∨ (d 1 c = 1 ∧ σm.2 1 c = 1)) ∧ (d 1 c = 1 → σm.2 2 c = nI (d 2 c) ∧ σm.2 3 c = nI (d 3 c)) ∧ σm.2 0 c = nI (d 4 c) := by
    intro c hc
    obtain ⟨k1, k2, k3, k4⟩ := kid c hc
    rw [r1, r2, r3, r4]
    simp only [if_pos hc]
    refine ⟨?_, fun e => ?_, ?_⟩
    · rcases k2 with e | e
      · exact Or.inl ⟨if_pos e, e⟩
      · exact Or.inr ⟨if_neg (by rw [e]; decide), e⟩
    · have n0 : ¬ σm.2 1 c = 0 := fun z => by rw [if_pos z] at e; omega
      have kk := k3 (k2.resolve_left n0)
      obtain ⟨a, ha, ea, ea2⟩ := hp_of (x := σm.2 2 c) kk.1
      obtain ⟨b, hb', eb, eb2⟩ := hp_of (x := σm.2 3 c) (by omega)
      rw [ea, eb, hp_cl ha, hp_cl hb']; exact ⟨rfl, rfl⟩
    · obtain ⟨a, ha, ea, ea2⟩ := hp_of (x := σm.2 0 c) k1.1
      rw [ea, hp_cl ha]
  refine ⟨⟨by rw [r0]; exact h7, by rw [r0]; exact h5, fun c e => ?_, fun j => by rw [r8]; exact Nat.min_le_left _ _, fun c => ?_, fun c => ?_⟩, by rw [r0]; rfl, by rw [r0]; rfl, by rw [r0]; rfl, fun c hc => ⟨(chl c hc).1, (chl c hc).2.1, (chl c hc).2.2, (had c hc).1⟩, fun h hh => ?_, fun c h hh => ?_⟩
  · by_cases hc : c < nc
    · obtain ⟨k1, k2, k3, k4⟩ := kid c hc
      have n1 : σm.2 1 c = 1 := by
        rcases (chl c hc).1 with a | a
        · omega
        · exact a.2
      have kk := k3 n1
      obtain ⟨e2, e3⟩ := (chl c hc).2.1 e
      rw [r2, r3, if_pos hc, if_pos hc]
      obtain ⟨a, ha, ea, ea2⟩ := hp_of (x := σm.2 2 c) kk.1
      obtain ⟨b, hb', eb, eb2⟩ := hp_of (x := σm.2 3 c) (by omega)
      rw [ea, eb, hp_cl ha, hp_cl hb']
      omega
    · rw [r1, if_neg hc] at e; omega
  · rw [r4]
    by_cases hc : c < nc
    · obtain ⟨k1, k2, k3, k4⟩ := kid c hc
      obtain ⟨a, ha, ea, ea2⟩ := hp_of (x := σm.2 0 c) k1.1
      rw [if_pos hc, ea, hp_cl ha]; omega
    · rw [if_neg hc]; omega
  · have e1 : d 0 1 = nh := by rw [r0]; rfl
    rw [e1]
    by_cases hc : c < nc
    · exact (had c hc).2
    · rw [r5, if_neg hc]; omega
  · have b := (hho.2.2.2.2.2 h hh).1
    obtain ⟨a, ha, ea, ea2⟩ := hp_of (x := σm.2 5 h) (by omega)
    rw [r6, ea, hp_cl ha]; exact ⟨rfl, by omega⟩
  · rw [r7, r8, show (5 * c + h) / 5 = c by omega, show (5 * c + h) % 5 = h by omega]
    obtain ⟨a, ha, ea, ea2⟩ := hp_of (x := pl_w σm nf nr t c h) (W c h).1
    have := (W c h).2
    refine ⟨rfl, ?_⟩
    rw [ea, hp_cl ha, Nat.min_eq_right (by omega)]
