theorem hb_scan_pos {t nc nh np nf nt nr : Nat} {σc σm : hf_St} (hn : hr_n t nc nh np nf nt nr σc σm) {c h : Nat} : ∀ m d, (hb_scan (hb σm nf np nr c h (nI t)) d m = none ∧ ¬ 0 < (hb_sn (hb σm nf np nr c h (nI t)) (hb_scan (hb σm nf np nr c h (nI t)) d m)).toInt) ∨ (∃ d', hb_scan (hb σm nf np nr c h (nI t)) d m = some d' ∧ 0 < (hb_sn (hb σm nf np nr c h (nI t)) (hb_scan (hb σm nf np nr c h (nI t)) d m)).toInt) := by
  have h20 := hn.2.2.2.2.2.2.1.2.2.1
  intro m
  induction m with
  | zero => intro d; exact Or.inl ⟨rfl, by show ¬ 0 < (0 : Int32).toInt; decide⟩
  | succ m ih =>
    intro d
    rw [hb_scan]
    by_cases hz : hb σm nf np nr c h (nI t) d = 0
    · rw [if_pos hz]; exact ih (d + 1)
    · rw [if_neg hz]
      refine Or.inr ⟨d, rfl, ?_⟩
      show 0 < (hb σm nf np nr c h (nI t) d).toInt
      unfold hb at hz ⊢
      split
      · decide
      · split
        · decide
        · rename_i n1 n2
          rw [if_neg n1, if_neg n2] at hz
          cases hbr : hb_br σm nf c h (nI d) (nI t) (hb_want σm c) 0 nr with
          | none => rw [hbr] at hz; exact absurd rfl hz
          | some k =>
            have := hb_br_lt σm nf c h (nI d) (nI t) (hb_want σm c) nr 0 k hbr
            show 0 < (nI (10 + k)).toInt
            rw [hp_nI (by omega)]; omega
/-- what findBar and barOf come to, side by side -/
theorem hr_find {t nc nh np nf nt nr : Nat} {σc σm : hf_St} (hn : hr_n t nc nh np nf nt nr σc σm) {c h : Nat} (hc : c < nc) (hh : h < nh) (hneed : ¬ σm.2 1 c = 0) : ∃ (r dy : Int32) (sc sm : hf_St), Fc_judge_findBar σc (nI c) (nI h) (nI t) = some (r, sc) ∧ Fm_md_barOf σm (nI c) (nI h) = some (r, sm) ∧ hq_c σc sc ∧ hq_m σm sm ∧ sc.1 9 6 = dy ∧ sm.1 0 45 = dy ∧ ((r = 0 ∧ dy = -1) ∨ 0 < r.toInt) := by
  obtain ⟨hcl, hch, hho, hpa, hfa, hta, hru, hpl⟩ := id hn
  have h7 := hch.2.2.1
  have h5 := hho.2.2.1
  obtain ⟨-, k2, k3, -⟩ := hch.2.2.2.2.2.2.2.2.1 c hc
  have kk := k3 (k2.resolve_left hneed)
  obtain ⟨a, ha, ea, ea2⟩ := hp_of (x := σm.2 2 c) kk.1
  obtain ⟨b, hb', eb, eb2⟩ := hp_of (x := σm.2 3 c) (by omega)
  have hq1 : hq_c σc (hf_pI σc 9 6 (-1)) := hq_I (by omega)
  have hn1 := hr_fr hn hq1
  obtain ⟨sc, x1, x2, x3⟩ := fc_find_l hn hc hh hneed (show b ≤ 999 by omega) (b + 1 - a) a (nI a) (hf_pI σc 9 6 (-1)) hf_fuel (by omega) (by unfold hf_fuel; omega) hq1 (by simp [hf_pI]) (by rw [hp_nI (by omega)]; omega) (fun d' h1 h2 h3 => by rw [hp_nI (by omega)] at h3; omega)
  obtain ⟨sm, y1, y2, y3⟩ := fm_find_l hn hc hh (show b ≤ 999 by omega) eb (b + 1 - a) a σm hf_fuel (by omega) (by unfold hf_fuel; omega) (hq_mrf σm)
  refine ⟨hb_sn (hb σm nf np nr c h (nI t)) (hb_scan (hb σm nf np nr c h (nI t)) a (b + 1 - a)), _, sc, sm, ?_, ?_, x2, y2, x3, y3, ?_⟩
  · unfold Fc_judge_findBar
    rw [hp_let, fc_hasNeedN hn1.2.1 hc, hp_b1, if_neg (fun e => (hp_t0 _).mp e hneed), fc_has_h hn1.2.2.1.1 hn1.2.2.1.2.2.1, hp_b1, if_neg (fun e => (hp_t0 _).mp e (by rw [hp_nI (by omega)]; omega)), fc_lastDay hn1.2.1 hc hneed, hp_b1, fc_firstDay hn1.2.1 hc hneed, hp_b1, ea, eb]
    exact x1
  · unfold Fm_md_barOf
    rw [hp_gd (hp_ix (show c < 7 by omega) (by omega)), hp_let, hp_cl (by omega), ea]
    exact y1
  · rcases hb_scan_pos hn (c := c) (h := h) (b + 1 - a) a with ⟨e, -⟩ | ⟨d', e, p⟩
    · rw [e]; exact Or.inl ⟨rfl, rfl⟩
    · exact Or.inr p
theorem hr_barsG {σc σm : hf_St} (h : hr σc σm) (a b : Int32) : ∃ (r dy : Int32) (sc sm : hf_St), Fc_judge_findBar σc a b (σc.1 0 10) = some (r, sc) ∧ Fm_md_bars σm a b = some (r, sm) ∧ hr sc sm ∧ sc.1 9 6 = dy ∧ ((r.toInt ≤ 0 ∧ dy = -1) ∨ (0 < r.toInt ∧ sm.1 0 45 = dy)) := by
  obtain ⟨t, nc, nh, np, nf, nt, nr, hn⟩ := id h
  obtain ⟨hcl, hch, hho, hpa, hfa, hta, hru, hpl⟩ := id hn
  have h7 := hch.2.2.1
  have h5 := hho.2.2.1
  have hq1 : hq_c σc (hf_pI σc 9 6 (-1)) := hq_I (by omega)
  have hn1 := hr_fr hn hq1
  have e96 : (hf_pI σc 9 6 (-1)).1 9 6 = -1 := by simp [hf_pI]
  have no : Fc_judge_findBar σc a b (σc.1 0 10) = some (-1, hf_pI σc 9 6 (-1)) → Fm_md_bars σm a b = some (-1, σm) → ∃ (r dy : Int32) (sc sm : hf_St), Fc_judge_findBar σc a b (σc.1 0 10) = some (r, sc) ∧ Fm_md_bars σm a b = some (r, sm) ∧ hr sc sm ∧ sc.1 9 6 = dy ∧ ((r.toInt ≤ 0 ∧ dy = -1) ∨ (0 < r.toInt ∧ sm.1 0 45 = dy)) := fun x y => ⟨-1, -1, _, _, x, y, ⟨t, nc, nh, np, nf, nt, nr, hn1⟩, e96, Or.inl ⟨by decide, rfl⟩⟩
  have mb : Fm_md_bars σm a b = (if hp_t (0 ≤ a.toInt ∧ a.toInt < (nc : Int)) = 0 then some (-1, σm) else if hp_t (0 ≤ b.toInt ∧ b.toInt < (nh : Int)) = 0 then some (-1, σm) else hf_gd (hf_ix a 7) (if σm.2 1 a.toNatClampNeg = 0 then some (-1, σm) else hf_b2 (Fm_md_barOf σm a b) (fun v3 s4 => some (v3, s4)))) := by
    unfold Fm_md_bars
    rw [fm_isChild hch.2.1 hch.2.2.1, hp_b1, fm_isHome hho.2.1 hho.2.2.1, hp_b1]
  by_cases ha : 0 ≤ a.toInt ∧ a.toInt < nc
  · obtain ⟨c, hc, rfl, hc2⟩ := hp_of (x := a) (by omega)
    rw [if_neg (fun e => (hp_t0 _).mp e ha)] at mb
    by_cases hneed : σm.2 1 c = 0
    · refine no ?_ ?_
      · unfold Fc_judge_findBar
        rw [hp_let, fc_hasNeedN hn1.2.1 (show c < nc by omega), hp_b1, if_pos ((hp_t0 _).mpr (fun e => e hneed))]
      · rw [mb, hp_gd (hp_ix (show c < 7 by omega) (by omega)), hp_cl hc, if_pos hneed]
        split <;> rfl
    · by_cases hbb : 0 ≤ b.toInt ∧ b.toInt < nh
      · obtain ⟨k, hk, rfl, hk2⟩ := hp_of (x := b) (by omega)
        obtain ⟨r, dy, sc, sm, x1, x2, x3, x4, x5, x6, x7⟩ := hr_find hn (show c < nc by omega) (show k < nh by omega) hneed
        refine ⟨r, dy, sc, sm, by rw [hcl.1]; exact x1, ?_, ⟨t, nc, nh, np, nf, nt, nr, hr_frm (hr_fr hn x3) x4⟩, x5, ?_⟩
        · rw [mb, if_neg (fun e => (hp_t0 _).mp e hbb), hp_gd (hp_ix (show c < 7 by omega) (by omega)), hp_cl hc, if_neg hneed, x2, hp_b2]
        · rcases x7 with ⟨p, q⟩ | p
          · exact Or.inl ⟨by rw [p]; decide, q⟩
          · exact Or.inr ⟨p, x6⟩
      · refine no ?_ ?_
        · unfold Fc_judge_findBar
          rw [hp_let, fc_hasNeedN hn1.2.1 (show c < nc by omega), hp_b1, if_neg (fun e => (hp_t0 _).mp e hneed), fc_has_h hn1.2.2.1.1 hn1.2.2.1.2.2.1, hp_b1, if_pos ((hp_t0 _).mpr hbb)]
        · rw [mb, if_pos ((hp_t0 _).mpr hbb)]
  · refine no ?_ ?_
    · unfold Fc_judge_findBar
      rw [hp_let, fc_hasNeed hn1.2.1.1 hn1.2.1.2.2.1, hp_b1, if_pos ((hp_t0 _).mpr (fun e => ha e.1))]
    · rw [mb, if_pos ((hp_t0 _).mpr ha)]
theorem hr_bars {σc σm : hf_St} (h : hr σc σm) (a b : Int32) : hr_ok (Fc_hf_bars σc a b) (Fm_md_bars σm a b) := by
  obtain ⟨r, dy, sc, sm, x1, x2, x3, -⟩ := hr_barsG h a b
  exact ⟨r, sc, sm, by unfold Fc_hf_bars; rw [x1, hp_b2], x2, x3⟩
theorem hr_barred {σc σm : hf_St} (h : hr σc σm) (a b : Int32) : hr_ok (Fc_hf_barred σc a b) (Fm_md_barred σm a b) := by
  obtain ⟨r, dy, sc, sm, x1, x2, x3, x4, x5⟩ := hr_barsG h a b
  refine ⟨dy, sc, sm, ?_, ?_, x3⟩
  · unfold Fc_hf_barred Fc_judge_barDay
    rw [x1, hp_b2, hp_b1, x4]
  · unfold Fm_md_barred
    rw [x2, hp_b2]
    rcases x5 with ⟨p, q⟩ | ⟨p, q⟩
    · rw [if_pos (by rw [hp_le, hp_0]; exact p), q]
    · rw [if_neg (by rw [hp_le, hp_0]; omega), q]
