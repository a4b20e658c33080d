/-- the first of m days from d on, on which something bars -/
def hb_scan (B : Nat → Int32) : Nat → Nat → Option Nat
  | _, 0 => none
  | d, m + 1 => if B d = 0 then hb_scan B (d + 1) m else some d
def hb_sn (B : Nat → Int32) : Option Nat → Int32
  | none => 0
  | some d => B d
theorem hb_zero {σ : hf_St} {nf np nr c h : Nat} {known : Int32} {d : Nat} (h0 : hb σ nf np nr c h known d = 0) : (σ.2 6 h = -1 ∨ nI d < σ.2 6 h) ∧ 0 ≤ (hu σ (nI h) (nI d) np).toInt := by
  unfold hb at h0
  split at h0
  · exact absurd h0 (by decide)
  · rename_i n1
    split at h0
    · exact absurd h0 (by decide)
    · rename_i n2
      refine ⟨?_, by rw [hp_lt, hp_0] at n2; omega⟩
      by_cases hz : σ.2 6 h = -1
      · exact Or.inl hz
      · exact Or.inr (Decidable.byContradiction (fun x => n1 ⟨hz, x⟩))
theorem hu_hi {σc σm : hf_St} {np : Nat} (hpa : hr_pap np σc σm) (h d : Int32) : (hu σm h d np).toInt ≤ 999 := by
  by_cases h0 : 0 ≤ (hu σm h d np).toInt
  · obtain ⟨i, hi, -, e⟩ := hu_ex σm h d np h0
    have := (hpa.2.2.2.2.2.2 i hi).2.2
    omega
  · omega
theorem fc_find_l {t nc nh np nf nt nr : Nat} {σc σm : hf_St} (hn : hr_n t nc nh np nf nt nr σc σm) {c h : Nat} (hc : c < nc) (hh : h < nh) (hneed : ¬ σm.2 1 c = 0) {b : Nat} (hb9 : b ≤ 999) : ∀ m d (turn : Int32) s f, d + m = b + 1 → m < f → hq_c σc s → s.1 9 6 = -1 → (d : Int) ≤ turn.toInt → (∀ d', d ≤ d' → d' ≤ b → (d' : Int) < turn.toInt → hb σm nf np nr c h (nI t) d' = 0) → ∃ s', Fc_judge_findBar_l53 f s (nI c) (nI h) (nI t) (nI b) turn (nI d) = some (hb_sn (hb σm nf np nr c h (nI t)) (hb_scan (hb σm nf np nr c h (nI t)) d m), s') ∧ hq_c σc s' ∧ s'.1 9 6 = hv_enc (hb_scan (hb σm nf np nr c h (nI t)) d m) := by
  intro m
  induction m with
  | zero =>
    intro d turn s f hd hf hq h96 _ _
    obtain ⟨n, rfl⟩ : ∃ n, f = n + 1 := ⟨f - 1, by omega⟩
    refine ⟨s, ?_, hq, h96⟩
    rw [Fc_judge_findBar_l53, if_pos (by rw [hp_lt, hp_nI (by omega), hp_nI (by omega)]; omega)]
    rfl
  | succ m ih =>
    intro d turn s f hd hf hq h96 htd hst
    obtain ⟨n, rfl⟩ : ∃ n, f = n + 1 := ⟨f - 1, by omega⟩
    have ed := hp_nI (show d < 2147483648 by omega)
    rw [Fc_judge_findBar_l53, if_neg (by rw [hp_lt, hp_nI (by omega), ed]; omega), hb_scan, hp_succ]
    by_cases hdt : nI d = turn
    · rw [if_pos hdt]
      have hs := hr_fr hn hq
      obtain ⟨s2, e1, e2, e3, e4⟩ := fc_barOn hs hc hh hneed (show d ≤ 999 by omega)
      rw [e1, hp_b2]
      by_cases hz : hb σm nf np nr c h (nI t) d = 0
      · rw [if_pos hz, if_pos hz]
        obtain ⟨z1, z2⟩ := hb_zero hz
        have hq2 := hq_tr hq e2
        have hs2 := hr_fr hn hq2
        have hi9 := hu_hi hs2.2.2.2.1 (nI h) (nI d)
        have tb : Fc_judge_turnBehind s2 (nI h) (nI d) = some (hf_min (hf_min (if σm.2 6 h = -1 then 1000 else σm.2 6 h) (hu σm (nI h) (nI d) np + 1)) (s2.1 10 3)) := by
          unfold Fc_judge_turnBehind Fc_sheet_turn
          rw [fc_closingOf hs2.2.2.1 hh, hp_b1, fc_latestEnd hs2.2.2.2.1, hp_b1, hp_let, hp_b1]
        have eu : (hu σm (nI h) (nI d) np + 1).toInt = (hu σm (nI h) (nI d) np).toInt + 1 := by rw [hp_add (by rw [hp_1]; omega) (by rw [hp_1]; omega), hp_1]
        obtain ⟨i, hi, hit, el⟩ := hu_ex σm (nI h) (nI d) np z2
        have hge : (d : Int) ≤ (hu σm (nI h) (nI d) np).toInt := by have := hit.2.2; rw [hp_lt, ed] at this; omega
        have tg := hk_turn_gt s σm c h (nI t) (show (nI d).toInt ≤ 999 by omega) nf
        rw [← e4 hz, ed] at tg
        have cge : (d : Int) < (if σm.2 6 h = -1 then (1000 : Int32) else σm.2 6 h).toInt := by
          by_cases hm : σm.2 6 h = -1
          · rw [if_pos hm, hp_1000]; omega
          · rw [if_neg hm]
            have := z1.resolve_left hm
            rw [hp_lt, ed] at this
            exact this
        have m1 := hp_minl (hf_min (if σm.2 6 h = -1 then 1000 else σm.2 6 h) (hu σm (nI h) (nI d) np + 1)) (s2.1 10 3)
        have m2 := hp_minl (if σm.2 6 h = -1 then (1000 : Int32) else σm.2 6 h) (hu σm (nI h) (nI d) np + 1)
        rw [tb, hp_b1]
        refine ih (d + 1) _ s2 n (by omega) (by omega) hq2 (by rw [e3, h96]) ?_ (fun d' h1 h2 h3 => ?_)
        · rcases m1.2.2 with x | x <;> rcases m2.2.2 with y | y <;> omega
        · have h7 := hs.2.1.2.2.1
          have h5 := hs.2.2.1.2.2.1
          refine hb_stay (nh := nh) hs.2.2.2.2.1 hs.2.2.2.1 hs.2.2.2.2.2.2.1 (show c < 7 by omega) (show h < 5 by omega) (show d ≤ d' by omega) (by omega) hz ?_ (by omega) (by rw [← e4 hz]; omega)
          by_cases hm : σm.2 6 h = -1
          · exact Or.inl hm
          · rw [if_neg hm] at m1 m2 h3
            exact Or.inr (by omega)
      · rw [if_neg hz, if_neg hz]
        exact ⟨_, rfl, hq_tr (hq_tr hq e2) (hq_I (by omega)), by simp [hf_pI, hv_enc]⟩
    · rw [if_neg hdt]
      have lt : (d : Int) < turn.toInt := by
        rw [hp_eq, ed] at hdt
        omega
      rw [if_pos (hst d (Nat.le_refl _) (by omega) lt)]
      exact ih (d + 1) turn s n (by omega) (by omega) hq h96 (by omega) (fun d' h1 h2 h3 => hst d' (by omega) h2 h3)
/-! the reference -/
theorem fm_br_l {σc s : hf_St} {nf nr c h : Nat} (hn : s.1 0 14 = nI nf) (hf : nf ≤ 100) (hru : hr_rul nr σc s) (hc : c < 7) (hh : h < 5) (day : Int32) (k7 : hf_St → Int32 → Int32 → Int32 → Option (Int32 × hf_St)) : ∀ m j f, j + m = nr → m < f → Fm_md_barOf_l58 k7 f s (nI c) (nI h) day (nI j) = (match hb_br s nf c h day (s.1 0 0) (hb_want s c) j m with | none => k7 s (nI c) (nI h) (day + 1) | some k => some (nI (10 + k), s)) := by
  obtain ⟨h1, h2, h3, h4⟩ := hru
  intro m
  induction m with
  | zero =>
    intro j f hj hf'
    obtain ⟨n, rfl⟩ : ∃ n, f = n + 1 := ⟨f - 1, by omega⟩
    rw [Fm_md_barOf_l58, h2, if_pos (by rw [hp_le, hp_nI (by omega), hp_nI (by omega)]; omega)]
    rfl
  | succ m ih =>
    intro j f hj hf'
    obtain ⟨n, rfl⟩ : ∃ n, f = n + 1 := ⟨f - 1, by omega⟩
    have hr := h4 j (by omega)
    rw [Fm_md_barOf_l58, h2, if_neg (hp_nle (by omega) (by omega)), hp_gd (hp_ix (show j < 20 by omega) (by omega)), hp_gd (hp_ix hc (show 7 < 2147483648 by omega)), hp_cl (show c < 2147483648 by omega), hp_cl (show j < 2147483648 by omega)]
    have b : ∀ w, Fm_md_barOf_b88 k7 (fun z0 z1 z2 z3 z4 => Fm_md_barOf_l58 k7 n z0 z1 z2 z3 z4) s (nI c) (nI h) day (nI j) w (s.2 16 j) = if s.2 16 j = w ∧ ho_so s nf c h day (s.1 0 0) j = false then some (nI (10 + j), s) else Fm_md_barOf_l58 k7 n s (nI c) (nI h) day (nI (j + 1)) := by
      intro w
      unfold Fm_md_barOf_b88
      rw [fm_isSo hn hf hr (by omega) hc hh, hp_b1, hp_succ]
      by_cases hk : s.2 16 j = w
      · rw [if_pos hk]
        by_cases hs : ho_so s nf c h day (s.1 0 0) j = false
        · rw [if_pos ((ho_b0 _).mpr hs), if_pos ⟨hk, hs⟩, ← nI_add]; rfl
        · rw [if_neg (fun e => hs ((ho_b0 _).mp e)), if_neg (fun e => hs e.2)]
      · rw [if_neg hk, if_neg (fun e => hk e.1)]
    have whole : (if s.2 4 c = 0 then Fm_md_barOf_b88 k7 (fun z0 z1 z2 z3 z4 => Fm_md_barOf_l58 k7 n z0 z1 z2 z3 z4) s (nI c) (nI h) day (nI j) 0 (s.2 16 j) else Fm_md_barOf_b88 k7 (fun z0 z1 z2 z3 z4 => Fm_md_barOf_l58 k7 n z0 z1 z2 z3 z4) s (nI c) (nI h) day (nI j) 1 (s.2 16 j)) = if s.2 16 j = hb_want s c ∧ ho_so s nf c h day (s.1 0 0) j = false then some (nI (10 + j), s) else Fm_md_barOf_l58 k7 n s (nI c) (nI h) day (nI (j + 1)) := by
      unfold hb_want
      by_cases h4 : s.2 4 c = 0
      · rw [if_pos h4, if_pos h4, b]
      · rw [if_neg h4, if_neg h4, b]
    rw [whole, hb_br]
    by_cases hx : s.2 16 j = hb_want s c ∧ ho_so s nf c h day (s.1 0 0) j = false
    · rw [if_pos hx, if_pos hx]
    · rw [if_neg hx, if_neg hx]; exact ih (j + 1) n (by omega) (by omega)
theorem fm_find_l {t nc nh np nf nt nr : Nat} {σc σm : hf_St} (hn : hr_n t nc nh np nf nt nr σc σm) {c h : Nat} (hc : c < nc) (hh : h < nh) {b : Nat} (hb9 : b ≤ 999) (hlast : σm.2 3 c = nI b) : ∀ m d s f, d + m = b + 1 → m < f → hq_m σm s → ∃ s', Fm_md_barOf_l7 f s (nI c) (nI h) (nI d) = some (hb_sn (hb σm nf np nr c h (nI t)) (hb_scan (hb σm nf np nr c h (nI t)) d m), s') ∧ hq_m σm s' ∧ s'.1 0 45 = hv_enc (hb_scan (hb σm nf np nr c h (nI t)) d m) := by
  have h7 := hn.2.1.2.2.1
  have h5 := hn.2.2.1.2.2.1
  have h20 := hn.2.2.2.2.2.2.1.2.2.1
  have ixc : hf_ix (nI c) 7 := hp_ix (by omega) (by omega)
  have ixh : hf_ix (nI h) 5 := hp_ix (by omega) (by omega)
  intro m
  induction m with
  | zero =>
    intro d s f hd hf hq
    obtain ⟨n, rfl⟩ : ∃ n, f = n + 1 := ⟨f - 1, by omega⟩
    refine ⟨hf_pI s 0 45 (-1), ?_, hq_mtr hq (hq_mI (by omega)), by simp [hf_pI, hv_enc, hb_scan]⟩
    rw [Fm_md_barOf_l7, hp_gd ixc, hp_cl (by omega), hq.2 3 (by omega), hlast, if_pos (by rw [hp_lt, hp_nI (by omega), hp_nI (by omega)]; omega), hp_let]
    rfl
  | succ m ih =>
    intro d s f hd hf hq
    obtain ⟨n, rfl⟩ : ∃ n, f = n + 1 := ⟨f - 1, by omega⟩
    have ed := hp_nI (show d < 2147483648 by omega)
    have hq2 : hq_m σm (hf_pI s 0 45 (nI d)) := hq_mtr hq (hq_mI (by omega))
    have e45 : (hf_pI s 0 45 (nI d)).1 0 45 = nI d := by simp [hf_pI]
    generalize hs2 : hf_pI s 0 45 (nI d) = s2 at *
    have hs := hr_frm hn hq2
    have q24 : ∀ a, a < 24 → s2.2 a = σm.2 a := fun a ha => hq2.2 a (Or.inl ha)
    rw [Fm_md_barOf_l7, hp_gd ixc, hp_cl (show c < 2147483648 by omega), hq.2 3 (by omega), hlast, if_neg (by rw [hp_lt, hp_nI (by omega), ed]; omega), hp_let, hs2, hp_gd ixh, hp_cl (show h < 2147483648 by omega), hp_gd ixh, hb_scan]
    have b44 : Fm_md_barOf_b44 (fun z0 z1 z2 z3 => Fm_md_barOf_l7 n z0 z1 z2 z3) s2 (nI c) (nI h) (nI d) = if hu σm (nI h) (nI d) np < 0 then some (2, s2) else (match hb_br σm nf c h (nI d) (nI t) (hb_want σm c) 0 nr with | none => Fm_md_barOf_l7 n s2 (nI c) (nI h) (nI (d + 1)) | some k => some (nI (10 + k), s2)) := by
      unfold Fm_md_barOf_b44
      rw [fm_until hs.2.2.2.1 hs.2.2.1, hp_b1, if_pos (show (0 ≤ (nI h).toInt ∧ (nI h).toInt < (nh : Int)) ∧ 0 ≤ (nI d).toInt ∧ (nI d).toInt ≤ 999 from ⟨by rw [hp_nI (by omega)]; omega, by omega, by omega⟩), hu_fr q24]
      by_cases hz : hu σm (nI h) (nI d) np < 0
      · rw [if_pos hz, if_neg (by rw [hp_le, hp_0]; rw [hp_lt, hp_0] at hz; omega)]
      · rw [if_neg hz, if_pos (by rw [hp_le, hp_0]; rw [hp_lt, hp_0] at hz; omega), show (0 : Int32) = nI 0 from rfl]
        rw [fm_br_l hs.2.2.2.2.1.2.1 hs.2.2.2.2.1.2.2.1 hs.2.2.2.2.2.2.1 (show c < 7 by omega) (show h < 5 by omega) (nI d) _ nr 0 hf_fuel (by omega) (by unfold hf_fuel; omega)]
        rw [hb_br_fr q24, hs.1.2.1, hp_succ]
        unfold hb_want
        rw [q24 4 (by omega)]
    have day : (if s2.2 6 h = -1 then Fm_md_barOf_b44 (fun z0 z1 z2 z3 => Fm_md_barOf_l7 n z0 z1 z2 z3) s2 (nI c) (nI h) (nI d) else if nI d < s2.2 6 h then Fm_md_barOf_b44 (fun z0 z1 z2 z3 => Fm_md_barOf_l7 n z0 z1 z2 z3) s2 (nI c) (nI h) (nI d) else some (1, s2)) = if hb σm nf np nr c h (nI t) d = 0 then Fm_md_barOf_l7 n s2 (nI c) (nI h) (nI (d + 1)) else some (hb σm nf np nr c h (nI t) d, s2) := by
      rw [q24 6 (by omega), b44]
      unfold hb
      by_cases h1 : ¬ σm.2 6 h = -1 ∧ ¬ nI d < σm.2 6 h
      · rw [if_neg h1.1, if_neg h1.2, if_pos h1, if_neg (by decide)]
      · rw [if_neg h1]
        have two : ∀ (X : Option (Int32 × hf_St)), (if σm.2 6 h = -1 then X else if nI d < σm.2 6 h then X else some (1, s2)) = X := by
          intro X
          by_cases hz : σm.2 6 h = -1
          · rw [if_pos hz]
          · rw [if_neg hz, if_pos (Decidable.byContradiction (fun x => h1 ⟨hz, x⟩))]
        rw [two]
        by_cases h2 : hu σm (nI h) (nI d) np < 0
        · rw [if_pos h2, if_pos h2, if_neg (by decide)]
        · rw [if_neg h2, if_neg h2]
          cases hbr : hb_br σm nf c h (nI d) (nI t) (hb_want σm c) 0 nr with
          | none => rw [if_pos (show hb_num none = 0 from rfl)]
          | some k =>
            have := hb_br_lt σm nf c h (nI d) (nI t) (hb_want σm c) nr 0 k hbr
            rw [if_neg (by show ¬ nI (10 + k) = 0; rw [hp_eq, hp_nI (by omega), hp_0]; omega)]
            rfl
    rw [day]
    by_cases hz : hb σm nf np nr c h (nI t) d = 0
    · rw [if_pos hz, if_pos hz]; exact ih (d + 1) s2 n (by omega) (by omega) hq2
    · rw [if_neg hz, if_neg hz]; exact ⟨s2, rfl, hq2, e45⟩
