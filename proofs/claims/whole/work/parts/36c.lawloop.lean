set_option maxRecDepth 20000 in
/-- the law's loop -/
theorem lw_loop {α : Type} {x : hf_Cx} {A : Nat → Prop} {E : State → Prop} {adc adm adK adV : Nat → Nat} {ca cm : Nat → ClassId} {l0 : Launch} {D0 : va_G} {z : Nat × Nat} {Q : α → State → Prop} {K : Option α} (g : lw_G x A E adc adm ca cm l0 D0) (hq : hc_need E adc adK adV) {b L : Nat} {xs : Nat → Int32} (hX : lw_X x b L xs) (hL : L ≤ 3072) (hz : z.1 ≤ 600000 ∧ z.2 ≤ 7302250) (kend : ∀ (w : va_W) (lv : List (Nat × Value)), hf_X x A 4 z Q K w 969 lv []) : ∀ (n i : Nat) (σc σm : hf_St), L < i + n → i ≤ 4000 → hr σc σm → hf_X x A 4 z Q K (hf_wd hcT adc ca σc ++ hf_wd hmT adm cm σm) 18 (lw_lv b adc adm i) [] := by
  have gc := g.1
  have e6 : (6 : Int32).toInt = 6 := rfl
  have sub6 : (nI L - 6).toInt = (L : Int) - 6 := by
    rw [hp_sub (by rw [hp_nI (by omega), e6]; omega) (by rw [hp_nI (by omega), e6]; omega), hp_nI (by omega), e6]
  intro n
  induction n with
  | zero =>
    intro i σc σm hn hi h
    refine hf_iload_n (i := 3) (q := 3) gc dL_law_18 rfl rfl ?_
    refine hf_aload_n (i := 0) (q := 0) gc dL_law_19 rfl rfl ?_
    refine lw_slen g hX dL_law_20 ?_
    refine hf_bipush (v := 6) gc dL_law_21 (by decide) ?_
    refine hf_isub gc dL_law_23 ?_
    refine lw_gt (tgt := 969) gc dL_law_24 (by decide) (fun _ => kend _ _) (fun hno => ?_)
    exact absurd (by rw [hp_lt, sub6, hp_nI (by omega)]; omega) hno
  | succ n ih =>
    intro i σc σm hn hi h
    refine hf_iload_n (i := 3) (q := 3) gc dL_law_18 rfl rfl ?_
    refine hf_aload_n (i := 0) (q := 0) gc dL_law_19 rfl rfl ?_
    refine lw_slen g hX dL_law_20 ?_
    refine hf_bipush (v := 6) gc dL_law_21 (by decide) ?_
    refine hf_isub gc dL_law_23 ?_
    refine lw_gt (tgt := 969) gc dL_law_24 (by decide) (fun _ => kend _ _) (fun hno => ?_)
    have hi6 : i + 6 ≤ L := by
      rw [hp_lt, sub6, hp_nI (by omega)] at hno
      omega
    have kb : ∀ σc σm, hr σc σm → hf_X x A 4 z Q K (hf_wd hcT adc ca σc ++ hf_wd hmT adm cm σm) 963 (lw_lv b adc adm i) [] := by
      intro σc σm h
      refine hf_iinc (q := 3) (v' := nI (i + 6)) (lv' := [(3, .int (nI (i + 6))), (0, .ref b), (1, .ref (adc 0)), (2, .ref (adm 0))]) gc dL_law_963 rfl (by rw [← nI_add]; rfl) (by decide) rfl ?_
      refine hf_goto (tgt := 18) gc dL_law_966 (by decide) ?_
      refine hf_sub (lv' := lw_lv b adc adm (i + 6)) [1, 2, 3, 0] rfl ?_
      exact ih (i + 6) σc σm (by omega) (by omega) h
    refine lw_arg0 g hX hL (by omega) 28 29 30 rfl rfl rfl dL_law_27 dL_law_28 dL_law_29 ?_
    refine hf_bipush (v := 31) gc dL_law_30 (by decide) ?_
    refine hf_iand gc dL_law_32 ?_
    obtain ⟨c, hc, e⟩ := pk_andE (xs i) (m := 31) 5 (by decide)
    have hc' : c < 32 := hc
    rw [e]
    rcases (show c = 0 ∨ c = 1 ∨ c = 2 ∨ c = 3 ∨ c = 4 ∨ c = 5 ∨ c = 6 ∨ c = 7 ∨ c = 8 ∨ c = 9 ∨ c = 10 ∨ c = 11 ∨ c = 12 ∨ c = 13 ∨ c = 14 ∨ c = 15 ∨ c = 16 ∨ c = 17 ∨ c = 18 ∨ c = 19 ∨ c = 20 ∨ c = 21 ∨ c = 22 ∨ 22 < c by omega) with rfl | rfl | rfl | rfl | rfl | rfl | rfl | rfl | rfl | rfl | rfl | rfl | rfl | rfl | rfl | rfl | rfl | rfl | rfl | rfl | rfl | rfl | rfl | hbig
    · refine lw_in (off := 107) (tgt := 140) gc dL_law_33 (by decide) (by decide) (by decide) (by decide) ?_
      exact lw_case0 g hq hX hL hz (by omega) h kb
    · refine lw_in (off := 130) (tgt := 163) gc dL_law_33 (by decide) (by decide) (by decide) (by decide) ?_
      exact lw_case1 g hq hX hL hz (by omega) h kb
    · refine lw_in (off := 153) (tgt := 186) gc dL_law_33 (by decide) (by decide) (by decide) (by decide) ?_
      exact lw_case2 g hq hX hL hz (by omega) h kb
    · refine lw_in (off := 176) (tgt := 209) gc dL_law_33 (by decide) (by decide) (by decide) (by decide) ?_
      exact lw_case3 g hq hX hL hz (by omega) h kb
    · refine lw_in (off := 255) (tgt := 288) gc dL_law_33 (by decide) (by decide) (by decide) (by decide) ?_
      exact lw_case4 g hq hX hL hz (by omega) h kb
    · refine lw_in (off := 334) (tgt := 367) gc dL_law_33 (by decide) (by decide) (by decide) (by decide) ?_
      exact lw_case5 g hq hX hL hz (by omega) h kb
    · refine lw_in (off := 377) (tgt := 410) gc dL_law_33 (by decide) (by decide) (by decide) (by decide) ?_
      exact lw_case6 g hq hX hL hz (by omega) h kb
    · refine lw_in (off := 410) (tgt := 443) gc dL_law_33 (by decide) (by decide) (by decide) (by decide) ?_
      exact lw_case7 g hq hX hL hz (by omega) h kb
    · refine lw_in (off := 443) (tgt := 476) gc dL_law_33 (by decide) (by decide) (by decide) (by decide) ?_
      exact lw_case8 g hq hX hL hz (by omega) h kb
    · refine lw_in (off := 512) (tgt := 545) gc dL_law_33 (by decide) (by decide) (by decide) (by decide) ?_
      exact lw_case9 g hq hX hL hz (by omega) h kb
    · refine lw_in (off := 535) (tgt := 568) gc dL_law_33 (by decide) (by decide) (by decide) (by decide) ?_
      exact lw_case10 g hq hX hL hz (by omega) h kb
    · refine lw_in (off := 598) (tgt := 631) gc dL_law_33 (by decide) (by decide) (by decide) (by decide) ?_
      exact lw_case11 g hq hX hL hz (by omega) h kb
    · refine lw_in (off := 621) (tgt := 654) gc dL_law_33 (by decide) (by decide) (by decide) (by decide) ?_
      exact lw_case12 g hq hX hL hz (by omega) h kb
    · refine lw_in (off := 634) (tgt := 667) gc dL_law_33 (by decide) (by decide) (by decide) (by decide) ?_
      exact lw_case13 g hq hX hL hz (by omega) h kb
    · refine lw_in (off := 667) (tgt := 700) gc dL_law_33 (by decide) (by decide) (by decide) (by decide) ?_
      exact lw_case14 g hq hX hL hz (by omega) h kb
    · refine lw_in (off := 700) (tgt := 733) gc dL_law_33 (by decide) (by decide) (by decide) (by decide) ?_
      exact lw_case15 g hq hX hL hz (by omega) h kb
    · refine lw_in (off := 733) (tgt := 766) gc dL_law_33 (by decide) (by decide) (by decide) (by decide) ?_
      exact lw_case16 g hq hX hL hz (by omega) h kb
    · refine lw_in (off := 772) (tgt := 805) gc dL_law_33 (by decide) (by decide) (by decide) (by decide) ?_
      exact lw_case17 g hq hX hL hz (by omega) h kb
    · refine lw_in (off := 795) (tgt := 828) gc dL_law_33 (by decide) (by decide) (by decide) (by decide) ?_
      exact lw_case18 g hq hX hL hz (by omega) h kb
    · refine lw_in (off := 818) (tgt := 851) gc dL_law_33 (by decide) (by decide) (by decide) (by decide) ?_
      exact lw_case19 g hq hX hL hz (by omega) h kb
    · refine lw_in (off := 851) (tgt := 884) gc dL_law_33 (by decide) (by decide) (by decide) (by decide) ?_
      exact lw_case20 g hq hX hL hz (by omega) h kb
    · refine lw_in (off := 884) (tgt := 917) gc dL_law_33 (by decide) (by decide) (by decide) (by decide) ?_
      exact lw_case21 g hq hX hL hz (by omega) h kb
    · refine lw_in (off := 907) (tgt := 940) gc dL_law_33 (by decide) (by decide) (by decide) (by decide) ?_
      exact lw_case22 g hq hX hL hz (by omega) h kb
    · refine lw_out (tgt := 963) gc dL_law_33 (Or.inr (by rw [hp_nI (by omega)]; omega)) (by decide) ?_
      exact kb σc σm h
