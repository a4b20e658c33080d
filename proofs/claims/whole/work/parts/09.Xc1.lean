set_option maxHeartbeats 2000000 in
set_option maxRecDepth 20000 in
theorem xc_hf_isDay {x : hf_Cx} {ad : Nat → Nat} {cA : Nat → ClassId} {E : State → Prop} {A : Nat → Prop} {l0 : Launch} {D0 : va_G} (g : hf_G x hcT ad cA E A l0 D0 cX11_isDay 1 RX11 (some .boolean) 0) {s : hf_St} {a1 : Int32} : hf_X x A 1 (0, 0) (hf_Q x hcT ad cA A (hf_rp s)) (Fc_hf_isDay s a1) (hf_wd hcT ad cA s) 0 [(0, .int a1)] [] := by
  have gc := g.1
  unfold Fc_hf_isDay
  refine hf_iload_n (i := 0) (q := 0) gc dX11_isDay_0 rfl rfl ?_
  refine hf_if_lt (tgt := 15) gc dX11_isDay_1 (by decide) ?_ ?_
  · refine hf_iconst (v := 0) gc dX11_isDay_15 (by decide) ?_
    exact hf_zret g dX11_isDay_16 rfl
  · refine hf_iload_n (i := 0) (q := 0) gc dX11_isDay_4 rfl rfl ?_
    refine hf_sipush (v := 999) gc dX11_isDay_5 (by decide) ?_
    refine hf_icmp_gt (tgt := 15) gc dX11_isDay_8 (by decide) ?_ ?_
    · refine hf_iconst (v := 0) gc dX11_isDay_15 (by decide) ?_
      exact hf_zret g dX11_isDay_16 rfl
    · refine hf_iconst (v := 1) gc dX11_isDay_11 (by decide) ?_
      refine hf_goto (tgt := 16) gc dX11_isDay_12 (by decide) ?_
      exact hf_zret g dX11_isDay_16 rfl
theorem cc_hf_isDay {l0 : Launch} {D0 : va_G} {ad : Nat → Nat} {cA : Nat → ClassId} {E : State → Prop} {s : hf_St} {a1 : Int32} : hf_Ct l0 D0 hcT ad cA E 0 yX11_isDay cX11_isDay 1 (some .boolean) [.int a1] s (Fc_hf_isDay s a1) (hf_rp s) := hf_met (by decide) (Nat.le_of_ble_eq_true rfl) (fun _ _ g => xc_hf_isDay g)
set_option maxHeartbeats 2000000 in
set_option maxRecDepth 20000 in
theorem xc_hf_clock {x : hf_Cx} {ad : Nat → Nat} {cA : Nat → ClassId} {E : State → Prop} {A : Nat → Prop} {l0 : Launch} {D0 : va_G} (g : hf_G x hcT ad cA E A l0 D0 cX11_clock 2 RX11 (some .boolean) 1) {s : hf_St} {a1 : Int32} : hf_X x A 2 (0, 0) (hf_Q x hcT ad cA A hf_ri) (Fc_hf_clock s a1) (hf_wd hcT ad cA s) 0 [(0, .ref (ad 0)), (1, .int a1)] [] := by
  have gc := g.1
  unfold Fc_hf_clock
  refine hf_iload_n (i := 1) (q := 1) gc dX11_clock_0 rfl rfl ?_
  refine hf_callS1 g (cc_hf_isDay (a1 := a1)) kS_RX11_89 (by decide) (by decide) rfl rfl (Nat.le_of_ble_eq_true rfl) dX11_clock_1 (fun v1 => ?_)
  refine hf_if_eq (tgt := 15) gc dX11_clock_4 (by decide) ?_ ?_
  · refine hf_iconst (v := 0) gc dX11_clock_15 (by decide) ?_
    exact hf_zret g dX11_clock_16 rfl
  · refine hf_iload_n (i := 1) (q := 1) gc dX11_clock_7 rfl rfl ?_
    refine hf_aload_n (i := 0) (q := 0) gc dX11_clock_8 rfl rfl ?_
    refine hf_getI (j := 0) (k := 10) g rfl rfl kF_RX11_85 dX11_clock_9 ?_
    refine hf_icmp_ge (tgt := 17) gc dX11_clock_12 (by decide) ?_ ?_
    · refine hf_aload_n (i := 0) (q := 0) gc dX11_clock_17 rfl rfl ?_
      refine hf_iload_n (i := 1) (q := 1) gc dX11_clock_18 rfl rfl ?_
      refine hf_putI (j := 0) (k := 10) g rfl rfl kP_RX11_85 rfl rfl dX11_clock_19 (fun s2 => ?_)
      refine hf_iconst (v := 1) gc dX11_clock_22 (by decide) ?_
      exact hf_zret g dX11_clock_23 rfl
    · refine hf_iconst (v := 0) gc dX11_clock_15 (by decide) ?_
      exact hf_zret g dX11_clock_16 rfl
theorem cc_hf_clock {l0 : Launch} {D0 : va_G} {ad : Nat → Nat} {cA : Nat → ClassId} {E : State → Prop} {s : hf_St} {a1 : Int32} : hf_Ct l0 D0 hcT ad cA E 1 yX11_clock cX11_clock 2 (some .boolean) [.ref (ad 0), .int a1] s (Fc_hf_clock s a1) hf_ri := hf_met (by decide) (Nat.le_of_ble_eq_true rfl) (fun _ _ g => xc_hf_clock g)
set_option maxHeartbeats 2000000 in
set_option maxRecDepth 20000 in
theorem xc_children_add {x : hf_Cx} {ad : Nat → Nat} {cA : Nat → ClassId} {E : State → Prop} {A : Nat → Prop} {l0 : Launch} {D0 : va_G} (g : hf_G x hcT ad cA E A l0 D0 cX0_add 2 RX0 (some .int) 0) {s : hf_St} {a1 : Int32} : hf_X x A 2 (0, 0) (hf_Q x hcT ad cA A hf_ri) (Fc_children_add s a1) (hf_wd hcT ad cA s) 0 [(0, .ref (ad 1)), (1, .int a1)] [] := by
  have gc := g.1
  unfold Fc_children_add
  refine hf_aload_n (i := 0) (q := 0) gc dX0_add_0 rfl rfl ?_
  refine hf_getI (j := 1) (k := 5) g rfl rfl kF_RX0_28 dX0_add_1 ?_
  refine hf_bipush (v := 7) gc dX0_add_4 (by decide) ?_
  refine hf_icmp_ge (tgt := 18) gc dX0_add_6 (by decide) ?_ ?_
  · refine hf_iconst (v := -1) gc dX0_add_18 (by decide) ?_
    exact hf_iret g dX0_add_19 rfl
  · refine hf_iload_n (i := 1) (q := 1) gc dX0_add_9 rfl rfl ?_
    refine hf_if_lt (tgt := 18) gc dX0_add_10 (by decide) ?_ ?_
    · refine hf_iconst (v := -1) gc dX0_add_18 (by decide) ?_
      exact hf_iret g dX0_add_19 rfl
    · refine hf_iload_n (i := 1) (q := 1) gc dX0_add_13 rfl rfl ?_
      refine hf_iconst (v := 3) gc dX0_add_14 (by decide) ?_
      refine hf_icmp_le (tgt := 20) gc dX0_add_15 (by decide) ?_ ?_
      · refine hf_aload_n (i := 0) (q := 0) gc dX0_add_20 rfl rfl ?_
        refine hf_getR (j := 1) (k := 0) (r := 13) g rfl rfl kF_RX0_11 dX0_add_21 ?_
        refine hf_aload_n (i := 0) (q := 0) gc dX0_add_24 rfl rfl ?_
        refine hf_getI (j := 1) (k := 5) g rfl rfl kF_RX0_28 dX0_add_25 ?_
        refine hf_iload_n (i := 1) (q := 1) gc dX0_add_28 rfl rfl ?_
        refine hf_iast (a := 0) (r := 13) (n := 7) g rfl rfl dX0_add_29 (fun s1 => ?_)
        refine hf_aload_n (i := 0) (q := 0) gc dX0_add_30 rfl rfl ?_
        refine hf_dup gc dX0_add_31 rfl ?_
        refine hf_getI (j := 1) (k := 5) g rfl rfl kF_RX0_28 dX0_add_32 ?_
        refine hf_iconst (v := 1) gc dX0_add_35 (by decide) ?_
        refine hf_iadd gc dX0_add_36 ?_
        refine hf_putI (j := 1) (k := 5) g rfl rfl kP_RX0_28 rfl rfl dX0_add_37 (fun s2 => ?_)
        refine hf_aload_n (i := 0) (q := 0) gc dX0_add_40 rfl rfl ?_
        refine hf_getI (j := 1) (k := 5) g rfl rfl kF_RX0_28 dX0_add_41 ?_
        refine hf_iconst (v := 1) gc dX0_add_44 (by decide) ?_
        refine hf_isub gc dX0_add_45 ?_
        exact hf_iret g dX0_add_46 rfl
      · refine hf_iconst (v := -1) gc dX0_add_18 (by decide) ?_
        exact hf_iret g dX0_add_19 rfl
theorem cc_children_add {l0 : Launch} {D0 : va_G} {ad : Nat → Nat} {cA : Nat → ClassId} {E : State → Prop} {s : hf_St} {a1 : Int32} : hf_Ct l0 D0 hcT ad cA E 0 yX0_add cX0_add 2 (some .int) [.ref (ad 1), .int a1] s (Fc_children_add s a1) hf_ri := hf_met (by decide) (Nat.le_of_ble_eq_true rfl) (fun _ _ g => xc_children_add g)
set_option maxHeartbeats 2000000 in
set_option maxRecDepth 20000 in
theorem xc_hf_child {x : hf_Cx} {ad : Nat → Nat} {cA : Nat → ClassId} {E : State → Prop} {A : Nat → Prop} {l0 : Launch} {D0 : va_G} (g : hf_G x hcT ad cA E A l0 D0 cX11_child 2 RX11 (some .int) 1) {s : hf_St} {a1 : Int32} : hf_X x A 2 (0, 0) (hf_Q x hcT ad cA A hf_ri) (Fc_hf_child s a1) (hf_wd hcT ad cA s) 0 [(0, .ref (ad 0)), (1, .int a1)] [] := by
  have gc := g.1
  unfold Fc_hf_child
  refine hf_aload_n (i := 0) (q := 0) gc dX11_child_0 rfl rfl ?_
  refine hf_getR (j := 0) (k := 0) (r := 1) g rfl rfl kF_RX11_10 dX11_child_1 ?_
  refine hf_iload_n (i := 1) (q := 1) gc dX11_child_4 rfl rfl ?_
  refine hf_callV2 (j := 1) g (cc_children_add (a1 := a1)) kV_RX11_93 (by decide) (by decide) rfl rfl rfl rfl (Nat.le_of_ble_eq_true rfl) dX11_child_5 (fun v1 s2 => ?_)
  exact hf_iret g dX11_child_8 rfl
theorem cc_hf_child {l0 : Launch} {D0 : va_G} {ad : Nat → Nat} {cA : Nat → ClassId} {E : State → Prop} {s : hf_St} {a1 : Int32} : hf_Ct l0 D0 hcT ad cA E 1 yX11_child cX11_child 2 (some .int) [.ref (ad 0), .int a1] s (Fc_hf_child s a1) hf_ri := hf_met (by decide) (Nat.le_of_ble_eq_true rfl) (fun _ _ g => xc_hf_child g)
set_option maxHeartbeats 2000000 in
set_option maxRecDepth 20000 in
theorem xc_homes_add {x : hf_Cx} {ad : Nat → Nat} {cA : Nat → ClassId} {E : State → Prop} {A : Nat → Prop} {l0 : Launch} {D0 : va_G} (g : hf_G x hcT ad cA E A l0 D0 cX2_add 2 RX2 (some .int) 0) {s : hf_St} {a1 : Int32} : hf_X x A 2 (0, 0) (hf_Q x hcT ad cA A hf_ri) (Fc_homes_add s a1) (hf_wd hcT ad cA s) 0 [(0, .ref (ad 2)), (1, .int a1)] [] := by
  have gc := g.1
  unfold Fc_homes_add
  refine hf_aload_n (i := 0) (q := 0) gc dX2_add_0 rfl rfl ?_
  refine hf_getI (j := 2) (k := 2) g rfl rfl kF_RX2_18 dX2_add_1 ?_
  refine hf_iconst (v := 5) gc dX2_add_4 (by decide) ?_
  refine hf_icmp_ge (tgt := 19) gc dX2_add_5 (by decide) ?_ ?_
  · refine hf_iconst (v := -1) gc dX2_add_19 (by decide) ?_
    exact hf_iret g dX2_add_20 rfl
  · refine hf_iload_n (i := 1) (q := 1) gc dX2_add_8 rfl rfl ?_
    refine hf_iconst (v := 1) gc dX2_add_9 (by decide) ?_
    refine hf_icmp_lt (tgt := 19) gc dX2_add_10 (by decide) ?_ ?_
    · refine hf_iconst (v := -1) gc dX2_add_19 (by decide) ?_
      exact hf_iret g dX2_add_20 rfl
    · refine hf_iload_n (i := 1) (q := 1) gc dX2_add_13 rfl rfl ?_
      refine hf_bipush (v := 6) gc dX2_add_14 (by decide) ?_
      refine hf_icmp_le (tgt := 21) gc dX2_add_16 (by decide) ?_ ?_
      · refine hf_aload_n (i := 0) (q := 0) gc dX2_add_21 rfl rfl ?_
        refine hf_getR (j := 2) (k := 0) (r := 18) g rfl rfl kF_RX2_9 dX2_add_22 ?_
        refine hf_aload_n (i := 0) (q := 0) gc dX2_add_25 rfl rfl ?_
        refine hf_getI (j := 2) (k := 2) g rfl rfl kF_RX2_18 dX2_add_26 ?_
        refine hf_iload_n (i := 1) (q := 1) gc dX2_add_29 rfl rfl ?_
        refine hf_iast (a := 5) (r := 18) (n := 5) g rfl rfl dX2_add_30 (fun s1 => ?_)
        refine hf_aload_n (i := 0) (q := 0) gc dX2_add_31 rfl rfl ?_
        refine hf_getR (j := 2) (k := 1) (r := 19) g rfl rfl kF_RX2_15 dX2_add_32 ?_
        refine hf_aload_n (i := 0) (q := 0) gc dX2_add_35 rfl rfl ?_
        refine hf_getI (j := 2) (k := 2) g rfl rfl kF_RX2_18 dX2_add_36 ?_
        refine hf_iconst (v := -1) gc dX2_add_39 (by decide) ?_
        refine hf_iast (a := 6) (r := 19) (n := 5) g rfl rfl dX2_add_40 (fun s2 => ?_)
        refine hf_aload_n (i := 0) (q := 0) gc dX2_add_41 rfl rfl ?_
        refine hf_dup gc dX2_add_42 rfl ?_
        refine hf_getI (j := 2) (k := 2) g rfl rfl kF_RX2_18 dX2_add_43 ?_
        refine hf_iconst (v := 1) gc dX2_add_46 (by decide) ?_
        refine hf_iadd gc dX2_add_47 ?_
        refine hf_putI (j := 2) (k := 2) g rfl rfl kP_RX2_18 rfl rfl dX2_add_48 (fun s3 => ?_)
        refine hf_aload_n (i := 0) (q := 0) gc dX2_add_51 rfl rfl ?_
        refine hf_getI (j := 2) (k := 2) g rfl rfl kF_RX2_18 dX2_add_52 ?_
        refine hf_iconst (v := 1) gc dX2_add_55 (by decide) ?_
        refine hf_isub gc dX2_add_56 ?_
        exact hf_iret g dX2_add_57 rfl
      · refine hf_iconst (v := -1) gc dX2_add_19 (by decide) ?_
        exact hf_iret g dX2_add_20 rfl
theorem cc_homes_add {l0 : Launch} {D0 : va_G} {ad : Nat → Nat} {cA : Nat → ClassId} {E : State → Prop} {s : hf_St} {a1 : Int32} : hf_Ct l0 D0 hcT ad cA E 0 yX2_add cX2_add 2 (some .int) [.ref (ad 2), .int a1] s (Fc_homes_add s a1) hf_ri := hf_met (by decide) (Nat.le_of_ble_eq_true rfl) (fun _ _ g => xc_homes_add g)
set_option maxHeartbeats 2000000 in
set_option maxRecDepth 20000 in
theorem xc_hf_home {x : hf_Cx} {ad : Nat → Nat} {cA : Nat → ClassId} {E : State → Prop} {A : Nat → Prop} {l0 : Launch} {D0 : va_G} (g : hf_G x hcT ad cA E A l0 D0 cX11_home 2 RX11 (some .int) 1) {s : hf_St} {a1 : Int32} : hf_X x A 2 (0, 0) (hf_Q x hcT ad cA A hf_ri) (Fc_hf_home s a1) (hf_wd hcT ad cA s) 0 [(0, .ref (ad 0)), (1, .int a1)] [] := by
  have gc := g.1
  unfold Fc_hf_home
  refine hf_aload_n (i := 0) (q := 0) gc dX11_home_0 rfl rfl ?_
  refine hf_getR (j := 0) (k := 1) (r := 2) g rfl rfl kF_RX11_19 dX11_home_1 ?_
  refine hf_iload_n (i := 1) (q := 1) gc dX11_home_4 rfl rfl ?_
  refine hf_callV2 (j := 2) g (cc_homes_add (a1 := a1)) kV_RX11_97 (by decide) (by decide) rfl rfl rfl rfl (Nat.le_of_ble_eq_true rfl) dX11_home_5 (fun v1 s2 => ?_)
  exact hf_iret g dX11_home_8 rfl
theorem cc_hf_home {l0 : Launch} {D0 : va_G} {ad : Nat → Nat} {cA : Nat → ClassId} {E : State → Prop} {s : hf_St} {a1 : Int32} : hf_Ct l0 D0 hcT ad cA E 1 yX11_home cX11_home 2 (some .int) [.ref (ad 0), .int a1] s (Fc_hf_home s a1) hf_ri := hf_met (by decide) (Nat.le_of_ble_eq_true rfl) (fun _ _ g => xc_hf_home g)
set_option maxHeartbeats 2000000 in
set_option maxRecDepth 20000 in
theorem xc_homes_has {x : hf_Cx} {ad : Nat → Nat} {cA : Nat → ClassId} {E : State → Prop} {A : Nat → Prop} {l0 : Launch} {D0 : va_G} (g : hf_G x hcT ad cA E A l0 D0 cX2_has 2 RX2 (some .boolean) 0) {s : hf_St} {a1 : Int32} : hf_X x A 2 (0, 0) (hf_Q x hcT ad cA A (hf_rp s)) (Fc_homes_has s a1) (hf_wd hcT ad cA s) 0 [(0, .ref (ad 2)), (1, .int a1)] [] := by
  have gc := g.1
  unfold Fc_homes_has
  refine hf_iload_n (i := 1) (q := 1) gc dX2_has_0 rfl rfl ?_
  refine hf_if_lt (tgt := 16) gc dX2_has_1 (by decide) ?_ ?_
  · refine hf_iconst (v := 0) gc dX2_has_16 (by decide) ?_
    exact hf_zret g dX2_has_17 rfl
  · refine hf_iload_n (i := 1) (q := 1) gc dX2_has_4 rfl rfl ?_
    refine hf_aload_n (i := 0) (q := 0) gc dX2_has_5 rfl rfl ?_
    refine hf_getI (j := 2) (k := 2) g rfl rfl kF_RX2_18 dX2_has_6 ?_
    refine hf_icmp_ge (tgt := 16) gc dX2_has_9 (by decide) ?_ ?_
    · refine hf_iconst (v := 0) gc dX2_has_16 (by decide) ?_
      exact hf_zret g dX2_has_17 rfl
    · refine hf_iconst (v := 1) gc dX2_has_12 (by decide) ?_
      refine hf_goto (tgt := 17) gc dX2_has_13 (by decide) ?_
      exact hf_zret g dX2_has_17 rfl
theorem cc_homes_has {l0 : Launch} {D0 : va_G} {ad : Nat → Nat} {cA : Nat → ClassId} {E : State → Prop} {s : hf_St} {a1 : Int32} : hf_Ct l0 D0 hcT ad cA E 0 yX2_has cX2_has 2 (some .boolean) [.ref (ad 2), .int a1] s (Fc_homes_has s a1) (hf_rp s) := hf_met (by decide) (Nat.le_of_ble_eq_true rfl) (fun _ _ g => xc_homes_has g)
set_option maxHeartbeats 2000000 in
set_option maxRecDepth 20000 in
theorem xc_children_has {x : hf_Cx} {ad : Nat → Nat} {cA : Nat → ClassId} {E : State → Prop} {A : Nat → Prop} {l0 : Launch} {D0 : va_G} (g : hf_G x hcT ad cA E A l0 D0 cX0_has 2 RX0 (some .boolean) 0) {s : hf_St} {a1 : Int32} : hf_X x A 2 (0, 0) (hf_Q x hcT ad cA A (hf_rp s)) (Fc_children_has s a1) (hf_wd hcT ad cA s) 0 [(0, .ref (ad 1)), (1, .int a1)] [] := by
  have gc := g.1
  unfold Fc_children_has
  refine hf_iload_n (i := 1) (q := 1) gc dX0_has_0 rfl rfl ?_
  refine hf_if_lt (tgt := 16) gc dX0_has_1 (by decide) ?_ ?_
  · refine hf_iconst (v := 0) gc dX0_has_16 (by decide) ?_
    exact hf_zret g dX0_has_17 rfl
  · refine hf_iload_n (i := 1) (q := 1) gc dX0_has_4 rfl rfl ?_
    refine hf_aload_n (i := 0) (q := 0) gc dX0_has_5 rfl rfl ?_
    refine hf_getI (j := 1) (k := 5) g rfl rfl kF_RX0_28 dX0_has_6 ?_
    refine hf_icmp_ge (tgt := 16) gc dX0_has_9 (by decide) ?_ ?_
    · refine hf_iconst (v := 0) gc dX0_has_16 (by decide) ?_
      exact hf_zret g dX0_has_17 rfl
    · refine hf_iconst (v := 1) gc dX0_has_12 (by decide) ?_
      refine hf_goto (tgt := 17) gc dX0_has_13 (by decide) ?_
      exact hf_zret g dX0_has_17 rfl
theorem cc_children_has {l0 : Launch} {D0 : va_G} {ad : Nat → Nat} {cA : Nat → ClassId} {E : State → Prop} {s : hf_St} {a1 : Int32} : hf_Ct l0 D0 hcT ad cA E 0 yX0_has cX0_has 2 (some .boolean) [.ref (ad 1), .int a1] s (Fc_children_has s a1) (hf_rp s) := hf_met (by decide) (Nat.le_of_ble_eq_true rfl) (fun _ _ g => xc_children_has g)
set_option maxHeartbeats 2000000 in
set_option maxRecDepth 20000 in
theorem xc_hf_isThere {x : hf_Cx} {ad : Nat → Nat} {cA : Nat → ClassId} {E : State → Prop} {A : Nat → Prop} {l0 : Launch} {D0 : va_G} (g : hf_G x hcT ad cA E A l0 D0 cX11_isThere 3 RX11 (some .boolean) 1) {s : hf_St} {a1 : Int32} {a2 : Int32} : hf_X x A 3 (0, 0) (hf_Q x hcT ad cA A (hf_rp s)) (Fc_hf_isThere s a1 a2) (hf_wd hcT ad cA s) 0 [(0, .ref (ad 0)), (1, .int a1), (2, .int a2)] [] := by
  have gc := g.1
  unfold Fc_hf_isThere
  refine hf_iload_n (i := 1) (q := 1) gc dX11_isThere_0 rfl rfl ?_
  refine hf_if_eq (tgt := 15) gc dX11_isThere_1 (by decide) ?_ ?_
  · refine hf_aload_n (i := 0) (q := 0) gc dX11_isThere_15 rfl rfl ?_
    refine hf_getR (j := 0) (k := 0) (r := 1) g rfl rfl kF_RX11_10 dX11_isThere_16 ?_
    refine hf_iload_n (i := 2) (q := 2) gc dX11_isThere_19 rfl rfl ?_
    refine hf_callV1 (j := 1) g (cc_children_has (a1 := a2)) kV_RX11_130 (by decide) (by decide) rfl rfl rfl rfl (Nat.le_of_ble_eq_true rfl) dX11_isThere_20 (fun v1 => ?_)
    exact hf_zret g dX11_isThere_23 rfl
  · refine hf_aload_n (i := 0) (q := 0) gc dX11_isThere_4 rfl rfl ?_
    refine hf_getR (j := 0) (k := 1) (r := 2) g rfl rfl kF_RX11_19 dX11_isThere_5 ?_
    refine hf_iload_n (i := 2) (q := 2) gc dX11_isThere_8 rfl rfl ?_
    refine hf_callV1 (j := 2) g (cc_homes_has (a1 := a2)) kV_RX11_116 (by decide) (by decide) rfl rfl rfl rfl (Nat.le_of_ble_eq_true rfl) dX11_isThere_9 (fun v2 => ?_)
    refine hf_goto (tgt := 23) gc dX11_isThere_12 (by decide) ?_
    exact hf_zret g dX11_isThere_23 rfl
theorem cc_hf_isThere {l0 : Launch} {D0 : va_G} {ad : Nat → Nat} {cA : Nat → ClassId} {E : State → Prop} {s : hf_St} {a1 : Int32} {a2 : Int32} : hf_Ct l0 D0 hcT ad cA E 1 yX11_isThere cX11_isThere 3 (some .boolean) [.ref (ad 0), .int a1, .int a2] s (Fc_hf_isThere s a1 a2) (hf_rp s) := hf_met (by decide) (Nat.le_of_ble_eq_true rfl) (fun _ _ g => xc_hf_isThere g)
set_option maxHeartbeats 2000000 in
set_option maxRecDepth 20000 in
theorem xc_hf_isField {x : hf_Cx} {ad : Nat → Nat} {cA : Nat → ClassId} {E : State → Prop} {A : Nat → Prop} {l0 : Launch} {D0 : va_G} (g : hf_G x hcT ad cA E A l0 D0 cX11_isField 1 RX11 (some .boolean) 0) {s : hf_St} {a1 : Int32} : hf_X x A 1 (0, 0) (hf_Q x hcT ad cA A (hf_rp s)) (Fc_hf_isField s a1) (hf_wd hcT ad cA s) 0 [(0, .int a1)] [] := by
  have gc := g.1
  unfold Fc_hf_isField
  refine hf_iload_n (i := 0) (q := 0) gc dX11_isField_0 rfl rfl ?_
  refine hf_if_lt (tgt := 14) gc dX11_isField_1 (by decide) ?_ ?_
  · refine hf_iconst (v := 0) gc dX11_isField_14 (by decide) ?_
    exact hf_zret g dX11_isField_15 rfl
  · refine hf_iload_n (i := 0) (q := 0) gc dX11_isField_4 rfl rfl ?_
    refine hf_bipush (v := 8) gc dX11_isField_5 (by decide) ?_
    refine hf_icmp_ge (tgt := 14) gc dX11_isField_7 (by decide) ?_ ?_
    · refine hf_iconst (v := 0) gc dX11_isField_14 (by decide) ?_
      exact hf_zret g dX11_isField_15 rfl
    · refine hf_iconst (v := 1) gc dX11_isField_10 (by decide) ?_
      refine hf_goto (tgt := 15) gc dX11_isField_11 (by decide) ?_
      exact hf_zret g dX11_isField_15 rfl
theorem cc_hf_isField {l0 : Launch} {D0 : va_G} {ad : Nat → Nat} {cA : Nat → ClassId} {E : State → Prop} {s : hf_St} {a1 : Int32} : hf_Ct l0 D0 hcT ad cA E 0 yX11_isField cX11_isField 1 (some .boolean) [.int a1] s (Fc_hf_isField s a1) (hf_rp s) := hf_met (by decide) (Nat.le_of_ble_eq_true rfl) (fun _ _ g => xc_hf_isField g)
set_option maxHeartbeats 2000000 in
set_option maxRecDepth 20000 in
theorem xc_hf_slotOf {x : hf_Cx} {ad : Nat → Nat} {cA : Nat → ClassId} {E : State → Prop} {A : Nat → Prop} {l0 : Launch} {D0 : va_G} (g : hf_G x hcT ad cA E A l0 D0 cX11_slotOf 2 RX11 (some .int) 0) {s : hf_St} {a1 : Int32} {a2 : Int32} : hf_X x A 2 (0, 0) (hf_Q x hcT ad cA A (hf_rp s)) (Fc_hf_slotOf s a1 a2) (hf_wd hcT ad cA s) 0 [(0, .int a1), (1, .int a2)] [] := by
  have gc := g.1
  unfold Fc_hf_slotOf
  refine hf_iload_n (i := 0) (q := 0) gc dX11_slotOf_0 rfl rfl ?_
  refine hf_if_eq (tgt := 11) gc dX11_slotOf_1 (by decide) ?_ ?_
  · refine hf_iload_n (i := 1) (q := 1) gc dX11_slotOf_11 rfl rfl ?_
    exact hf_iret g dX11_slotOf_12 rfl
  · refine hf_bipush (v := 8) gc dX11_slotOf_4 (by decide) ?_
    refine hf_iload_n (i := 1) (q := 1) gc dX11_slotOf_6 rfl rfl ?_
    refine hf_iadd gc dX11_slotOf_7 ?_
    refine hf_goto (tgt := 12) gc dX11_slotOf_8 (by decide) ?_
    exact hf_iret g dX11_slotOf_12 rfl
theorem cc_hf_slotOf {l0 : Launch} {D0 : va_G} {ad : Nat → Nat} {cA : Nat → ClassId} {E : State → Prop} {s : hf_St} {a1 : Int32} {a2 : Int32} : hf_Ct l0 D0 hcT ad cA E 0 yX11_slotOf cX11_slotOf 2 (some .int) [.int a1, .int a2] s (Fc_hf_slotOf s a1 a2) (hf_rp s) := hf_met (by decide) (Nat.le_of_ble_eq_true rfl) (fun _ _ g => xc_hf_slotOf g)
set_option maxHeartbeats 2000000 in
set_option maxRecDepth 20000 in
theorem xc_facts_add {x : hf_Cx} {ad : Nat → Nat} {cA : Nat → ClassId} {E : State → Prop} {A : Nat → Prop} {l0 : Launch} {D0 : va_G} (g : hf_G x hcT ad cA E A l0 D0 cX1_add 6 RX1 (some .int) 0) {s : hf_St} {a1 : Int32} {a2 : Int32} {a3 : Int32} {a4 : Int32} {a5 : Int32} : hf_X x A 6 (0, 0) (hf_Q x hcT ad cA A hf_ri) (Fc_facts_add s a1 a2 a3 a4 a5) (hf_wd hcT ad cA s) 0 [(0, .ref (ad 4)), (1, .int a1), (2, .int a2), (3, .int a3), (4, .int a4), (5, .int a5)] [] := by
  have gc := g.1
  unfold Fc_facts_add
  refine hf_aload_n (i := 0) (q := 0) gc dX1_add_0 rfl rfl ?_
  refine hf_getI (j := 4) (k := 5) g rfl rfl kF_RX1_27 dX1_add_1 ?_
  refine hf_bipush (v := 100) gc dX1_add_4 (by decide) ?_
  refine hf_icmp_lt (tgt := 11) gc dX1_add_6 (by decide) ?_ ?_
  · refine hf_aload_n (i := 0) (q := 0) gc dX1_add_11 rfl rfl ?_
    refine hf_getR (j := 4) (k := 0) (r := 23) g rfl rfl kF_RX1_9 dX1_add_12 ?_
    refine hf_aload_n (i := 0) (q := 0) gc dX1_add_15 rfl rfl ?_
    refine hf_getI (j := 4) (k := 5) g rfl rfl kF_RX1_27 dX1_add_16 ?_
    refine hf_iload_n (i := 1) (q := 1) gc dX1_add_19 rfl rfl ?_
    refine hf_iast (a := 10) (r := 23) (n := 100) g rfl rfl dX1_add_20 (fun s1 => ?_)
    refine hf_aload_n (i := 0) (q := 0) gc dX1_add_21 rfl rfl ?_
    refine hf_getR (j := 4) (k := 1) (r := 24) g rfl rfl kF_RX1_15 dX1_add_22 ?_
    refine hf_aload_n (i := 0) (q := 0) gc dX1_add_25 rfl rfl ?_
    refine hf_getI (j := 4) (k := 5) g rfl rfl kF_RX1_27 dX1_add_26 ?_
    refine hf_iload_n (i := 2) (q := 2) gc dX1_add_29 rfl rfl ?_
    refine hf_iast (a := 11) (r := 24) (n := 100) g rfl rfl dX1_add_30 (fun s2 => ?_)
    refine hf_aload_n (i := 0) (q := 0) gc dX1_add_31 rfl rfl ?_
    refine hf_getR (j := 4) (k := 2) (r := 25) g rfl rfl kF_RX1_18 dX1_add_32 ?_
    refine hf_aload_n (i := 0) (q := 0) gc dX1_add_35 rfl rfl ?_
    refine hf_getI (j := 4) (k := 5) g rfl rfl kF_RX1_27 dX1_add_36 ?_
    refine hf_iload_n (i := 3) (q := 3) gc dX1_add_39 rfl rfl ?_
    refine hf_iast (a := 12) (r := 25) (n := 100) g rfl rfl dX1_add_40 (fun s3 => ?_)
    refine hf_aload_n (i := 0) (q := 0) gc dX1_add_41 rfl rfl ?_
    refine hf_getR (j := 4) (k := 3) (r := 26) g rfl rfl kF_RX1_21 dX1_add_42 ?_
    refine hf_aload_n (i := 0) (q := 0) gc dX1_add_45 rfl rfl ?_
    refine hf_getI (j := 4) (k := 5) g rfl rfl kF_RX1_27 dX1_add_46 ?_
    refine hf_iload (i := 4) (q := 4) gc dX1_add_49 rfl ?_
    refine hf_iast (a := 13) (r := 26) (n := 100) g rfl rfl dX1_add_51 (fun s4 => ?_)
    refine hf_aload_n (i := 0) (q := 0) gc dX1_add_52 rfl rfl ?_
    refine hf_getR (j := 4) (k := 4) (r := 27) g rfl rfl kF_RX1_24 dX1_add_53 ?_
    refine hf_aload_n (i := 0) (q := 0) gc dX1_add_56 rfl rfl ?_
    refine hf_getI (j := 4) (k := 5) g rfl rfl kF_RX1_27 dX1_add_57 ?_
    refine hf_iload (i := 5) (q := 5) gc dX1_add_60 rfl ?_
    refine hf_iast (a := 14) (r := 27) (n := 100) g rfl rfl dX1_add_62 (fun s5 => ?_)
    refine hf_aload_n (i := 0) (q := 0) gc dX1_add_63 rfl rfl ?_
    refine hf_dup gc dX1_add_64 rfl ?_
    refine hf_getI (j := 4) (k := 5) g rfl rfl kF_RX1_27 dX1_add_65 ?_
    refine hf_iconst (v := 1) gc dX1_add_68 (by decide) ?_
    refine hf_iadd gc dX1_add_69 ?_
    refine hf_putI (j := 4) (k := 5) g rfl rfl kP_RX1_27 rfl rfl dX1_add_70 (fun s6 => ?_)
    refine hf_aload_n (i := 0) (q := 0) gc dX1_add_73 rfl rfl ?_
    refine hf_getI (j := 4) (k := 5) g rfl rfl kF_RX1_27 dX1_add_74 ?_
    exact hf_iret g dX1_add_77 rfl
  · refine hf_iconst (v := -1) gc dX1_add_9 (by decide) ?_
    exact hf_iret g dX1_add_10 rfl
theorem cc_facts_add {l0 : Launch} {D0 : va_G} {ad : Nat → Nat} {cA : Nat → ClassId} {E : State → Prop} {s : hf_St} {a1 : Int32} {a2 : Int32} {a3 : Int32} {a4 : Int32} {a5 : Int32} : hf_Ct l0 D0 hcT ad cA E 0 yX1_add cX1_add 6 (some .int) [.ref (ad 4), .int a1, .int a2, .int a3, .int a4, .int a5] s (Fc_facts_add s a1 a2 a3 a4 a5) hf_ri := hf_met (by decide) (Nat.le_of_ble_eq_true rfl) (fun _ _ g => xc_facts_add g)
set_option maxHeartbeats 2000000 in
set_option maxRecDepth 20000 in
theorem xc_hf_fact_b29 {x : hf_Cx} {ad : Nat → Nat} {cA : Nat → ClassId} {E : State → Prop} {A : Nat → Prop} {l0 : Launch} {D0 : va_G} (g : hf_G x hcT ad cA E A l0 D0 cX11_fact 7 RX11 (some .int) 2) (s : hf_St) (l1 : Int32) (l2 : Int32) (l3 : Int32) (l4 : Int32) (l5 : Int32) (t0 : Int32) : hf_X x A 7 (0, 0) (hf_Q x hcT ad cA A hf_ri) (Fc_hf_fact_b29 s l1 l2 l3 l4 l5 t0) (hf_wd hcT ad cA s) 29 [(0, .ref (ad 0)), (1, .int l1), (2, .int l2), (3, .int l3), (4, .int l4), (5, .int l5)] [.int t0] := by
  have gc := g.1
  unfold Fc_hf_fact_b29
  refine hf_istore (i := 6) (lv' := [(6, .int t0), (0, .ref (ad 0)), (1, .int l1), (2, .int l2), (3, .int l3), (4, .int l4), (5, .int l5)]) gc dX11_fact_29 (by decide) rfl ?_
  refine hf_iload (i := 6) (q := 0) gc dX11_fact_31 rfl ?_
  refine hf_if_eq (tgt := 52) gc dX11_fact_33 (by decide) ?_ ?_
  · refine hf_iconst (v := -1) gc dX11_fact_52 (by decide) ?_
    exact hf_iret g dX11_fact_53 rfl
  · refine hf_iload (i := 4) (q := 5) gc dX11_fact_36 rfl ?_
    refine hf_sipush (v := -999) gc dX11_fact_38 (by decide) ?_
    refine hf_icmp_lt (tgt := 52) gc dX11_fact_41 (by decide) ?_ ?_
    · refine hf_iconst (v := -1) gc dX11_fact_52 (by decide) ?_
      exact hf_iret g dX11_fact_53 rfl
    · refine hf_iload (i := 4) (q := 5) gc dX11_fact_44 rfl ?_
      refine hf_sipush (v := 9999) gc dX11_fact_46 (by decide) ?_
      refine hf_icmp_le (tgt := 54) gc dX11_fact_49 (by decide) ?_ ?_
      · refine hf_aload_n (i := 0) (q := 1) gc dX11_fact_54 rfl rfl ?_
        refine hf_getR (j := 0) (k := 3) (r := 4) g rfl rfl kF_RX11_33 dX11_fact_55 ?_
        refine hf_iload_n (i := 1) (q := 2) gc dX11_fact_58 rfl rfl ?_
        refine hf_iload_n (i := 3) (q := 4) gc dX11_fact_59 rfl rfl ?_
        refine hf_callS1 g (cc_hf_slotOf (a1 := l1) (a2 := l3)) kS_RX11_105 (by decide) (by decide) rfl rfl (Nat.le_of_ble_eq_true rfl) dX11_fact_60 (fun v1 => ?_)
        refine hf_iload_n (i := 2) (q := 3) gc dX11_fact_63 rfl rfl ?_
        refine hf_iload (i := 4) (q := 5) gc dX11_fact_64 rfl ?_
        refine hf_iload (i := 5) (q := 6) gc dX11_fact_66 rfl ?_
        refine hf_aload_n (i := 0) (q := 1) gc dX11_fact_68 rfl rfl ?_
        refine hf_getI (j := 0) (k := 10) g rfl rfl kF_RX11_85 dX11_fact_69 ?_
        refine hf_callV2 (j := 4) g (cc_facts_add (a1 := v1) (a2 := l2) (a3 := l4) (a4 := l5) (a5 := s.1 0 10)) kV_RX11_109 (by decide) (by decide) rfl rfl rfl rfl (Nat.le_of_ble_eq_true rfl) dX11_fact_72 (fun v2 s3 => ?_)
        exact hf_iret g dX11_fact_75 rfl
      · refine hf_iconst (v := -1) gc dX11_fact_52 (by decide) ?_
        exact hf_iret g dX11_fact_53 rfl
set_option maxHeartbeats 2000000 in
set_option maxRecDepth 20000 in
theorem xc_hf_fact_b28 {x : hf_Cx} {ad : Nat → Nat} {cA : Nat → ClassId} {E : State → Prop} {A : Nat → Prop} {l0 : Launch} {D0 : va_G} (g : hf_G x hcT ad cA E A l0 D0 cX11_fact 7 RX11 (some .int) 2) (s : hf_St) (l1 : Int32) (l2 : Int32) (l3 : Int32) (l4 : Int32) (l5 : Int32) : hf_X x A 7 (0, 0) (hf_Q x hcT ad cA A hf_ri) (Fc_hf_fact_b28 s l1 l2 l3 l4 l5) (hf_wd hcT ad cA s) 28 [(0, .ref (ad 0)), (1, .int l1), (2, .int l2), (3, .int l3), (4, .int l4), (5, .int l5)] [] := by
  have gc := g.1
  unfold Fc_hf_fact_b28
  refine hf_iconst (v := 0) gc dX11_fact_28 (by decide) ?_
  exact xc_hf_fact_b29 g _ _ _ _ _ _ _
set_option maxHeartbeats 2000000 in
set_option maxRecDepth 20000 in
theorem xc_hf_fact {x : hf_Cx} {ad : Nat → Nat} {cA : Nat → ClassId} {E : State → Prop} {A : Nat → Prop} {l0 : Launch} {D0 : va_G} (g : hf_G x hcT ad cA E A l0 D0 cX11_fact 7 RX11 (some .int) 2) {s : hf_St} {a1 : Int32} {a2 : Int32} {a3 : Int32} {a4 : Int32} {a5 : Int32} : hf_X x A 7 (0, 0) (hf_Q x hcT ad cA A hf_ri) (Fc_hf_fact s a1 a2 a3 a4 a5) (hf_wd hcT ad cA s) 0 [(0, .ref (ad 0)), (1, .int a1), (2, .int a2), (3, .int a3), (4, .int a4), (5, .int a5)] [] := by
  have gc := g.1
  unfold Fc_hf_fact
  refine hf_aload_n (i := 0) (q := 0) gc dX11_fact_0 rfl rfl ?_
  refine hf_iload_n (i := 1) (q := 1) gc dX11_fact_1 rfl rfl ?_
  refine hf_iload_n (i := 2) (q := 2) gc dX11_fact_2 rfl rfl ?_
  refine hf_callV1 (j := 0) g (cc_hf_isThere (a1 := a1) (a2 := a2)) kV_RX11_98 (by decide) (by decide) rfl rfl rfl rfl (Nat.le_of_ble_eq_true rfl) dX11_fact_3 (fun v1 => ?_)
  refine hf_if_eq (tgt := 28) gc dX11_fact_6 (by decide) ?_ ?_
  · exact xc_hf_fact_b28 g _ _ _ _ _ _
  · refine hf_iload_n (i := 3) (q := 3) gc dX11_fact_9 rfl rfl ?_
    refine hf_callS1 g (cc_hf_isField (a1 := a3)) kS_RX11_102 (by decide) (by decide) rfl rfl (Nat.le_of_ble_eq_true rfl) dX11_fact_10 (fun v2 => ?_)
    refine hf_if_eq (tgt := 28) gc dX11_fact_13 (by decide) ?_ ?_
    · exact xc_hf_fact_b28 g _ _ _ _ _ _
    · refine hf_iload (i := 5) (q := 5) gc dX11_fact_16 rfl ?_
      refine hf_callS1 g (cc_hf_isDay (a1 := a5)) kS_RX11_89 (by decide) (by decide) rfl rfl (Nat.le_of_ble_eq_true rfl) dX11_fact_18 (fun v3 => ?_)
      refine hf_if_eq (tgt := 28) gc dX11_fact_21 (by decide) ?_ ?_
      · exact xc_hf_fact_b28 g _ _ _ _ _ _
      · refine hf_iconst (v := 1) gc dX11_fact_24 (by decide) ?_
        refine hf_goto (tgt := 29) gc dX11_fact_25 (by decide) ?_
        exact xc_hf_fact_b29 g _ _ _ _ _ _ _
theorem cc_hf_fact {l0 : Launch} {D0 : va_G} {ad : Nat → Nat} {cA : Nat → ClassId} {E : State → Prop} {s : hf_St} {a1 : Int32} {a2 : Int32} {a3 : Int32} {a4 : Int32} {a5 : Int32} : hf_Ct l0 D0 hcT ad cA E 2 yX11_fact cX11_fact 7 (some .int) [.ref (ad 0), .int a1, .int a2, .int a3, .int a4, .int a5] s (Fc_hf_fact s a1 a2 a3 a4 a5) hf_ri := hf_met (by decide) (Nat.le_of_ble_eq_true rfl) (fun _ _ g => xc_hf_fact g)
set_option maxHeartbeats 2000000 in
set_option maxRecDepth 20000 in
theorem xc_facts_numberOn_b57 {x : hf_Cx} {ad : Nat → Nat} {cA : Nat → ClassId} {E : State → Prop} {A : Nat → Prop} {l0 : Launch} {D0 : va_G} {s : hf_St} {k9 : Int32 → Int32 → Int32 → Int32 → Int32 → Int32 → Int32 → Option Int32} (g : hf_G x hcT ad cA E A l0 D0 cX1_numberOn 9 RX1 (some .int) 0) (hk9 : ∀ (l1 : Int32) (l2 : Int32) (l3 : Int32) (l4 : Int32) (l5 : Int32) (l6 : Int32) (l7 : Int32), hf_X x A 9 (0, 0) (hf_Q x hcT ad cA A (hf_rp s)) (k9 l1 l2 l3 l4 l5 l6 l7) (hf_wd hcT ad cA s) 9 [(0, .ref (ad 4)), (1, .int l1), (2, .int l2), (3, .int l3), (4, .int l4), (5, .int l5), (6, .int l6), (7, .int l7)] []) (l1 : Int32) (l2 : Int32) (l3 : Int32) (l4 : Int32) (l5 : Int32) (l6 : Int32) (l7 : Int32) (t0 : Int32) : hf_X x A 9 (0, 0) (hf_Q x hcT ad cA A (hf_rp s)) (Fc_facts_numberOn_b57 s k9 l1 l2 l3 l4 l5 l6 l7 t0) (hf_wd hcT ad cA s) 57 [(0, .ref (ad 4)), (1, .int l1), (2, .int l2), (3, .int l3), (4, .int l4), (5, .int l5), (6, .int l6), (7, .int l7)] [.int t0] := by
  have gc := g.1
  unfold Fc_facts_numberOn_b57
  refine hf_istore (i := 8) (lv' := [(8, .int t0), (0, .ref (ad 4)), (1, .int l1), (2, .int l2), (3, .int l3), (4, .int l4), (5, .int l5), (6, .int l6), (7, .int l7)]) gc dX1_numberOn_57 (by decide) rfl ?_
  refine hf_iload (i := 8) (q := 0) gc dX1_numberOn_59 rfl ?_
  refine hf_if_eq (tgt := 105) gc dX1_numberOn_61 (by decide) ?_ ?_
  · refine hf_iinc (q := 8) (v' := l7 + (1 : Int32)) (lv' := [(7, .int (l7 + (1 : Int32))), (8, .int t0), (0, .ref (ad 4)), (1, .int l1), (2, .int l2), (3, .int l3), (4, .int l4), (5, .int l5), (6, .int l6)]) gc dX1_numberOn_105 rfl rfl (by decide) rfl ?_
    refine hf_goto (tgt := 9) gc dX1_numberOn_108 (by decide) ?_
    refine hf_sub (lv' := [(0, .ref (ad 4)), (1, .int l1), (2, .int l2), (3, .int l3), (4, .int l4), (5, .int l5), (6, .int l6), (7, .int (l7 + (1 : Int32)))]) [2, 3, 4, 5, 6, 7, 8, 0] rfl ?_
    exact hk9 _ _ _ _ _ _ _
  · refine hf_aload_n (i := 0) (q := 1) gc dX1_numberOn_64 rfl rfl ?_
    refine hf_getR (j := 4) (k := 3) (r := 26) g rfl rfl kF_RX1_21 dX1_numberOn_65 ?_
    refine hf_iload (i := 7) (q := 8) gc dX1_numberOn_68 rfl ?_
    refine hf_iald (a := 13) (r := 26) (n := 100) g rfl rfl dX1_numberOn_70 ?_
    refine hf_iload_n (i := 3) (q := 4) gc dX1_numberOn_71 rfl rfl ?_
    refine hf_icmp_gt (tgt := 105) gc dX1_numberOn_72 (by decide) ?_ ?_
    · refine hf_iinc (q := 8) (v' := l7 + (1 : Int32)) (lv' := [(7, .int (l7 + (1 : Int32))), (8, .int t0), (0, .ref (ad 4)), (1, .int l1), (2, .int l2), (3, .int l3), (4, .int l4), (5, .int l5), (6, .int l6)]) gc dX1_numberOn_105 rfl rfl (by decide) rfl ?_
      refine hf_goto (tgt := 9) gc dX1_numberOn_108 (by decide) ?_
      refine hf_sub (lv' := [(0, .ref (ad 4)), (1, .int l1), (2, .int l2), (3, .int l3), (4, .int l4), (5, .int l5), (6, .int l6), (7, .int (l7 + (1 : Int32)))]) [2, 3, 4, 5, 6, 7, 8, 0] rfl ?_
      exact hk9 _ _ _ _ _ _ _
    · refine hf_aload_n (i := 0) (q := 1) gc dX1_numberOn_75 rfl rfl ?_
      refine hf_getR (j := 4) (k := 3) (r := 26) g rfl rfl kF_RX1_21 dX1_numberOn_76 ?_
      refine hf_iload (i := 7) (q := 8) gc dX1_numberOn_79 rfl ?_
      refine hf_iald (a := 13) (r := 26) (n := 100) g rfl rfl dX1_numberOn_81 ?_
      refine hf_iload (i := 6) (q := 7) gc dX1_numberOn_82 rfl ?_
      refine hf_icmp_lt (tgt := 105) gc dX1_numberOn_84 (by decide) ?_ ?_
      · refine hf_iinc (q := 8) (v' := l7 + (1 : Int32)) (lv' := [(7, .int (l7 + (1 : Int32))), (8, .int t0), (0, .ref (ad 4)), (1, .int l1), (2, .int l2), (3, .int l3), (4, .int l4), (5, .int l5), (6, .int l6)]) gc dX1_numberOn_105 rfl rfl (by decide) rfl ?_
        refine hf_goto (tgt := 9) gc dX1_numberOn_108 (by decide) ?_
        refine hf_sub (lv' := [(0, .ref (ad 4)), (1, .int l1), (2, .int l2), (3, .int l3), (4, .int l4), (5, .int l5), (6, .int l6), (7, .int (l7 + (1 : Int32)))]) [2, 3, 4, 5, 6, 7, 8, 0] rfl ?_
        exact hk9 _ _ _ _ _ _ _
      · refine hf_aload_n (i := 0) (q := 1) gc dX1_numberOn_87 rfl rfl ?_
        refine hf_getR (j := 4) (k := 2) (r := 25) g rfl rfl kF_RX1_18 dX1_numberOn_88 ?_
        refine hf_iload (i := 7) (q := 8) gc dX1_numberOn_91 rfl ?_
        refine hf_iald (a := 12) (r := 25) (n := 100) g rfl rfl dX1_numberOn_93 ?_
        refine hf_let (fun v1 => ?_)
        refine hf_istore (i := 5) (lv' := [(5, .int v1), (8, .int t0), (0, .ref (ad 4)), (1, .int l1), (2, .int l2), (3, .int l3), (4, .int l4), (6, .int l6), (7, .int l7)]) gc dX1_numberOn_94 (by decide) rfl ?_
        refine hf_aload_n (i := 0) (q := 2) gc dX1_numberOn_96 rfl rfl ?_
        refine hf_getR (j := 4) (k := 3) (r := 26) g rfl rfl kF_RX1_21 dX1_numberOn_97 ?_
        refine hf_iload (i := 7) (q := 8) gc dX1_numberOn_100 rfl ?_
        refine hf_iald (a := 13) (r := 26) (n := 100) g rfl rfl dX1_numberOn_102 ?_
        refine hf_let (fun v2 => ?_)
        refine hf_istore (i := 6) (lv' := [(6, .int v2), (5, .int v1), (8, .int t0), (0, .ref (ad 4)), (1, .int l1), (2, .int l2), (3, .int l3), (4, .int l4), (7, .int l7)]) gc dX1_numberOn_103 (by decide) rfl ?_
        refine hf_iinc (q := 8) (v' := l7 + (1 : Int32)) (lv' := [(7, .int (l7 + (1 : Int32))), (6, .int v2), (5, .int v1), (8, .int t0), (0, .ref (ad 4)), (1, .int l1), (2, .int l2), (3, .int l3), (4, .int l4)]) gc dX1_numberOn_105 rfl rfl (by decide) rfl ?_
        refine hf_goto (tgt := 9) gc dX1_numberOn_108 (by decide) ?_
        refine hf_sub (lv' := [(0, .ref (ad 4)), (1, .int l1), (2, .int l2), (3, .int l3), (4, .int l4), (5, .int v1), (6, .int v2), (7, .int (l7 + (1 : Int32)))]) [4, 5, 6, 7, 8, 2, 1, 0] rfl ?_
        exact hk9 _ _ _ _ _ _ _
set_option maxHeartbeats 2000000 in
set_option maxRecDepth 20000 in
theorem xc_facts_numberOn_b56 {x : hf_Cx} {ad : Nat → Nat} {cA : Nat → ClassId} {E : State → Prop} {A : Nat → Prop} {l0 : Launch} {D0 : va_G} {s : hf_St} {k9 : Int32 → Int32 → Int32 → Int32 → Int32 → Int32 → Int32 → Option Int32} (g : hf_G x hcT ad cA E A l0 D0 cX1_numberOn 9 RX1 (some .int) 0) (hk9 : ∀ (l1 : Int32) (l2 : Int32) (l3 : Int32) (l4 : Int32) (l5 : Int32) (l6 : Int32) (l7 : Int32), hf_X x A 9 (0, 0) (hf_Q x hcT ad cA A (hf_rp s)) (k9 l1 l2 l3 l4 l5 l6 l7) (hf_wd hcT ad cA s) 9 [(0, .ref (ad 4)), (1, .int l1), (2, .int l2), (3, .int l3), (4, .int l4), (5, .int l5), (6, .int l6), (7, .int l7)] []) (l1 : Int32) (l2 : Int32) (l3 : Int32) (l4 : Int32) (l5 : Int32) (l6 : Int32) (l7 : Int32) : hf_X x A 9 (0, 0) (hf_Q x hcT ad cA A (hf_rp s)) (Fc_facts_numberOn_b56 s k9 l1 l2 l3 l4 l5 l6 l7) (hf_wd hcT ad cA s) 56 [(0, .ref (ad 4)), (1, .int l1), (2, .int l2), (3, .int l3), (4, .int l4), (5, .int l5), (6, .int l6), (7, .int l7)] [] := by
  have gc := g.1
  unfold Fc_facts_numberOn_b56
  refine hf_iconst (v := 0) gc dX1_numberOn_56 (by decide) ?_
  exact xc_facts_numberOn_b57 g hk9 _ _ _ _ _ _ _ _
set_option maxHeartbeats 2000000 in
set_option maxRecDepth 20000 in
theorem xc_facts_numberOn_l9 {x : hf_Cx} {ad : Nat → Nat} {cA : Nat → ClassId} {E : State → Prop} {A : Nat → Prop} {l0 : Launch} {D0 : va_G} {s : hf_St} (g : hf_G x hcT ad cA E A l0 D0 cX1_numberOn 9 RX1 (some .int) 0) : ∀ (n : Nat) (l1 : Int32) (l2 : Int32) (l3 : Int32) (l4 : Int32) (l5 : Int32) (l6 : Int32) (l7 : Int32), hf_X x A 9 (0, 0) (hf_Q x hcT ad cA A (hf_rp s)) (Fc_facts_numberOn_l9 s n l1 l2 l3 l4 l5 l6 l7) (hf_wd hcT ad cA s) 9 [(0, .ref (ad 4)), (1, .int l1), (2, .int l2), (3, .int l3), (4, .int l4), (5, .int l5), (6, .int l6), (7, .int l7)] [] := by
  have gc := g.1
  intro n
  induction n with
  | zero => intro l1 l2 l3 l4 l5 l6 l7; exact hf_none
  | succ n ih =>
    intro l1 l2 l3 l4 l5 l6 l7
    rw [Fc_facts_numberOn_l9]
    refine hf_iload (i := 7) (q := 7) gc dX1_numberOn_9 rfl ?_
    refine hf_aload_n (i := 0) (q := 0) gc dX1_numberOn_11 rfl rfl ?_
    refine hf_getI (j := 4) (k := 5) g rfl rfl kF_RX1_27 dX1_numberOn_12 ?_
    refine hf_icmp_ge (tgt := 111) gc dX1_numberOn_15 (by decide) ?_ ?_
    · refine hf_iload (i := 5) (q := 5) gc dX1_numberOn_111 rfl ?_
      exact hf_iret g dX1_numberOn_113 rfl
    · refine hf_aload_n (i := 0) (q := 0) gc dX1_numberOn_18 rfl rfl ?_
      refine hf_getR (j := 4) (k := 0) (r := 23) g rfl rfl kF_RX1_9 dX1_numberOn_19 ?_
      refine hf_iload (i := 7) (q := 7) gc dX1_numberOn_22 rfl ?_
      refine hf_iald (a := 10) (r := 23) (n := 100) g rfl rfl dX1_numberOn_24 ?_
      refine hf_iload_n (i := 1) (q := 1) gc dX1_numberOn_25 rfl rfl ?_
      refine hf_icmp_ne (tgt := 56) gc dX1_numberOn_26 (by decide) ?_ ?_
      · exact xc_facts_numberOn_b56 g (fun z0 z1 z2 z3 z4 z5 z6 => ih z0 z1 z2 z3 z4 z5 z6) _ _ _ _ _ _ _
      · refine hf_aload_n (i := 0) (q := 0) gc dX1_numberOn_29 rfl rfl ?_
        refine hf_getR (j := 4) (k := 1) (r := 24) g rfl rfl kF_RX1_15 dX1_numberOn_30 ?_
        refine hf_iload (i := 7) (q := 7) gc dX1_numberOn_33 rfl ?_
        refine hf_iald (a := 11) (r := 24) (n := 100) g rfl rfl dX1_numberOn_35 ?_
        refine hf_iload_n (i := 2) (q := 2) gc dX1_numberOn_36 rfl rfl ?_
        refine hf_icmp_ne (tgt := 56) gc dX1_numberOn_37 (by decide) ?_ ?_
        · exact xc_facts_numberOn_b56 g (fun z0 z1 z2 z3 z4 z5 z6 => ih z0 z1 z2 z3 z4 z5 z6) _ _ _ _ _ _ _
        · refine hf_aload_n (i := 0) (q := 0) gc dX1_numberOn_40 rfl rfl ?_
          refine hf_getR (j := 4) (k := 4) (r := 27) g rfl rfl kF_RX1_24 dX1_numberOn_41 ?_
          refine hf_iload (i := 7) (q := 7) gc dX1_numberOn_44 rfl ?_
          refine hf_iald (a := 14) (r := 27) (n := 100) g rfl rfl dX1_numberOn_46 ?_
          refine hf_iload (i := 4) (q := 4) gc dX1_numberOn_47 rfl ?_
          refine hf_icmp_gt (tgt := 56) gc dX1_numberOn_49 (by decide) ?_ ?_
          · exact xc_facts_numberOn_b56 g (fun z0 z1 z2 z3 z4 z5 z6 => ih z0 z1 z2 z3 z4 z5 z6) _ _ _ _ _ _ _
          · refine hf_iconst (v := 1) gc dX1_numberOn_52 (by decide) ?_
            refine hf_goto (tgt := 57) gc dX1_numberOn_53 (by decide) ?_
            exact xc_facts_numberOn_b57 g (fun z0 z1 z2 z3 z4 z5 z6 => ih z0 z1 z2 z3 z4 z5 z6) _ _ _ _ _ _ _ _
set_option maxHeartbeats 2000000 in
set_option maxRecDepth 20000 in
theorem xc_facts_numberOn {x : hf_Cx} {ad : Nat → Nat} {cA : Nat → ClassId} {E : State → Prop} {A : Nat → Prop} {l0 : Launch} {D0 : va_G} (g : hf_G x hcT ad cA E A l0 D0 cX1_numberOn 9 RX1 (some .int) 0) {s : hf_St} {a1 : Int32} {a2 : Int32} {a3 : Int32} {a4 : Int32} : hf_X x A 9 (0, 0) (hf_Q x hcT ad cA A (hf_rp s)) (Fc_facts_numberOn s a1 a2 a3 a4) (hf_wd hcT ad cA s) 0 [(0, .ref (ad 4)), (1, .int a1), (2, .int a2), (3, .int a3), (4, .int a4)] [] := by
  have gc := g.1
  unfold Fc_facts_numberOn
  refine hf_iconst (v := 0) gc dX1_numberOn_0 (by decide) ?_
  refine hf_istore (i := 5) (lv' := [(5, .int ((0 : Int32))), (0, .ref (ad 4)), (1, .int a1), (2, .int a2), (3, .int a3), (4, .int a4)]) gc dX1_numberOn_1 (by decide) rfl ?_
  refine hf_iconst (v := -1) gc dX1_numberOn_3 (by decide) ?_
  refine hf_istore (i := 6) (lv' := [(6, .int ((-1 : Int32))), (5, .int ((0 : Int32))), (0, .ref (ad 4)), (1, .int a1), (2, .int a2), (3, .int a3), (4, .int a4)]) gc dX1_numberOn_4 (by decide) rfl ?_
  refine hf_iconst (v := 0) gc dX1_numberOn_6 (by decide) ?_
  refine hf_istore (i := 7) (lv' := [(7, .int ((0 : Int32))), (6, .int ((-1 : Int32))), (5, .int ((0 : Int32))), (0, .ref (ad 4)), (1, .int a1), (2, .int a2), (3, .int a3), (4, .int a4)]) gc dX1_numberOn_7 (by decide) rfl ?_
  refine hf_sub (lv' := [(0, .ref (ad 4)), (1, .int a1), (2, .int a2), (3, .int a3), (4, .int a4), (5, .int ((0 : Int32))), (6, .int ((-1 : Int32))), (7, .int ((0 : Int32)))]) [3, 4, 5, 6, 7, 2, 1, 0] rfl ?_
  exact xc_facts_numberOn_l9 g hf_fuel _ _ _ _ _ _ _
theorem cc_facts_numberOn {l0 : Launch} {D0 : va_G} {ad : Nat → Nat} {cA : Nat → ClassId} {E : State → Prop} {s : hf_St} {a1 : Int32} {a2 : Int32} {a3 : Int32} {a4 : Int32} : hf_Ct l0 D0 hcT ad cA E 0 yX1_numberOn cX1_numberOn 9 (some .int) [.ref (ad 4), .int a1, .int a2, .int a3, .int a4] s (Fc_facts_numberOn s a1 a2 a3 a4) (hf_rp s) := hf_met (by decide) (Nat.le_of_ble_eq_true rfl) (fun _ _ g => xc_facts_numberOn g)
set_option maxHeartbeats 2000000 in
set_option maxRecDepth 20000 in
theorem xc_hf_value {x : hf_Cx} {ad : Nat → Nat} {cA : Nat → ClassId} {E : State → Prop} {A : Nat → Prop} {l0 : Launch} {D0 : va_G} (g : hf_G x hcT ad cA E A l0 D0 cX11_value 6 RX11 (some .int) 2) {s : hf_St} {a1 : Int32} {a2 : Int32} {a3 : Int32} {a4 : Int32} {a5 : Int32} : hf_X x A 6 (0, 0) (hf_Q x hcT ad cA A (hf_rp s)) (Fc_hf_value s a1 a2 a3 a4 a5) (hf_wd hcT ad cA s) 0 [(0, .ref (ad 0)), (1, .int a1), (2, .int a2), (3, .int a3), (4, .int a4), (5, .int a5)] [] := by
  have gc := g.1
  unfold Fc_hf_value
  refine hf_aload_n (i := 0) (q := 0) gc dX11_value_0 rfl rfl ?_
  refine hf_iload_n (i := 1) (q := 1) gc dX11_value_1 rfl rfl ?_
  refine hf_iload_n (i := 2) (q := 2) gc dX11_value_2 rfl rfl ?_
  refine hf_callV1 (j := 0) g (cc_hf_isThere (a1 := a1) (a2 := a2)) kV_RX11_98 (by decide) (by decide) rfl rfl rfl rfl (Nat.le_of_ble_eq_true rfl) dX11_value_3 (fun v1 => ?_)
  refine hf_if_eq (tgt := 32) gc dX11_value_6 (by decide) ?_ ?_
  · refine hf_sipush (v := -1000) gc dX11_value_32 (by decide) ?_
    exact hf_iret g dX11_value_35 rfl
  · refine hf_iload_n (i := 3) (q := 3) gc dX11_value_9 rfl rfl ?_
    refine hf_callS1 g (cc_hf_isField (a1 := a3)) kS_RX11_102 (by decide) (by decide) rfl rfl (Nat.le_of_ble_eq_true rfl) dX11_value_10 (fun v2 => ?_)
    refine hf_if_eq (tgt := 32) gc dX11_value_13 (by decide) ?_ ?_
    · refine hf_sipush (v := -1000) gc dX11_value_32 (by decide) ?_
      exact hf_iret g dX11_value_35 rfl
    · refine hf_iload (i := 4) (q := 4) gc dX11_value_16 rfl ?_
      refine hf_callS1 g (cc_hf_isDay (a1 := a4)) kS_RX11_89 (by decide) (by decide) rfl rfl (Nat.le_of_ble_eq_true rfl) dX11_value_18 (fun v3 => ?_)
      refine hf_if_eq (tgt := 32) gc dX11_value_21 (by decide) ?_ ?_
      · refine hf_sipush (v := -1000) gc dX11_value_32 (by decide) ?_
        exact hf_iret g dX11_value_35 rfl
      · refine hf_iload (i := 5) (q := 5) gc dX11_value_24 rfl ?_
        refine hf_callS1 g (cc_hf_isDay (a1 := a5)) kS_RX11_89 (by decide) (by decide) rfl rfl (Nat.le_of_ble_eq_true rfl) dX11_value_26 (fun v4 => ?_)
        refine hf_if_ne (tgt := 36) gc dX11_value_29 (by decide) ?_ ?_
        · refine hf_aload_n (i := 0) (q := 0) gc dX11_value_36 rfl rfl ?_
          refine hf_getR (j := 0) (k := 3) (r := 4) g rfl rfl kF_RX11_33 dX11_value_37 ?_
          refine hf_iload_n (i := 1) (q := 1) gc dX11_value_40 rfl rfl ?_
          refine hf_iload_n (i := 3) (q := 3) gc dX11_value_41 rfl rfl ?_
          refine hf_callS1 g (cc_hf_slotOf (a1 := a1) (a2 := a3)) kS_RX11_105 (by decide) (by decide) rfl rfl (Nat.le_of_ble_eq_true rfl) dX11_value_42 (fun v5 => ?_)
          refine hf_iload_n (i := 2) (q := 2) gc dX11_value_45 rfl rfl ?_
          refine hf_iload (i := 4) (q := 4) gc dX11_value_46 rfl ?_
          refine hf_iload (i := 5) (q := 5) gc dX11_value_48 rfl ?_
          refine hf_callV1 (j := 4) g (cc_facts_numberOn (a1 := v5) (a2 := a2) (a3 := a4) (a4 := a5)) kV_RX11_112 (by decide) (by decide) rfl rfl rfl rfl (Nat.le_of_ble_eq_true rfl) dX11_value_50 (fun v6 => ?_)
          exact hf_iret g dX11_value_53 rfl
        · refine hf_sipush (v := -1000) gc dX11_value_32 (by decide) ?_
          exact hf_iret g dX11_value_35 rfl
theorem cc_hf_value {l0 : Launch} {D0 : va_G} {ad : Nat → Nat} {cA : Nat → ClassId} {E : State → Prop} {s : hf_St} {a1 : Int32} {a2 : Int32} {a3 : Int32} {a4 : Int32} {a5 : Int32} : hf_Ct l0 D0 hcT ad cA E 2 yX11_value cX11_value 6 (some .int) [.ref (ad 0), .int a1, .int a2, .int a3, .int a4, .int a5] s (Fc_hf_value s a1 a2 a3 a4 a5) (hf_rp s) := hf_met (by decide) (Nat.le_of_ble_eq_true rfl) (fun _ _ g => xc_hf_value g)
set_option maxHeartbeats 2000000 in
set_option maxRecDepth 20000 in
theorem xc_papers_add {x : hf_Cx} {ad : Nat → Nat} {cA : Nat → ClassId} {E : State → Prop} {A : Nat → Prop} {l0 : Launch} {D0 : va_G} (g : hf_G x hcT ad cA E A l0 D0 cX4_add 4 RX4 (some .int) 0) {s : hf_St} {a1 : Int32} {a2 : Int32} {a3 : Int32} : hf_X x A 4 (0, 0) (hf_Q x hcT ad cA A hf_ri) (Fc_papers_add s a1 a2 a3) (hf_wd hcT ad cA s) 0 [(0, .ref (ad 3)), (1, .int a1), (2, .int a2), (3, .int a3)] [] := by
  have gc := g.1
  unfold Fc_papers_add
  refine hf_aload_n (i := 0) (q := 0) gc dX4_add_0 rfl rfl ?_
  refine hf_getI (j := 3) (k := 3) g rfl rfl kF_RX4_21 dX4_add_1 ?_
  refine hf_bipush (v := 30) gc dX4_add_4 (by decide) ?_
  refine hf_icmp_lt (tgt := 11) gc dX4_add_6 (by decide) ?_ ?_
  · refine hf_aload_n (i := 0) (q := 0) gc dX4_add_11 rfl rfl ?_
    refine hf_getR (j := 3) (k := 0) (r := 20) g rfl rfl kF_RX4_9 dX4_add_12 ?_
    refine hf_aload_n (i := 0) (q := 0) gc dX4_add_15 rfl rfl ?_
    refine hf_getI (j := 3) (k := 3) g rfl rfl kF_RX4_21 dX4_add_16 ?_
    refine hf_iload_n (i := 1) (q := 1) gc dX4_add_19 rfl rfl ?_
    refine hf_iast (a := 7) (r := 20) (n := 30) g rfl rfl dX4_add_20 (fun s1 => ?_)
    refine hf_aload_n (i := 0) (q := 0) gc dX4_add_21 rfl rfl ?_
    refine hf_getR (j := 3) (k := 1) (r := 21) g rfl rfl kF_RX4_15 dX4_add_22 ?_
    refine hf_aload_n (i := 0) (q := 0) gc dX4_add_25 rfl rfl ?_
    refine hf_getI (j := 3) (k := 3) g rfl rfl kF_RX4_21 dX4_add_26 ?_
    refine hf_iload_n (i := 2) (q := 2) gc dX4_add_29 rfl rfl ?_
    refine hf_iast (a := 8) (r := 21) (n := 30) g rfl rfl dX4_add_30 (fun s2 => ?_)
    refine hf_aload_n (i := 0) (q := 0) gc dX4_add_31 rfl rfl ?_
    refine hf_getR (j := 3) (k := 2) (r := 22) g rfl rfl kF_RX4_18 dX4_add_32 ?_
    refine hf_aload_n (i := 0) (q := 0) gc dX4_add_35 rfl rfl ?_
    refine hf_getI (j := 3) (k := 3) g rfl rfl kF_RX4_21 dX4_add_36 ?_
    refine hf_iload_n (i := 3) (q := 3) gc dX4_add_39 rfl rfl ?_
    refine hf_iast (a := 9) (r := 22) (n := 30) g rfl rfl dX4_add_40 (fun s3 => ?_)
    refine hf_aload_n (i := 0) (q := 0) gc dX4_add_41 rfl rfl ?_
    refine hf_dup gc dX4_add_42 rfl ?_
    refine hf_getI (j := 3) (k := 3) g rfl rfl kF_RX4_21 dX4_add_43 ?_
    refine hf_iconst (v := 1) gc dX4_add_46 (by decide) ?_
    refine hf_iadd gc dX4_add_47 ?_
    refine hf_putI (j := 3) (k := 3) g rfl rfl kP_RX4_21 rfl rfl dX4_add_48 (fun s4 => ?_)
    refine hf_aload_n (i := 0) (q := 0) gc dX4_add_51 rfl rfl ?_
    refine hf_getI (j := 3) (k := 3) g rfl rfl kF_RX4_21 dX4_add_52 ?_
    refine hf_iconst (v := 1) gc dX4_add_55 (by decide) ?_
    refine hf_isub gc dX4_add_56 ?_
    exact hf_iret g dX4_add_57 rfl
  · refine hf_iconst (v := -1) gc dX4_add_9 (by decide) ?_
    exact hf_iret g dX4_add_10 rfl
theorem cc_papers_add {l0 : Launch} {D0 : va_G} {ad : Nat → Nat} {cA : Nat → ClassId} {E : State → Prop} {s : hf_St} {a1 : Int32} {a2 : Int32} {a3 : Int32} : hf_Ct l0 D0 hcT ad cA E 0 yX4_add cX4_add 4 (some .int) [.ref (ad 3), .int a1, .int a2, .int a3] s (Fc_papers_add s a1 a2 a3) hf_ri := hf_met (by decide) (Nat.le_of_ble_eq_true rfl) (fun _ _ g => xc_papers_add g)
set_option maxHeartbeats 2000000 in
set_option maxRecDepth 20000 in
theorem xc_hf_paper {x : hf_Cx} {ad : Nat → Nat} {cA : Nat → ClassId} {E : State → Prop} {A : Nat → Prop} {l0 : Launch} {D0 : va_G} (g : hf_G x hcT ad cA E A l0 D0 cX11_paper 4 RX11 (some .int) 1) {s : hf_St} {a1 : Int32} {a2 : Int32} {a3 : Int32} : hf_X x A 4 (0, 0) (hf_Q x hcT ad cA A hf_ri) (Fc_hf_paper s a1 a2 a3) (hf_wd hcT ad cA s) 0 [(0, .ref (ad 0)), (1, .int a1), (2, .int a2), (3, .int a3)] [] := by
  have gc := g.1
  unfold Fc_hf_paper
  refine hf_aload_n (i := 0) (q := 0) gc dX11_paper_0 rfl rfl ?_
  refine hf_getR (j := 0) (k := 1) (r := 2) g rfl rfl kF_RX11_19 dX11_paper_1 ?_
  refine hf_iload_n (i := 1) (q := 1) gc dX11_paper_4 rfl rfl ?_
  refine hf_callV1 (j := 2) g (cc_homes_has (a1 := a1)) kV_RX11_116 (by decide) (by decide) rfl rfl rfl rfl (Nat.le_of_ble_eq_true rfl) dX11_paper_5 (fun v1 => ?_)
  refine hf_if_eq (tgt := 30) gc dX11_paper_8 (by decide) ?_ ?_
  · refine hf_iconst (v := -1) gc dX11_paper_30 (by decide) ?_
    exact hf_iret g dX11_paper_31 rfl
  · refine hf_iload_n (i := 2) (q := 2) gc dX11_paper_11 rfl rfl ?_
    refine hf_callS1 g (cc_hf_isDay (a1 := a2)) kS_RX11_89 (by decide) (by decide) rfl rfl (Nat.le_of_ble_eq_true rfl) dX11_paper_12 (fun v2 => ?_)
    refine hf_if_eq (tgt := 30) gc dX11_paper_15 (by decide) ?_ ?_
    · refine hf_iconst (v := -1) gc dX11_paper_30 (by decide) ?_
      exact hf_iret g dX11_paper_31 rfl
    · refine hf_iload_n (i := 3) (q := 3) gc dX11_paper_18 rfl rfl ?_
      refine hf_callS1 g (cc_hf_isDay (a1 := a3)) kS_RX11_89 (by decide) (by decide) rfl rfl (Nat.le_of_ble_eq_true rfl) dX11_paper_19 (fun v3 => ?_)
      refine hf_if_eq (tgt := 30) gc dX11_paper_22 (by decide) ?_ ?_
      · refine hf_iconst (v := -1) gc dX11_paper_30 (by decide) ?_
        exact hf_iret g dX11_paper_31 rfl
      · refine hf_iload_n (i := 2) (q := 2) gc dX11_paper_25 rfl rfl ?_
        refine hf_iload_n (i := 3) (q := 3) gc dX11_paper_26 rfl rfl ?_
        refine hf_icmp_le (tgt := 32) gc dX11_paper_27 (by decide) ?_ ?_
        · refine hf_aload_n (i := 0) (q := 0) gc dX11_paper_32 rfl rfl ?_
          refine hf_getR (j := 0) (k := 2) (r := 3) g rfl rfl kF_RX11_26 dX11_paper_33 ?_
          refine hf_iload_n (i := 1) (q := 1) gc dX11_paper_36 rfl rfl ?_
          refine hf_iload_n (i := 2) (q := 2) gc dX11_paper_37 rfl rfl ?_
          refine hf_iload_n (i := 3) (q := 3) gc dX11_paper_38 rfl rfl ?_
          refine hf_callV2 (j := 3) g (cc_papers_add (a1 := a1) (a2 := a2) (a3 := a3)) kV_RX11_119 (by decide) (by decide) rfl rfl rfl rfl (Nat.le_of_ble_eq_true rfl) dX11_paper_39 (fun v4 s5 => ?_)
          exact hf_iret g dX11_paper_42 rfl
        · refine hf_iconst (v := -1) gc dX11_paper_30 (by decide) ?_
          exact hf_iret g dX11_paper_31 rfl
theorem cc_hf_paper {l0 : Launch} {D0 : va_G} {ad : Nat → Nat} {cA : Nat → ClassId} {E : State → Prop} {s : hf_St} {a1 : Int32} {a2 : Int32} {a3 : Int32} : hf_Ct l0 D0 hcT ad cA E 1 yX11_paper cX11_paper 4 (some .int) [.ref (ad 0), .int a1, .int a2, .int a3] s (Fc_hf_paper s a1 a2 a3) hf_ri := hf_met (by decide) (Nat.le_of_ble_eq_true rfl) (fun _ _ g => xc_hf_paper g)
set_option maxHeartbeats 2000000 in
set_option maxRecDepth 20000 in
theorem xc_papers_latestEnd_l5 {x : hf_Cx} {ad : Nat → Nat} {cA : Nat → ClassId} {E : State → Prop} {A : Nat → Prop} {l0 : Launch} {D0 : va_G} {s : hf_St} (g : hf_G x hcT ad cA E A l0 D0 cX4_latestEnd 5 RX4 (some .int) 1) : ∀ (n : Nat) (l1 : Int32) (l2 : Int32) (l3 : Int32) (l4 : Int32), hf_X x A 5 (0, 0) (hf_Q x hcT ad cA A (hf_rp s)) (Fc_papers_latestEnd_l5 s n l1 l2 l3 l4) (hf_wd hcT ad cA s) 5 [(0, .ref (ad 3)), (1, .int l1), (2, .int l2), (3, .int l3), (4, .int l4)] [] := by
  have gc := g.1
  intro n
  induction n with
  | zero => intro l1 l2 l3 l4; exact hf_none
  | succ n ih =>
    intro l1 l2 l3 l4
    rw [Fc_papers_latestEnd_l5]
    refine hf_iload (i := 4) (q := 4) gc dX4_latestEnd_5 rfl ?_
    refine hf_aload_n (i := 0) (q := 0) gc dX4_latestEnd_7 rfl rfl ?_
    refine hf_getI (j := 3) (k := 3) g rfl rfl kF_RX4_21 dX4_latestEnd_8 ?_
    refine hf_icmp_ge (tgt := 65) gc dX4_latestEnd_11 (by decide) ?_ ?_
    · refine hf_iload_n (i := 3) (q := 3) gc dX4_latestEnd_65 rfl rfl ?_
      exact hf_iret g dX4_latestEnd_66 rfl
    · refine hf_aload_n (i := 0) (q := 0) gc dX4_latestEnd_14 rfl rfl ?_
      refine hf_getR (j := 3) (k := 0) (r := 20) g rfl rfl kF_RX4_9 dX4_latestEnd_15 ?_
      refine hf_iload (i := 4) (q := 4) gc dX4_latestEnd_18 rfl ?_
      refine hf_iald (a := 7) (r := 20) (n := 30) g rfl rfl dX4_latestEnd_20 ?_
      refine hf_iload_n (i := 1) (q := 1) gc dX4_latestEnd_21 rfl rfl ?_
      refine hf_icmp_ne (tgt := 59) gc dX4_latestEnd_22 (by decide) ?_ ?_
      · refine hf_iinc (q := 4) (v' := l4 + (1 : Int32)) (lv' := [(4, .int (l4 + (1 : Int32))), (0, .ref (ad 3)), (1, .int l1), (2, .int l2), (3, .int l3)]) gc dX4_latestEnd_59 rfl rfl (by decide) rfl ?_
        refine hf_goto (tgt := 5) gc dX4_latestEnd_62 (by decide) ?_
        refine hf_sub (lv' := [(0, .ref (ad 3)), (1, .int l1), (2, .int l2), (3, .int l3), (4, .int (l4 + (1 : Int32)))]) [1, 2, 3, 4, 0] rfl ?_
        exact ih _ _ _ _
      · refine hf_aload_n (i := 0) (q := 0) gc dX4_latestEnd_25 rfl rfl ?_
        refine hf_getR (j := 3) (k := 1) (r := 21) g rfl rfl kF_RX4_15 dX4_latestEnd_26 ?_
        refine hf_iload (i := 4) (q := 4) gc dX4_latestEnd_29 rfl ?_
        refine hf_iald (a := 8) (r := 21) (n := 30) g rfl rfl dX4_latestEnd_31 ?_
        refine hf_iload_n (i := 2) (q := 2) gc dX4_latestEnd_32 rfl rfl ?_
        refine hf_icmp_gt (tgt := 59) gc dX4_latestEnd_33 (by decide) ?_ ?_
        · refine hf_iinc (q := 4) (v' := l4 + (1 : Int32)) (lv' := [(4, .int (l4 + (1 : Int32))), (0, .ref (ad 3)), (1, .int l1), (2, .int l2), (3, .int l3)]) gc dX4_latestEnd_59 rfl rfl (by decide) rfl ?_
          refine hf_goto (tgt := 5) gc dX4_latestEnd_62 (by decide) ?_
          refine hf_sub (lv' := [(0, .ref (ad 3)), (1, .int l1), (2, .int l2), (3, .int l3), (4, .int (l4 + (1 : Int32)))]) [1, 2, 3, 4, 0] rfl ?_
          exact ih _ _ _ _
        · refine hf_iload_n (i := 2) (q := 2) gc dX4_latestEnd_36 rfl rfl ?_
          refine hf_aload_n (i := 0) (q := 0) gc dX4_latestEnd_37 rfl rfl ?_
          refine hf_getR (j := 3) (k := 2) (r := 22) g rfl rfl kF_RX4_18 dX4_latestEnd_38 ?_
          refine hf_iload (i := 4) (q := 4) gc dX4_latestEnd_41 rfl ?_
          refine hf_iald (a := 9) (r := 22) (n := 30) g rfl rfl dX4_latestEnd_43 ?_
          refine hf_icmp_gt (tgt := 59) gc dX4_latestEnd_44 (by decide) ?_ ?_
          · refine hf_iinc (q := 4) (v' := l4 + (1 : Int32)) (lv' := [(4, .int (l4 + (1 : Int32))), (0, .ref (ad 3)), (1, .int l1), (2, .int l2), (3, .int l3)]) gc dX4_latestEnd_59 rfl rfl (by decide) rfl ?_
            refine hf_goto (tgt := 5) gc dX4_latestEnd_62 (by decide) ?_
            refine hf_sub (lv' := [(0, .ref (ad 3)), (1, .int l1), (2, .int l2), (3, .int l3), (4, .int (l4 + (1 : Int32)))]) [1, 2, 3, 4, 0] rfl ?_
            exact ih _ _ _ _
          · refine hf_iload_n (i := 3) (q := 3) gc dX4_latestEnd_47 rfl rfl ?_
            refine hf_aload_n (i := 0) (q := 0) gc dX4_latestEnd_48 rfl rfl ?_
            refine hf_getR (j := 3) (k := 2) (r := 22) g rfl rfl kF_RX4_18 dX4_latestEnd_49 ?_
            refine hf_iload (i := 4) (q := 4) gc dX4_latestEnd_52 rfl ?_
            refine hf_iald (a := 9) (r := 22) (n := 30) g rfl rfl dX4_latestEnd_54 ?_
            refine hf_mmax g kM_RX4_25 (by decide) (Nat.le_of_ble_eq_true rfl) dX4_latestEnd_55 ?_
            refine hf_let (fun v1 => ?_)
            refine hf_istore_n (i := 3) (lv' := [(3, .int v1), (0, .ref (ad 3)), (1, .int l1), (2, .int l2), (4, .int l4)]) gc dX4_latestEnd_58 rfl (by decide) rfl ?_
            refine hf_iinc (q := 4) (v' := l4 + (1 : Int32)) (lv' := [(4, .int (l4 + (1 : Int32))), (3, .int v1), (0, .ref (ad 3)), (1, .int l1), (2, .int l2)]) gc dX4_latestEnd_59 rfl rfl (by decide) rfl ?_
            refine hf_goto (tgt := 5) gc dX4_latestEnd_62 (by decide) ?_
            refine hf_sub (lv' := [(0, .ref (ad 3)), (1, .int l1), (2, .int l2), (3, .int v1), (4, .int (l4 + (1 : Int32)))]) [2, 3, 4, 1, 0] rfl ?_
            exact ih _ _ _ _
set_option maxHeartbeats 2000000 in
set_option maxRecDepth 20000 in
theorem xc_papers_latestEnd {x : hf_Cx} {ad : Nat → Nat} {cA : Nat → ClassId} {E : State → Prop} {A : Nat → Prop} {l0 : Launch} {D0 : va_G} (g : hf_G x hcT ad cA E A l0 D0 cX4_latestEnd 5 RX4 (some .int) 1) {s : hf_St} {a1 : Int32} {a2 : Int32} : hf_X x A 5 (0, 0) (hf_Q x hcT ad cA A (hf_rp s)) (Fc_papers_latestEnd s a1 a2) (hf_wd hcT ad cA s) 0 [(0, .ref (ad 3)), (1, .int a1), (2, .int a2)] [] := by
  have gc := g.1
  unfold Fc_papers_latestEnd
  refine hf_iconst (v := -1) gc dX4_latestEnd_0 (by decide) ?_
  refine hf_istore_n (i := 3) (lv' := [(3, .int ((-1 : Int32))), (0, .ref (ad 3)), (1, .int a1), (2, .int a2)]) gc dX4_latestEnd_1 rfl (by decide) rfl ?_
  refine hf_iconst (v := 0) gc dX4_latestEnd_2 (by decide) ?_
  refine hf_istore (i := 4) (lv' := [(4, .int ((0 : Int32))), (3, .int ((-1 : Int32))), (0, .ref (ad 3)), (1, .int a1), (2, .int a2)]) gc dX4_latestEnd_3 (by decide) rfl ?_
  refine hf_sub (lv' := [(0, .ref (ad 3)), (1, .int a1), (2, .int a2), (3, .int ((-1 : Int32))), (4, .int ((0 : Int32)))]) [2, 3, 4, 1, 0] rfl ?_
  exact xc_papers_latestEnd_l5 g hf_fuel _ _ _ _
theorem cc_papers_latestEnd {l0 : Launch} {D0 : va_G} {ad : Nat → Nat} {cA : Nat → ClassId} {E : State → Prop} {s : hf_St} {a1 : Int32} {a2 : Int32} : hf_Ct l0 D0 hcT ad cA E 1 yX4_latestEnd cX4_latestEnd 5 (some .int) [.ref (ad 3), .int a1, .int a2] s (Fc_papers_latestEnd s a1 a2) (hf_rp s) := hf_met (by decide) (Nat.le_of_ble_eq_true rfl) (fun _ _ g => xc_papers_latestEnd g)
set_option maxHeartbeats 2000000 in
set_option maxRecDepth 20000 in
theorem xc_hf_until {x : hf_Cx} {ad : Nat → Nat} {cA : Nat → ClassId} {E : State → Prop} {A : Nat → Prop} {l0 : Launch} {D0 : va_G} (g : hf_G x hcT ad cA E A l0 D0 cX11_until 3 RX11 (some .int) 2) {s : hf_St} {a1 : Int32} {a2 : Int32} : hf_X x A 3 (0, 0) (hf_Q x hcT ad cA A (hf_rp s)) (Fc_hf_until s a1 a2) (hf_wd hcT ad cA s) 0 [(0, .ref (ad 0)), (1, .int a1), (2, .int a2)] [] := by
  have gc := g.1
  unfold Fc_hf_until
  refine hf_aload_n (i := 0) (q := 0) gc dX11_until_0 rfl rfl ?_
  refine hf_getR (j := 0) (k := 1) (r := 2) g rfl rfl kF_RX11_19 dX11_until_1 ?_
  refine hf_iload_n (i := 1) (q := 1) gc dX11_until_4 rfl rfl ?_
  refine hf_callV1 (j := 2) g (cc_homes_has (a1 := a1)) kV_RX11_116 (by decide) (by decide) rfl rfl rfl rfl (Nat.le_of_ble_eq_true rfl) dX11_until_5 (fun v1 => ?_)
  refine hf_if_eq (tgt := 30) gc dX11_until_8 (by decide) ?_ ?_
  · refine hf_iconst (v := -1) gc dX11_until_30 (by decide) ?_
    exact hf_iret g dX11_until_31 rfl
  · refine hf_iload_n (i := 2) (q := 2) gc dX11_until_11 rfl rfl ?_
    refine hf_callS1 g (cc_hf_isDay (a1 := a2)) kS_RX11_89 (by decide) (by decide) rfl rfl (Nat.le_of_ble_eq_true rfl) dX11_until_12 (fun v2 => ?_)
    refine hf_if_eq (tgt := 30) gc dX11_until_15 (by decide) ?_ ?_
    · refine hf_iconst (v := -1) gc dX11_until_30 (by decide) ?_
      exact hf_iret g dX11_until_31 rfl
    · refine hf_aload_n (i := 0) (q := 0) gc dX11_until_18 rfl rfl ?_
      refine hf_getR (j := 0) (k := 2) (r := 3) g rfl rfl kF_RX11_26 dX11_until_19 ?_
      refine hf_iload_n (i := 1) (q := 1) gc dX11_until_22 rfl rfl ?_
      refine hf_iload_n (i := 2) (q := 2) gc dX11_until_23 rfl rfl ?_
      refine hf_callV1 (j := 3) g (cc_papers_latestEnd (a1 := a1) (a2 := a2)) kV_RX11_122 (by decide) (by decide) rfl rfl rfl rfl (Nat.le_of_ble_eq_true rfl) dX11_until_24 (fun v3 => ?_)
      refine hf_goto (tgt := 31) gc dX11_until_27 (by decide) ?_
      exact hf_iret g dX11_until_31 rfl
theorem cc_hf_until {l0 : Launch} {D0 : va_G} {ad : Nat → Nat} {cA : Nat → ClassId} {E : State → Prop} {s : hf_St} {a1 : Int32} {a2 : Int32} : hf_Ct l0 D0 hcT ad cA E 2 yX11_until cX11_until 3 (some .int) [.ref (ad 0), .int a1, .int a2] s (Fc_hf_until s a1 a2) (hf_rp s) := hf_met (by decide) (Nat.le_of_ble_eq_true rfl) (fun _ _ g => xc_hf_until g)
set_option maxHeartbeats 2000000 in
set_option maxRecDepth 20000 in
theorem xc_homes_closeFrom {x : hf_Cx} {ad : Nat → Nat} {cA : Nat → ClassId} {E : State → Prop} {A : Nat → Prop} {l0 : Launch} {D0 : va_G} (g : hf_G x hcT ad cA E A l0 D0 cX2_closeFrom 3 RX2 none 1) {s : hf_St} {a1 : Int32} {a2 : Int32} : hf_X x A 3 (0, 0) (hf_Q x hcT ad cA A hf_rv) (Fc_homes_closeFrom s a1 a2) (hf_wd hcT ad cA s) 0 [(0, .ref (ad 2)), (1, .int a1), (2, .int a2)] [] := by
  have gc := g.1
  unfold Fc_homes_closeFrom
  refine hf_aload_n (i := 0) (q := 0) gc dX2_closeFrom_0 rfl rfl ?_
  refine hf_iload_n (i := 1) (q := 1) gc dX2_closeFrom_1 rfl rfl ?_
  refine hf_callV1 (j := 2) g (cc_homes_has (a1 := a1)) kV_RX2_22 (by decide) (by decide) rfl rfl rfl rfl (Nat.le_of_ble_eq_true rfl) dX2_closeFrom_2 (fun v1 => ?_)
  refine hf_if_eq (tgt := 15) gc dX2_closeFrom_5 (by decide) ?_ ?_
  · exact hf_vret g dX2_closeFrom_15 rfl
  · refine hf_aload_n (i := 0) (q := 0) gc dX2_closeFrom_8 rfl rfl ?_
    refine hf_getR (j := 2) (k := 1) (r := 19) g rfl rfl kF_RX2_15 dX2_closeFrom_9 ?_
    refine hf_iload_n (i := 1) (q := 1) gc dX2_closeFrom_12 rfl rfl ?_
    refine hf_iload_n (i := 2) (q := 2) gc dX2_closeFrom_13 rfl rfl ?_
    refine hf_iast (a := 6) (r := 19) (n := 5) g rfl rfl dX2_closeFrom_14 (fun s2 => ?_)
    exact hf_vret g dX2_closeFrom_15 rfl
theorem cc_homes_closeFrom {l0 : Launch} {D0 : va_G} {ad : Nat → Nat} {cA : Nat → ClassId} {E : State → Prop} {s : hf_St} {a1 : Int32} {a2 : Int32} : hf_Ct l0 D0 hcT ad cA E 1 yX2_closeFrom cX2_closeFrom 3 none [.ref (ad 2), .int a1, .int a2] s (Fc_homes_closeFrom s a1 a2) hf_rv := hf_met (by decide) (Nat.le_of_ble_eq_true rfl) (fun _ _ g => xc_homes_closeFrom g)
set_option maxHeartbeats 2000000 in
set_option maxRecDepth 20000 in
theorem xc_hf_close_b25 {x : hf_Cx} {ad : Nat → Nat} {cA : Nat → ClassId} {E : State → Prop} {A : Nat → Prop} {l0 : Launch} {D0 : va_G} (g : hf_G x hcT ad cA E A l0 D0 cX11_close 3 RX11 (some .boolean) 2) (s : hf_St) (l1 : Int32) (l2 : Int32) : hf_X x A 3 (0, 0) (hf_Q x hcT ad cA A hf_ri) (Fc_hf_close_b25 s l1 l2) (hf_wd hcT ad cA s) 25 [(0, .ref (ad 0)), (1, .int l1), (2, .int l2)] [] := by
  have gc := g.1
  unfold Fc_hf_close_b25
  refine hf_aload_n (i := 0) (q := 0) gc dX11_close_25 rfl rfl ?_
  refine hf_getR (j := 0) (k := 1) (r := 2) g rfl rfl kF_RX11_19 dX11_close_26 ?_
  refine hf_iload_n (i := 1) (q := 1) gc dX11_close_29 rfl rfl ?_
  refine hf_iload_n (i := 2) (q := 2) gc dX11_close_30 rfl rfl ?_
  refine hf_callV0 (j := 2) g (cc_homes_closeFrom (a1 := l1) (a2 := l2)) kV_RX11_126 (by decide) (by decide) rfl rfl rfl rfl (Nat.le_of_ble_eq_true rfl) dX11_close_31 (fun s1 => ?_)
  refine hf_iconst (v := 1) gc dX11_close_34 (by decide) ?_
  exact hf_zret g dX11_close_35 rfl
set_option maxHeartbeats 2000000 in
set_option maxRecDepth 20000 in
theorem xc_hf_close {x : hf_Cx} {ad : Nat → Nat} {cA : Nat → ClassId} {E : State → Prop} {A : Nat → Prop} {l0 : Launch} {D0 : va_G} (g : hf_G x hcT ad cA E A l0 D0 cX11_close 3 RX11 (some .boolean) 2) {s : hf_St} {a1 : Int32} {a2 : Int32} : hf_X x A 3 (0, 0) (hf_Q x hcT ad cA A hf_ri) (Fc_hf_close s a1 a2) (hf_wd hcT ad cA s) 0 [(0, .ref (ad 0)), (1, .int a1), (2, .int a2)] [] := by
  have gc := g.1
  unfold Fc_hf_close
  refine hf_aload_n (i := 0) (q := 0) gc dX11_close_0 rfl rfl ?_
  refine hf_getR (j := 0) (k := 1) (r := 2) g rfl rfl kF_RX11_19 dX11_close_1 ?_
  refine hf_iload_n (i := 1) (q := 1) gc dX11_close_4 rfl rfl ?_
  refine hf_callV1 (j := 2) g (cc_homes_has (a1 := a1)) kV_RX11_116 (by decide) (by decide) rfl rfl rfl rfl (Nat.le_of_ble_eq_true rfl) dX11_close_5 (fun v1 => ?_)
  refine hf_if_eq (tgt := 23) gc dX11_close_8 (by decide) ?_ ?_
  · refine hf_iconst (v := 0) gc dX11_close_23 (by decide) ?_
    exact hf_zret g dX11_close_24 rfl
  · refine hf_iload_n (i := 2) (q := 2) gc dX11_close_11 rfl rfl ?_
    refine hf_iconst (v := -1) gc dX11_close_12 (by decide) ?_
    refine hf_icmp_eq (tgt := 25) gc dX11_close_13 (by decide) ?_ ?_
    · exact xc_hf_close_b25 g _ _ _
    · refine hf_iload_n (i := 2) (q := 2) gc dX11_close_16 rfl rfl ?_
      refine hf_callS1 g (cc_hf_isDay (a1 := a2)) kS_RX11_89 (by decide) (by decide) rfl rfl (Nat.le_of_ble_eq_true rfl) dX11_close_17 (fun v2 => ?_)
      refine hf_if_ne (tgt := 25) gc dX11_close_20 (by decide) ?_ ?_
      · exact xc_hf_close_b25 g _ _ _
      · refine hf_iconst (v := 0) gc dX11_close_23 (by decide) ?_
        exact hf_zret g dX11_close_24 rfl
theorem cc_hf_close {l0 : Launch} {D0 : va_G} {ad : Nat → Nat} {cA : Nat → ClassId} {E : State → Prop} {s : hf_St} {a1 : Int32} {a2 : Int32} : hf_Ct l0 D0 hcT ad cA E 2 yX11_close cX11_close 3 (some .boolean) [.ref (ad 0), .int a1, .int a2] s (Fc_hf_close s a1 a2) hf_ri := hf_met (by decide) (Nat.le_of_ble_eq_true rfl) (fun _ _ g => xc_hf_close g)
set_option maxHeartbeats 2000000 in
set_option maxRecDepth 20000 in
theorem xc_children_setNeed {x : hf_Cx} {ad : Nat → Nat} {cA : Nat → ClassId} {E : State → Prop} {A : Nat → Prop} {l0 : Launch} {D0 : va_G} (g : hf_G x hcT ad cA E A l0 D0 cX0_setNeed 5 RX0 none 1) {s : hf_St} {a1 : Int32} {a2 : Int32} {a3 : Int32} {a4 : Int32} : hf_X x A 5 (0, 0) (hf_Q x hcT ad cA A hf_rv) (Fc_children_setNeed s a1 a2 a3 a4) (hf_wd hcT ad cA s) 0 [(0, .ref (ad 1)), (1, .int a1), (2, .int a2), (3, .int a3), (4, .int a4)] [] := by
  have gc := g.1
  unfold Fc_children_setNeed
  refine hf_aload_n (i := 0) (q := 0) gc dX0_setNeed_0 rfl rfl ?_
  refine hf_iload_n (i := 1) (q := 1) gc dX0_setNeed_1 rfl rfl ?_
  refine hf_callV1 (j := 1) g (cc_children_has (a1 := a1)) kV_RX0_32 (by decide) (by decide) rfl rfl rfl rfl (Nat.le_of_ble_eq_true rfl) dX0_setNeed_2 (fun v1 => ?_)
  refine hf_if_eq (tgt := 37) gc dX0_setNeed_5 (by decide) ?_ ?_
  · exact hf_vret g dX0_setNeed_37 rfl
  · refine hf_aload_n (i := 0) (q := 0) gc dX0_setNeed_8 rfl rfl ?_
    refine hf_getR (j := 1) (k := 1) (r := 14) g rfl rfl kF_RX0_15 dX0_setNeed_9 ?_
    refine hf_iload_n (i := 1) (q := 1) gc dX0_setNeed_12 rfl rfl ?_
    refine hf_iconst (v := 1) gc dX0_setNeed_13 (by decide) ?_
    refine hf_zast (a := 1) (r := 14) (n := 7) g rfl rfl dX0_setNeed_14 (fun s2 => ?_)
    refine hf_aload_n (i := 0) (q := 0) gc dX0_setNeed_15 rfl rfl ?_
    refine hf_getR (j := 1) (k := 2) (r := 15) g rfl rfl kF_RX0_19 dX0_setNeed_16 ?_
    refine hf_iload_n (i := 1) (q := 1) gc dX0_setNeed_19 rfl rfl ?_
    refine hf_iload_n (i := 2) (q := 2) gc dX0_setNeed_20 rfl rfl ?_
    refine hf_iast (a := 2) (r := 15) (n := 7) g rfl rfl dX0_setNeed_21 (fun s3 => ?_)
    refine hf_aload_n (i := 0) (q := 0) gc dX0_setNeed_22 rfl rfl ?_
    refine hf_getR (j := 1) (k := 3) (r := 16) g rfl rfl kF_RX0_22 dX0_setNeed_23 ?_
    refine hf_iload_n (i := 1) (q := 1) gc dX0_setNeed_26 rfl rfl ?_
    refine hf_iload_n (i := 3) (q := 3) gc dX0_setNeed_27 rfl rfl ?_
    refine hf_iast (a := 3) (r := 16) (n := 7) g rfl rfl dX0_setNeed_28 (fun s4 => ?_)
    refine hf_aload_n (i := 0) (q := 0) gc dX0_setNeed_29 rfl rfl ?_
    refine hf_getR (j := 1) (k := 4) (r := 17) g rfl rfl kF_RX0_25 dX0_setNeed_30 ?_
    refine hf_iload_n (i := 1) (q := 1) gc dX0_setNeed_33 rfl rfl ?_
    refine hf_iload (i := 4) (q := 4) gc dX0_setNeed_34 rfl ?_
    refine hf_zast (a := 4) (r := 17) (n := 7) g rfl rfl dX0_setNeed_36 (fun s5 => ?_)
    exact hf_vret g dX0_setNeed_37 rfl
theorem cc_children_setNeed {l0 : Launch} {D0 : va_G} {ad : Nat → Nat} {cA : Nat → ClassId} {E : State → Prop} {s : hf_St} {a1 : Int32} {a2 : Int32} {a3 : Int32} {a4 : Int32} : hf_Ct l0 D0 hcT ad cA E 1 yX0_setNeed cX0_setNeed 5 none [.ref (ad 1), .int a1, .int a2, .int a3, .int a4] s (Fc_children_setNeed s a1 a2 a3 a4) hf_rv := hf_met (by decide) (Nat.le_of_ble_eq_true rfl) (fun _ _ g => xc_children_setNeed g)
set_option maxHeartbeats 2000000 in
set_option maxRecDepth 20000 in
theorem xc_hf_need_b35 {x : hf_Cx} {ad : Nat → Nat} {cA : Nat → ClassId} {E : State → Prop} {A : Nat → Prop} {l0 : Launch} {D0 : va_G} (g : hf_G x hcT ad cA E A l0 D0 cX11_need 6 RX11 (some .boolean) 2) (s : hf_St) (l1 : Int32) (l2 : Int32) (l3 : Int32) (l4 : Int32) (t0 : Int32) : hf_X x A 6 (0, 0) (hf_Q x hcT ad cA A hf_ri) (Fc_hf_need_b35 s l1 l2 l3 l4 t0) (hf_wd hcT ad cA s) 35 [(0, .ref (ad 0)), (1, .int l1), (2, .int l2), (3, .int l3), (4, .int l4)] [.int t0] := by
  have gc := g.1
  unfold Fc_hf_need_b35
  refine hf_istore (i := 5) (lv' := [(5, .int t0), (0, .ref (ad 0)), (1, .int l1), (2, .int l2), (3, .int l3), (4, .int l4)]) gc dX11_need_35 (by decide) rfl ?_
  refine hf_iload (i := 5) (q := 0) gc dX11_need_37 rfl ?_
  refine hf_if_eq (tgt := 52) gc dX11_need_39 (by decide) ?_ ?_
  · refine hf_iconst (v := 0) gc dX11_need_52 (by decide) ?_
    exact hf_zret g dX11_need_53 rfl
  · refine hf_iload_n (i := 3) (q := 4) gc dX11_need_42 rfl rfl ?_
    refine hf_iload_n (i := 2) (q := 3) gc dX11_need_43 rfl rfl ?_
    refine hf_isub gc dX11_need_44 ?_
    refine hf_iconst (v := 1) gc dX11_need_45 (by decide) ?_
    refine hf_iadd gc dX11_need_46 ?_
    refine hf_bipush (v := 60) gc dX11_need_47 (by decide) ?_
    refine hf_icmp_le (tgt := 54) gc dX11_need_49 (by decide) ?_ ?_
    · refine hf_aload_n (i := 0) (q := 1) gc dX11_need_54 rfl rfl ?_
      refine hf_getR (j := 0) (k := 0) (r := 1) g rfl rfl kF_RX11_10 dX11_need_55 ?_
      refine hf_iload_n (i := 1) (q := 2) gc dX11_need_58 rfl rfl ?_
      refine hf_iload_n (i := 2) (q := 3) gc dX11_need_59 rfl rfl ?_
      refine hf_iload_n (i := 3) (q := 4) gc dX11_need_60 rfl rfl ?_
      refine hf_iload (i := 4) (q := 5) gc dX11_need_61 rfl ?_
      refine hf_callV0 (j := 1) g (cc_children_setNeed (a1 := l1) (a2 := l2) (a3 := l3) (a4 := l4)) kV_RX11_131 (by decide) (by decide) rfl rfl rfl rfl (Nat.le_of_ble_eq_true rfl) dX11_need_63 (fun s1 => ?_)
      refine hf_iconst (v := 1) gc dX11_need_66 (by decide) ?_
      exact hf_zret g dX11_need_67 rfl
    · refine hf_iconst (v := 0) gc dX11_need_52 (by decide) ?_
      exact hf_zret g dX11_need_53 rfl
set_option maxHeartbeats 2000000 in
set_option maxRecDepth 20000 in
theorem xc_hf_need_b34 {x : hf_Cx} {ad : Nat → Nat} {cA : Nat → ClassId} {E : State → Prop} {A : Nat → Prop} {l0 : Launch} {D0 : va_G} (g : hf_G x hcT ad cA E A l0 D0 cX11_need 6 RX11 (some .boolean) 2) (s : hf_St) (l1 : Int32) (l2 : Int32) (l3 : Int32) (l4 : Int32) : hf_X x A 6 (0, 0) (hf_Q x hcT ad cA A hf_ri) (Fc_hf_need_b34 s l1 l2 l3 l4) (hf_wd hcT ad cA s) 34 [(0, .ref (ad 0)), (1, .int l1), (2, .int l2), (3, .int l3), (4, .int l4)] [] := by
  have gc := g.1
  unfold Fc_hf_need_b34
  refine hf_iconst (v := 0) gc dX11_need_34 (by decide) ?_
  exact xc_hf_need_b35 g _ _ _ _ _ _
set_option maxHeartbeats 2000000 in
set_option maxRecDepth 20000 in
theorem xc_hf_need {x : hf_Cx} {ad : Nat → Nat} {cA : Nat → ClassId} {E : State → Prop} {A : Nat → Prop} {l0 : Launch} {D0 : va_G} (g : hf_G x hcT ad cA E A l0 D0 cX11_need 6 RX11 (some .boolean) 2) {s : hf_St} {a1 : Int32} {a2 : Int32} {a3 : Int32} {a4 : Int32} : hf_X x A 6 (0, 0) (hf_Q x hcT ad cA A hf_ri) (Fc_hf_need s a1 a2 a3 a4) (hf_wd hcT ad cA s) 0 [(0, .ref (ad 0)), (1, .int a1), (2, .int a2), (3, .int a3), (4, .int a4)] [] := by
  have gc := g.1
  unfold Fc_hf_need
  refine hf_aload_n (i := 0) (q := 0) gc dX11_need_0 rfl rfl ?_
  refine hf_getR (j := 0) (k := 0) (r := 1) g rfl rfl kF_RX11_10 dX11_need_1 ?_
  refine hf_iload_n (i := 1) (q := 1) gc dX11_need_4 rfl rfl ?_
  refine hf_callV1 (j := 1) g (cc_children_has (a1 := a1)) kV_RX11_130 (by decide) (by decide) rfl rfl rfl rfl (Nat.le_of_ble_eq_true rfl) dX11_need_5 (fun v1 => ?_)
  refine hf_if_eq (tgt := 34) gc dX11_need_8 (by decide) ?_ ?_
  · exact xc_hf_need_b34 g _ _ _ _ _
  · refine hf_iload_n (i := 2) (q := 2) gc dX11_need_11 rfl rfl ?_
    refine hf_callS1 g (cc_hf_isDay (a1 := a2)) kS_RX11_89 (by decide) (by decide) rfl rfl (Nat.le_of_ble_eq_true rfl) dX11_need_12 (fun v2 => ?_)
    refine hf_if_eq (tgt := 34) gc dX11_need_15 (by decide) ?_ ?_
    · exact xc_hf_need_b34 g _ _ _ _ _
    · refine hf_iload_n (i := 3) (q := 3) gc dX11_need_18 rfl rfl ?_
      refine hf_callS1 g (cc_hf_isDay (a1 := a3)) kS_RX11_89 (by decide) (by decide) rfl rfl (Nat.le_of_ble_eq_true rfl) dX11_need_19 (fun v3 => ?_)
      refine hf_if_eq (tgt := 34) gc dX11_need_22 (by decide) ?_ ?_
      · exact xc_hf_need_b34 g _ _ _ _ _
      · refine hf_iload_n (i := 2) (q := 2) gc dX11_need_25 rfl rfl ?_
        refine hf_iload_n (i := 3) (q := 3) gc dX11_need_26 rfl rfl ?_
        refine hf_icmp_gt (tgt := 34) gc dX11_need_27 (by decide) ?_ ?_
        · exact xc_hf_need_b34 g _ _ _ _ _
        · refine hf_iconst (v := 1) gc dX11_need_30 (by decide) ?_
          refine hf_goto (tgt := 35) gc dX11_need_31 (by decide) ?_
          exact xc_hf_need_b35 g _ _ _ _ _ _
theorem cc_hf_need {l0 : Launch} {D0 : va_G} {ad : Nat → Nat} {cA : Nat → ClassId} {E : State → Prop} {s : hf_St} {a1 : Int32} {a2 : Int32} {a3 : Int32} {a4 : Int32} : hf_Ct l0 D0 hcT ad cA E 2 yX11_need cX11_need 6 (some .boolean) [.ref (ad 0), .int a1, .int a2, .int a3, .int a4] s (Fc_hf_need s a1 a2 a3 a4) hf_ri := hf_met (by decide) (Nat.le_of_ble_eq_true rfl) (fun _ _ g => xc_hf_need g)
set_option maxHeartbeats 2000000 in
set_option maxRecDepth 20000 in
theorem xc_children_hasNeed {x : hf_Cx} {ad : Nat → Nat} {cA : Nat → ClassId} {E : State → Prop} {A : Nat → Prop} {l0 : Launch} {D0 : va_G} (g : hf_G x hcT ad cA E A l0 D0 cX0_hasNeed 2 RX0 (some .boolean) 1) {s : hf_St} {a1 : Int32} : hf_X x A 2 (0, 0) (hf_Q x hcT ad cA A (hf_rp s)) (Fc_children_hasNeed s a1) (hf_wd hcT ad cA s) 0 [(0, .ref (ad 1)), (1, .int a1)] [] := by
  have gc := g.1
  unfold Fc_children_hasNeed
  refine hf_aload_n (i := 0) (q := 0) gc dX0_hasNeed_0 rfl rfl ?_
  refine hf_iload_n (i := 1) (q := 1) gc dX0_hasNeed_1 rfl rfl ?_
  refine hf_callV1 (j := 1) g (cc_children_has (a1 := a1)) kV_RX0_32 (by decide) (by decide) rfl rfl rfl rfl (Nat.le_of_ble_eq_true rfl) dX0_hasNeed_2 (fun v1 => ?_)
  refine hf_if_eq (tgt := 21) gc dX0_hasNeed_5 (by decide) ?_ ?_
  · refine hf_iconst (v := 0) gc dX0_hasNeed_21 (by decide) ?_
    exact hf_zret g dX0_hasNeed_22 rfl
  · refine hf_aload_n (i := 0) (q := 0) gc dX0_hasNeed_8 rfl rfl ?_
    refine hf_getR (j := 1) (k := 1) (r := 14) g rfl rfl kF_RX0_15 dX0_hasNeed_9 ?_
    refine hf_iload_n (i := 1) (q := 1) gc dX0_hasNeed_12 rfl rfl ?_
    refine hf_zald (a := 1) (r := 14) (n := 7) g rfl rfl dX0_hasNeed_13 ?_
    refine hf_if_eq (tgt := 21) gc dX0_hasNeed_14 (by decide) ?_ ?_
    · refine hf_iconst (v := 0) gc dX0_hasNeed_21 (by decide) ?_
      exact hf_zret g dX0_hasNeed_22 rfl
    · refine hf_iconst (v := 1) gc dX0_hasNeed_17 (by decide) ?_
      refine hf_goto (tgt := 22) gc dX0_hasNeed_18 (by decide) ?_
      exact hf_zret g dX0_hasNeed_22 rfl
theorem cc_children_hasNeed {l0 : Launch} {D0 : va_G} {ad : Nat → Nat} {cA : Nat → ClassId} {E : State → Prop} {s : hf_St} {a1 : Int32} : hf_Ct l0 D0 hcT ad cA E 1 yX0_hasNeed cX0_hasNeed 2 (some .boolean) [.ref (ad 1), .int a1] s (Fc_children_hasNeed s a1) (hf_rp s) := hf_met (by decide) (Nat.le_of_ble_eq_true rfl) (fun _ _ g => xc_children_hasNeed g)
set_option maxHeartbeats 2000000 in
set_option maxRecDepth 20000 in
theorem xc_children_endNeed {x : hf_Cx} {ad : Nat → Nat} {cA : Nat → ClassId} {E : State → Prop} {A : Nat → Prop} {l0 : Launch} {D0 : va_G} (g : hf_G x hcT ad cA E A l0 D0 cX0_endNeed 2 RX0 (some .boolean) 2) {s : hf_St} {a1 : Int32} : hf_X x A 2 (0, 0) (hf_Q x hcT ad cA A hf_ri) (Fc_children_endNeed s a1) (hf_wd hcT ad cA s) 0 [(0, .ref (ad 1)), (1, .int a1)] [] := by
  have gc := g.1
  unfold Fc_children_endNeed
  refine hf_aload_n (i := 0) (q := 0) gc dX0_endNeed_0 rfl rfl ?_
  refine hf_iload_n (i := 1) (q := 1) gc dX0_endNeed_1 rfl rfl ?_
  refine hf_callV1 (j := 1) g (cc_children_hasNeed (a1 := a1)) kV_RX0_36 (by decide) (by decide) rfl rfl rfl rfl (Nat.le_of_ble_eq_true rfl) dX0_endNeed_2 (fun v1 => ?_)
  refine hf_if_ne (tgt := 10) gc dX0_endNeed_5 (by decide) ?_ ?_
  · refine hf_aload_n (i := 0) (q := 0) gc dX0_endNeed_10 rfl rfl ?_
    refine hf_getR (j := 1) (k := 1) (r := 14) g rfl rfl kF_RX0_15 dX0_endNeed_11 ?_
    refine hf_iload_n (i := 1) (q := 1) gc dX0_endNeed_14 rfl rfl ?_
    refine hf_iconst (v := 0) gc dX0_endNeed_15 (by decide) ?_
    refine hf_zast (a := 1) (r := 14) (n := 7) g rfl rfl dX0_endNeed_16 (fun s2 => ?_)
    refine hf_iconst (v := 1) gc dX0_endNeed_17 (by decide) ?_
    exact hf_zret g dX0_endNeed_18 rfl
  · refine hf_iconst (v := 0) gc dX0_endNeed_8 (by decide) ?_
    exact hf_zret g dX0_endNeed_9 rfl
theorem cc_children_endNeed {l0 : Launch} {D0 : va_G} {ad : Nat → Nat} {cA : Nat → ClassId} {E : State → Prop} {s : hf_St} {a1 : Int32} : hf_Ct l0 D0 hcT ad cA E 2 yX0_endNeed cX0_endNeed 2 (some .boolean) [.ref (ad 1), .int a1] s (Fc_children_endNeed s a1) hf_ri := hf_met (by decide) (Nat.le_of_ble_eq_true rfl) (fun _ _ g => xc_children_endNeed g)
set_option maxHeartbeats 2000000 in
set_option maxRecDepth 20000 in
theorem xc_hf_ends {x : hf_Cx} {ad : Nat → Nat} {cA : Nat → ClassId} {E : State → Prop} {A : Nat → Prop} {l0 : Launch} {D0 : va_G} (g : hf_G x hcT ad cA E A l0 D0 cX11_ends 2 RX11 (some .boolean) 3) {s : hf_St} {a1 : Int32} : hf_X x A 2 (0, 0) (hf_Q x hcT ad cA A hf_ri) (Fc_hf_ends s a1) (hf_wd hcT ad cA s) 0 [(0, .ref (ad 0)), (1, .int a1)] [] := by
  have gc := g.1
  unfold Fc_hf_ends
  refine hf_aload_n (i := 0) (q := 0) gc dX11_ends_0 rfl rfl ?_
  refine hf_getR (j := 0) (k := 0) (r := 1) g rfl rfl kF_RX11_10 dX11_ends_1 ?_
  refine hf_iload_n (i := 1) (q := 1) gc dX11_ends_4 rfl rfl ?_
  refine hf_callV2 (j := 1) g (cc_children_endNeed (a1 := a1)) kV_RX11_135 (by decide) (by decide) rfl rfl rfl rfl (Nat.le_of_ble_eq_true rfl) dX11_ends_5 (fun v1 s2 => ?_)
  exact hf_zret g dX11_ends_8 rfl
theorem cc_hf_ends {l0 : Launch} {D0 : va_G} {ad : Nat → Nat} {cA : Nat → ClassId} {E : State → Prop} {s : hf_St} {a1 : Int32} : hf_Ct l0 D0 hcT ad cA E 3 yX11_ends cX11_ends 2 (some .boolean) [.ref (ad 0), .int a1] s (Fc_hf_ends s a1) hf_ri := hf_met (by decide) (Nat.le_of_ble_eq_true rfl) (fun _ _ g => xc_hf_ends g)
set_option maxHeartbeats 2000000 in
set_option maxRecDepth 20000 in
theorem xc_tape_size {x : hf_Cx} {ad : Nat → Nat} {cA : Nat → ClassId} {E : State → Prop} {A : Nat → Prop} {l0 : Launch} {D0 : va_G} (g : hf_G x hcT ad cA E A l0 D0 cX10_size 1 RX10 (some .int) 0) {s : hf_St} : hf_X x A 1 (0, 0) (hf_Q x hcT ad cA A (hf_rp s)) (Fc_tape_size s) (hf_wd hcT ad cA s) 0 [(0, .ref (ad 5))] [] := by
  have gc := g.1
  unfold Fc_tape_size
  refine hf_aload_n (i := 0) (q := 0) gc dX10_size_0 rfl rfl ?_
  refine hf_getI (j := 5) (k := 1) g rfl rfl kF_RX10_15 dX10_size_1 ?_
  exact hf_iret g dX10_size_4 rfl
theorem cc_tape_size {l0 : Launch} {D0 : va_G} {ad : Nat → Nat} {cA : Nat → ClassId} {E : State → Prop} {s : hf_St} : hf_Ct l0 D0 hcT ad cA E 0 yX10_size cX10_size 1 (some .int) [.ref (ad 5)] s (Fc_tape_size s) (hf_rp s) := hf_met (by decide) (Nat.le_of_ble_eq_true rfl) (fun _ _ g => xc_tape_size g)
set_option maxHeartbeats 2000000 in
set_option maxRecDepth 20000 in
theorem xc_tape_add_l16 {x : hf_Cx} {ad : Nat → Nat} {cA : Nat → ClassId} {E : State → Prop} {A : Nat → Prop} {l0 : Launch} {D0 : va_G} (g : hf_G x hcT ad cA E A l0 D0 cX10_add 3 RX10 none 0) : ∀ (n : Nat) (s : hf_St) (l1 : Int32) (l2 : Int32), hf_X x A 3 (0, 0) (hf_Q x hcT ad cA A hf_rv) (Fc_tape_add_l16 n s l1 l2) (hf_wd hcT ad cA s) 16 [(0, .ref (ad 5)), (1, .int l1), (2, .int l2)] [] := by
  have gc := g.1
  intro n
  induction n with
  | zero => intro s l1 l2; exact hf_none
  | succ n ih =>
    intro s l1 l2
    rw [Fc_tape_add_l16]
    refine hf_iload_n (i := 2) (q := 2) gc dX10_add_16 rfl rfl ?_
    refine hf_if_lt (tgt := 52) gc dX10_add_17 (by decide) ?_ ?_
    · exact hf_vret g dX10_add_52 rfl
    · refine hf_aload_n (i := 0) (q := 0) gc dX10_add_20 rfl rfl ?_
      refine hf_getR (j := 5) (k := 0) (r := 28) g rfl rfl kF_RX10_9 dX10_add_21 ?_
      refine hf_aload_n (i := 0) (q := 0) gc dX10_add_24 rfl rfl ?_
      refine hf_getI (j := 5) (k := 1) g rfl rfl kF_RX10_15 dX10_add_25 ?_
      refine hf_iload_n (i := 1) (q := 1) gc dX10_add_28 rfl rfl ?_
      refine hf_iload_n (i := 2) (q := 2) gc dX10_add_29 rfl rfl ?_
      refine hf_iushr gc dX10_add_30 ?_
      refine hf_sipush (v := 255) gc dX10_add_31 (by decide) ?_
      refine hf_iand gc dX10_add_34 ?_
      refine hf_iast (a := 15) (r := 28) (n := 500) g rfl rfl dX10_add_35 (fun s1 => ?_)
      refine hf_aload_n (i := 0) (q := 0) gc dX10_add_36 rfl rfl ?_
      refine hf_dup gc dX10_add_37 rfl ?_
      refine hf_getI (j := 5) (k := 1) g rfl rfl kF_RX10_15 dX10_add_38 ?_
      refine hf_iconst (v := 1) gc dX10_add_41 (by decide) ?_
      refine hf_iadd gc dX10_add_42 ?_
      refine hf_putI (j := 5) (k := 1) g rfl rfl kP_RX10_15 rfl rfl dX10_add_43 (fun s2 => ?_)
      refine hf_iinc (q := 2) (v' := l2 + (-8 : Int32)) (lv' := [(2, .int (l2 + (-8 : Int32))), (0, .ref (ad 5)), (1, .int l1)]) gc dX10_add_46 rfl rfl (by decide) rfl ?_
      refine hf_goto (tgt := 16) gc dX10_add_49 (by decide) ?_
      refine hf_sub (lv' := [(0, .ref (ad 5)), (1, .int l1), (2, .int (l2 + (-8 : Int32)))]) [1, 2, 0] rfl ?_
      exact ih _ _ _
set_option maxHeartbeats 2000000 in
set_option maxRecDepth 20000 in
theorem xc_tape_add {x : hf_Cx} {ad : Nat → Nat} {cA : Nat → ClassId} {E : State → Prop} {A : Nat → Prop} {l0 : Launch} {D0 : va_G} (g : hf_G x hcT ad cA E A l0 D0 cX10_add 3 RX10 none 0) {s : hf_St} {a1 : Int32} : hf_X x A 3 (0, 0) (hf_Q x hcT ad cA A hf_rv) (Fc_tape_add s a1) (hf_wd hcT ad cA s) 0 [(0, .ref (ad 5)), (1, .int a1)] [] := by
  have gc := g.1
  unfold Fc_tape_add
  refine hf_aload_n (i := 0) (q := 0) gc dX10_add_0 rfl rfl ?_
  refine hf_getI (j := 5) (k := 1) g rfl rfl kF_RX10_15 dX10_add_1 ?_
  refine hf_iconst (v := 4) gc dX10_add_4 (by decide) ?_
  refine hf_iadd gc dX10_add_5 ?_
  refine hf_sipush (v := 500) gc dX10_add_6 (by decide) ?_
  refine hf_icmp_le (tgt := 13) gc dX10_add_9 (by decide) ?_ ?_
  · refine hf_bipush (v := 24) gc dX10_add_13 (by decide) ?_
    refine hf_istore_n (i := 2) (lv' := [(2, .int ((24 : Int32))), (0, .ref (ad 5)), (1, .int a1)]) gc dX10_add_15 rfl (by decide) rfl ?_
    refine hf_sub (lv' := [(0, .ref (ad 5)), (1, .int a1), (2, .int ((24 : Int32)))]) [1, 2, 0] rfl ?_
    exact xc_tape_add_l16 g hf_fuel _ _ _
  · exact hf_vret g dX10_add_12 rfl
theorem cc_tape_add {l0 : Launch} {D0 : va_G} {ad : Nat → Nat} {cA : Nat → ClassId} {E : State → Prop} {s : hf_St} {a1 : Int32} : hf_Ct l0 D0 hcT ad cA E 0 yX10_add cX10_add 3 none [.ref (ad 5), .int a1] s (Fc_tape_add s a1) hf_rv := hf_met (by decide) (Nat.le_of_ble_eq_true rfl) (fun _ _ g => xc_tape_add g)
set_option maxHeartbeats 2000000 in
set_option maxRecDepth 20000 in
theorem xc_hf_feed {x : hf_Cx} {ad : Nat → Nat} {cA : Nat → ClassId} {E : State → Prop} {A : Nat → Prop} {l0 : Launch} {D0 : va_G} (g : hf_G x hcT ad cA E A l0 D0 cX11_feed 6 RX11 (some .int) 1) {s : hf_St} {a1 : Int32} {a2 : Int32} {a3 : Int32} {a4 : Int32} {a5 : Int32} : hf_X x A 6 (0, 0) (hf_Q x hcT ad cA A hf_ri) (Fc_hf_feed s a1 a2 a3 a4 a5) (hf_wd hcT ad cA s) 0 [(0, .ref (ad 0)), (1, .int a1), (2, .int a2), (3, .int a3), (4, .int a4), (5, .int a5)] [] := by
  have gc := g.1
  unfold Fc_hf_feed
  refine hf_aload_n (i := 0) (q := 0) gc dX11_feed_0 rfl rfl ?_
  refine hf_getR (j := 0) (k := 4) (r := 5) g rfl rfl kF_RX11_40 dX11_feed_1 ?_
  refine hf_callV1 (j := 5) g (cc_tape_size) kV_RX11_138 (by decide) (by decide) rfl rfl rfl rfl (Nat.le_of_ble_eq_true rfl) dX11_feed_4 (fun v1 => ?_)
  refine hf_bipush (v := 20) gc dX11_feed_7 (by decide) ?_
  refine hf_iadd gc dX11_feed_9 ?_
  refine hf_sipush (v := 500) gc dX11_feed_10 (by decide) ?_
  refine hf_icmp_le (tgt := 18) gc dX11_feed_13 (by decide) ?_ ?_
  · refine hf_aload_n (i := 0) (q := 0) gc dX11_feed_18 rfl rfl ?_
    refine hf_getR (j := 0) (k := 4) (r := 5) g rfl rfl kF_RX11_40 dX11_feed_19 ?_
    refine hf_iload_n (i := 1) (q := 1) gc dX11_feed_22 rfl rfl ?_
    refine hf_callV0 (j := 5) g (cc_tape_add (a1 := a1)) kV_RX11_142 (by decide) (by decide) rfl rfl rfl rfl (Nat.le_of_ble_eq_true rfl) dX11_feed_23 (fun s2 => ?_)
    refine hf_aload_n (i := 0) (q := 0) gc dX11_feed_26 rfl rfl ?_
    refine hf_getR (j := 0) (k := 4) (r := 5) g rfl rfl kF_RX11_40 dX11_feed_27 ?_
    refine hf_iload_n (i := 2) (q := 2) gc dX11_feed_30 rfl rfl ?_
    refine hf_callV0 (j := 5) g (cc_tape_add (a1 := a2)) kV_RX11_142 (by decide) (by decide) rfl rfl rfl rfl (Nat.le_of_ble_eq_true rfl) dX11_feed_31 (fun s3 => ?_)
    refine hf_aload_n (i := 0) (q := 0) gc dX11_feed_34 rfl rfl ?_
    refine hf_getR (j := 0) (k := 4) (r := 5) g rfl rfl kF_RX11_40 dX11_feed_35 ?_
    refine hf_iload_n (i := 3) (q := 3) gc dX11_feed_38 rfl rfl ?_
    refine hf_callV0 (j := 5) g (cc_tape_add (a1 := a3)) kV_RX11_142 (by decide) (by decide) rfl rfl rfl rfl (Nat.le_of_ble_eq_true rfl) dX11_feed_39 (fun s4 => ?_)
    refine hf_aload_n (i := 0) (q := 0) gc dX11_feed_42 rfl rfl ?_
    refine hf_getR (j := 0) (k := 4) (r := 5) g rfl rfl kF_RX11_40 dX11_feed_43 ?_
    refine hf_iload (i := 4) (q := 4) gc dX11_feed_46 rfl ?_
    refine hf_callV0 (j := 5) g (cc_tape_add (a1 := a4)) kV_RX11_142 (by decide) (by decide) rfl rfl rfl rfl (Nat.le_of_ble_eq_true rfl) dX11_feed_48 (fun s5 => ?_)
    refine hf_aload_n (i := 0) (q := 0) gc dX11_feed_51 rfl rfl ?_
    refine hf_getR (j := 0) (k := 4) (r := 5) g rfl rfl kF_RX11_40 dX11_feed_52 ?_
    refine hf_iload (i := 5) (q := 5) gc dX11_feed_55 rfl ?_
    refine hf_callV0 (j := 5) g (cc_tape_add (a1 := a5)) kV_RX11_142 (by decide) (by decide) rfl rfl rfl rfl (Nat.le_of_ble_eq_true rfl) dX11_feed_57 (fun s6 => ?_)
    refine hf_aload_n (i := 0) (q := 0) gc dX11_feed_60 rfl rfl ?_
    refine hf_getR (j := 0) (k := 4) (r := 5) g rfl rfl kF_RX11_40 dX11_feed_61 ?_
    refine hf_callV1 (j := 5) g (cc_tape_size) kV_RX11_138 (by decide) (by decide) rfl rfl rfl rfl (Nat.le_of_ble_eq_true rfl) dX11_feed_64 (fun v7 => ?_)
    exact hf_iret g dX11_feed_67 rfl
  · refine hf_iconst (v := -1) gc dX11_feed_16 (by decide) ?_
    exact hf_iret g dX11_feed_17 rfl
theorem cc_hf_feed {l0 : Launch} {D0 : va_G} {ad : Nat → Nat} {cA : Nat → ClassId} {E : State → Prop} {s : hf_St} {a1 : Int32} {a2 : Int32} {a3 : Int32} {a4 : Int32} {a5 : Int32} : hf_Ct l0 D0 hcT ad cA E 1 yX11_feed cX11_feed 6 (some .int) [.ref (ad 0), .int a1, .int a2, .int a3, .int a4, .int a5] s (Fc_hf_feed s a1 a2 a3 a4 a5) hf_ri := hf_met (by decide) (Nat.le_of_ble_eq_true rfl) (fun _ _ g => xc_hf_feed g)
set_option maxHeartbeats 2000000 in
set_option maxRecDepth 20000 in
theorem xc_tape_cut {x : hf_Cx} {ad : Nat → Nat} {cA : Nat → ClassId} {E : State → Prop} {A : Nat → Prop} {l0 : Launch} {D0 : va_G} (g : hf_G x hcT ad cA E A l0 D0 cX10_cut 2 RX10 (some .boolean) 0) {s : hf_St} {a1 : Int32} : hf_X x A 2 (0, 0) (hf_Q x hcT ad cA A hf_ri) (Fc_tape_cut s a1) (hf_wd hcT ad cA s) 0 [(0, .ref (ad 5)), (1, .int a1)] [] := by
  have gc := g.1
  unfold Fc_tape_cut
  refine hf_iload_n (i := 1) (q := 1) gc dX10_cut_0 rfl rfl ?_
  refine hf_if_lt (tgt := 12) gc dX10_cut_1 (by decide) ?_ ?_
  · refine hf_iconst (v := 0) gc dX10_cut_12 (by decide) ?_
    exact hf_zret g dX10_cut_13 rfl
  · refine hf_iload_n (i := 1) (q := 1) gc dX10_cut_4 rfl rfl ?_
    refine hf_aload_n (i := 0) (q := 0) gc dX10_cut_5 rfl rfl ?_
    refine hf_getI (j := 5) (k := 1) g rfl rfl kF_RX10_15 dX10_cut_6 ?_
    refine hf_icmp_le (tgt := 14) gc dX10_cut_9 (by decide) ?_ ?_
    · refine hf_aload_n (i := 0) (q := 0) gc dX10_cut_14 rfl rfl ?_
      refine hf_iload_n (i := 1) (q := 1) gc dX10_cut_15 rfl rfl ?_
      refine hf_putI (j := 5) (k := 1) g rfl rfl kP_RX10_15 rfl rfl dX10_cut_16 (fun s1 => ?_)
      refine hf_iconst (v := 1) gc dX10_cut_19 (by decide) ?_
      exact hf_zret g dX10_cut_20 rfl
    · refine hf_iconst (v := 0) gc dX10_cut_12 (by decide) ?_
      exact hf_zret g dX10_cut_13 rfl
theorem cc_tape_cut {l0 : Launch} {D0 : va_G} {ad : Nat → Nat} {cA : Nat → ClassId} {E : State → Prop} {s : hf_St} {a1 : Int32} : hf_Ct l0 D0 hcT ad cA E 0 yX10_cut cX10_cut 2 (some .boolean) [.ref (ad 5), .int a1] s (Fc_tape_cut s a1) hf_ri := hf_met (by decide) (Nat.le_of_ble_eq_true rfl) (fun _ _ g => xc_tape_cut g)
set_option maxHeartbeats 2000000 in
set_option maxRecDepth 20000 in
theorem xc_hf_end {x : hf_Cx} {ad : Nat → Nat} {cA : Nat → ClassId} {E : State → Prop} {A : Nat → Prop} {l0 : Launch} {D0 : va_G} (g : hf_G x hcT ad cA E A l0 D0 cX11_end 2 RX11 (some .int) 1) {s : hf_St} {a1 : Int32} : hf_X x A 2 (0, 0) (hf_Q x hcT ad cA A hf_ri) (Fc_hf_end s a1) (hf_wd hcT ad cA s) 0 [(0, .ref (ad 0)), (1, .int a1)] [] := by
  have gc := g.1
  unfold Fc_hf_end
  refine hf_aload_n (i := 0) (q := 0) gc dX11_end_0 rfl rfl ?_
  refine hf_getR (j := 0) (k := 4) (r := 5) g rfl rfl kF_RX11_40 dX11_end_1 ?_
  refine hf_iload_n (i := 1) (q := 1) gc dX11_end_4 rfl rfl ?_
  refine hf_callV2 (j := 5) g (cc_tape_cut (a1 := a1)) kV_RX11_145 (by decide) (by decide) rfl rfl rfl rfl (Nat.le_of_ble_eq_true rfl) dX11_end_5 (fun v1 s2 => ?_)
  refine hf_if_eq (tgt := 15) gc dX11_end_8 (by decide) ?_ ?_
  · refine hf_iconst (v := -1) gc dX11_end_15 (by decide) ?_
    exact hf_iret g dX11_end_16 rfl
  · refine hf_iload_n (i := 1) (q := 1) gc dX11_end_11 rfl rfl ?_
    refine hf_goto (tgt := 16) gc dX11_end_12 (by decide) ?_
    exact hf_iret g dX11_end_16 rfl
theorem cc_hf_end {l0 : Launch} {D0 : va_G} {ad : Nat → Nat} {cA : Nat → ClassId} {E : State → Prop} {s : hf_St} {a1 : Int32} : hf_Ct l0 D0 hcT ad cA E 1 yX11_end cX11_end 2 (some .int) [.ref (ad 0), .int a1] s (Fc_hf_end s a1) hf_ri := hf_met (by decide) (Nat.le_of_ble_eq_true rfl) (fun _ _ g => xc_hf_end g)
set_option maxHeartbeats 2000000 in
set_option maxRecDepth 20000 in
theorem xc_latest_homeOf {x : hf_Cx} {ad : Nat → Nat} {cA : Nat → ClassId} {E : State → Prop} {A : Nat → Prop} {l0 : Launch} {D0 : va_G} (g : hf_G x hcT ad cA E A l0 D0 cX6_homeOf 2 RX6 (some .int) 0) {s : hf_St} {a1 : Int32} : hf_X x A 2 (0, 0) (hf_Q x hcT ad cA A (hf_rp s)) (Fc_latest_homeOf s a1) (hf_wd hcT ad cA s) 0 [(0, .ref (ad 11)), (1, .int a1)] [] := by
  have gc := g.1
  unfold Fc_latest_homeOf
  refine hf_iload_n (i := 1) (q := 1) gc dX6_homeOf_0 rfl rfl ?_
  refine hf_if_lt (tgt := 19) gc dX6_homeOf_1 (by decide) ?_ ?_
  · refine hf_iconst (v := -1) gc dX6_homeOf_19 (by decide) ?_
    exact hf_iret g dX6_homeOf_20 rfl
  · refine hf_iload_n (i := 1) (q := 1) gc dX6_homeOf_4 rfl rfl ?_
    refine hf_bipush (v := 7) gc dX6_homeOf_5 (by decide) ?_
    refine hf_icmp_ge (tgt := 19) gc dX6_homeOf_7 (by decide) ?_ ?_
    · refine hf_iconst (v := -1) gc dX6_homeOf_19 (by decide) ?_
      exact hf_iret g dX6_homeOf_20 rfl
    · refine hf_aload_n (i := 0) (q := 0) gc dX6_homeOf_10 rfl rfl ?_
      refine hf_getR (j := 11) (k := 0) (r := 43) g rfl rfl kF_RX6_9 dX6_homeOf_11 ?_
      refine hf_iload_n (i := 1) (q := 1) gc dX6_homeOf_14 rfl rfl ?_
      refine hf_iald (a := 30) (r := 43) (n := 7) g rfl rfl dX6_homeOf_15 ?_
      refine hf_goto (tgt := 20) gc dX6_homeOf_16 (by decide) ?_
      exact hf_iret g dX6_homeOf_20 rfl
theorem cc_latest_homeOf {l0 : Launch} {D0 : va_G} {ad : Nat → Nat} {cA : Nat → ClassId} {E : State → Prop} {s : hf_St} {a1 : Int32} : hf_Ct l0 D0 hcT ad cA E 0 yX6_homeOf cX6_homeOf 2 (some .int) [.ref (ad 11), .int a1] s (Fc_latest_homeOf s a1) (hf_rp s) := hf_met (by decide) (Nat.le_of_ble_eq_true rfl) (fun _ _ g => xc_latest_homeOf g)
set_option maxHeartbeats 2000000 in
set_option maxRecDepth 20000 in
theorem xc_hf_at {x : hf_Cx} {ad : Nat → Nat} {cA : Nat → ClassId} {E : State → Prop} {A : Nat → Prop} {l0 : Launch} {D0 : va_G} (g : hf_G x hcT ad cA E A l0 D0 cX11_at 2 RX11 (some .int) 1) {s : hf_St} {a1 : Int32} : hf_X x A 2 (0, 0) (hf_Q x hcT ad cA A (hf_rp s)) (Fc_hf_at s a1) (hf_wd hcT ad cA s) 0 [(0, .ref (ad 0)), (1, .int a1)] [] := by
  have gc := g.1
  unfold Fc_hf_at
  refine hf_aload_n (i := 0) (q := 0) gc dX11_at_0 rfl rfl ?_
  refine hf_getR (j := 0) (k := 8) (r := 11) g rfl rfl kF_RX11_72 dX11_at_1 ?_
  refine hf_iload_n (i := 1) (q := 1) gc dX11_at_4 rfl rfl ?_
  refine hf_callV1 (j := 11) g (cc_latest_homeOf (a1 := a1)) kV_RX11_182 (by decide) (by decide) rfl rfl rfl rfl (Nat.le_of_ble_eq_true rfl) dX11_at_5 (fun v1 => ?_)
  exact hf_iret g dX11_at_8 rfl
theorem cc_hf_at {l0 : Launch} {D0 : va_G} {ad : Nat → Nat} {cA : Nat → ClassId} {E : State → Prop} {s : hf_St} {a1 : Int32} : hf_Ct l0 D0 hcT ad cA E 1 yX11_at cX11_at 2 (some .int) [.ref (ad 0), .int a1] s (Fc_hf_at s a1) (hf_rp s) := hf_met (by decide) (Nat.le_of_ble_eq_true rfl) (fun _ _ g => xc_hf_at g)
set_option maxHeartbeats 2000000 in
set_option maxRecDepth 20000 in
theorem xc_latest_figure {x : hf_Cx} {ad : Nat → Nat} {cA : Nat → ClassId} {E : State → Prop} {A : Nat → Prop} {l0 : Launch} {D0 : va_G} (g : hf_G x hcT ad cA E A l0 D0 cX6_figure 2 RX6 (some .int) 0) {s : hf_St} {a1 : Int32} : hf_X x A 2 (0, 0) (hf_Q x hcT ad cA A (hf_rp s)) (Fc_latest_figure s a1) (hf_wd hcT ad cA s) 0 [(0, .ref (ad 11)), (1, .int a1)] [] := by
  have gc := g.1
  unfold Fc_latest_figure
  refine hf_iload_n (i := 1) (q := 1) gc dX6_figure_0 rfl rfl ?_
  refine hf_if_lt (tgt := 18) gc dX6_figure_1 (by decide) ?_ ?_
  · refine hf_iconst (v := -1) gc dX6_figure_18 (by decide) ?_
    exact hf_iret g dX6_figure_19 rfl
  · refine hf_iload_n (i := 1) (q := 1) gc dX6_figure_4 rfl rfl ?_
    refine hf_iconst (v := 5) gc dX6_figure_5 (by decide) ?_
    refine hf_icmp_ge (tgt := 18) gc dX6_figure_6 (by decide) ?_ ?_
    · refine hf_iconst (v := -1) gc dX6_figure_18 (by decide) ?_
      exact hf_iret g dX6_figure_19 rfl
    · refine hf_aload_n (i := 0) (q := 0) gc dX6_figure_9 rfl rfl ?_
      refine hf_getR (j := 11) (k := 1) (r := 44) g rfl rfl kF_RX6_15 dX6_figure_10 ?_
      refine hf_iload_n (i := 1) (q := 1) gc dX6_figure_13 rfl rfl ?_
      refine hf_iald (a := 31) (r := 44) (n := 5) g rfl rfl dX6_figure_14 ?_
      refine hf_goto (tgt := 19) gc dX6_figure_15 (by decide) ?_
      exact hf_iret g dX6_figure_19 rfl
theorem cc_latest_figure {l0 : Launch} {D0 : va_G} {ad : Nat → Nat} {cA : Nat → ClassId} {E : State → Prop} {s : hf_St} {a1 : Int32} : hf_Ct l0 D0 hcT ad cA E 0 yX6_figure cX6_figure 2 (some .int) [.ref (ad 11), .int a1] s (Fc_latest_figure s a1) (hf_rp s) := hf_met (by decide) (Nat.le_of_ble_eq_true rfl) (fun _ _ g => xc_latest_figure g)
set_option maxHeartbeats 2000000 in
set_option maxRecDepth 20000 in
theorem xc_hf_placed {x : hf_Cx} {ad : Nat → Nat} {cA : Nat → ClassId} {E : State → Prop} {A : Nat → Prop} {l0 : Launch} {D0 : va_G} (g : hf_G x hcT ad cA E A l0 D0 cX11_placed 2 RX11 (some .int) 1) {s : hf_St} {a1 : Int32} : hf_X x A 2 (0, 0) (hf_Q x hcT ad cA A (hf_rp s)) (Fc_hf_placed s a1) (hf_wd hcT ad cA s) 0 [(0, .ref (ad 0)), (1, .int a1)] [] := by
  have gc := g.1
  unfold Fc_hf_placed
  refine hf_aload_n (i := 0) (q := 0) gc dX11_placed_0 rfl rfl ?_
  refine hf_getR (j := 0) (k := 8) (r := 11) g rfl rfl kF_RX11_72 dX11_placed_1 ?_
  refine hf_iload_n (i := 1) (q := 1) gc dX11_placed_4 rfl rfl ?_
  refine hf_callV1 (j := 11) g (cc_latest_figure (a1 := a1)) kV_RX11_179 (by decide) (by decide) rfl rfl rfl rfl (Nat.le_of_ble_eq_true rfl) dX11_placed_5 (fun v1 => ?_)
  exact hf_iret g dX11_placed_8 rfl
theorem cc_hf_placed {l0 : Launch} {D0 : va_G} {ad : Nat → Nat} {cA : Nat → ClassId} {E : State → Prop} {s : hf_St} {a1 : Int32} : hf_Ct l0 D0 hcT ad cA E 1 yX11_placed cX11_placed 2 (some .int) [.ref (ad 0), .int a1] s (Fc_hf_placed s a1) (hf_rp s) := hf_met (by decide) (Nat.le_of_ble_eq_true rfl) (fun _ _ g => xc_hf_placed g)
set_option maxHeartbeats 2000000 in
set_option maxRecDepth 20000 in
theorem xc_children_size {x : hf_Cx} {ad : Nat → Nat} {cA : Nat → ClassId} {E : State → Prop} {A : Nat → Prop} {l0 : Launch} {D0 : va_G} (g : hf_G x hcT ad cA E A l0 D0 cX0_size 1 RX0 (some .int) 0) {s : hf_St} : hf_X x A 1 (0, 0) (hf_Q x hcT ad cA A (hf_rp s)) (Fc_children_size s) (hf_wd hcT ad cA s) 0 [(0, .ref (ad 1))] [] := by
  have gc := g.1
  unfold Fc_children_size
  refine hf_aload_n (i := 0) (q := 0) gc dX0_size_0 rfl rfl ?_
  refine hf_getI (j := 1) (k := 5) g rfl rfl kF_RX0_28 dX0_size_1 ?_
  exact hf_iret g dX0_size_4 rfl
theorem cc_children_size {l0 : Launch} {D0 : va_G} {ad : Nat → Nat} {cA : Nat → ClassId} {E : State → Prop} {s : hf_St} : hf_Ct l0 D0 hcT ad cA E 0 yX0_size cX0_size 1 (some .int) [.ref (ad 1)] s (Fc_children_size s) (hf_rp s) := hf_met (by decide) (Nat.le_of_ble_eq_true rfl) (fun _ _ g => xc_children_size g)
set_option maxHeartbeats 2000000 in
set_option maxRecDepth 20000 in
theorem xc_children_needsOn {x : hf_Cx} {ad : Nat → Nat} {cA : Nat → ClassId} {E : State → Prop} {A : Nat → Prop} {l0 : Launch} {D0 : va_G} (g : hf_G x hcT ad cA E A l0 D0 cX0_needsOn 3 RX0 (some .boolean) 2) {s : hf_St} {a1 : Int32} {a2 : Int32} : hf_X x A 3 (0, 0) (hf_Q x hcT ad cA A (hf_rp s)) (Fc_children_needsOn s a1 a2) (hf_wd hcT ad cA s) 0 [(0, .ref (ad 1)), (1, .int a1), (2, .int a2)] [] := by
  have gc := g.1
  unfold Fc_children_needsOn
  refine hf_aload_n (i := 0) (q := 0) gc dX0_needsOn_0 rfl rfl ?_
  refine hf_iload_n (i := 1) (q := 1) gc dX0_needsOn_1 rfl rfl ?_
  refine hf_callV1 (j := 1) g (cc_children_hasNeed (a1 := a1)) kV_RX0_36 (by decide) (by decide) rfl rfl rfl rfl (Nat.le_of_ble_eq_true rfl) dX0_needsOn_2 (fun v1 => ?_)
  refine hf_if_eq (tgt := 32) gc dX0_needsOn_5 (by decide) ?_ ?_
  · refine hf_iconst (v := 0) gc dX0_needsOn_32 (by decide) ?_
    exact hf_zret g dX0_needsOn_33 rfl
  · refine hf_aload_n (i := 0) (q := 0) gc dX0_needsOn_8 rfl rfl ?_
    refine hf_getR (j := 1) (k := 2) (r := 15) g rfl rfl kF_RX0_19 dX0_needsOn_9 ?_
    refine hf_iload_n (i := 1) (q := 1) gc dX0_needsOn_12 rfl rfl ?_
    refine hf_iald (a := 2) (r := 15) (n := 7) g rfl rfl dX0_needsOn_13 ?_
    refine hf_iload_n (i := 2) (q := 2) gc dX0_needsOn_14 rfl rfl ?_
    refine hf_icmp_gt (tgt := 32) gc dX0_needsOn_15 (by decide) ?_ ?_
    · refine hf_iconst (v := 0) gc dX0_needsOn_32 (by decide) ?_
      exact hf_zret g dX0_needsOn_33 rfl
    · refine hf_iload_n (i := 2) (q := 2) gc dX0_needsOn_18 rfl rfl ?_
      refine hf_aload_n (i := 0) (q := 0) gc dX0_needsOn_19 rfl rfl ?_
      refine hf_getR (j := 1) (k := 3) (r := 16) g rfl rfl kF_RX0_22 dX0_needsOn_20 ?_
      refine hf_iload_n (i := 1) (q := 1) gc dX0_needsOn_23 rfl rfl ?_
      refine hf_iald (a := 3) (r := 16) (n := 7) g rfl rfl dX0_needsOn_24 ?_
      refine hf_icmp_gt (tgt := 32) gc dX0_needsOn_25 (by decide) ?_ ?_
      · refine hf_iconst (v := 0) gc dX0_needsOn_32 (by decide) ?_
        exact hf_zret g dX0_needsOn_33 rfl
      · refine hf_iconst (v := 1) gc dX0_needsOn_28 (by decide) ?_
        refine hf_goto (tgt := 33) gc dX0_needsOn_29 (by decide) ?_
        exact hf_zret g dX0_needsOn_33 rfl
theorem cc_children_needsOn {l0 : Launch} {D0 : va_G} {ad : Nat → Nat} {cA : Nat → ClassId} {E : State → Prop} {s : hf_St} {a1 : Int32} {a2 : Int32} : hf_Ct l0 D0 hcT ad cA E 2 yX0_needsOn cX0_needsOn 3 (some .boolean) [.ref (ad 1), .int a1, .int a2] s (Fc_children_needsOn s a1 a2) (hf_rp s) := hf_met (by decide) (Nat.le_of_ble_eq_true rfl) (fun _ _ g => xc_children_needsOn g)
set_option maxHeartbeats 2000000 in
set_option maxRecDepth 20000 in
theorem xc_hf_beds_l25 {x : hf_Cx} {ad : Nat → Nat} {cA : Nat → ClassId} {E : State → Prop} {A : Nat → Prop} {l0 : Launch} {D0 : va_G} {s : hf_St} (g : hf_G x hcT ad cA E A l0 D0 cX11_beds 5 RX11 (some .int) 3) : ∀ (n : Nat) (l1 : Int32) (l2 : Int32) (l3 : Int32) (l4 : Int32), hf_X x A 5 (0, 0) (hf_Q x hcT ad cA A (hf_rp s)) (Fc_hf_beds_l25 s n l1 l2 l3 l4) (hf_wd hcT ad cA s) 25 [(0, .ref (ad 0)), (1, .int l1), (2, .int l2), (3, .int l3), (4, .int l4)] [] := by
  have gc := g.1
  intro n
  induction n with
  | zero => intro l1 l2 l3 l4; exact hf_none
  | succ n ih =>
    intro l1 l2 l3 l4
    rw [Fc_hf_beds_l25]
    refine hf_iload (i := 4) (q := 4) gc dX11_beds_25 rfl ?_
    refine hf_aload_n (i := 0) (q := 0) gc dX11_beds_27 rfl rfl ?_
    refine hf_getR (j := 0) (k := 0) (r := 1) g rfl rfl kF_RX11_10 dX11_beds_28 ?_
    refine hf_callV1 (j := 1) g (cc_children_size) kV_RX11_185 (by decide) (by decide) rfl rfl rfl rfl (Nat.le_of_ble_eq_true rfl) dX11_beds_31 (fun v1 => ?_)
    refine hf_icmp_ge (tgt := 72) gc dX11_beds_34 (by decide) ?_ ?_
    · refine hf_iload_n (i := 3) (q := 3) gc dX11_beds_72 rfl rfl ?_
      exact hf_iret g dX11_beds_73 rfl
    · refine hf_aload_n (i := 0) (q := 0) gc dX11_beds_37 rfl rfl ?_
      refine hf_getR (j := 0) (k := 8) (r := 11) g rfl rfl kF_RX11_72 dX11_beds_38 ?_
      refine hf_iload (i := 4) (q := 4) gc dX11_beds_41 rfl ?_
      refine hf_callV1 (j := 11) g (cc_latest_homeOf (a1 := l4)) kV_RX11_182 (by decide) (by decide) rfl rfl rfl rfl (Nat.le_of_ble_eq_true rfl) dX11_beds_43 (fun v2 => ?_)
      refine hf_iload_n (i := 1) (q := 1) gc dX11_beds_46 rfl rfl ?_
      refine hf_icmp_ne (tgt := 66) gc dX11_beds_47 (by decide) ?_ ?_
      · refine hf_iinc (q := 4) (v' := l4 + (1 : Int32)) (lv' := [(4, .int (l4 + (1 : Int32))), (0, .ref (ad 0)), (1, .int l1), (2, .int l2), (3, .int l3)]) gc dX11_beds_66 rfl rfl (by decide) rfl ?_
        refine hf_goto (tgt := 25) gc dX11_beds_69 (by decide) ?_
        refine hf_sub (lv' := [(0, .ref (ad 0)), (1, .int l1), (2, .int l2), (3, .int l3), (4, .int (l4 + (1 : Int32)))]) [1, 2, 3, 4, 0] rfl ?_
        exact ih _ _ _ _
      · refine hf_aload_n (i := 0) (q := 0) gc dX11_beds_50 rfl rfl ?_
        refine hf_getR (j := 0) (k := 0) (r := 1) g rfl rfl kF_RX11_10 dX11_beds_51 ?_
        refine hf_iload (i := 4) (q := 4) gc dX11_beds_54 rfl ?_
        refine hf_iload_n (i := 2) (q := 2) gc dX11_beds_56 rfl rfl ?_
        refine hf_callV1 (j := 1) g (cc_children_needsOn (a1 := l4) (a2 := l2)) kV_RX11_186 (by decide) (by decide) rfl rfl rfl rfl (Nat.le_of_ble_eq_true rfl) dX11_beds_57 (fun v3 => ?_)
        refine hf_if_eq (tgt := 66) gc dX11_beds_60 (by decide) ?_ ?_
        · refine hf_iinc (q := 4) (v' := l4 + (1 : Int32)) (lv' := [(4, .int (l4 + (1 : Int32))), (0, .ref (ad 0)), (1, .int l1), (2, .int l2), (3, .int l3)]) gc dX11_beds_66 rfl rfl (by decide) rfl ?_
          refine hf_goto (tgt := 25) gc dX11_beds_69 (by decide) ?_
          refine hf_sub (lv' := [(0, .ref (ad 0)), (1, .int l1), (2, .int l2), (3, .int l3), (4, .int (l4 + (1 : Int32)))]) [1, 2, 3, 4, 0] rfl ?_
          exact ih _ _ _ _
        · refine hf_iinc (q := 3) (v' := l3 + (1 : Int32)) (lv' := [(3, .int (l3 + (1 : Int32))), (0, .ref (ad 0)), (1, .int l1), (2, .int l2), (4, .int l4)]) gc dX11_beds_63 rfl rfl (by decide) rfl ?_
          refine hf_iinc (q := 4) (v' := l4 + (1 : Int32)) (lv' := [(4, .int (l4 + (1 : Int32))), (3, .int (l3 + (1 : Int32))), (0, .ref (ad 0)), (1, .int l1), (2, .int l2)]) gc dX11_beds_66 rfl rfl (by decide) rfl ?_
          refine hf_goto (tgt := 25) gc dX11_beds_69 (by decide) ?_
          refine hf_sub (lv' := [(0, .ref (ad 0)), (1, .int l1), (2, .int l2), (3, .int (l3 + (1 : Int32))), (4, .int (l4 + (1 : Int32)))]) [2, 3, 4, 1, 0] rfl ?_
          exact ih _ _ _ _
set_option maxHeartbeats 2000000 in
set_option maxRecDepth 20000 in
theorem xc_hf_beds {x : hf_Cx} {ad : Nat → Nat} {cA : Nat → ClassId} {E : State → Prop} {A : Nat → Prop} {l0 : Launch} {D0 : va_G} (g : hf_G x hcT ad cA E A l0 D0 cX11_beds 5 RX11 (some .int) 3) {s : hf_St} {a1 : Int32} {a2 : Int32} : hf_X x A 5 (0, 0) (hf_Q x hcT ad cA A (hf_rp s)) (Fc_hf_beds s a1 a2) (hf_wd hcT ad cA s) 0 [(0, .ref (ad 0)), (1, .int a1), (2, .int a2)] [] := by
  have gc := g.1
  unfold Fc_hf_beds
  refine hf_aload_n (i := 0) (q := 0) gc dX11_beds_0 rfl rfl ?_
  refine hf_getR (j := 0) (k := 1) (r := 2) g rfl rfl kF_RX11_19 dX11_beds_1 ?_
  refine hf_iload_n (i := 1) (q := 1) gc dX11_beds_4 rfl rfl ?_
  refine hf_callV1 (j := 2) g (cc_homes_has (a1 := a1)) kV_RX11_116 (by decide) (by decide) rfl rfl rfl rfl (Nat.le_of_ble_eq_true rfl) dX11_beds_5 (fun v1 => ?_)
  refine hf_if_eq (tgt := 18) gc dX11_beds_8 (by decide) ?_ ?_
  · refine hf_iconst (v := -1) gc dX11_beds_18 (by decide) ?_
    exact hf_iret g dX11_beds_19 rfl
  · refine hf_iload_n (i := 2) (q := 2) gc dX11_beds_11 rfl rfl ?_
    refine hf_callS1 g (cc_hf_isDay (a1 := a2)) kS_RX11_89 (by decide) (by decide) rfl rfl (Nat.le_of_ble_eq_true rfl) dX11_beds_12 (fun v2 => ?_)
    refine hf_if_ne (tgt := 20) gc dX11_beds_15 (by decide) ?_ ?_
    · refine hf_iconst (v := 0) gc dX11_beds_20 (by decide) ?_
      refine hf_istore_n (i := 3) (lv' := [(3, .int ((0 : Int32))), (0, .ref (ad 0)), (1, .int a1), (2, .int a2)]) gc dX11_beds_21 rfl (by decide) rfl ?_
      refine hf_iconst (v := 0) gc dX11_beds_22 (by decide) ?_
      refine hf_istore (i := 4) (lv' := [(4, .int ((0 : Int32))), (3, .int ((0 : Int32))), (0, .ref (ad 0)), (1, .int a1), (2, .int a2)]) gc dX11_beds_23 (by decide) rfl ?_
      refine hf_sub (lv' := [(0, .ref (ad 0)), (1, .int a1), (2, .int a2), (3, .int ((0 : Int32))), (4, .int ((0 : Int32)))]) [2, 3, 4, 1, 0] rfl ?_
      exact xc_hf_beds_l25 g hf_fuel _ _ _ _
    · refine hf_iconst (v := -1) gc dX11_beds_18 (by decide) ?_
      exact hf_iret g dX11_beds_19 rfl
theorem cc_hf_beds {l0 : Launch} {D0 : va_G} {ad : Nat → Nat} {cA : Nat → ClassId} {E : State → Prop} {s : hf_St} {a1 : Int32} {a2 : Int32} : hf_Ct l0 D0 hcT ad cA E 3 yX11_beds cX11_beds 5 (some .int) [.ref (ad 0), .int a1, .int a2] s (Fc_hf_beds s a1 a2) (hf_rp s) := hf_met (by decide) (Nat.le_of_ble_eq_true rfl) (fun _ _ g => xc_hf_beds g)
set_option maxHeartbeats 2000000 in
set_option maxRecDepth 20000 in
theorem xc_children_reviewDay_b38 {x : hf_Cx} {ad : Nat → Nat} {cA : Nat → ClassId} {E : State → Prop} {A : Nat → Prop} {l0 : Launch} {D0 : va_G} {s : hf_St} (g : hf_G x hcT ad cA E A l0 D0 cX0_reviewDay 5 RX0 (some .int) 2) (l1 : Int32) (t0 : Int32) : hf_X x A 5 (0, 0) (hf_Q x hcT ad cA A (hf_rp s)) (Fc_children_reviewDay_b38 s l1 t0) (hf_wd hcT ad cA s) 38 [(0, .ref (ad 1)), (1, .int l1)] [.int t0] := by
  have gc := g.1
  unfold Fc_children_reviewDay_b38
  refine hf_istore_n (i := 3) (lv' := [(3, .int t0), (0, .ref (ad 1)), (1, .int l1)]) gc dX0_reviewDay_38 rfl (by decide) rfl ?_
  refine hf_aload_n (i := 0) (q := 1) gc dX0_reviewDay_39 rfl rfl ?_
  refine hf_getR (j := 1) (k := 2) (r := 15) g rfl rfl kF_RX0_19 dX0_reviewDay_40 ?_
  refine hf_iload_n (i := 1) (q := 2) gc dX0_reviewDay_43 rfl rfl ?_
  refine hf_iald (a := 2) (r := 15) (n := 7) g rfl rfl dX0_reviewDay_44 ?_
  refine hf_iload_n (i := 3) (q := 0) gc dX0_reviewDay_45 rfl rfl ?_
  refine hf_iadd gc dX0_reviewDay_46 ?_
  refine hf_let (fun v1 => ?_)
  refine hf_istore (i := 4) (lv' := [(4, .int v1), (3, .int t0), (0, .ref (ad 1)), (1, .int l1)]) gc dX0_reviewDay_47 (by decide) rfl ?_
  refine hf_iload (i := 4) (q := 0) gc dX0_reviewDay_49 rfl ?_
  refine hf_aload_n (i := 0) (q := 2) gc dX0_reviewDay_51 rfl rfl ?_
  refine hf_getR (j := 1) (k := 3) (r := 16) g rfl rfl kF_RX0_22 dX0_reviewDay_52 ?_
  refine hf_iload_n (i := 1) (q := 3) gc dX0_reviewDay_55 rfl rfl ?_
  refine hf_iald (a := 3) (r := 16) (n := 7) g rfl rfl dX0_reviewDay_56 ?_
  refine hf_icmp_gt (tgt := 65) gc dX0_reviewDay_57 (by decide) ?_ ?_
  · refine hf_iconst (v := -1) gc dX0_reviewDay_65 (by decide) ?_
    exact hf_iret g dX0_reviewDay_66 rfl
  · refine hf_iload (i := 4) (q := 0) gc dX0_reviewDay_60 rfl ?_
    refine hf_goto (tgt := 66) gc dX0_reviewDay_62 (by decide) ?_
    exact hf_iret g dX0_reviewDay_66 rfl
set_option maxHeartbeats 2000000 in
set_option maxRecDepth 20000 in
theorem xc_children_reviewDay {x : hf_Cx} {ad : Nat → Nat} {cA : Nat → ClassId} {E : State → Prop} {A : Nat → Prop} {l0 : Launch} {D0 : va_G} (g : hf_G x hcT ad cA E A l0 D0 cX0_reviewDay 5 RX0 (some .int) 2) {s : hf_St} {a1 : Int32} {a2 : Int32} : hf_X x A 5 (0, 0) (hf_Q x hcT ad cA A (hf_rp s)) (Fc_children_reviewDay s a1 a2) (hf_wd hcT ad cA s) 0 [(0, .ref (ad 1)), (1, .int a1), (2, .int a2)] [] := by
  have gc := g.1
  unfold Fc_children_reviewDay
  refine hf_aload_n (i := 0) (q := 0) gc dX0_reviewDay_0 rfl rfl ?_
  refine hf_iload_n (i := 1) (q := 1) gc dX0_reviewDay_1 rfl rfl ?_
  refine hf_callV1 (j := 1) g (cc_children_hasNeed (a1 := a1)) kV_RX0_36 (by decide) (by decide) rfl rfl rfl rfl (Nat.le_of_ble_eq_true rfl) dX0_reviewDay_2 (fun v1 => ?_)
  refine hf_if_eq (tgt := 18) gc dX0_reviewDay_5 (by decide) ?_ ?_
  · refine hf_iconst (v := -1) gc dX0_reviewDay_18 (by decide) ?_
    exact hf_iret g dX0_reviewDay_19 rfl
  · refine hf_iload_n (i := 2) (q := 2) gc dX0_reviewDay_8 rfl rfl ?_
    refine hf_if_lt (tgt := 18) gc dX0_reviewDay_9 (by decide) ?_ ?_
    · refine hf_iconst (v := -1) gc dX0_reviewDay_18 (by decide) ?_
      exact hf_iret g dX0_reviewDay_19 rfl
    · refine hf_iload_n (i := 2) (q := 2) gc dX0_reviewDay_12 rfl rfl ?_
      refine hf_bipush (v := 13) gc dX0_reviewDay_13 (by decide) ?_
      refine hf_icmp_lt (tgt := 20) gc dX0_reviewDay_15 (by decide) ?_ ?_
      · refine hf_iload_n (i := 2) (q := 2) gc dX0_reviewDay_20 rfl rfl ?_
        refine hf_if_ne (tgt := 29) gc dX0_reviewDay_21 (by decide) ?_ ?_
        · refine hf_bipush (v := 28) gc dX0_reviewDay_29 (by decide) ?_
          refine hf_bipush (v := 90) gc dX0_reviewDay_31 (by decide) ?_
          refine hf_iload_n (i := 2) (q := 2) gc dX0_reviewDay_33 rfl rfl ?_
          refine hf_iconst (v := 1) gc dX0_reviewDay_34 (by decide) ?_
          refine hf_isub gc dX0_reviewDay_35 ?_
          refine hf_imul gc dX0_reviewDay_36 ?_
          refine hf_iadd gc dX0_reviewDay_37 ?_
          refine hf_sub (lv' := [(0, .ref (ad 1)), (1, .int a1)]) [0, 1] rfl ?_
          exact xc_children_reviewDay_b38 g _ _
        · refine hf_bipush (v := 7) gc dX0_reviewDay_24 (by decide) ?_
          refine hf_goto (tgt := 38) gc dX0_reviewDay_26 (by decide) ?_
          refine hf_sub (lv' := [(0, .ref (ad 1)), (1, .int a1)]) [0, 1] rfl ?_
          exact xc_children_reviewDay_b38 g _ _
      · refine hf_iconst (v := -1) gc dX0_reviewDay_18 (by decide) ?_
        exact hf_iret g dX0_reviewDay_19 rfl
theorem cc_children_reviewDay {l0 : Launch} {D0 : va_G} {ad : Nat → Nat} {cA : Nat → ClassId} {E : State → Prop} {s : hf_St} {a1 : Int32} {a2 : Int32} : hf_Ct l0 D0 hcT ad cA E 2 yX0_reviewDay cX0_reviewDay 5 (some .int) [.ref (ad 1), .int a1, .int a2] s (Fc_children_reviewDay s a1 a2) (hf_rp s) := hf_met (by decide) (Nat.le_of_ble_eq_true rfl) (fun _ _ g => xc_children_reviewDay g)
set_option maxHeartbeats 2000000 in
set_option maxRecDepth 20000 in
theorem xc_hf_review {x : hf_Cx} {ad : Nat → Nat} {cA : Nat → ClassId} {E : State → Prop} {A : Nat → Prop} {l0 : Launch} {D0 : va_G} (g : hf_G x hcT ad cA E A l0 D0 cX11_review 3 RX11 (some .int) 3) {s : hf_St} {a1 : Int32} {a2 : Int32} : hf_X x A 3 (0, 0) (hf_Q x hcT ad cA A (hf_rp s)) (Fc_hf_review s a1 a2) (hf_wd hcT ad cA s) 0 [(0, .ref (ad 0)), (1, .int a1), (2, .int a2)] [] := by
  have gc := g.1
  unfold Fc_hf_review
  refine hf_aload_n (i := 0) (q := 0) gc dX11_review_0 rfl rfl ?_
  refine hf_getR (j := 0) (k := 8) (r := 11) g rfl rfl kF_RX11_72 dX11_review_1 ?_
  refine hf_iload_n (i := 1) (q := 1) gc dX11_review_4 rfl rfl ?_
  refine hf_callV1 (j := 11) g (cc_latest_homeOf (a1 := a1)) kV_RX11_182 (by decide) (by decide) rfl rfl rfl rfl (Nat.le_of_ble_eq_true rfl) dX11_review_5 (fun v1 => ?_)
  refine hf_iconst (v := -1) gc dX11_review_8 (by decide) ?_
  refine hf_icmp_ne (tgt := 16) gc dX11_review_9 (by decide) ?_ ?_
  · refine hf_aload_n (i := 0) (q := 0) gc dX11_review_16 rfl rfl ?_
    refine hf_getR (j := 0) (k := 0) (r := 1) g rfl rfl kF_RX11_10 dX11_review_17 ?_
    refine hf_iload_n (i := 1) (q := 1) gc dX11_review_20 rfl rfl ?_
    refine hf_iload_n (i := 2) (q := 2) gc dX11_review_21 rfl rfl ?_
    refine hf_callV1 (j := 1) g (cc_children_reviewDay (a1 := a1) (a2 := a2)) kV_RX11_190 (by decide) (by decide) rfl rfl rfl rfl (Nat.le_of_ble_eq_true rfl) dX11_review_22 (fun v2 => ?_)
    exact hf_iret g dX11_review_25 rfl
  · refine hf_iconst (v := -1) gc dX11_review_12 (by decide) ?_
    refine hf_goto (tgt := 25) gc dX11_review_13 (by decide) ?_
    exact hf_iret g dX11_review_25 rfl
theorem cc_hf_review {l0 : Launch} {D0 : va_G} {ad : Nat → Nat} {cA : Nat → ClassId} {E : State → Prop} {s : hf_St} {a1 : Int32} {a2 : Int32} : hf_Ct l0 D0 hcT ad cA E 3 yX11_review cX11_review 3 (some .int) [.ref (ad 0), .int a1, .int a2] s (Fc_hf_review s a1 a2) (hf_rp s) := hf_met (by decide) (Nat.le_of_ble_eq_true rfl) (fun _ _ g => xc_hf_review g)
set_option maxHeartbeats 2000000 in
set_option maxRecDepth 20000 in
theorem xc_children_hasReviewOn_b28 {x : hf_Cx} {ad : Nat → Nat} {cA : Nat → ClassId} {E : State → Prop} {A : Nat → Prop} {l0 : Launch} {D0 : va_G} {s : hf_St} (g : hf_G x hcT ad cA E A l0 D0 cX0_hasReviewOn 5 RX0 (some .boolean) 3) (l4 : Int32) : hf_X x A 5 (0, 0) (hf_Q x hcT ad cA A (hf_rp s)) (Fc_children_hasReviewOn_b28 s l4) (hf_wd hcT ad cA s) 28 [(4, .int l4)] [] := by
  have gc := g.1
  unfold Fc_children_hasReviewOn_b28
  refine hf_iload (i := 4) (q := 0) gc dX0_hasReviewOn_28 rfl ?_
  refine hf_iconst (v := -1) gc dX0_hasReviewOn_30 (by decide) ?_
  refine hf_icmp_eq (tgt := 38) gc dX0_hasReviewOn_31 (by decide) ?_ ?_
  · refine hf_iconst (v := 0) gc dX0_hasReviewOn_38 (by decide) ?_
    exact hf_zret g dX0_hasReviewOn_39 rfl
  · refine hf_iconst (v := 1) gc dX0_hasReviewOn_34 (by decide) ?_
    refine hf_goto (tgt := 39) gc dX0_hasReviewOn_35 (by decide) ?_
    exact hf_zret g dX0_hasReviewOn_39 rfl
set_option maxHeartbeats 2000000 in
set_option maxRecDepth 20000 in
theorem xc_children_hasReviewOn_l2 {x : hf_Cx} {ad : Nat → Nat} {cA : Nat → ClassId} {E : State → Prop} {A : Nat → Prop} {l0 : Launch} {D0 : va_G} {s : hf_St} (g : hf_G x hcT ad cA E A l0 D0 cX0_hasReviewOn 5 RX0 (some .boolean) 3) : ∀ (n : Nat) (l1 : Int32) (l2 : Int32) (l3 : Int32), hf_X x A 5 (0, 0) (hf_Q x hcT ad cA A (hf_rp s)) (Fc_children_hasReviewOn_l2 s n l1 l2 l3) (hf_wd hcT ad cA s) 2 [(0, .ref (ad 1)), (1, .int l1), (2, .int l2), (3, .int l3)] [] := by
  have gc := g.1
  intro n
  induction n with
  | zero => intro l1 l2 l3; exact hf_none
  | succ n ih =>
    intro l1 l2 l3
    rw [Fc_children_hasReviewOn_l2]
    refine hf_iload_n (i := 3) (q := 3) gc dX0_hasReviewOn_2 rfl rfl ?_
    refine hf_bipush (v := 13) gc dX0_hasReviewOn_3 (by decide) ?_
    refine hf_icmp_ge (tgt := 46) gc dX0_hasReviewOn_5 (by decide) ?_ ?_
    · refine hf_iconst (v := 0) gc dX0_hasReviewOn_46 (by decide) ?_
      exact hf_zret g dX0_hasReviewOn_47 rfl
    · refine hf_aload_n (i := 0) (q := 0) gc dX0_hasReviewOn_8 rfl rfl ?_
      refine hf_iload_n (i := 1) (q := 1) gc dX0_hasReviewOn_9 rfl rfl ?_
      refine hf_iload_n (i := 3) (q := 3) gc dX0_hasReviewOn_10 rfl rfl ?_
      refine hf_callV1 (j := 1) g (cc_children_reviewDay (a1 := l1) (a2 := l3)) kV_RX0_39 (by decide) (by decide) rfl rfl rfl rfl (Nat.le_of_ble_eq_true rfl) dX0_hasReviewOn_11 (fun v1 => ?_)
      refine hf_istore (i := 4) (lv' := [(4, .int v1), (0, .ref (ad 1)), (1, .int l1), (2, .int l2), (3, .int l3)]) gc dX0_hasReviewOn_14 (by decide) rfl ?_
      refine hf_iload (i := 4) (q := 0) gc dX0_hasReviewOn_16 rfl ?_
      refine hf_iconst (v := -1) gc dX0_hasReviewOn_18 (by decide) ?_
      refine hf_icmp_eq (tgt := 28) gc dX0_hasReviewOn_19 (by decide) ?_ ?_
      · refine hf_sub (lv' := [(4, .int v1)]) [0] rfl ?_
        exact xc_children_hasReviewOn_b28 g _
      · refine hf_iload (i := 4) (q := 0) gc dX0_hasReviewOn_22 rfl ?_
        refine hf_iload_n (i := 2) (q := 3) gc dX0_hasReviewOn_24 rfl rfl ?_
        refine hf_icmp_ne (tgt := 40) gc dX0_hasReviewOn_25 (by decide) ?_ ?_
        · refine hf_iinc (q := 4) (v' := l3 + (1 : Int32)) (lv' := [(3, .int (l3 + (1 : Int32))), (4, .int v1), (0, .ref (ad 1)), (1, .int l1), (2, .int l2)]) gc dX0_hasReviewOn_40 rfl rfl (by decide) rfl ?_
          refine hf_goto (tgt := 2) gc dX0_hasReviewOn_43 (by decide) ?_
          refine hf_sub (lv' := [(0, .ref (ad 1)), (1, .int l1), (2, .int l2), (3, .int (l3 + (1 : Int32)))]) [2, 3, 4, 0] rfl ?_
          exact ih _ _ _
        · refine hf_sub (lv' := [(4, .int v1)]) [0] rfl ?_
          exact xc_children_hasReviewOn_b28 g _
set_option maxHeartbeats 2000000 in
set_option maxRecDepth 20000 in
theorem xc_children_hasReviewOn {x : hf_Cx} {ad : Nat → Nat} {cA : Nat → ClassId} {E : State → Prop} {A : Nat → Prop} {l0 : Launch} {D0 : va_G} (g : hf_G x hcT ad cA E A l0 D0 cX0_hasReviewOn 5 RX0 (some .boolean) 3) {s : hf_St} {a1 : Int32} {a2 : Int32} : hf_X x A 5 (0, 0) (hf_Q x hcT ad cA A (hf_rp s)) (Fc_children_hasReviewOn s a1 a2) (hf_wd hcT ad cA s) 0 [(0, .ref (ad 1)), (1, .int a1), (2, .int a2)] [] := by
  have gc := g.1
  unfold Fc_children_hasReviewOn
  refine hf_iconst (v := 0) gc dX0_hasReviewOn_0 (by decide) ?_
  refine hf_istore_n (i := 3) (lv' := [(3, .int ((0 : Int32))), (0, .ref (ad 1)), (1, .int a1), (2, .int a2)]) gc dX0_hasReviewOn_1 rfl (by decide) rfl ?_
  refine hf_sub (lv' := [(0, .ref (ad 1)), (1, .int a1), (2, .int a2), (3, .int ((0 : Int32)))]) [1, 2, 3, 0] rfl ?_
  exact xc_children_hasReviewOn_l2 g hf_fuel _ _ _
theorem cc_children_hasReviewOn {l0 : Launch} {D0 : va_G} {ad : Nat → Nat} {cA : Nat → ClassId} {E : State → Prop} {s : hf_St} {a1 : Int32} {a2 : Int32} : hf_Ct l0 D0 hcT ad cA E 3 yX0_hasReviewOn cX0_hasReviewOn 5 (some .boolean) [.ref (ad 1), .int a1, .int a2] s (Fc_children_hasReviewOn s a1 a2) (hf_rp s) := hf_met (by decide) (Nat.le_of_ble_eq_true rfl) (fun _ _ g => xc_children_hasReviewOn g)
set_option maxHeartbeats 2000000 in
set_option maxRecDepth 20000 in
theorem xc_hf_reviews_l13 {x : hf_Cx} {ad : Nat → Nat} {cA : Nat → ClassId} {E : State → Prop} {A : Nat → Prop} {l0 : Launch} {D0 : va_G} {s : hf_St} (g : hf_G x hcT ad cA E A l0 D0 cX11_reviews 4 RX11 (some .int) 4) : ∀ (n : Nat) (l1 : Int32) (l2 : Int32) (l3 : Int32), hf_X x A 4 (0, 0) (hf_Q x hcT ad cA A (hf_rp s)) (Fc_hf_reviews_l13 s n l1 l2 l3) (hf_wd hcT ad cA s) 13 [(0, .ref (ad 0)), (1, .int l1), (2, .int l2), (3, .int l3)] [] := by
  have gc := g.1
  intro n
  induction n with
  | zero => intro l1 l2 l3; exact hf_none
  | succ n ih =>
    intro l1 l2 l3
    rw [Fc_hf_reviews_l13]
    refine hf_iload_n (i := 3) (q := 3) gc dX11_reviews_13 rfl rfl ?_
    refine hf_aload_n (i := 0) (q := 0) gc dX11_reviews_14 rfl rfl ?_
    refine hf_getR (j := 0) (k := 0) (r := 1) g rfl rfl kF_RX11_10 dX11_reviews_15 ?_
    refine hf_callV1 (j := 1) g (cc_children_size) kV_RX11_185 (by decide) (by decide) rfl rfl rfl rfl (Nat.le_of_ble_eq_true rfl) dX11_reviews_18 (fun v1 => ?_)
    refine hf_icmp_ge (tgt := 57) gc dX11_reviews_21 (by decide) ?_ ?_
    · refine hf_iload_n (i := 2) (q := 2) gc dX11_reviews_57 rfl rfl ?_
      exact hf_iret g dX11_reviews_58 rfl
    · refine hf_aload_n (i := 0) (q := 0) gc dX11_reviews_24 rfl rfl ?_
      refine hf_getR (j := 0) (k := 8) (r := 11) g rfl rfl kF_RX11_72 dX11_reviews_25 ?_
      refine hf_iload_n (i := 3) (q := 3) gc dX11_reviews_28 rfl rfl ?_
      refine hf_callV1 (j := 11) g (cc_latest_homeOf (a1 := l3)) kV_RX11_182 (by decide) (by decide) rfl rfl rfl rfl (Nat.le_of_ble_eq_true rfl) dX11_reviews_29 (fun v2 => ?_)
      refine hf_iconst (v := -1) gc dX11_reviews_32 (by decide) ?_
      refine hf_icmp_eq (tgt := 51) gc dX11_reviews_33 (by decide) ?_ ?_
      · refine hf_iinc (q := 3) (v' := l3 + (1 : Int32)) (lv' := [(3, .int (l3 + (1 : Int32))), (0, .ref (ad 0)), (1, .int l1), (2, .int l2)]) gc dX11_reviews_51 rfl rfl (by decide) rfl ?_
        refine hf_goto (tgt := 13) gc dX11_reviews_54 (by decide) ?_
        refine hf_sub (lv' := [(0, .ref (ad 0)), (1, .int l1), (2, .int l2), (3, .int (l3 + (1 : Int32)))]) [1, 2, 3, 0] rfl ?_
        exact ih _ _ _
      · refine hf_aload_n (i := 0) (q := 0) gc dX11_reviews_36 rfl rfl ?_
        refine hf_getR (j := 0) (k := 0) (r := 1) g rfl rfl kF_RX11_10 dX11_reviews_37 ?_
        refine hf_iload_n (i := 3) (q := 3) gc dX11_reviews_40 rfl rfl ?_
        refine hf_iload_n (i := 1) (q := 1) gc dX11_reviews_41 rfl rfl ?_
        refine hf_callV1 (j := 1) g (cc_children_hasReviewOn (a1 := l3) (a2 := l1)) kV_RX11_193 (by decide) (by decide) rfl rfl rfl rfl (Nat.le_of_ble_eq_true rfl) dX11_reviews_42 (fun v3 => ?_)
        refine hf_if_eq (tgt := 51) gc dX11_reviews_45 (by decide) ?_ ?_
        · refine hf_iinc (q := 3) (v' := l3 + (1 : Int32)) (lv' := [(3, .int (l3 + (1 : Int32))), (0, .ref (ad 0)), (1, .int l1), (2, .int l2)]) gc dX11_reviews_51 rfl rfl (by decide) rfl ?_
          refine hf_goto (tgt := 13) gc dX11_reviews_54 (by decide) ?_
          refine hf_sub (lv' := [(0, .ref (ad 0)), (1, .int l1), (2, .int l2), (3, .int (l3 + (1 : Int32)))]) [1, 2, 3, 0] rfl ?_
          exact ih _ _ _
        · refine hf_iinc (q := 2) (v' := l2 + (1 : Int32)) (lv' := [(2, .int (l2 + (1 : Int32))), (0, .ref (ad 0)), (1, .int l1), (3, .int l3)]) gc dX11_reviews_48 rfl rfl (by decide) rfl ?_
          refine hf_iinc (q := 3) (v' := l3 + (1 : Int32)) (lv' := [(3, .int (l3 + (1 : Int32))), (2, .int (l2 + (1 : Int32))), (0, .ref (ad 0)), (1, .int l1)]) gc dX11_reviews_51 rfl rfl (by decide) rfl ?_
          refine hf_goto (tgt := 13) gc dX11_reviews_54 (by decide) ?_
          refine hf_sub (lv' := [(0, .ref (ad 0)), (1, .int l1), (2, .int (l2 + (1 : Int32))), (3, .int (l3 + (1 : Int32)))]) [2, 3, 1, 0] rfl ?_
          exact ih _ _ _
set_option maxHeartbeats 2000000 in
set_option maxRecDepth 20000 in
theorem xc_hf_reviews {x : hf_Cx} {ad : Nat → Nat} {cA : Nat → ClassId} {E : State → Prop} {A : Nat → Prop} {l0 : Launch} {D0 : va_G} (g : hf_G x hcT ad cA E A l0 D0 cX11_reviews 4 RX11 (some .int) 4) {s : hf_St} {a1 : Int32} : hf_X x A 4 (0, 0) (hf_Q x hcT ad cA A (hf_rp s)) (Fc_hf_reviews s a1) (hf_wd hcT ad cA s) 0 [(0, .ref (ad 0)), (1, .int a1)] [] := by
  have gc := g.1
  unfold Fc_hf_reviews
  refine hf_iload_n (i := 1) (q := 1) gc dX11_reviews_0 rfl rfl ?_
  refine hf_callS1 g (cc_hf_isDay (a1 := a1)) kS_RX11_89 (by decide) (by decide) rfl rfl (Nat.le_of_ble_eq_true rfl) dX11_reviews_1 (fun v1 => ?_)
  refine hf_if_ne (tgt := 9) gc dX11_reviews_4 (by decide) ?_ ?_
  · refine hf_iconst (v := 0) gc dX11_reviews_9 (by decide) ?_
    refine hf_istore_n (i := 2) (lv' := [(2, .int ((0 : Int32))), (0, .ref (ad 0)), (1, .int a1)]) gc dX11_reviews_10 rfl (by decide) rfl ?_
    refine hf_iconst (v := 0) gc dX11_reviews_11 (by decide) ?_
    refine hf_istore_n (i := 3) (lv' := [(3, .int ((0 : Int32))), (2, .int ((0 : Int32))), (0, .ref (ad 0)), (1, .int a1)]) gc dX11_reviews_12 rfl (by decide) rfl ?_
    refine hf_sub (lv' := [(0, .ref (ad 0)), (1, .int a1), (2, .int ((0 : Int32))), (3, .int ((0 : Int32)))]) [2, 3, 1, 0] rfl ?_
    exact xc_hf_reviews_l13 g hf_fuel _ _ _
  · refine hf_iconst (v := -1) gc dX11_reviews_7 (by decide) ?_
    exact hf_iret g dX11_reviews_8 rfl
theorem cc_hf_reviews {l0 : Launch} {D0 : va_G} {ad : Nat → Nat} {cA : Nat → ClassId} {E : State → Prop} {s : hf_St} {a1 : Int32} : hf_Ct l0 D0 hcT ad cA E 4 yX11_reviews cX11_reviews 4 (some .int) [.ref (ad 0), .int a1] s (Fc_hf_reviews s a1) (hf_rp s) := hf_met (by decide) (Nat.le_of_ble_eq_true rfl) (fun _ _ g => xc_hf_reviews g)
