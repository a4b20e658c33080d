set_option maxHeartbeats 2000000 in
set_option maxRecDepth 20000 in
theorem xm_md_in {x : hf_Cx} {ad : Nat → Nat} {cA : Nat → ClassId} {E : State → Prop} {A : Nat → Prop} {l0 : Launch} {D0 : va_G} (g : hf_G x hmT ad cA E A l0 D0 cX12_in 3 RX12 (some .boolean) 0) {s : hf_St} {a1 : Int32} {a2 : Int32} {a3 : Int32} : hf_X x A 3 (0, 0) (hf_Q x hmT ad cA A (hf_rp s)) (Fm_md_in s a1 a2 a3) (hf_wd hmT ad cA s) 0 [(0, .int a1), (1, .int a2), (2, .int a3)] [] := by
  have gc := g.1
  unfold Fm_md_in
  refine hf_iload_n (i := 0) (q := 0) gc dX12_in_0 rfl rfl ?_
  refine hf_iload_n (i := 1) (q := 1) gc dX12_in_1 rfl rfl ?_
  refine hf_icmp_lt (tgt := 14) gc dX12_in_2 (by decide) ?_ ?_
  · refine hf_iconst (v := 0) gc dX12_in_14 (by decide) ?_
    exact hf_zret g dX12_in_15 rfl
  · refine hf_iload_n (i := 0) (q := 0) gc dX12_in_5 rfl rfl ?_
    refine hf_iload_n (i := 2) (q := 2) gc dX12_in_6 rfl rfl ?_
    refine hf_icmp_gt (tgt := 14) gc dX12_in_7 (by decide) ?_ ?_
    · refine hf_iconst (v := 0) gc dX12_in_14 (by decide) ?_
      exact hf_zret g dX12_in_15 rfl
    · refine hf_iconst (v := 1) gc dX12_in_10 (by decide) ?_
      refine hf_goto (tgt := 15) gc dX12_in_11 (by decide) ?_
      exact hf_zret g dX12_in_15 rfl
theorem cm_md_in {l0 : Launch} {D0 : va_G} {ad : Nat → Nat} {cA : Nat → ClassId} {E : State → Prop} {s : hf_St} {a1 : Int32} {a2 : Int32} {a3 : Int32} : hf_Ct l0 D0 hmT ad cA E 0 yX12_in cX12_in 3 (some .boolean) [.int a1, .int a2, .int a3] s (Fm_md_in s a1 a2 a3) (hf_rp s) := hf_met (by decide) (Nat.le_of_ble_eq_true rfl) (fun _ _ g => xm_md_in g)
set_option maxHeartbeats 2000000 in
set_option maxRecDepth 20000 in
theorem xm_md_clock {x : hf_Cx} {ad : Nat → Nat} {cA : Nat → ClassId} {E : State → Prop} {A : Nat → Prop} {l0 : Launch} {D0 : va_G} (g : hf_G x hmT ad cA E A l0 D0 cX12_clock 2 RX12 (some .boolean) 1) {s : hf_St} {a1 : Int32} : hf_X x A 2 (0, 0) (hf_Q x hmT ad cA A hf_ri) (Fm_md_clock s a1) (hf_wd hmT ad cA s) 0 [(0, .ref (ad 0)), (1, .int a1)] [] := by
  have gc := g.1
  unfold Fm_md_clock
  refine hf_iload_n (i := 1) (q := 1) gc dX12_clock_0 rfl rfl ?_
  refine hf_aload_n (i := 0) (q := 0) gc dX12_clock_1 rfl rfl ?_
  refine hf_getI (j := 0) (k := 0) g rfl rfl kF_RX12_127 dX12_clock_2 ?_
  refine hf_sipush (v := 999) gc dX12_clock_5 (by decide) ?_
  refine hf_callS1 g (cm_md_in (a1 := a1) (a2 := s.1 0 0) (a3 := (999 : Int32))) kS_RX12_123 (by decide) (by decide) rfl rfl (Nat.le_of_ble_eq_true rfl) dX12_clock_8 (fun v1 => ?_)
  refine hf_if_ne (tgt := 16) gc dX12_clock_11 (by decide) ?_ ?_
  · refine hf_aload_n (i := 0) (q := 0) gc dX12_clock_16 rfl rfl ?_
    refine hf_iload_n (i := 1) (q := 1) gc dX12_clock_17 rfl rfl ?_
    refine hf_putI (j := 0) (k := 0) g rfl rfl kP_RX12_127 rfl rfl dX12_clock_18 (fun s2 => ?_)
    refine hf_iconst (v := 1) gc dX12_clock_21 (by decide) ?_
    exact hf_zret g dX12_clock_22 rfl
  · refine hf_iconst (v := 0) gc dX12_clock_14 (by decide) ?_
    exact hf_zret g dX12_clock_15 rfl
theorem cm_md_clock {l0 : Launch} {D0 : va_G} {ad : Nat → Nat} {cA : Nat → ClassId} {E : State → Prop} {s : hf_St} {a1 : Int32} : hf_Ct l0 D0 hmT ad cA E 1 yX12_clock cX12_clock 2 (some .boolean) [.ref (ad 0), .int a1] s (Fm_md_clock s a1) hf_ri := hf_met (by decide) (Nat.le_of_ble_eq_true rfl) (fun _ _ g => xm_md_clock g)
set_option maxHeartbeats 2000000 in
set_option maxRecDepth 20000 in
theorem xm_md_child {x : hf_Cx} {ad : Nat → Nat} {cA : Nat → ClassId} {E : State → Prop} {A : Nat → Prop} {l0 : Launch} {D0 : va_G} (g : hf_G x hmT ad cA E A l0 D0 cX12_child 2 RX12 (some .int) 1) {s : hf_St} {a1 : Int32} : hf_X x A 2 (0, 0) (hf_Q x hmT ad cA A hf_ri) (Fm_md_child s a1) (hf_wd hmT ad cA s) 0 [(0, .ref (ad 0)), (1, .int a1)] [] := by
  have gc := g.1
  unfold Fm_md_child
  refine hf_aload_n (i := 0) (q := 0) gc dX12_child_0 rfl rfl ?_
  refine hf_getI (j := 0) (k := 1) g rfl rfl kF_RX12_131 dX12_child_1 ?_
  refine hf_bipush (v := 7) gc dX12_child_4 (by decide) ?_
  refine hf_icmp_eq (tgt := 18) gc dX12_child_6 (by decide) ?_ ?_
  · refine hf_iconst (v := -1) gc dX12_child_18 (by decide) ?_
    exact hf_iret g dX12_child_19 rfl
  · refine hf_iload_n (i := 1) (q := 1) gc dX12_child_9 rfl rfl ?_
    refine hf_iconst (v := 0) gc dX12_child_10 (by decide) ?_
    refine hf_iconst (v := 3) gc dX12_child_11 (by decide) ?_
    refine hf_callS1 g (cm_md_in (a1 := a1) (a2 := (0 : Int32)) (a3 := (3 : Int32))) kS_RX12_123 (by decide) (by decide) rfl rfl (Nat.le_of_ble_eq_true rfl) dX12_child_12 (fun v1 => ?_)
    refine hf_if_ne (tgt := 20) gc dX12_child_15 (by decide) ?_ ?_
    · refine hf_aload_n (i := 0) (q := 0) gc dX12_child_20 rfl rfl ?_
      refine hf_getR (j := 0) (k := 2) (r := 1) g rfl rfl kF_RX12_7 dX12_child_21 ?_
      refine hf_aload_n (i := 0) (q := 0) gc dX12_child_24 rfl rfl ?_
      refine hf_getI (j := 0) (k := 1) g rfl rfl kF_RX12_131 dX12_child_25 ?_
      refine hf_iload_n (i := 1) (q := 1) gc dX12_child_28 rfl rfl ?_
      refine hf_iast (a := 0) (r := 1) (n := 7) g rfl rfl dX12_child_29 (fun s2 => ?_)
      refine hf_aload_n (i := 0) (q := 0) gc dX12_child_30 rfl rfl ?_
      refine hf_getR (j := 0) (k := 46) (r := 33) g rfl rfl kF_RX12_108 dX12_child_31 ?_
      refine hf_aload_n (i := 0) (q := 0) gc dX12_child_34 rfl rfl ?_
      refine hf_getI (j := 0) (k := 1) g rfl rfl kF_RX12_131 dX12_child_35 ?_
      refine hf_iconst (v := -1) gc dX12_child_38 (by decide) ?_
      refine hf_iast (a := 32) (r := 33) (n := 7) g rfl rfl dX12_child_39 (fun s3 => ?_)
      refine hf_aload_n (i := 0) (q := 0) gc dX12_child_40 rfl rfl ?_
      refine hf_dup gc dX12_child_41 rfl ?_
      refine hf_getI (j := 0) (k := 1) g rfl rfl kF_RX12_131 dX12_child_42 ?_
      refine hf_iconst (v := 1) gc dX12_child_45 (by decide) ?_
      refine hf_iadd gc dX12_child_46 ?_
      refine hf_putI (j := 0) (k := 1) g rfl rfl kP_RX12_131 rfl rfl dX12_child_47 (fun s4 => ?_)
      refine hf_aload_n (i := 0) (q := 0) gc dX12_child_50 rfl rfl ?_
      refine hf_getI (j := 0) (k := 1) g rfl rfl kF_RX12_131 dX12_child_51 ?_
      refine hf_iconst (v := 1) gc dX12_child_54 (by decide) ?_
      refine hf_isub gc dX12_child_55 ?_
      exact hf_iret g dX12_child_56 rfl
    · refine hf_iconst (v := -1) gc dX12_child_18 (by decide) ?_
      exact hf_iret g dX12_child_19 rfl
theorem cm_md_child {l0 : Launch} {D0 : va_G} {ad : Nat → Nat} {cA : Nat → ClassId} {E : State → Prop} {s : hf_St} {a1 : Int32} : hf_Ct l0 D0 hmT ad cA E 1 yX12_child cX12_child 2 (some .int) [.ref (ad 0), .int a1] s (Fm_md_child s a1) hf_ri := hf_met (by decide) (Nat.le_of_ble_eq_true rfl) (fun _ _ g => xm_md_child g)
set_option maxHeartbeats 2000000 in
set_option maxRecDepth 20000 in
theorem xm_md_home {x : hf_Cx} {ad : Nat → Nat} {cA : Nat → ClassId} {E : State → Prop} {A : Nat → Prop} {l0 : Launch} {D0 : va_G} (g : hf_G x hmT ad cA E A l0 D0 cX12_home 2 RX12 (some .int) 1) {s : hf_St} {a1 : Int32} : hf_X x A 2 (0, 0) (hf_Q x hmT ad cA A hf_ri) (Fm_md_home s a1) (hf_wd hmT ad cA s) 0 [(0, .ref (ad 0)), (1, .int a1)] [] := by
  have gc := g.1
  unfold Fm_md_home
  refine hf_aload_n (i := 0) (q := 0) gc dX12_home_0 rfl rfl ?_
  refine hf_getI (j := 0) (k := 7) g rfl rfl kF_RX12_134 dX12_home_1 ?_
  refine hf_iconst (v := 5) gc dX12_home_4 (by decide) ?_
  refine hf_icmp_eq (tgt := 18) gc dX12_home_5 (by decide) ?_ ?_
  · refine hf_iconst (v := -1) gc dX12_home_18 (by decide) ?_
    exact hf_iret g dX12_home_19 rfl
  · refine hf_iload_n (i := 1) (q := 1) gc dX12_home_8 rfl rfl ?_
    refine hf_iconst (v := 1) gc dX12_home_9 (by decide) ?_
    refine hf_bipush (v := 6) gc dX12_home_10 (by decide) ?_
    refine hf_callS1 g (cm_md_in (a1 := a1) (a2 := (1 : Int32)) (a3 := (6 : Int32))) kS_RX12_123 (by decide) (by decide) rfl rfl (Nat.le_of_ble_eq_true rfl) dX12_home_12 (fun v1 => ?_)
    refine hf_if_ne (tgt := 20) gc dX12_home_15 (by decide) ?_ ?_
    · refine hf_aload_n (i := 0) (q := 0) gc dX12_home_20 rfl rfl ?_
      refine hf_getR (j := 0) (k := 8) (r := 6) g rfl rfl kF_RX12_26 dX12_home_21 ?_
      refine hf_aload_n (i := 0) (q := 0) gc dX12_home_24 rfl rfl ?_
      refine hf_getI (j := 0) (k := 7) g rfl rfl kF_RX12_134 dX12_home_25 ?_
      refine hf_iload_n (i := 1) (q := 1) gc dX12_home_28 rfl rfl ?_
      refine hf_iast (a := 5) (r := 6) (n := 5) g rfl rfl dX12_home_29 (fun s2 => ?_)
      refine hf_aload_n (i := 0) (q := 0) gc dX12_home_30 rfl rfl ?_
      refine hf_getR (j := 0) (k := 9) (r := 7) g rfl rfl kF_RX12_29 dX12_home_31 ?_
      refine hf_aload_n (i := 0) (q := 0) gc dX12_home_34 rfl rfl ?_
      refine hf_getI (j := 0) (k := 7) g rfl rfl kF_RX12_134 dX12_home_35 ?_
      refine hf_iconst (v := -1) gc dX12_home_38 (by decide) ?_
      refine hf_iast (a := 6) (r := 7) (n := 5) g rfl rfl dX12_home_39 (fun s3 => ?_)
      refine hf_aload_n (i := 0) (q := 0) gc dX12_home_40 rfl rfl ?_
      refine hf_dup gc dX12_home_41 rfl ?_
      refine hf_getI (j := 0) (k := 7) g rfl rfl kF_RX12_134 dX12_home_42 ?_
      refine hf_iconst (v := 1) gc dX12_home_45 (by decide) ?_
      refine hf_iadd gc dX12_home_46 ?_
      refine hf_putI (j := 0) (k := 7) g rfl rfl kP_RX12_134 rfl rfl dX12_home_47 (fun s4 => ?_)
      refine hf_aload_n (i := 0) (q := 0) gc dX12_home_50 rfl rfl ?_
      refine hf_getI (j := 0) (k := 7) g rfl rfl kF_RX12_134 dX12_home_51 ?_
      refine hf_iconst (v := 1) gc dX12_home_54 (by decide) ?_
      refine hf_isub gc dX12_home_55 ?_
      exact hf_iret g dX12_home_56 rfl
    · refine hf_iconst (v := -1) gc dX12_home_18 (by decide) ?_
      exact hf_iret g dX12_home_19 rfl
theorem cm_md_home {l0 : Launch} {D0 : va_G} {ad : Nat → Nat} {cA : Nat → ClassId} {E : State → Prop} {s : hf_St} {a1 : Int32} : hf_Ct l0 D0 hmT ad cA E 1 yX12_home cX12_home 2 (some .int) [.ref (ad 0), .int a1] s (Fm_md_home s a1) hf_ri := hf_met (by decide) (Nat.le_of_ble_eq_true rfl) (fun _ _ g => xm_md_home g)
set_option maxHeartbeats 2000000 in
set_option maxRecDepth 20000 in
theorem xm_md_isHome {x : hf_Cx} {ad : Nat → Nat} {cA : Nat → ClassId} {E : State → Prop} {A : Nat → Prop} {l0 : Launch} {D0 : va_G} (g : hf_G x hmT ad cA E A l0 D0 cX12_isHome 2 RX12 (some .boolean) 1) {s : hf_St} {a1 : Int32} : hf_X x A 2 (0, 0) (hf_Q x hmT ad cA A (hf_rp s)) (Fm_md_isHome s a1) (hf_wd hmT ad cA s) 0 [(0, .ref (ad 0)), (1, .int a1)] [] := by
  have gc := g.1
  unfold Fm_md_isHome
  refine hf_iload_n (i := 1) (q := 1) gc dX12_isHome_0 rfl rfl ?_
  refine hf_iconst (v := 0) gc dX12_isHome_1 (by decide) ?_
  refine hf_aload_n (i := 0) (q := 0) gc dX12_isHome_2 rfl rfl ?_
  refine hf_getI (j := 0) (k := 7) g rfl rfl kF_RX12_134 dX12_isHome_3 ?_
  refine hf_iconst (v := 1) gc dX12_isHome_6 (by decide) ?_
  refine hf_isub gc dX12_isHome_7 ?_
  refine hf_callS1 g (cm_md_in (a1 := a1) (a2 := (0 : Int32)) (a3 := (s.1 0 7) - ((1 : Int32)))) kS_RX12_123 (by decide) (by decide) rfl rfl (Nat.le_of_ble_eq_true rfl) dX12_isHome_8 (fun v1 => ?_)
  exact hf_zret g dX12_isHome_11 rfl
theorem cm_md_isHome {l0 : Launch} {D0 : va_G} {ad : Nat → Nat} {cA : Nat → ClassId} {E : State → Prop} {s : hf_St} {a1 : Int32} : hf_Ct l0 D0 hmT ad cA E 1 yX12_isHome cX12_isHome 2 (some .boolean) [.ref (ad 0), .int a1] s (Fm_md_isHome s a1) (hf_rp s) := hf_met (by decide) (Nat.le_of_ble_eq_true rfl) (fun _ _ g => xm_md_isHome g)
set_option maxHeartbeats 2000000 in
set_option maxRecDepth 20000 in
theorem xm_md_isDay {x : hf_Cx} {ad : Nat → Nat} {cA : Nat → ClassId} {E : State → Prop} {A : Nat → Prop} {l0 : Launch} {D0 : va_G} (g : hf_G x hmT ad cA E A l0 D0 cX12_isDay 1 RX12 (some .boolean) 1) {s : hf_St} {a1 : Int32} : hf_X x A 1 (0, 0) (hf_Q x hmT ad cA A (hf_rp s)) (Fm_md_isDay s a1) (hf_wd hmT ad cA s) 0 [(0, .int a1)] [] := by
  have gc := g.1
  unfold Fm_md_isDay
  refine hf_iload_n (i := 0) (q := 0) gc dX12_isDay_0 rfl rfl ?_
  refine hf_iconst (v := 0) gc dX12_isDay_1 (by decide) ?_
  refine hf_sipush (v := 999) gc dX12_isDay_2 (by decide) ?_
  refine hf_callS1 g (cm_md_in (a1 := a1) (a2 := (0 : Int32)) (a3 := (999 : Int32))) kS_RX12_123 (by decide) (by decide) rfl rfl (Nat.le_of_ble_eq_true rfl) dX12_isDay_5 (fun v1 => ?_)
  exact hf_zret g dX12_isDay_8 rfl
theorem cm_md_isDay {l0 : Launch} {D0 : va_G} {ad : Nat → Nat} {cA : Nat → ClassId} {E : State → Prop} {s : hf_St} {a1 : Int32} : hf_Ct l0 D0 hmT ad cA E 1 yX12_isDay cX12_isDay 1 (some .boolean) [.int a1] s (Fm_md_isDay s a1) (hf_rp s) := hf_met (by decide) (Nat.le_of_ble_eq_true rfl) (fun _ _ g => xm_md_isDay g)
set_option maxHeartbeats 2000000 in
set_option maxRecDepth 20000 in
theorem xm_md_isChild {x : hf_Cx} {ad : Nat → Nat} {cA : Nat → ClassId} {E : State → Prop} {A : Nat → Prop} {l0 : Launch} {D0 : va_G} (g : hf_G x hmT ad cA E A l0 D0 cX12_isChild 2 RX12 (some .boolean) 1) {s : hf_St} {a1 : Int32} : hf_X x A 2 (0, 0) (hf_Q x hmT ad cA A (hf_rp s)) (Fm_md_isChild s a1) (hf_wd hmT ad cA s) 0 [(0, .ref (ad 0)), (1, .int a1)] [] := by
  have gc := g.1
  unfold Fm_md_isChild
  refine hf_iload_n (i := 1) (q := 1) gc dX12_isChild_0 rfl rfl ?_
  refine hf_iconst (v := 0) gc dX12_isChild_1 (by decide) ?_
  refine hf_aload_n (i := 0) (q := 0) gc dX12_isChild_2 rfl rfl ?_
  refine hf_getI (j := 0) (k := 1) g rfl rfl kF_RX12_131 dX12_isChild_3 ?_
  refine hf_iconst (v := 1) gc dX12_isChild_6 (by decide) ?_
  refine hf_isub gc dX12_isChild_7 ?_
  refine hf_callS1 g (cm_md_in (a1 := a1) (a2 := (0 : Int32)) (a3 := (s.1 0 1) - ((1 : Int32)))) kS_RX12_123 (by decide) (by decide) rfl rfl (Nat.le_of_ble_eq_true rfl) dX12_isChild_8 (fun v1 => ?_)
  exact hf_zret g dX12_isChild_11 rfl
theorem cm_md_isChild {l0 : Launch} {D0 : va_G} {ad : Nat → Nat} {cA : Nat → ClassId} {E : State → Prop} {s : hf_St} {a1 : Int32} : hf_Ct l0 D0 hmT ad cA E 1 yX12_isChild cX12_isChild 2 (some .boolean) [.ref (ad 0), .int a1] s (Fm_md_isChild s a1) (hf_rp s) := hf_met (by decide) (Nat.le_of_ble_eq_true rfl) (fun _ _ g => xm_md_isChild g)
set_option maxHeartbeats 2000000 in
set_option maxRecDepth 20000 in
theorem xm_md_fact_b85 {x : hf_Cx} {ad : Nat → Nat} {cA : Nat → ClassId} {E : State → Prop} {A : Nat → Prop} {l0 : Launch} {D0 : va_G} (g : hf_G x hmT ad cA E A l0 D0 cX12_fact 6 RX12 (some .int) 2) (s : hf_St) (l3 : Int32) (l4 : Int32) (l5 : Int32) (t0 : Int32) (t1 : Int32) (t2 : Int32) : hf_X x A 6 (0, 0) (hf_Q x hmT ad cA A hf_ri) (Fm_md_fact_b85 s l3 l4 l5 t0 t1 t2) (hf_wd hmT ad cA s) 85 [(0, .ref (ad 0)), (3, .int l3), (4, .int l4), (5, .int l5)] [.int t0, .int t1, .int t2, .ref (ad 11)] := by
  have gc := g.1
  unfold Fm_md_fact_b85
  refine hf_iadd gc dX12_fact_85 ?_
  refine hf_iast (a := 10) (r := 11) (n := 100) g rfl rfl dX12_fact_86 (fun s1 => ?_)
  refine hf_aload_n (i := 0) (q := 0) gc dX12_fact_87 rfl rfl ?_
  refine hf_getR (j := 0) (k := 16) (r := 12) g rfl rfl kF_RX12_44 dX12_fact_88 ?_
  refine hf_aload_n (i := 0) (q := 0) gc dX12_fact_91 rfl rfl ?_
  refine hf_getI (j := 0) (k := 14) g rfl rfl kF_RX12_137 dX12_fact_92 ?_
  refine hf_iload_n (i := 3) (q := 1) gc dX12_fact_95 rfl rfl ?_
  refine hf_iast (a := 11) (r := 12) (n := 100) g rfl rfl dX12_fact_96 (fun s2 => ?_)
  refine hf_aload_n (i := 0) (q := 0) gc dX12_fact_97 rfl rfl ?_
  refine hf_getR (j := 0) (k := 17) (r := 13) g rfl rfl kF_RX12_47 dX12_fact_98 ?_
  refine hf_aload_n (i := 0) (q := 0) gc dX12_fact_101 rfl rfl ?_
  refine hf_getI (j := 0) (k := 14) g rfl rfl kF_RX12_137 dX12_fact_102 ?_
  refine hf_iload (i := 4) (q := 2) gc dX12_fact_105 rfl ?_
  refine hf_iast (a := 12) (r := 13) (n := 100) g rfl rfl dX12_fact_107 (fun s3 => ?_)
  refine hf_aload_n (i := 0) (q := 0) gc dX12_fact_108 rfl rfl ?_
  refine hf_getR (j := 0) (k := 18) (r := 14) g rfl rfl kF_RX12_50 dX12_fact_109 ?_
  refine hf_aload_n (i := 0) (q := 0) gc dX12_fact_112 rfl rfl ?_
  refine hf_getI (j := 0) (k := 14) g rfl rfl kF_RX12_137 dX12_fact_113 ?_
  refine hf_iload (i := 5) (q := 3) gc dX12_fact_116 rfl ?_
  refine hf_iast (a := 13) (r := 14) (n := 100) g rfl rfl dX12_fact_118 (fun s4 => ?_)
  refine hf_aload_n (i := 0) (q := 0) gc dX12_fact_119 rfl rfl ?_
  refine hf_getR (j := 0) (k := 19) (r := 15) g rfl rfl kF_RX12_53 dX12_fact_120 ?_
  refine hf_aload_n (i := 0) (q := 0) gc dX12_fact_123 rfl rfl ?_
  refine hf_getI (j := 0) (k := 14) g rfl rfl kF_RX12_137 dX12_fact_124 ?_
  refine hf_aload_n (i := 0) (q := 0) gc dX12_fact_127 rfl rfl ?_
  refine hf_getI (j := 0) (k := 0) g rfl rfl kF_RX12_127 dX12_fact_128 ?_
  refine hf_iast (a := 14) (r := 15) (n := 100) g rfl rfl dX12_fact_131 (fun s5 => ?_)
  refine hf_aload_n (i := 0) (q := 0) gc dX12_fact_132 rfl rfl ?_
  refine hf_dup gc dX12_fact_133 rfl ?_
  refine hf_getI (j := 0) (k := 14) g rfl rfl kF_RX12_137 dX12_fact_134 ?_
  refine hf_iconst (v := 1) gc dX12_fact_137 (by decide) ?_
  refine hf_iadd gc dX12_fact_138 ?_
  refine hf_putI (j := 0) (k := 14) g rfl rfl kP_RX12_137 rfl rfl dX12_fact_139 (fun s6 => ?_)
  refine hf_aload_n (i := 0) (q := 0) gc dX12_fact_142 rfl rfl ?_
  refine hf_getI (j := 0) (k := 14) g rfl rfl kF_RX12_137 dX12_fact_143 ?_
  exact hf_iret g dX12_fact_146 rfl
set_option maxHeartbeats 2000000 in
set_option maxRecDepth 20000 in
theorem xm_md_fact_b32 {x : hf_Cx} {ad : Nat → Nat} {cA : Nat → ClassId} {E : State → Prop} {A : Nat → Prop} {l0 : Launch} {D0 : va_G} (g : hf_G x hmT ad cA E A l0 D0 cX12_fact 6 RX12 (some .int) 2) (s : hf_St) (l1 : Int32) (l2 : Int32) (l3 : Int32) (l4 : Int32) (l5 : Int32) : hf_X x A 6 (0, 0) (hf_Q x hmT ad cA A hf_ri) (Fm_md_fact_b32 s l1 l2 l3 l4 l5) (hf_wd hmT ad cA s) 32 [(0, .ref (ad 0)), (1, .int l1), (2, .int l2), (3, .int l3), (4, .int l4), (5, .int l5)] [] := by
  have gc := g.1
  unfold Fm_md_fact_b32
  refine hf_iload_n (i := 3) (q := 3) gc dX12_fact_32 rfl rfl ?_
  refine hf_iconst (v := 0) gc dX12_fact_33 (by decide) ?_
  refine hf_bipush (v := 7) gc dX12_fact_34 (by decide) ?_
  refine hf_callS1 g (cm_md_in (a1 := l3) (a2 := (0 : Int32)) (a3 := (7 : Int32))) kS_RX12_123 (by decide) (by decide) rfl rfl (Nat.le_of_ble_eq_true rfl) dX12_fact_36 (fun v1 => ?_)
  refine hf_if_eq (tgt := 64) gc dX12_fact_39 (by decide) ?_ ?_
  · refine hf_iconst (v := -1) gc dX12_fact_64 (by decide) ?_
    exact hf_iret g dX12_fact_65 rfl
  · refine hf_iload (i := 4) (q := 4) gc dX12_fact_42 rfl ?_
    refine hf_sipush (v := -999) gc dX12_fact_44 (by decide) ?_
    refine hf_sipush (v := 9999) gc dX12_fact_47 (by decide) ?_
    refine hf_callS1 g (cm_md_in (a1 := l4) (a2 := (-999 : Int32)) (a3 := (9999 : Int32))) kS_RX12_123 (by decide) (by decide) rfl rfl (Nat.le_of_ble_eq_true rfl) dX12_fact_50 (fun v2 => ?_)
    refine hf_if_eq (tgt := 64) gc dX12_fact_53 (by decide) ?_ ?_
    · refine hf_iconst (v := -1) gc dX12_fact_64 (by decide) ?_
      exact hf_iret g dX12_fact_65 rfl
    · refine hf_iload (i := 5) (q := 5) gc dX12_fact_56 rfl ?_
      refine hf_callS1 g (cm_md_isDay (a1 := l5)) kS_RX12_147 (by decide) (by decide) rfl rfl (Nat.le_of_ble_eq_true rfl) dX12_fact_58 (fun v3 => ?_)
      refine hf_if_ne (tgt := 66) gc dX12_fact_61 (by decide) ?_ ?_
      · refine hf_aload_n (i := 0) (q := 0) gc dX12_fact_66 rfl rfl ?_
        refine hf_getR (j := 0) (k := 15) (r := 11) g rfl rfl kF_RX12_41 dX12_fact_67 ?_
        refine hf_aload_n (i := 0) (q := 0) gc dX12_fact_70 rfl rfl ?_
        refine hf_getI (j := 0) (k := 14) g rfl rfl kF_RX12_137 dX12_fact_71 ?_
        refine hf_iload_n (i := 2) (q := 2) gc dX12_fact_74 rfl rfl ?_
        refine hf_iload_n (i := 1) (q := 1) gc dX12_fact_75 rfl rfl ?_
        refine hf_if_eq (tgt := 84) gc dX12_fact_76 (by decide) ?_ ?_
        · refine hf_iconst (v := 0) gc dX12_fact_84 (by decide) ?_
          refine hf_sub (lv' := [(0, .ref (ad 0)), (3, .int l3), (4, .int l4), (5, .int l5)]) [0, 3, 4, 5] rfl ?_
          exact xm_md_fact_b85 g _ _ _ _ _ _ _
        · refine hf_bipush (v := 100) gc dX12_fact_79 (by decide) ?_
          refine hf_goto (tgt := 85) gc dX12_fact_81 (by decide) ?_
          refine hf_sub (lv' := [(0, .ref (ad 0)), (3, .int l3), (4, .int l4), (5, .int l5)]) [0, 3, 4, 5] rfl ?_
          exact xm_md_fact_b85 g _ _ _ _ _ _ _
      · refine hf_iconst (v := -1) gc dX12_fact_64 (by decide) ?_
        exact hf_iret g dX12_fact_65 rfl
set_option maxHeartbeats 2000000 in
set_option maxRecDepth 20000 in
theorem xm_md_fact {x : hf_Cx} {ad : Nat → Nat} {cA : Nat → ClassId} {E : State → Prop} {A : Nat → Prop} {l0 : Launch} {D0 : va_G} (g : hf_G x hmT ad cA E A l0 D0 cX12_fact 6 RX12 (some .int) 2) {s : hf_St} {a1 : Int32} {a2 : Int32} {a3 : Int32} {a4 : Int32} {a5 : Int32} : hf_X x A 6 (0, 0) (hf_Q x hmT ad cA A hf_ri) (Fm_md_fact s a1 a2 a3 a4 a5) (hf_wd hmT ad cA s) 0 [(0, .ref (ad 0)), (1, .int a1), (2, .int a2), (3, .int a3), (4, .int a4), (5, .int a5)] [] := by
  have gc := g.1
  unfold Fm_md_fact
  refine hf_aload_n (i := 0) (q := 0) gc dX12_fact_0 rfl rfl ?_
  refine hf_getI (j := 0) (k := 14) g rfl rfl kF_RX12_137 dX12_fact_1 ?_
  refine hf_bipush (v := 100) gc dX12_fact_4 (by decide) ?_
  refine hf_icmp_eq (tgt := 64) gc dX12_fact_6 (by decide) ?_ ?_
  · refine hf_iconst (v := -1) gc dX12_fact_64 (by decide) ?_
    exact hf_iret g dX12_fact_65 rfl
  · refine hf_iload_n (i := 1) (q := 1) gc dX12_fact_9 rfl rfl ?_
    refine hf_if_eq (tgt := 24) gc dX12_fact_10 (by decide) ?_ ?_
    · refine hf_aload_n (i := 0) (q := 0) gc dX12_fact_24 rfl rfl ?_
      refine hf_iload_n (i := 2) (q := 2) gc dX12_fact_25 rfl rfl ?_
      refine hf_callV1 (j := 0) g (cm_md_isChild (a1 := a2)) kV_RX12_144 (by decide) (by decide) rfl rfl rfl rfl (Nat.le_of_ble_eq_true rfl) dX12_fact_26 (fun v1 => ?_)
      refine hf_if_eq (tgt := 64) gc dX12_fact_29 (by decide) ?_ ?_
      · refine hf_iconst (v := -1) gc dX12_fact_64 (by decide) ?_
        exact hf_iret g dX12_fact_65 rfl
      · exact xm_md_fact_b32 g _ _ _ _ _ _
    · refine hf_aload_n (i := 0) (q := 0) gc dX12_fact_13 rfl rfl ?_
      refine hf_iload_n (i := 2) (q := 2) gc dX12_fact_14 rfl rfl ?_
      refine hf_callV1 (j := 0) g (cm_md_isHome (a1 := a2)) kV_RX12_140 (by decide) (by decide) rfl rfl rfl rfl (Nat.le_of_ble_eq_true rfl) dX12_fact_15 (fun v2 => ?_)
      refine hf_if_eq (tgt := 64) gc dX12_fact_18 (by decide) ?_ ?_
      · refine hf_iconst (v := -1) gc dX12_fact_64 (by decide) ?_
        exact hf_iret g dX12_fact_65 rfl
      · refine hf_goto (tgt := 32) gc dX12_fact_21 (by decide) ?_
        exact xm_md_fact_b32 g _ _ _ _ _ _
theorem cm_md_fact {l0 : Launch} {D0 : va_G} {ad : Nat → Nat} {cA : Nat → ClassId} {E : State → Prop} {s : hf_St} {a1 : Int32} {a2 : Int32} {a3 : Int32} {a4 : Int32} {a5 : Int32} : hf_Ct l0 D0 hmT ad cA E 2 yX12_fact cX12_fact 6 (some .int) [.ref (ad 0), .int a1, .int a2, .int a3, .int a4, .int a5] s (Fm_md_fact s a1 a2 a3 a4 a5) hf_ri := hf_met (by decide) (Nat.le_of_ble_eq_true rfl) (fun _ _ g => xm_md_fact g)
set_option maxHeartbeats 2000000 in
set_option maxRecDepth 20000 in
theorem xm_md_valueOf_l6 {x : hf_Cx} {ad : Nat → Nat} {cA : Nat → ClassId} {E : State → Prop} {A : Nat → Prop} {l0 : Launch} {D0 : va_G} {s : hf_St} (g : hf_G x hmT ad cA E A l0 D0 cX12_valueOf 7 RX12 (some .int) 0) : ∀ (n : Nat) (l1 : Int32) (l2 : Int32) (l3 : Int32) (l4 : Int32) (l5 : Int32) (l6 : Int32), hf_X x A 7 (0, 0) (hf_Q x hmT ad cA A (hf_rp s)) (Fm_md_valueOf_l6 s n l1 l2 l3 l4 l5 l6) (hf_wd hmT ad cA s) 6 [(0, .ref (ad 0)), (1, .int l1), (2, .int l2), (3, .int l3), (4, .int l4), (5, .int l5), (6, .int l6)] [] := by
  have gc := g.1
  intro n
  induction n with
  | zero => intro l1 l2 l3 l4 l5 l6; exact hf_none
  | succ n ih =>
    intro l1 l2 l3 l4 l5 l6
    rw [Fm_md_valueOf_l6]
    refine hf_iload (i := 6) (q := 6) gc dX12_valueOf_6 rfl ?_
    refine hf_aload_n (i := 0) (q := 0) gc dX12_valueOf_8 rfl rfl ?_
    refine hf_getI (j := 0) (k := 14) g rfl rfl kF_RX12_137 dX12_valueOf_9 ?_
    refine hf_icmp_ge (tgt := 95) gc dX12_valueOf_12 (by decide) ?_ ?_
    · refine hf_iload (i := 5) (q := 5) gc dX12_valueOf_95 rfl ?_
      refine hf_if_ge (tgt := 104) gc dX12_valueOf_97 (by decide) ?_ ?_
      · refine hf_aload_n (i := 0) (q := 0) gc dX12_valueOf_104 rfl rfl ?_
        refine hf_getR (j := 0) (k := 17) (r := 13) g rfl rfl kF_RX12_47 dX12_valueOf_105 ?_
        refine hf_iload (i := 5) (q := 5) gc dX12_valueOf_108 rfl ?_
        refine hf_iald (a := 12) (r := 13) (n := 100) g rfl rfl dX12_valueOf_110 ?_
        exact hf_iret g dX12_valueOf_111 rfl
      · refine hf_iconst (v := 0) gc dX12_valueOf_100 (by decide) ?_
        refine hf_goto (tgt := 111) gc dX12_valueOf_101 (by decide) ?_
        exact hf_iret g dX12_valueOf_111 rfl
    · refine hf_aload_n (i := 0) (q := 0) gc dX12_valueOf_15 rfl rfl ?_
      refine hf_getR (j := 0) (k := 15) (r := 11) g rfl rfl kF_RX12_41 dX12_valueOf_16 ?_
      refine hf_iload (i := 6) (q := 6) gc dX12_valueOf_19 rfl ?_
      refine hf_iald (a := 10) (r := 11) (n := 100) g rfl rfl dX12_valueOf_21 ?_
      refine hf_iload_n (i := 1) (q := 1) gc dX12_valueOf_22 rfl rfl ?_
      refine hf_icmp_ne (tgt := 89) gc dX12_valueOf_23 (by decide) ?_ ?_
      · refine hf_iinc (q := 6) (v' := l6 + (1 : Int32)) (lv' := [(6, .int (l6 + (1 : Int32))), (0, .ref (ad 0)), (1, .int l1), (2, .int l2), (3, .int l3), (4, .int l4), (5, .int l5)]) gc dX12_valueOf_89 rfl rfl (by decide) rfl ?_
        refine hf_goto (tgt := 6) gc dX12_valueOf_92 (by decide) ?_
        refine hf_sub (lv' := [(0, .ref (ad 0)), (1, .int l1), (2, .int l2), (3, .int l3), (4, .int l4), (5, .int l5), (6, .int (l6 + (1 : Int32)))]) [1, 2, 3, 4, 5, 6, 0] rfl ?_
        exact ih _ _ _ _ _ _
      · refine hf_aload_n (i := 0) (q := 0) gc dX12_valueOf_26 rfl rfl ?_
        refine hf_getR (j := 0) (k := 16) (r := 12) g rfl rfl kF_RX12_44 dX12_valueOf_27 ?_
        refine hf_iload (i := 6) (q := 6) gc dX12_valueOf_30 rfl ?_
        refine hf_iald (a := 11) (r := 12) (n := 100) g rfl rfl dX12_valueOf_32 ?_
        refine hf_iload_n (i := 2) (q := 2) gc dX12_valueOf_33 rfl rfl ?_
        refine hf_icmp_ne (tgt := 89) gc dX12_valueOf_34 (by decide) ?_ ?_
        · refine hf_iinc (q := 6) (v' := l6 + (1 : Int32)) (lv' := [(6, .int (l6 + (1 : Int32))), (0, .ref (ad 0)), (1, .int l1), (2, .int l2), (3, .int l3), (4, .int l4), (5, .int l5)]) gc dX12_valueOf_89 rfl rfl (by decide) rfl ?_
          refine hf_goto (tgt := 6) gc dX12_valueOf_92 (by decide) ?_
          refine hf_sub (lv' := [(0, .ref (ad 0)), (1, .int l1), (2, .int l2), (3, .int l3), (4, .int l4), (5, .int l5), (6, .int (l6 + (1 : Int32)))]) [1, 2, 3, 4, 5, 6, 0] rfl ?_
          exact ih _ _ _ _ _ _
        · refine hf_aload_n (i := 0) (q := 0) gc dX12_valueOf_37 rfl rfl ?_
          refine hf_getR (j := 0) (k := 18) (r := 14) g rfl rfl kF_RX12_50 dX12_valueOf_38 ?_
          refine hf_iload (i := 6) (q := 6) gc dX12_valueOf_41 rfl ?_
          refine hf_iald (a := 13) (r := 14) (n := 100) g rfl rfl dX12_valueOf_43 ?_
          refine hf_iload_n (i := 3) (q := 3) gc dX12_valueOf_44 rfl rfl ?_
          refine hf_icmp_gt (tgt := 89) gc dX12_valueOf_45 (by decide) ?_ ?_
          · refine hf_iinc (q := 6) (v' := l6 + (1 : Int32)) (lv' := [(6, .int (l6 + (1 : Int32))), (0, .ref (ad 0)), (1, .int l1), (2, .int l2), (3, .int l3), (4, .int l4), (5, .int l5)]) gc dX12_valueOf_89 rfl rfl (by decide) rfl ?_
            refine hf_goto (tgt := 6) gc dX12_valueOf_92 (by decide) ?_
            refine hf_sub (lv' := [(0, .ref (ad 0)), (1, .int l1), (2, .int l2), (3, .int l3), (4, .int l4), (5, .int l5), (6, .int (l6 + (1 : Int32)))]) [1, 2, 3, 4, 5, 6, 0] rfl ?_
            exact ih _ _ _ _ _ _
          · refine hf_aload_n (i := 0) (q := 0) gc dX12_valueOf_48 rfl rfl ?_
            refine hf_getR (j := 0) (k := 19) (r := 15) g rfl rfl kF_RX12_53 dX12_valueOf_49 ?_
            refine hf_iload (i := 6) (q := 6) gc dX12_valueOf_52 rfl ?_
            refine hf_iald (a := 14) (r := 15) (n := 100) g rfl rfl dX12_valueOf_54 ?_
            refine hf_iload (i := 4) (q := 4) gc dX12_valueOf_55 rfl ?_
            refine hf_icmp_le (tgt := 63) gc dX12_valueOf_57 (by decide) ?_ ?_
            · refine hf_iload (i := 5) (q := 5) gc dX12_valueOf_63 rfl ?_
              refine hf_if_lt (tgt := 85) gc dX12_valueOf_65 (by decide) ?_ ?_
              · refine hf_iload (i := 6) (q := 6) gc dX12_valueOf_85 rfl ?_
                refine hf_istore (i := 5) (lv' := [(5, .int l6), (0, .ref (ad 0)), (1, .int l1), (2, .int l2), (3, .int l3), (4, .int l4), (6, .int l6)]) gc dX12_valueOf_87 (by decide) rfl ?_
                refine hf_iinc (q := 6) (v' := l6 + (1 : Int32)) (lv' := [(6, .int (l6 + (1 : Int32))), (5, .int l6), (0, .ref (ad 0)), (1, .int l1), (2, .int l2), (3, .int l3), (4, .int l4)]) gc dX12_valueOf_89 rfl rfl (by decide) rfl ?_
                refine hf_goto (tgt := 6) gc dX12_valueOf_92 (by decide) ?_
                refine hf_sub (lv' := [(0, .ref (ad 0)), (1, .int l1), (2, .int l2), (3, .int l3), (4, .int l4), (5, .int l6), (6, .int (l6 + (1 : Int32)))]) [2, 3, 4, 5, 6, 1, 0] rfl ?_
                exact ih _ _ _ _ _ _
              · refine hf_aload_n (i := 0) (q := 0) gc dX12_valueOf_68 rfl rfl ?_
                refine hf_getR (j := 0) (k := 18) (r := 14) g rfl rfl kF_RX12_50 dX12_valueOf_69 ?_
                refine hf_iload (i := 6) (q := 6) gc dX12_valueOf_72 rfl ?_
                refine hf_iald (a := 13) (r := 14) (n := 100) g rfl rfl dX12_valueOf_74 ?_
                refine hf_aload_n (i := 0) (q := 0) gc dX12_valueOf_75 rfl rfl ?_
                refine hf_getR (j := 0) (k := 18) (r := 14) g rfl rfl kF_RX12_50 dX12_valueOf_76 ?_
                refine hf_iload (i := 5) (q := 5) gc dX12_valueOf_79 rfl ?_
                refine hf_iald (a := 13) (r := 14) (n := 100) g rfl rfl dX12_valueOf_81 ?_
                refine hf_icmp_lt (tgt := 89) gc dX12_valueOf_82 (by decide) ?_ ?_
                · refine hf_iinc (q := 6) (v' := l6 + (1 : Int32)) (lv' := [(6, .int (l6 + (1 : Int32))), (0, .ref (ad 0)), (1, .int l1), (2, .int l2), (3, .int l3), (4, .int l4), (5, .int l5)]) gc dX12_valueOf_89 rfl rfl (by decide) rfl ?_
                  refine hf_goto (tgt := 6) gc dX12_valueOf_92 (by decide) ?_
                  refine hf_sub (lv' := [(0, .ref (ad 0)), (1, .int l1), (2, .int l2), (3, .int l3), (4, .int l4), (5, .int l5), (6, .int (l6 + (1 : Int32)))]) [1, 2, 3, 4, 5, 6, 0] rfl ?_
                  exact ih _ _ _ _ _ _
                · refine hf_iload (i := 6) (q := 6) gc dX12_valueOf_85 rfl ?_
                  refine hf_istore (i := 5) (lv' := [(5, .int l6), (0, .ref (ad 0)), (1, .int l1), (2, .int l2), (3, .int l3), (4, .int l4), (6, .int l6)]) gc dX12_valueOf_87 (by decide) rfl ?_
                  refine hf_iinc (q := 6) (v' := l6 + (1 : Int32)) (lv' := [(6, .int (l6 + (1 : Int32))), (5, .int l6), (0, .ref (ad 0)), (1, .int l1), (2, .int l2), (3, .int l3), (4, .int l4)]) gc dX12_valueOf_89 rfl rfl (by decide) rfl ?_
                  refine hf_goto (tgt := 6) gc dX12_valueOf_92 (by decide) ?_
                  refine hf_sub (lv' := [(0, .ref (ad 0)), (1, .int l1), (2, .int l2), (3, .int l3), (4, .int l4), (5, .int l6), (6, .int (l6 + (1 : Int32)))]) [2, 3, 4, 5, 6, 1, 0] rfl ?_
                  exact ih _ _ _ _ _ _
            · refine hf_goto (tgt := 89) gc dX12_valueOf_60 (by decide) ?_
              refine hf_iinc (q := 6) (v' := l6 + (1 : Int32)) (lv' := [(6, .int (l6 + (1 : Int32))), (0, .ref (ad 0)), (1, .int l1), (2, .int l2), (3, .int l3), (4, .int l4), (5, .int l5)]) gc dX12_valueOf_89 rfl rfl (by decide) rfl ?_
              refine hf_goto (tgt := 6) gc dX12_valueOf_92 (by decide) ?_
              refine hf_sub (lv' := [(0, .ref (ad 0)), (1, .int l1), (2, .int l2), (3, .int l3), (4, .int l4), (5, .int l5), (6, .int (l6 + (1 : Int32)))]) [1, 2, 3, 4, 5, 6, 0] rfl ?_
              exact ih _ _ _ _ _ _
set_option maxHeartbeats 2000000 in
set_option maxRecDepth 20000 in
theorem xm_md_valueOf {x : hf_Cx} {ad : Nat → Nat} {cA : Nat → ClassId} {E : State → Prop} {A : Nat → Prop} {l0 : Launch} {D0 : va_G} (g : hf_G x hmT ad cA E A l0 D0 cX12_valueOf 7 RX12 (some .int) 0) {s : hf_St} {a1 : Int32} {a2 : Int32} {a3 : Int32} {a4 : Int32} : hf_X x A 7 (0, 0) (hf_Q x hmT ad cA A (hf_rp s)) (Fm_md_valueOf s a1 a2 a3 a4) (hf_wd hmT ad cA s) 0 [(0, .ref (ad 0)), (1, .int a1), (2, .int a2), (3, .int a3), (4, .int a4)] [] := by
  have gc := g.1
  unfold Fm_md_valueOf
  refine hf_iconst (v := -1) gc dX12_valueOf_0 (by decide) ?_
  refine hf_istore (i := 5) (lv' := [(5, .int ((-1 : Int32))), (0, .ref (ad 0)), (1, .int a1), (2, .int a2), (3, .int a3), (4, .int a4)]) gc dX12_valueOf_1 (by decide) rfl ?_
  refine hf_iconst (v := 0) gc dX12_valueOf_3 (by decide) ?_
  refine hf_istore (i := 6) (lv' := [(6, .int ((0 : Int32))), (5, .int ((-1 : Int32))), (0, .ref (ad 0)), (1, .int a1), (2, .int a2), (3, .int a3), (4, .int a4)]) gc dX12_valueOf_4 (by decide) rfl ?_
  refine hf_sub (lv' := [(0, .ref (ad 0)), (1, .int a1), (2, .int a2), (3, .int a3), (4, .int a4), (5, .int ((-1 : Int32))), (6, .int ((0 : Int32)))]) [2, 3, 4, 5, 6, 1, 0] rfl ?_
  exact xm_md_valueOf_l6 g hf_fuel _ _ _ _ _ _
theorem cm_md_valueOf {l0 : Launch} {D0 : va_G} {ad : Nat → Nat} {cA : Nat → ClassId} {E : State → Prop} {s : hf_St} {a1 : Int32} {a2 : Int32} {a3 : Int32} {a4 : Int32} : hf_Ct l0 D0 hmT ad cA E 0 yX12_valueOf cX12_valueOf 7 (some .int) [.ref (ad 0), .int a1, .int a2, .int a3, .int a4] s (Fm_md_valueOf s a1 a2 a3 a4) (hf_rp s) := hf_met (by decide) (Nat.le_of_ble_eq_true rfl) (fun _ _ g => xm_md_valueOf g)
set_option maxHeartbeats 2000000 in
set_option maxRecDepth 20000 in
theorem xm_md_value_b65 {x : hf_Cx} {ad : Nat → Nat} {cA : Nat → ClassId} {E : State → Prop} {A : Nat → Prop} {l0 : Launch} {D0 : va_G} {s : hf_St} (g : hf_G x hmT ad cA E A l0 D0 cX12_value 6 RX12 (some .int) 2) (l3 : Int32) (l4 : Int32) (l5 : Int32) (t0 : Int32) (t1 : Int32) : hf_X x A 6 (0, 0) (hf_Q x hmT ad cA A (hf_rp s)) (Fm_md_value_b65 s l3 l4 l5 t0 t1) (hf_wd hmT ad cA s) 65 [(3, .int l3), (4, .int l4), (5, .int l5)] [.int t0, .int t1, .ref (ad 0)] := by
  have gc := g.1
  unfold Fm_md_value_b65
  refine hf_iadd gc dX12_value_65 ?_
  refine hf_iload_n (i := 3) (q := 0) gc dX12_value_66 rfl rfl ?_
  refine hf_iload (i := 4) (q := 1) gc dX12_value_67 rfl ?_
  refine hf_iload (i := 5) (q := 2) gc dX12_value_69 rfl ?_
  refine hf_callV1 (j := 0) g (cm_md_valueOf (a1 := t1 + t0) (a2 := l3) (a3 := l4) (a4 := l5)) kV_RX12_150 (by decide) (by decide) rfl rfl rfl rfl (Nat.le_of_ble_eq_true rfl) dX12_value_71 (fun v1 => ?_)
  exact hf_iret g dX12_value_74 rfl
set_option maxHeartbeats 2000000 in
set_option maxRecDepth 20000 in
theorem xm_md_value_b23 {x : hf_Cx} {ad : Nat → Nat} {cA : Nat → ClassId} {E : State → Prop} {A : Nat → Prop} {l0 : Launch} {D0 : va_G} {s : hf_St} (g : hf_G x hmT ad cA E A l0 D0 cX12_value 6 RX12 (some .int) 2) (l1 : Int32) (l2 : Int32) (l3 : Int32) (l4 : Int32) (l5 : Int32) : hf_X x A 6 (0, 0) (hf_Q x hmT ad cA A (hf_rp s)) (Fm_md_value_b23 s l1 l2 l3 l4 l5) (hf_wd hmT ad cA s) 23 [(0, .ref (ad 0)), (1, .int l1), (2, .int l2), (3, .int l3), (4, .int l4), (5, .int l5)] [] := by
  have gc := g.1
  unfold Fm_md_value_b23
  refine hf_iload_n (i := 3) (q := 3) gc dX12_value_23 rfl rfl ?_
  refine hf_iconst (v := 0) gc dX12_value_24 (by decide) ?_
  refine hf_bipush (v := 7) gc dX12_value_25 (by decide) ?_
  refine hf_callS1 g (cm_md_in (a1 := l3) (a2 := (0 : Int32)) (a3 := (7 : Int32))) kS_RX12_123 (by decide) (by decide) rfl rfl (Nat.le_of_ble_eq_true rfl) dX12_value_27 (fun v1 => ?_)
  refine hf_if_eq (tgt := 49) gc dX12_value_30 (by decide) ?_ ?_
  · refine hf_sipush (v := -1000) gc dX12_value_49 (by decide) ?_
    exact hf_iret g dX12_value_52 rfl
  · refine hf_iload (i := 4) (q := 4) gc dX12_value_33 rfl ?_
    refine hf_callS1 g (cm_md_isDay (a1 := l4)) kS_RX12_147 (by decide) (by decide) rfl rfl (Nat.le_of_ble_eq_true rfl) dX12_value_35 (fun v2 => ?_)
    refine hf_if_eq (tgt := 49) gc dX12_value_38 (by decide) ?_ ?_
    · refine hf_sipush (v := -1000) gc dX12_value_49 (by decide) ?_
      exact hf_iret g dX12_value_52 rfl
    · refine hf_iload (i := 5) (q := 5) gc dX12_value_41 rfl ?_
      refine hf_callS1 g (cm_md_isDay (a1 := l5)) kS_RX12_147 (by decide) (by decide) rfl rfl (Nat.le_of_ble_eq_true rfl) dX12_value_43 (fun v3 => ?_)
      refine hf_if_ne (tgt := 53) gc dX12_value_46 (by decide) ?_ ?_
      · refine hf_aload_n (i := 0) (q := 0) gc dX12_value_53 rfl rfl ?_
        refine hf_iload_n (i := 2) (q := 2) gc dX12_value_54 rfl rfl ?_
        refine hf_iload_n (i := 1) (q := 1) gc dX12_value_55 rfl rfl ?_
        refine hf_if_eq (tgt := 64) gc dX12_value_56 (by decide) ?_ ?_
        · refine hf_iconst (v := 0) gc dX12_value_64 (by decide) ?_
          refine hf_sub (lv' := [(3, .int l3), (4, .int l4), (5, .int l5)]) [3, 4, 5] rfl ?_
          exact xm_md_value_b65 g _ _ _ _ _
        · refine hf_bipush (v := 100) gc dX12_value_59 (by decide) ?_
          refine hf_goto (tgt := 65) gc dX12_value_61 (by decide) ?_
          refine hf_sub (lv' := [(3, .int l3), (4, .int l4), (5, .int l5)]) [3, 4, 5] rfl ?_
          exact xm_md_value_b65 g _ _ _ _ _
      · refine hf_sipush (v := -1000) gc dX12_value_49 (by decide) ?_
        exact hf_iret g dX12_value_52 rfl
set_option maxHeartbeats 2000000 in
set_option maxRecDepth 20000 in
theorem xm_md_value {x : hf_Cx} {ad : Nat → Nat} {cA : Nat → ClassId} {E : State → Prop} {A : Nat → Prop} {l0 : Launch} {D0 : va_G} (g : hf_G x hmT ad cA E A l0 D0 cX12_value 6 RX12 (some .int) 2) {s : hf_St} {a1 : Int32} {a2 : Int32} {a3 : Int32} {a4 : Int32} {a5 : Int32} : hf_X x A 6 (0, 0) (hf_Q x hmT ad cA A (hf_rp s)) (Fm_md_value s a1 a2 a3 a4 a5) (hf_wd hmT ad cA s) 0 [(0, .ref (ad 0)), (1, .int a1), (2, .int a2), (3, .int a3), (4, .int a4), (5, .int a5)] [] := by
  have gc := g.1
  unfold Fm_md_value
  refine hf_iload_n (i := 1) (q := 1) gc dX12_value_0 rfl rfl ?_
  refine hf_if_eq (tgt := 15) gc dX12_value_1 (by decide) ?_ ?_
  · refine hf_aload_n (i := 0) (q := 0) gc dX12_value_15 rfl rfl ?_
    refine hf_iload_n (i := 2) (q := 2) gc dX12_value_16 rfl rfl ?_
    refine hf_callV1 (j := 0) g (cm_md_isChild (a1 := a2)) kV_RX12_144 (by decide) (by decide) rfl rfl rfl rfl (Nat.le_of_ble_eq_true rfl) dX12_value_17 (fun v1 => ?_)
    refine hf_if_eq (tgt := 49) gc dX12_value_20 (by decide) ?_ ?_
    · refine hf_sipush (v := -1000) gc dX12_value_49 (by decide) ?_
      exact hf_iret g dX12_value_52 rfl
    · exact xm_md_value_b23 g _ _ _ _ _
  · refine hf_aload_n (i := 0) (q := 0) gc dX12_value_4 rfl rfl ?_
    refine hf_iload_n (i := 2) (q := 2) gc dX12_value_5 rfl rfl ?_
    refine hf_callV1 (j := 0) g (cm_md_isHome (a1 := a2)) kV_RX12_140 (by decide) (by decide) rfl rfl rfl rfl (Nat.le_of_ble_eq_true rfl) dX12_value_6 (fun v2 => ?_)
    refine hf_if_eq (tgt := 49) gc dX12_value_9 (by decide) ?_ ?_
    · refine hf_sipush (v := -1000) gc dX12_value_49 (by decide) ?_
      exact hf_iret g dX12_value_52 rfl
    · refine hf_goto (tgt := 23) gc dX12_value_12 (by decide) ?_
      exact xm_md_value_b23 g _ _ _ _ _
theorem cm_md_value {l0 : Launch} {D0 : va_G} {ad : Nat → Nat} {cA : Nat → ClassId} {E : State → Prop} {s : hf_St} {a1 : Int32} {a2 : Int32} {a3 : Int32} {a4 : Int32} {a5 : Int32} : hf_Ct l0 D0 hmT ad cA E 2 yX12_value cX12_value 6 (some .int) [.ref (ad 0), .int a1, .int a2, .int a3, .int a4, .int a5] s (Fm_md_value s a1 a2 a3 a4 a5) (hf_rp s) := hf_met (by decide) (Nat.le_of_ble_eq_true rfl) (fun _ _ g => xm_md_value g)
set_option maxHeartbeats 2000000 in
set_option maxRecDepth 20000 in
theorem xm_md_paper {x : hf_Cx} {ad : Nat → Nat} {cA : Nat → ClassId} {E : State → Prop} {A : Nat → Prop} {l0 : Launch} {D0 : va_G} (g : hf_G x hmT ad cA E A l0 D0 cX12_paper 4 RX12 (some .int) 2) {s : hf_St} {a1 : Int32} {a2 : Int32} {a3 : Int32} : hf_X x A 4 (0, 0) (hf_Q x hmT ad cA A hf_ri) (Fm_md_paper s a1 a2 a3) (hf_wd hmT ad cA s) 0 [(0, .ref (ad 0)), (1, .int a1), (2, .int a2), (3, .int a3)] [] := by
  have gc := g.1
  unfold Fm_md_paper
  refine hf_aload_n (i := 0) (q := 0) gc dX12_paper_0 rfl rfl ?_
  refine hf_getI (j := 0) (k := 10) g rfl rfl kF_RX12_154 dX12_paper_1 ?_
  refine hf_bipush (v := 30) gc dX12_paper_4 (by decide) ?_
  refine hf_icmp_eq (tgt := 35) gc dX12_paper_6 (by decide) ?_ ?_
  · refine hf_iconst (v := -1) gc dX12_paper_35 (by decide) ?_
    exact hf_iret g dX12_paper_36 rfl
  · refine hf_aload_n (i := 0) (q := 0) gc dX12_paper_9 rfl rfl ?_
    refine hf_iload_n (i := 1) (q := 1) gc dX12_paper_10 rfl rfl ?_
    refine hf_callV1 (j := 0) g (cm_md_isHome (a1 := a1)) kV_RX12_140 (by decide) (by decide) rfl rfl rfl rfl (Nat.le_of_ble_eq_true rfl) dX12_paper_11 (fun v1 => ?_)
    refine hf_if_eq (tgt := 35) gc dX12_paper_14 (by decide) ?_ ?_
    · refine hf_iconst (v := -1) gc dX12_paper_35 (by decide) ?_
      exact hf_iret g dX12_paper_36 rfl
    · refine hf_iload_n (i := 2) (q := 2) gc dX12_paper_17 rfl rfl ?_
      refine hf_callS1 g (cm_md_isDay (a1 := a2)) kS_RX12_147 (by decide) (by decide) rfl rfl (Nat.le_of_ble_eq_true rfl) dX12_paper_18 (fun v2 => ?_)
      refine hf_if_eq (tgt := 35) gc dX12_paper_21 (by decide) ?_ ?_
      · refine hf_iconst (v := -1) gc dX12_paper_35 (by decide) ?_
        exact hf_iret g dX12_paper_36 rfl
      · refine hf_iload_n (i := 3) (q := 3) gc dX12_paper_24 rfl rfl ?_
        refine hf_iload_n (i := 2) (q := 2) gc dX12_paper_25 rfl rfl ?_
        refine hf_sipush (v := 999) gc dX12_paper_26 (by decide) ?_
        refine hf_callS1 g (cm_md_in (a1 := a3) (a2 := a2) (a3 := (999 : Int32))) kS_RX12_123 (by decide) (by decide) rfl rfl (Nat.le_of_ble_eq_true rfl) dX12_paper_29 (fun v3 => ?_)
        refine hf_if_ne (tgt := 37) gc dX12_paper_32 (by decide) ?_ ?_
        · refine hf_aload_n (i := 0) (q := 0) gc dX12_paper_37 rfl rfl ?_
          refine hf_getR (j := 0) (k := 11) (r := 8) g rfl rfl kF_RX12_32 dX12_paper_38 ?_
          refine hf_aload_n (i := 0) (q := 0) gc dX12_paper_41 rfl rfl ?_
          refine hf_getI (j := 0) (k := 10) g rfl rfl kF_RX12_154 dX12_paper_42 ?_
          refine hf_iload_n (i := 1) (q := 1) gc dX12_paper_45 rfl rfl ?_
          refine hf_iast (a := 7) (r := 8) (n := 30) g rfl rfl dX12_paper_46 (fun s4 => ?_)
          refine hf_aload_n (i := 0) (q := 0) gc dX12_paper_47 rfl rfl ?_
          refine hf_getR (j := 0) (k := 12) (r := 9) g rfl rfl kF_RX12_35 dX12_paper_48 ?_
          refine hf_aload_n (i := 0) (q := 0) gc dX12_paper_51 rfl rfl ?_
          refine hf_getI (j := 0) (k := 10) g rfl rfl kF_RX12_154 dX12_paper_52 ?_
          refine hf_iload_n (i := 2) (q := 2) gc dX12_paper_55 rfl rfl ?_
          refine hf_iast (a := 8) (r := 9) (n := 30) g rfl rfl dX12_paper_56 (fun s5 => ?_)
          refine hf_aload_n (i := 0) (q := 0) gc dX12_paper_57 rfl rfl ?_
          refine hf_getR (j := 0) (k := 13) (r := 10) g rfl rfl kF_RX12_38 dX12_paper_58 ?_
          refine hf_aload_n (i := 0) (q := 0) gc dX12_paper_61 rfl rfl ?_
          refine hf_getI (j := 0) (k := 10) g rfl rfl kF_RX12_154 dX12_paper_62 ?_
          refine hf_iload_n (i := 3) (q := 3) gc dX12_paper_65 rfl rfl ?_
          refine hf_iast (a := 9) (r := 10) (n := 30) g rfl rfl dX12_paper_66 (fun s6 => ?_)
          refine hf_aload_n (i := 0) (q := 0) gc dX12_paper_67 rfl rfl ?_
          refine hf_dup gc dX12_paper_68 rfl ?_
          refine hf_getI (j := 0) (k := 10) g rfl rfl kF_RX12_154 dX12_paper_69 ?_
          refine hf_iconst (v := 1) gc dX12_paper_72 (by decide) ?_
          refine hf_iadd gc dX12_paper_73 ?_
          refine hf_putI (j := 0) (k := 10) g rfl rfl kP_RX12_154 rfl rfl dX12_paper_74 (fun s7 => ?_)
          refine hf_aload_n (i := 0) (q := 0) gc dX12_paper_77 rfl rfl ?_
          refine hf_getI (j := 0) (k := 10) g rfl rfl kF_RX12_154 dX12_paper_78 ?_
          refine hf_iconst (v := 1) gc dX12_paper_81 (by decide) ?_
          refine hf_isub gc dX12_paper_82 ?_
          exact hf_iret g dX12_paper_83 rfl
        · refine hf_iconst (v := -1) gc dX12_paper_35 (by decide) ?_
          exact hf_iret g dX12_paper_36 rfl
theorem cm_md_paper {l0 : Launch} {D0 : va_G} {ad : Nat → Nat} {cA : Nat → ClassId} {E : State → Prop} {s : hf_St} {a1 : Int32} {a2 : Int32} {a3 : Int32} : hf_Ct l0 D0 hmT ad cA E 2 yX12_paper cX12_paper 4 (some .int) [.ref (ad 0), .int a1, .int a2, .int a3] s (Fm_md_paper s a1 a2 a3) hf_ri := hf_met (by decide) (Nat.le_of_ble_eq_true rfl) (fun _ _ g => xm_md_paper g)
set_option maxHeartbeats 2000000 in
set_option maxRecDepth 20000 in
theorem xm_md_until_l22 {x : hf_Cx} {ad : Nat → Nat} {cA : Nat → ClassId} {E : State → Prop} {A : Nat → Prop} {l0 : Launch} {D0 : va_G} {s : hf_St} (g : hf_G x hmT ad cA E A l0 D0 cX12_until 5 RX12 (some .int) 2) : ∀ (n : Nat) (l1 : Int32) (l2 : Int32) (l3 : Int32) (l4 : Int32), hf_X x A 5 (0, 0) (hf_Q x hmT ad cA A (hf_rp s)) (Fm_md_until_l22 s n l1 l2 l3 l4) (hf_wd hmT ad cA s) 22 [(0, .ref (ad 0)), (1, .int l1), (2, .int l2), (3, .int l3), (4, .int l4)] [] := by
  have gc := g.1
  intro n
  induction n with
  | zero => intro l1 l2 l3 l4; exact hf_none
  | succ n ih =>
    intro l1 l2 l3 l4
    rw [Fm_md_until_l22]
    refine hf_iload (i := 4) (q := 4) gc dX12_until_22 rfl ?_
    refine hf_aload_n (i := 0) (q := 0) gc dX12_until_24 rfl rfl ?_
    refine hf_getI (j := 0) (k := 10) g rfl rfl kF_RX12_154 dX12_until_25 ?_
    refine hf_icmp_ge (tgt := 89) gc dX12_until_28 (by decide) ?_ ?_
    · refine hf_iload_n (i := 3) (q := 3) gc dX12_until_89 rfl rfl ?_
      exact hf_iret g dX12_until_90 rfl
    · refine hf_aload_n (i := 0) (q := 0) gc dX12_until_31 rfl rfl ?_
      refine hf_getR (j := 0) (k := 11) (r := 8) g rfl rfl kF_RX12_32 dX12_until_32 ?_
      refine hf_iload (i := 4) (q := 4) gc dX12_until_35 rfl ?_
      refine hf_iald (a := 7) (r := 8) (n := 30) g rfl rfl dX12_until_37 ?_
      refine hf_iload_n (i := 1) (q := 1) gc dX12_until_38 rfl rfl ?_
      refine hf_icmp_ne (tgt := 83) gc dX12_until_39 (by decide) ?_ ?_
      · refine hf_iinc (q := 4) (v' := l4 + (1 : Int32)) (lv' := [(4, .int (l4 + (1 : Int32))), (0, .ref (ad 0)), (1, .int l1), (2, .int l2), (3, .int l3)]) gc dX12_until_83 rfl rfl (by decide) rfl ?_
        refine hf_goto (tgt := 22) gc dX12_until_86 (by decide) ?_
        refine hf_sub (lv' := [(0, .ref (ad 0)), (1, .int l1), (2, .int l2), (3, .int l3), (4, .int (l4 + (1 : Int32)))]) [1, 2, 3, 4, 0] rfl ?_
        exact ih _ _ _ _
      · refine hf_aload_n (i := 0) (q := 0) gc dX12_until_42 rfl rfl ?_
        refine hf_getR (j := 0) (k := 12) (r := 9) g rfl rfl kF_RX12_35 dX12_until_43 ?_
        refine hf_iload (i := 4) (q := 4) gc dX12_until_46 rfl ?_
        refine hf_iald (a := 8) (r := 9) (n := 30) g rfl rfl dX12_until_48 ?_
        refine hf_iload_n (i := 2) (q := 2) gc dX12_until_49 rfl rfl ?_
        refine hf_icmp_gt (tgt := 83) gc dX12_until_50 (by decide) ?_ ?_
        · refine hf_iinc (q := 4) (v' := l4 + (1 : Int32)) (lv' := [(4, .int (l4 + (1 : Int32))), (0, .ref (ad 0)), (1, .int l1), (2, .int l2), (3, .int l3)]) gc dX12_until_83 rfl rfl (by decide) rfl ?_
          refine hf_goto (tgt := 22) gc dX12_until_86 (by decide) ?_
          refine hf_sub (lv' := [(0, .ref (ad 0)), (1, .int l1), (2, .int l2), (3, .int l3), (4, .int (l4 + (1 : Int32)))]) [1, 2, 3, 4, 0] rfl ?_
          exact ih _ _ _ _
        · refine hf_aload_n (i := 0) (q := 0) gc dX12_until_53 rfl rfl ?_
          refine hf_getR (j := 0) (k := 13) (r := 10) g rfl rfl kF_RX12_38 dX12_until_54 ?_
          refine hf_iload (i := 4) (q := 4) gc dX12_until_57 rfl ?_
          refine hf_iald (a := 9) (r := 10) (n := 30) g rfl rfl dX12_until_59 ?_
          refine hf_iload_n (i := 2) (q := 2) gc dX12_until_60 rfl rfl ?_
          refine hf_icmp_lt (tgt := 83) gc dX12_until_61 (by decide) ?_ ?_
          · refine hf_iinc (q := 4) (v' := l4 + (1 : Int32)) (lv' := [(4, .int (l4 + (1 : Int32))), (0, .ref (ad 0)), (1, .int l1), (2, .int l2), (3, .int l3)]) gc dX12_until_83 rfl rfl (by decide) rfl ?_
            refine hf_goto (tgt := 22) gc dX12_until_86 (by decide) ?_
            refine hf_sub (lv' := [(0, .ref (ad 0)), (1, .int l1), (2, .int l2), (3, .int l3), (4, .int (l4 + (1 : Int32)))]) [1, 2, 3, 4, 0] rfl ?_
            exact ih _ _ _ _
          · refine hf_aload_n (i := 0) (q := 0) gc dX12_until_64 rfl rfl ?_
            refine hf_getR (j := 0) (k := 13) (r := 10) g rfl rfl kF_RX12_38 dX12_until_65 ?_
            refine hf_iload (i := 4) (q := 4) gc dX12_until_68 rfl ?_
            refine hf_iald (a := 9) (r := 10) (n := 30) g rfl rfl dX12_until_70 ?_
            refine hf_iload_n (i := 3) (q := 3) gc dX12_until_71 rfl rfl ?_
            refine hf_icmp_le (tgt := 83) gc dX12_until_72 (by decide) ?_ ?_
            · refine hf_iinc (q := 4) (v' := l4 + (1 : Int32)) (lv' := [(4, .int (l4 + (1 : Int32))), (0, .ref (ad 0)), (1, .int l1), (2, .int l2), (3, .int l3)]) gc dX12_until_83 rfl rfl (by decide) rfl ?_
              refine hf_goto (tgt := 22) gc dX12_until_86 (by decide) ?_
              refine hf_sub (lv' := [(0, .ref (ad 0)), (1, .int l1), (2, .int l2), (3, .int l3), (4, .int (l4 + (1 : Int32)))]) [1, 2, 3, 4, 0] rfl ?_
              exact ih _ _ _ _
            · refine hf_aload_n (i := 0) (q := 0) gc dX12_until_75 rfl rfl ?_
              refine hf_getR (j := 0) (k := 13) (r := 10) g rfl rfl kF_RX12_38 dX12_until_76 ?_
              refine hf_iload (i := 4) (q := 4) gc dX12_until_79 rfl ?_
              refine hf_iald (a := 9) (r := 10) (n := 30) g rfl rfl dX12_until_81 ?_
              refine hf_let (fun v1 => ?_)
              refine hf_istore_n (i := 3) (lv' := [(3, .int v1), (0, .ref (ad 0)), (1, .int l1), (2, .int l2), (4, .int l4)]) gc dX12_until_82 rfl (by decide) rfl ?_
              refine hf_iinc (q := 4) (v' := l4 + (1 : Int32)) (lv' := [(4, .int (l4 + (1 : Int32))), (3, .int v1), (0, .ref (ad 0)), (1, .int l1), (2, .int l2)]) gc dX12_until_83 rfl rfl (by decide) rfl ?_
              refine hf_goto (tgt := 22) gc dX12_until_86 (by decide) ?_
              refine hf_sub (lv' := [(0, .ref (ad 0)), (1, .int l1), (2, .int l2), (3, .int v1), (4, .int (l4 + (1 : Int32)))]) [2, 3, 4, 1, 0] rfl ?_
              exact ih _ _ _ _
set_option maxHeartbeats 2000000 in
set_option maxRecDepth 20000 in
theorem xm_md_until {x : hf_Cx} {ad : Nat → Nat} {cA : Nat → ClassId} {E : State → Prop} {A : Nat → Prop} {l0 : Launch} {D0 : va_G} (g : hf_G x hmT ad cA E A l0 D0 cX12_until 5 RX12 (some .int) 2) {s : hf_St} {a1 : Int32} {a2 : Int32} : hf_X x A 5 (0, 0) (hf_Q x hmT ad cA A (hf_rp s)) (Fm_md_until s a1 a2) (hf_wd hmT ad cA s) 0 [(0, .ref (ad 0)), (1, .int a1), (2, .int a2)] [] := by
  have gc := g.1
  unfold Fm_md_until
  refine hf_iconst (v := -1) gc dX12_until_0 (by decide) ?_
  refine hf_istore_n (i := 3) (lv' := [(3, .int ((-1 : Int32))), (0, .ref (ad 0)), (1, .int a1), (2, .int a2)]) gc dX12_until_1 rfl (by decide) rfl ?_
  refine hf_aload_n (i := 0) (q := 1) gc dX12_until_2 rfl rfl ?_
  refine hf_iload_n (i := 1) (q := 2) gc dX12_until_3 rfl rfl ?_
  refine hf_callV1 (j := 0) g (cm_md_isHome (a1 := a1)) kV_RX12_140 (by decide) (by decide) rfl rfl rfl rfl (Nat.le_of_ble_eq_true rfl) dX12_until_4 (fun v1 => ?_)
  refine hf_if_eq (tgt := 17) gc dX12_until_7 (by decide) ?_ ?_
  · refine hf_iload_n (i := 3) (q := 0) gc dX12_until_17 rfl rfl ?_
    exact hf_iret g dX12_until_18 rfl
  · refine hf_iload_n (i := 2) (q := 3) gc dX12_until_10 rfl rfl ?_
    refine hf_callS1 g (cm_md_isDay (a1 := a2)) kS_RX12_147 (by decide) (by decide) rfl rfl (Nat.le_of_ble_eq_true rfl) dX12_until_11 (fun v2 => ?_)
    refine hf_if_ne (tgt := 19) gc dX12_until_14 (by decide) ?_ ?_
    · refine hf_iconst (v := 0) gc dX12_until_19 (by decide) ?_
      refine hf_istore (i := 4) (lv' := [(4, .int ((0 : Int32))), (3, .int ((-1 : Int32))), (0, .ref (ad 0)), (1, .int a1), (2, .int a2)]) gc dX12_until_20 (by decide) rfl ?_
      refine hf_sub (lv' := [(0, .ref (ad 0)), (1, .int a1), (2, .int a2), (3, .int ((-1 : Int32))), (4, .int ((0 : Int32)))]) [2, 3, 4, 1, 0] rfl ?_
      exact xm_md_until_l22 g hf_fuel _ _ _ _
    · refine hf_iload_n (i := 3) (q := 0) gc dX12_until_17 rfl rfl ?_
      exact hf_iret g dX12_until_18 rfl
theorem cm_md_until {l0 : Launch} {D0 : va_G} {ad : Nat → Nat} {cA : Nat → ClassId} {E : State → Prop} {s : hf_St} {a1 : Int32} {a2 : Int32} : hf_Ct l0 D0 hmT ad cA E 2 yX12_until cX12_until 5 (some .int) [.ref (ad 0), .int a1, .int a2] s (Fm_md_until s a1 a2) (hf_rp s) := hf_met (by decide) (Nat.le_of_ble_eq_true rfl) (fun _ _ g => xm_md_until g)
set_option maxHeartbeats 2000000 in
set_option maxRecDepth 20000 in
theorem xm_md_close_b22 {x : hf_Cx} {ad : Nat → Nat} {cA : Nat → ClassId} {E : State → Prop} {A : Nat → Prop} {l0 : Launch} {D0 : va_G} (g : hf_G x hmT ad cA E A l0 D0 cX12_close 3 RX12 (some .boolean) 2) (s : hf_St) (l1 : Int32) (l2 : Int32) : hf_X x A 3 (0, 0) (hf_Q x hmT ad cA A hf_ri) (Fm_md_close_b22 s l1 l2) (hf_wd hmT ad cA s) 22 [(0, .ref (ad 0)), (1, .int l1), (2, .int l2)] [] := by
  have gc := g.1
  unfold Fm_md_close_b22
  refine hf_aload_n (i := 0) (q := 0) gc dX12_close_22 rfl rfl ?_
  refine hf_getR (j := 0) (k := 9) (r := 7) g rfl rfl kF_RX12_29 dX12_close_23 ?_
  refine hf_iload_n (i := 1) (q := 1) gc dX12_close_26 rfl rfl ?_
  refine hf_iload_n (i := 2) (q := 2) gc dX12_close_27 rfl rfl ?_
  refine hf_iast (a := 6) (r := 7) (n := 5) g rfl rfl dX12_close_28 (fun s1 => ?_)
  refine hf_iconst (v := 1) gc dX12_close_29 (by decide) ?_
  exact hf_zret g dX12_close_30 rfl
set_option maxHeartbeats 2000000 in
set_option maxRecDepth 20000 in
theorem xm_md_close {x : hf_Cx} {ad : Nat → Nat} {cA : Nat → ClassId} {E : State → Prop} {A : Nat → Prop} {l0 : Launch} {D0 : va_G} (g : hf_G x hmT ad cA E A l0 D0 cX12_close 3 RX12 (some .boolean) 2) {s : hf_St} {a1 : Int32} {a2 : Int32} : hf_X x A 3 (0, 0) (hf_Q x hmT ad cA A hf_ri) (Fm_md_close s a1 a2) (hf_wd hmT ad cA s) 0 [(0, .ref (ad 0)), (1, .int a1), (2, .int a2)] [] := by
  have gc := g.1
  unfold Fm_md_close
  refine hf_aload_n (i := 0) (q := 0) gc dX12_close_0 rfl rfl ?_
  refine hf_iload_n (i := 1) (q := 1) gc dX12_close_1 rfl rfl ?_
  refine hf_callV1 (j := 0) g (cm_md_isHome (a1 := a1)) kV_RX12_140 (by decide) (by decide) rfl rfl rfl rfl (Nat.le_of_ble_eq_true rfl) dX12_close_2 (fun v1 => ?_)
  refine hf_if_eq (tgt := 20) gc dX12_close_5 (by decide) ?_ ?_
  · refine hf_iconst (v := 0) gc dX12_close_20 (by decide) ?_
    exact hf_zret g dX12_close_21 rfl
  · refine hf_iload_n (i := 2) (q := 2) gc dX12_close_8 rfl rfl ?_
    refine hf_iconst (v := -1) gc dX12_close_9 (by decide) ?_
    refine hf_icmp_eq (tgt := 22) gc dX12_close_10 (by decide) ?_ ?_
    · exact xm_md_close_b22 g _ _ _
    · refine hf_iload_n (i := 2) (q := 2) gc dX12_close_13 rfl rfl ?_
      refine hf_callS1 g (cm_md_isDay (a1 := a2)) kS_RX12_147 (by decide) (by decide) rfl rfl (Nat.le_of_ble_eq_true rfl) dX12_close_14 (fun v2 => ?_)
      refine hf_if_ne (tgt := 22) gc dX12_close_17 (by decide) ?_ ?_
      · exact xm_md_close_b22 g _ _ _
      · refine hf_iconst (v := 0) gc dX12_close_20 (by decide) ?_
        exact hf_zret g dX12_close_21 rfl
theorem cm_md_close {l0 : Launch} {D0 : va_G} {ad : Nat → Nat} {cA : Nat → ClassId} {E : State → Prop} {s : hf_St} {a1 : Int32} {a2 : Int32} : hf_Ct l0 D0 hmT ad cA E 2 yX12_close cX12_close 3 (some .boolean) [.ref (ad 0), .int a1, .int a2] s (Fm_md_close s a1 a2) hf_ri := hf_met (by decide) (Nat.le_of_ble_eq_true rfl) (fun _ _ g => xm_md_close g)
set_option maxHeartbeats 2000000 in
set_option maxRecDepth 20000 in
theorem xm_md_need {x : hf_Cx} {ad : Nat → Nat} {cA : Nat → ClassId} {E : State → Prop} {A : Nat → Prop} {l0 : Launch} {D0 : va_G} (g : hf_G x hmT ad cA E A l0 D0 cX12_need 5 RX12 (some .boolean) 2) {s : hf_St} {a1 : Int32} {a2 : Int32} {a3 : Int32} {a4 : Int32} : hf_X x A 5 (0, 0) (hf_Q x hmT ad cA A hf_ri) (Fm_md_need s a1 a2 a3 a4) (hf_wd hmT ad cA s) 0 [(0, .ref (ad 0)), (1, .int a1), (2, .int a2), (3, .int a3), (4, .int a4)] [] := by
  have gc := g.1
  unfold Fm_md_need
  refine hf_aload_n (i := 0) (q := 0) gc dX12_need_0 rfl rfl ?_
  refine hf_iload_n (i := 1) (q := 1) gc dX12_need_1 rfl rfl ?_
  refine hf_callV1 (j := 0) g (cm_md_isChild (a1 := a1)) kV_RX12_144 (by decide) (by decide) rfl rfl rfl rfl (Nat.le_of_ble_eq_true rfl) dX12_need_2 (fun v1 => ?_)
  refine hf_if_eq (tgt := 34) gc dX12_need_5 (by decide) ?_ ?_
  · refine hf_iconst (v := 0) gc dX12_need_34 (by decide) ?_
    exact hf_zret g dX12_need_35 rfl
  · refine hf_iload_n (i := 2) (q := 2) gc dX12_need_8 rfl rfl ?_
    refine hf_callS1 g (cm_md_isDay (a1 := a2)) kS_RX12_147 (by decide) (by decide) rfl rfl (Nat.le_of_ble_eq_true rfl) dX12_need_9 (fun v2 => ?_)
    refine hf_if_eq (tgt := 34) gc dX12_need_12 (by decide) ?_ ?_
    · refine hf_iconst (v := 0) gc dX12_need_34 (by decide) ?_
      exact hf_zret g dX12_need_35 rfl
    · refine hf_iload_n (i := 3) (q := 3) gc dX12_need_15 rfl rfl ?_
      refine hf_iload_n (i := 2) (q := 2) gc dX12_need_16 rfl rfl ?_
      refine hf_sipush (v := 999) gc dX12_need_17 (by decide) ?_
      refine hf_callS1 g (cm_md_in (a1 := a3) (a2 := a2) (a3 := (999 : Int32))) kS_RX12_123 (by decide) (by decide) rfl rfl (Nat.le_of_ble_eq_true rfl) dX12_need_20 (fun v3 => ?_)
      refine hf_if_eq (tgt := 34) gc dX12_need_23 (by decide) ?_ ?_
      · refine hf_iconst (v := 0) gc dX12_need_34 (by decide) ?_
        exact hf_zret g dX12_need_35 rfl
      · refine hf_iload_n (i := 3) (q := 3) gc dX12_need_26 rfl rfl ?_
        refine hf_iload_n (i := 2) (q := 2) gc dX12_need_27 rfl rfl ?_
        refine hf_isub gc dX12_need_28 ?_
        refine hf_bipush (v := 59) gc dX12_need_29 (by decide) ?_
        refine hf_icmp_le (tgt := 36) gc dX12_need_31 (by decide) ?_ ?_
        · refine hf_aload_n (i := 0) (q := 0) gc dX12_need_36 rfl rfl ?_
          refine hf_getR (j := 0) (k := 3) (r := 2) g rfl rfl kF_RX12_13 dX12_need_37 ?_
          refine hf_iload_n (i := 1) (q := 1) gc dX12_need_40 rfl rfl ?_
          refine hf_iconst (v := 1) gc dX12_need_41 (by decide) ?_
          refine hf_zast (a := 1) (r := 2) (n := 7) g rfl rfl dX12_need_42 (fun s4 => ?_)
          refine hf_aload_n (i := 0) (q := 0) gc dX12_need_43 rfl rfl ?_
          refine hf_getR (j := 0) (k := 4) (r := 3) g rfl rfl kF_RX12_17 dX12_need_44 ?_
          refine hf_iload_n (i := 1) (q := 1) gc dX12_need_47 rfl rfl ?_
          refine hf_iload_n (i := 2) (q := 2) gc dX12_need_48 rfl rfl ?_
          refine hf_iast (a := 2) (r := 3) (n := 7) g rfl rfl dX12_need_49 (fun s5 => ?_)
          refine hf_aload_n (i := 0) (q := 0) gc dX12_need_50 rfl rfl ?_
          refine hf_getR (j := 0) (k := 5) (r := 4) g rfl rfl kF_RX12_20 dX12_need_51 ?_
          refine hf_iload_n (i := 1) (q := 1) gc dX12_need_54 rfl rfl ?_
          refine hf_iload_n (i := 3) (q := 3) gc dX12_need_55 rfl rfl ?_
          refine hf_iast (a := 3) (r := 4) (n := 7) g rfl rfl dX12_need_56 (fun s6 => ?_)
          refine hf_aload_n (i := 0) (q := 0) gc dX12_need_57 rfl rfl ?_
          refine hf_getR (j := 0) (k := 6) (r := 5) g rfl rfl kF_RX12_23 dX12_need_58 ?_
          refine hf_iload_n (i := 1) (q := 1) gc dX12_need_61 rfl rfl ?_
          refine hf_iload (i := 4) (q := 4) gc dX12_need_62 rfl ?_
          refine hf_zast (a := 4) (r := 5) (n := 7) g rfl rfl dX12_need_64 (fun s7 => ?_)
          refine hf_iconst (v := 1) gc dX12_need_65 (by decide) ?_
          exact hf_zret g dX12_need_66 rfl
        · refine hf_iconst (v := 0) gc dX12_need_34 (by decide) ?_
          exact hf_zret g dX12_need_35 rfl
theorem cm_md_need {l0 : Launch} {D0 : va_G} {ad : Nat → Nat} {cA : Nat → ClassId} {E : State → Prop} {s : hf_St} {a1 : Int32} {a2 : Int32} {a3 : Int32} {a4 : Int32} : hf_Ct l0 D0 hmT ad cA E 2 yX12_need cX12_need 5 (some .boolean) [.ref (ad 0), .int a1, .int a2, .int a3, .int a4] s (Fm_md_need s a1 a2 a3 a4) hf_ri := hf_met (by decide) (Nat.le_of_ble_eq_true rfl) (fun _ _ g => xm_md_need g)
set_option maxHeartbeats 2000000 in
set_option maxRecDepth 20000 in
theorem xm_md_ends {x : hf_Cx} {ad : Nat → Nat} {cA : Nat → ClassId} {E : State → Prop} {A : Nat → Prop} {l0 : Launch} {D0 : va_G} (g : hf_G x hmT ad cA E A l0 D0 cX12_ends 2 RX12 (some .boolean) 2) {s : hf_St} {a1 : Int32} : hf_X x A 2 (0, 0) (hf_Q x hmT ad cA A hf_ri) (Fm_md_ends s a1) (hf_wd hmT ad cA s) 0 [(0, .ref (ad 0)), (1, .int a1)] [] := by
  have gc := g.1
  unfold Fm_md_ends
  refine hf_aload_n (i := 0) (q := 0) gc dX12_ends_0 rfl rfl ?_
  refine hf_iload_n (i := 1) (q := 1) gc dX12_ends_1 rfl rfl ?_
  refine hf_callV1 (j := 0) g (cm_md_isChild (a1 := a1)) kV_RX12_144 (by decide) (by decide) rfl rfl rfl rfl (Nat.le_of_ble_eq_true rfl) dX12_ends_2 (fun v1 => ?_)
  refine hf_if_eq (tgt := 17) gc dX12_ends_5 (by decide) ?_ ?_
  · refine hf_iconst (v := 0) gc dX12_ends_17 (by decide) ?_
    exact hf_zret g dX12_ends_18 rfl
  · refine hf_aload_n (i := 0) (q := 0) gc dX12_ends_8 rfl rfl ?_
    refine hf_getR (j := 0) (k := 3) (r := 2) g rfl rfl kF_RX12_13 dX12_ends_9 ?_
    refine hf_iload_n (i := 1) (q := 1) gc dX12_ends_12 rfl rfl ?_
    refine hf_zald (a := 1) (r := 2) (n := 7) g rfl rfl dX12_ends_13 ?_
    refine hf_if_ne (tgt := 19) gc dX12_ends_14 (by decide) ?_ ?_
    · refine hf_aload_n (i := 0) (q := 0) gc dX12_ends_19 rfl rfl ?_
      refine hf_getR (j := 0) (k := 3) (r := 2) g rfl rfl kF_RX12_13 dX12_ends_20 ?_
      refine hf_iload_n (i := 1) (q := 1) gc dX12_ends_23 rfl rfl ?_
      refine hf_iconst (v := 0) gc dX12_ends_24 (by decide) ?_
      refine hf_zast (a := 1) (r := 2) (n := 7) g rfl rfl dX12_ends_25 (fun s2 => ?_)
      refine hf_iconst (v := 1) gc dX12_ends_26 (by decide) ?_
      exact hf_zret g dX12_ends_27 rfl
    · refine hf_iconst (v := 0) gc dX12_ends_17 (by decide) ?_
      exact hf_zret g dX12_ends_18 rfl
theorem cm_md_ends {l0 : Launch} {D0 : va_G} {ad : Nat → Nat} {cA : Nat → ClassId} {E : State → Prop} {s : hf_St} {a1 : Int32} : hf_Ct l0 D0 hmT ad cA E 2 yX12_ends cX12_ends 2 (some .boolean) [.ref (ad 0), .int a1] s (Fm_md_ends s a1) hf_ri := hf_met (by decide) (Nat.le_of_ble_eq_true rfl) (fun _ _ g => xm_md_ends g)
set_option maxHeartbeats 2000000 in
set_option maxRecDepth 20000 in
theorem xm_md_four_l3 {x : hf_Cx} {ad : Nat → Nat} {cA : Nat → ClassId} {E : State → Prop} {A : Nat → Prop} {l0 : Launch} {D0 : va_G} (g : hf_G x hmT ad cA E A l0 D0 cX12_four 3 RX12 none 0) : ∀ (n : Nat) (s : hf_St) (l1 : Int32) (l2 : Int32), hf_X x A 3 (0, 0) (hf_Q x hmT ad cA A hf_rv) (Fm_md_four_l3 n s l1 l2) (hf_wd hmT ad cA s) 3 [(0, .ref (ad 0)), (1, .int l1), (2, .int l2)] [] := by
  have gc := g.1
  intro n
  induction n with
  | zero => intro s l1 l2; exact hf_none
  | succ n ih =>
    intro s l1 l2
    rw [Fm_md_four_l3]
    refine hf_iload_n (i := 2) (q := 2) gc dX12_four_3 rfl rfl ?_
    refine hf_if_lt (tgt := 36) gc dX12_four_4 (by decide) ?_ ?_
    · exact hf_vret g dX12_four_36 rfl
    · refine hf_aload_n (i := 0) (q := 0) gc dX12_four_7 rfl rfl ?_
      refine hf_getR (j := 0) (k := 20) (r := 16) g rfl rfl kF_RX12_56 dX12_four_8 ?_
      refine hf_aload_n (i := 0) (q := 0) gc dX12_four_11 rfl rfl ?_
      refine hf_getI (j := 0) (k := 21) g rfl rfl kF_RX12_157 dX12_four_12 ?_
      refine hf_iload_n (i := 1) (q := 1) gc dX12_four_15 rfl rfl ?_
      refine hf_iload_n (i := 2) (q := 2) gc dX12_four_16 rfl rfl ?_
      refine hf_ishr gc dX12_four_17 ?_
      refine hf_i2b gc dX12_four_18 ?_
      refine hf_bast (a := 15) (r := 16) (n := 500) g rfl rfl dX12_four_19 (fun s1 => ?_)
      refine hf_aload_n (i := 0) (q := 0) gc dX12_four_20 rfl rfl ?_
      refine hf_dup gc dX12_four_21 rfl ?_
      refine hf_getI (j := 0) (k := 21) g rfl rfl kF_RX12_157 dX12_four_22 ?_
      refine hf_iconst (v := 1) gc dX12_four_25 (by decide) ?_
      refine hf_iadd gc dX12_four_26 ?_
      refine hf_putI (j := 0) (k := 21) g rfl rfl kP_RX12_157 rfl rfl dX12_four_27 (fun s2 => ?_)
      refine hf_iinc (q := 2) (v' := l2 + (-8 : Int32)) (lv' := [(2, .int (l2 + (-8 : Int32))), (0, .ref (ad 0)), (1, .int l1)]) gc dX12_four_30 rfl rfl (by decide) rfl ?_
      refine hf_goto (tgt := 3) gc dX12_four_33 (by decide) ?_
      refine hf_sub (lv' := [(0, .ref (ad 0)), (1, .int l1), (2, .int (l2 + (-8 : Int32)))]) [1, 2, 0] rfl ?_
      exact ih _ _ _
set_option maxHeartbeats 2000000 in
set_option maxRecDepth 20000 in
theorem xm_md_four {x : hf_Cx} {ad : Nat → Nat} {cA : Nat → ClassId} {E : State → Prop} {A : Nat → Prop} {l0 : Launch} {D0 : va_G} (g : hf_G x hmT ad cA E A l0 D0 cX12_four 3 RX12 none 0) {s : hf_St} {a1 : Int32} : hf_X x A 3 (0, 0) (hf_Q x hmT ad cA A hf_rv) (Fm_md_four s a1) (hf_wd hmT ad cA s) 0 [(0, .ref (ad 0)), (1, .int a1)] [] := by
  have gc := g.1
  unfold Fm_md_four
  refine hf_bipush (v := 24) gc dX12_four_0 (by decide) ?_
  refine hf_istore_n (i := 2) (lv' := [(2, .int ((24 : Int32))), (0, .ref (ad 0)), (1, .int a1)]) gc dX12_four_2 rfl (by decide) rfl ?_
  refine hf_sub (lv' := [(0, .ref (ad 0)), (1, .int a1), (2, .int ((24 : Int32)))]) [1, 2, 0] rfl ?_
  exact xm_md_four_l3 g hf_fuel _ _ _
theorem cm_md_four {l0 : Launch} {D0 : va_G} {ad : Nat → Nat} {cA : Nat → ClassId} {E : State → Prop} {s : hf_St} {a1 : Int32} : hf_Ct l0 D0 hmT ad cA E 0 yX12_four cX12_four 3 none [.ref (ad 0), .int a1] s (Fm_md_four s a1) hf_rv := hf_met (by decide) (Nat.le_of_ble_eq_true rfl) (fun _ _ g => xm_md_four g)
set_option maxHeartbeats 2000000 in
set_option maxRecDepth 20000 in
theorem xm_md_feed {x : hf_Cx} {ad : Nat → Nat} {cA : Nat → ClassId} {E : State → Prop} {A : Nat → Prop} {l0 : Launch} {D0 : va_G} (g : hf_G x hmT ad cA E A l0 D0 cX12_feed 6 RX12 (some .int) 1) {s : hf_St} {a1 : Int32} {a2 : Int32} {a3 : Int32} {a4 : Int32} {a5 : Int32} : hf_X x A 6 (0, 0) (hf_Q x hmT ad cA A hf_ri) (Fm_md_feed s a1 a2 a3 a4 a5) (hf_wd hmT ad cA s) 0 [(0, .ref (ad 0)), (1, .int a1), (2, .int a2), (3, .int a3), (4, .int a4), (5, .int a5)] [] := by
  have gc := g.1
  unfold Fm_md_feed
  refine hf_aload_n (i := 0) (q := 0) gc dX12_feed_0 rfl rfl ?_
  refine hf_getI (j := 0) (k := 21) g rfl rfl kF_RX12_157 dX12_feed_1 ?_
  refine hf_bipush (v := 20) gc dX12_feed_4 (by decide) ?_
  refine hf_iadd gc dX12_feed_6 ?_
  refine hf_sipush (v := 500) gc dX12_feed_7 (by decide) ?_
  refine hf_icmp_le (tgt := 15) gc dX12_feed_10 (by decide) ?_ ?_
  · refine hf_aload_n (i := 0) (q := 0) gc dX12_feed_15 rfl rfl ?_
    refine hf_iload_n (i := 1) (q := 1) gc dX12_feed_16 rfl rfl ?_
    refine hf_callV0 (j := 0) g (cm_md_four (a1 := a1)) kV_RX12_160 (by decide) (by decide) rfl rfl rfl rfl (Nat.le_of_ble_eq_true rfl) dX12_feed_17 (fun s1 => ?_)
    refine hf_aload_n (i := 0) (q := 0) gc dX12_feed_20 rfl rfl ?_
    refine hf_iload_n (i := 2) (q := 2) gc dX12_feed_21 rfl rfl ?_
    refine hf_callV0 (j := 0) g (cm_md_four (a1 := a2)) kV_RX12_160 (by decide) (by decide) rfl rfl rfl rfl (Nat.le_of_ble_eq_true rfl) dX12_feed_22 (fun s2 => ?_)
    refine hf_aload_n (i := 0) (q := 0) gc dX12_feed_25 rfl rfl ?_
    refine hf_iload_n (i := 3) (q := 3) gc dX12_feed_26 rfl rfl ?_
    refine hf_callV0 (j := 0) g (cm_md_four (a1 := a3)) kV_RX12_160 (by decide) (by decide) rfl rfl rfl rfl (Nat.le_of_ble_eq_true rfl) dX12_feed_27 (fun s3 => ?_)
    refine hf_aload_n (i := 0) (q := 0) gc dX12_feed_30 rfl rfl ?_
    refine hf_iload (i := 4) (q := 4) gc dX12_feed_31 rfl ?_
    refine hf_callV0 (j := 0) g (cm_md_four (a1 := a4)) kV_RX12_160 (by decide) (by decide) rfl rfl rfl rfl (Nat.le_of_ble_eq_true rfl) dX12_feed_33 (fun s4 => ?_)
    refine hf_aload_n (i := 0) (q := 0) gc dX12_feed_36 rfl rfl ?_
    refine hf_iload (i := 5) (q := 5) gc dX12_feed_37 rfl ?_
    refine hf_callV0 (j := 0) g (cm_md_four (a1 := a5)) kV_RX12_160 (by decide) (by decide) rfl rfl rfl rfl (Nat.le_of_ble_eq_true rfl) dX12_feed_39 (fun s5 => ?_)
    refine hf_aload_n (i := 0) (q := 0) gc dX12_feed_42 rfl rfl ?_
    refine hf_getI (j := 0) (k := 21) g rfl rfl kF_RX12_157 dX12_feed_43 ?_
    exact hf_iret g dX12_feed_46 rfl
  · refine hf_iconst (v := -1) gc dX12_feed_13 (by decide) ?_
    exact hf_iret g dX12_feed_14 rfl
theorem cm_md_feed {l0 : Launch} {D0 : va_G} {ad : Nat → Nat} {cA : Nat → ClassId} {E : State → Prop} {s : hf_St} {a1 : Int32} {a2 : Int32} {a3 : Int32} {a4 : Int32} {a5 : Int32} : hf_Ct l0 D0 hmT ad cA E 1 yX12_feed cX12_feed 6 (some .int) [.ref (ad 0), .int a1, .int a2, .int a3, .int a4, .int a5] s (Fm_md_feed s a1 a2 a3 a4 a5) hf_ri := hf_met (by decide) (Nat.le_of_ble_eq_true rfl) (fun _ _ g => xm_md_feed g)
set_option maxHeartbeats 2000000 in
set_option maxRecDepth 20000 in
theorem xm_md_end {x : hf_Cx} {ad : Nat → Nat} {cA : Nat → ClassId} {E : State → Prop} {A : Nat → Prop} {l0 : Launch} {D0 : va_G} (g : hf_G x hmT ad cA E A l0 D0 cX12_end 2 RX12 (some .int) 0) {s : hf_St} {a1 : Int32} : hf_X x A 2 (0, 0) (hf_Q x hmT ad cA A hf_ri) (Fm_md_end s a1) (hf_wd hmT ad cA s) 0 [(0, .ref (ad 0)), (1, .int a1)] [] := by
  have gc := g.1
  unfold Fm_md_end
  refine hf_iload_n (i := 1) (q := 1) gc dX12_end_0 rfl rfl ?_
  refine hf_if_lt (tgt := 12) gc dX12_end_1 (by decide) ?_ ?_
  · refine hf_iconst (v := -1) gc dX12_end_12 (by decide) ?_
    exact hf_iret g dX12_end_13 rfl
  · refine hf_iload_n (i := 1) (q := 1) gc dX12_end_4 rfl rfl ?_
    refine hf_aload_n (i := 0) (q := 0) gc dX12_end_5 rfl rfl ?_
    refine hf_getI (j := 0) (k := 21) g rfl rfl kF_RX12_157 dX12_end_6 ?_
    refine hf_icmp_le (tgt := 14) gc dX12_end_9 (by decide) ?_ ?_
    · refine hf_aload_n (i := 0) (q := 0) gc dX12_end_14 rfl rfl ?_
      refine hf_iload_n (i := 1) (q := 1) gc dX12_end_15 rfl rfl ?_
      refine hf_putI (j := 0) (k := 21) g rfl rfl kP_RX12_157 rfl rfl dX12_end_16 (fun s1 => ?_)
      refine hf_iload_n (i := 1) (q := 1) gc dX12_end_19 rfl rfl ?_
      exact hf_iret g dX12_end_20 rfl
    · refine hf_iconst (v := -1) gc dX12_end_12 (by decide) ?_
      exact hf_iret g dX12_end_13 rfl
theorem cm_md_end {l0 : Launch} {D0 : va_G} {ad : Nat → Nat} {cA : Nat → ClassId} {E : State → Prop} {s : hf_St} {a1 : Int32} : hf_Ct l0 D0 hmT ad cA E 0 yX12_end cX12_end 2 (some .int) [.ref (ad 0), .int a1] s (Fm_md_end s a1) hf_ri := hf_met (by decide) (Nat.le_of_ble_eq_true rfl) (fun _ _ g => xm_md_end g)
set_option maxHeartbeats 2000000 in
set_option maxRecDepth 20000 in
theorem xm_md_at {x : hf_Cx} {ad : Nat → Nat} {cA : Nat → ClassId} {E : State → Prop} {A : Nat → Prop} {l0 : Launch} {D0 : va_G} (g : hf_G x hmT ad cA E A l0 D0 cX12_at 2 RX12 (some .int) 2) {s : hf_St} {a1 : Int32} : hf_X x A 2 (0, 0) (hf_Q x hmT ad cA A (hf_rp s)) (Fm_md_at s a1) (hf_wd hmT ad cA s) 0 [(0, .ref (ad 0)), (1, .int a1)] [] := by
  have gc := g.1
  unfold Fm_md_at
  refine hf_aload_n (i := 0) (q := 0) gc dX12_at_0 rfl rfl ?_
  refine hf_iload_n (i := 1) (q := 1) gc dX12_at_1 rfl rfl ?_
  refine hf_callV1 (j := 0) g (cm_md_isChild (a1 := a1)) kV_RX12_144 (by decide) (by decide) rfl rfl rfl rfl (Nat.le_of_ble_eq_true rfl) dX12_at_2 (fun v1 => ?_)
  refine hf_if_eq (tgt := 17) gc dX12_at_5 (by decide) ?_ ?_
  · refine hf_iconst (v := -1) gc dX12_at_17 (by decide) ?_
    exact hf_iret g dX12_at_18 rfl
  · refine hf_aload_n (i := 0) (q := 0) gc dX12_at_8 rfl rfl ?_
    refine hf_getR (j := 0) (k := 46) (r := 33) g rfl rfl kF_RX12_108 dX12_at_9 ?_
    refine hf_iload_n (i := 1) (q := 1) gc dX12_at_12 rfl rfl ?_
    refine hf_iald (a := 32) (r := 33) (n := 7) g rfl rfl dX12_at_13 ?_
    refine hf_goto (tgt := 18) gc dX12_at_14 (by decide) ?_
    exact hf_iret g dX12_at_18 rfl
theorem cm_md_at {l0 : Launch} {D0 : va_G} {ad : Nat → Nat} {cA : Nat → ClassId} {E : State → Prop} {s : hf_St} {a1 : Int32} : hf_Ct l0 D0 hmT ad cA E 2 yX12_at cX12_at 2 (some .int) [.ref (ad 0), .int a1] s (Fm_md_at s a1) (hf_rp s) := hf_met (by decide) (Nat.le_of_ble_eq_true rfl) (fun _ _ g => xm_md_at g)
set_option maxHeartbeats 2000000 in
set_option maxRecDepth 20000 in
theorem xm_md_placed {x : hf_Cx} {ad : Nat → Nat} {cA : Nat → ClassId} {E : State → Prop} {A : Nat → Prop} {l0 : Launch} {D0 : va_G} (g : hf_G x hmT ad cA E A l0 D0 cX12_placed 2 RX12 (some .int) 0) {s : hf_St} {a1 : Int32} : hf_X x A 2 (0, 0) (hf_Q x hmT ad cA A (hf_rp s)) (Fm_md_placed s a1) (hf_wd hmT ad cA s) 0 [(0, .ref (ad 0)), (1, .int a1)] [] := by
  have gc := g.1
  unfold Fm_md_placed
  refine hf_aload_n (i := 0) (q := 0) gc dX12_placed_0 rfl rfl ?_
  refine hf_getI (j := 0) (k := 55) g rfl rfl kF_RX12_274 dX12_placed_1 ?_
  refine hf_if_ne (tgt := 9) gc dX12_placed_4 (by decide) ?_ ?_
  · refine hf_iload_n (i := 1) (q := 1) gc dX12_placed_9 rfl rfl ?_
    refine hf_switch (lo := 0) gc [44, 49, 54, 59, 64] 69 dX12_placed_10 (by decide) rfl (by decide) ⟨?_, ?_, ?_, ?_, ?_, trivial⟩ ?_
    · refine hf_aload_n (i := 0) (q := 0) gc dX12_placed_44 rfl rfl ?_
      refine hf_getI (j := 0) (k := 56) g rfl rfl kF_RX12_264 dX12_placed_45 ?_
      exact hf_iret g dX12_placed_48 rfl
    · refine hf_aload_n (i := 0) (q := 0) gc dX12_placed_49 rfl rfl ?_
      refine hf_getI (j := 0) (k := 51) g rfl rfl kF_RX12_252 dX12_placed_50 ?_
      exact hf_iret g dX12_placed_53 rfl
    · refine hf_aload_n (i := 0) (q := 0) gc dX12_placed_54 rfl rfl ?_
      refine hf_getI (j := 0) (k := 52) g rfl rfl kF_RX12_255 dX12_placed_55 ?_
      exact hf_iret g dX12_placed_58 rfl
    · refine hf_aload_n (i := 0) (q := 0) gc dX12_placed_59 rfl rfl ?_
      refine hf_getI (j := 0) (k := 53) g rfl rfl kF_RX12_258 dX12_placed_60 ?_
      exact hf_iret g dX12_placed_63 rfl
    · refine hf_aload_n (i := 0) (q := 0) gc dX12_placed_64 rfl rfl ?_
      refine hf_getI (j := 0) (k := 54) g rfl rfl kF_RX12_261 dX12_placed_65 ?_
      exact hf_iret g dX12_placed_68 rfl
    · refine hf_iconst (v := -1) gc dX12_placed_69 (by decide) ?_
      exact hf_iret g dX12_placed_70 rfl
  · refine hf_iconst (v := -1) gc dX12_placed_7 (by decide) ?_
    exact hf_iret g dX12_placed_8 rfl
theorem cm_md_placed {l0 : Launch} {D0 : va_G} {ad : Nat → Nat} {cA : Nat → ClassId} {E : State → Prop} {s : hf_St} {a1 : Int32} : hf_Ct l0 D0 hmT ad cA E 0 yX12_placed cX12_placed 2 (some .int) [.ref (ad 0), .int a1] s (Fm_md_placed s a1) (hf_rp s) := hf_met (by decide) (Nat.le_of_ble_eq_true rfl) (fun _ _ g => xm_md_placed g)
set_option maxHeartbeats 2000000 in
set_option maxRecDepth 20000 in
theorem xm_md_beds_l22 {x : hf_Cx} {ad : Nat → Nat} {cA : Nat → ClassId} {E : State → Prop} {A : Nat → Prop} {l0 : Launch} {D0 : va_G} {s : hf_St} (g : hf_G x hmT ad cA E A l0 D0 cX12_beds 5 RX12 (some .int) 2) : ∀ (n : Nat) (l1 : Int32) (l2 : Int32) (l3 : Int32) (l4 : Int32), hf_X x A 5 (0, 0) (hf_Q x hmT ad cA A (hf_rp s)) (Fm_md_beds_l22 s n l1 l2 l3 l4) (hf_wd hmT ad cA s) 22 [(0, .ref (ad 0)), (1, .int l1), (2, .int l2), (3, .int l3), (4, .int l4)] [] := by
  have gc := g.1
  intro n
  induction n with
  | zero => intro l1 l2 l3 l4; exact hf_none
  | succ n ih =>
    intro l1 l2 l3 l4
    rw [Fm_md_beds_l22]
    refine hf_iload (i := 4) (q := 4) gc dX12_beds_22 rfl ?_
    refine hf_aload_n (i := 0) (q := 0) gc dX12_beds_24 rfl rfl ?_
    refine hf_getI (j := 0) (k := 1) g rfl rfl kF_RX12_131 dX12_beds_25 ?_
    refine hf_icmp_ge (tgt := 88) gc dX12_beds_28 (by decide) ?_ ?_
    · refine hf_iload_n (i := 3) (q := 3) gc dX12_beds_88 rfl rfl ?_
      exact hf_iret g dX12_beds_89 rfl
    · refine hf_iload_n (i := 3) (q := 3) gc dX12_beds_31 rfl rfl ?_
      refine hf_aload_n (i := 0) (q := 0) gc dX12_beds_32 rfl rfl ?_
      refine hf_getR (j := 0) (k := 46) (r := 33) g rfl rfl kF_RX12_108 dX12_beds_33 ?_
      refine hf_iload (i := 4) (q := 4) gc dX12_beds_36 rfl ?_
      refine hf_iald (a := 32) (r := 33) (n := 7) g rfl rfl dX12_beds_38 ?_
      refine hf_iload_n (i := 1) (q := 1) gc dX12_beds_39 rfl rfl ?_
      refine hf_icmp_ne (tgt := 79) gc dX12_beds_40 (by decide) ?_ ?_
      · refine hf_iconst (v := 0) gc dX12_beds_79 (by decide) ?_
        refine hf_iadd gc dX12_beds_80 ?_
        refine hf_let (fun v1 => ?_)
        refine hf_istore_n (i := 3) (lv' := [(3, .int v1), (0, .ref (ad 0)), (1, .int l1), (2, .int l2), (4, .int l4)]) gc dX12_beds_81 rfl (by decide) rfl ?_
        refine hf_iinc (q := 4) (v' := l4 + (1 : Int32)) (lv' := [(4, .int (l4 + (1 : Int32))), (3, .int v1), (0, .ref (ad 0)), (1, .int l1), (2, .int l2)]) gc dX12_beds_82 rfl rfl (by decide) rfl ?_
        refine hf_goto (tgt := 22) gc dX12_beds_85 (by decide) ?_
        refine hf_sub (lv' := [(0, .ref (ad 0)), (1, .int l1), (2, .int l2), (3, .int v1), (4, .int (l4 + (1 : Int32)))]) [2, 3, 4, 1, 0] rfl ?_
        exact ih _ _ _ _
      · refine hf_aload_n (i := 0) (q := 0) gc dX12_beds_43 rfl rfl ?_
        refine hf_getR (j := 0) (k := 3) (r := 2) g rfl rfl kF_RX12_13 dX12_beds_44 ?_
        refine hf_iload (i := 4) (q := 4) gc dX12_beds_47 rfl ?_
        refine hf_zald (a := 1) (r := 2) (n := 7) g rfl rfl dX12_beds_49 ?_
        refine hf_if_eq (tgt := 79) gc dX12_beds_50 (by decide) ?_ ?_
        · refine hf_iconst (v := 0) gc dX12_beds_79 (by decide) ?_
          refine hf_iadd gc dX12_beds_80 ?_
          refine hf_let (fun v2 => ?_)
          refine hf_istore_n (i := 3) (lv' := [(3, .int v2), (0, .ref (ad 0)), (1, .int l1), (2, .int l2), (4, .int l4)]) gc dX12_beds_81 rfl (by decide) rfl ?_
          refine hf_iinc (q := 4) (v' := l4 + (1 : Int32)) (lv' := [(4, .int (l4 + (1 : Int32))), (3, .int v2), (0, .ref (ad 0)), (1, .int l1), (2, .int l2)]) gc dX12_beds_82 rfl rfl (by decide) rfl ?_
          refine hf_goto (tgt := 22) gc dX12_beds_85 (by decide) ?_
          refine hf_sub (lv' := [(0, .ref (ad 0)), (1, .int l1), (2, .int l2), (3, .int v2), (4, .int (l4 + (1 : Int32)))]) [2, 3, 4, 1, 0] rfl ?_
          exact ih _ _ _ _
        · refine hf_aload_n (i := 0) (q := 0) gc dX12_beds_53 rfl rfl ?_
          refine hf_getR (j := 0) (k := 4) (r := 3) g rfl rfl kF_RX12_17 dX12_beds_54 ?_
          refine hf_iload (i := 4) (q := 4) gc dX12_beds_57 rfl ?_
          refine hf_iald (a := 2) (r := 3) (n := 7) g rfl rfl dX12_beds_59 ?_
          refine hf_iload_n (i := 2) (q := 2) gc dX12_beds_60 rfl rfl ?_
          refine hf_icmp_gt (tgt := 79) gc dX12_beds_61 (by decide) ?_ ?_
          · refine hf_iconst (v := 0) gc dX12_beds_79 (by decide) ?_
            refine hf_iadd gc dX12_beds_80 ?_
            refine hf_let (fun v3 => ?_)
            refine hf_istore_n (i := 3) (lv' := [(3, .int v3), (0, .ref (ad 0)), (1, .int l1), (2, .int l2), (4, .int l4)]) gc dX12_beds_81 rfl (by decide) rfl ?_
            refine hf_iinc (q := 4) (v' := l4 + (1 : Int32)) (lv' := [(4, .int (l4 + (1 : Int32))), (3, .int v3), (0, .ref (ad 0)), (1, .int l1), (2, .int l2)]) gc dX12_beds_82 rfl rfl (by decide) rfl ?_
            refine hf_goto (tgt := 22) gc dX12_beds_85 (by decide) ?_
            refine hf_sub (lv' := [(0, .ref (ad 0)), (1, .int l1), (2, .int l2), (3, .int v3), (4, .int (l4 + (1 : Int32)))]) [2, 3, 4, 1, 0] rfl ?_
            exact ih _ _ _ _
          · refine hf_aload_n (i := 0) (q := 0) gc dX12_beds_64 rfl rfl ?_
            refine hf_getR (j := 0) (k := 5) (r := 4) g rfl rfl kF_RX12_20 dX12_beds_65 ?_
            refine hf_iload (i := 4) (q := 4) gc dX12_beds_68 rfl ?_
            refine hf_iald (a := 3) (r := 4) (n := 7) g rfl rfl dX12_beds_70 ?_
            refine hf_iload_n (i := 2) (q := 2) gc dX12_beds_71 rfl rfl ?_
            refine hf_icmp_lt (tgt := 79) gc dX12_beds_72 (by decide) ?_ ?_
            · refine hf_iconst (v := 0) gc dX12_beds_79 (by decide) ?_
              refine hf_iadd gc dX12_beds_80 ?_
              refine hf_let (fun v4 => ?_)
              refine hf_istore_n (i := 3) (lv' := [(3, .int v4), (0, .ref (ad 0)), (1, .int l1), (2, .int l2), (4, .int l4)]) gc dX12_beds_81 rfl (by decide) rfl ?_
              refine hf_iinc (q := 4) (v' := l4 + (1 : Int32)) (lv' := [(4, .int (l4 + (1 : Int32))), (3, .int v4), (0, .ref (ad 0)), (1, .int l1), (2, .int l2)]) gc dX12_beds_82 rfl rfl (by decide) rfl ?_
              refine hf_goto (tgt := 22) gc dX12_beds_85 (by decide) ?_
              refine hf_sub (lv' := [(0, .ref (ad 0)), (1, .int l1), (2, .int l2), (3, .int v4), (4, .int (l4 + (1 : Int32)))]) [2, 3, 4, 1, 0] rfl ?_
              exact ih _ _ _ _
            · refine hf_iconst (v := 1) gc dX12_beds_75 (by decide) ?_
              refine hf_goto (tgt := 80) gc dX12_beds_76 (by decide) ?_
              refine hf_iadd gc dX12_beds_80 ?_
              refine hf_let (fun v5 => ?_)
              refine hf_istore_n (i := 3) (lv' := [(3, .int v5), (0, .ref (ad 0)), (1, .int l1), (2, .int l2), (4, .int l4)]) gc dX12_beds_81 rfl (by decide) rfl ?_
              refine hf_iinc (q := 4) (v' := l4 + (1 : Int32)) (lv' := [(4, .int (l4 + (1 : Int32))), (3, .int v5), (0, .ref (ad 0)), (1, .int l1), (2, .int l2)]) gc dX12_beds_82 rfl rfl (by decide) rfl ?_
              refine hf_goto (tgt := 22) gc dX12_beds_85 (by decide) ?_
              refine hf_sub (lv' := [(0, .ref (ad 0)), (1, .int l1), (2, .int l2), (3, .int v5), (4, .int (l4 + (1 : Int32)))]) [2, 3, 4, 1, 0] rfl ?_
              exact ih _ _ _ _
set_option maxHeartbeats 2000000 in
set_option maxRecDepth 20000 in
theorem xm_md_beds {x : hf_Cx} {ad : Nat → Nat} {cA : Nat → ClassId} {E : State → Prop} {A : Nat → Prop} {l0 : Launch} {D0 : va_G} (g : hf_G x hmT ad cA E A l0 D0 cX12_beds 5 RX12 (some .int) 2) {s : hf_St} {a1 : Int32} {a2 : Int32} : hf_X x A 5 (0, 0) (hf_Q x hmT ad cA A (hf_rp s)) (Fm_md_beds s a1 a2) (hf_wd hmT ad cA s) 0 [(0, .ref (ad 0)), (1, .int a1), (2, .int a2)] [] := by
  have gc := g.1
  unfold Fm_md_beds
  refine hf_aload_n (i := 0) (q := 0) gc dX12_beds_0 rfl rfl ?_
  refine hf_iload_n (i := 1) (q := 1) gc dX12_beds_1 rfl rfl ?_
  refine hf_callV1 (j := 0) g (cm_md_isHome (a1 := a1)) kV_RX12_140 (by decide) (by decide) rfl rfl rfl rfl (Nat.le_of_ble_eq_true rfl) dX12_beds_2 (fun v1 => ?_)
  refine hf_if_eq (tgt := 15) gc dX12_beds_5 (by decide) ?_ ?_
  · refine hf_iconst (v := -1) gc dX12_beds_15 (by decide) ?_
    exact hf_iret g dX12_beds_16 rfl
  · refine hf_iload_n (i := 2) (q := 2) gc dX12_beds_8 rfl rfl ?_
    refine hf_callS1 g (cm_md_isDay (a1 := a2)) kS_RX12_147 (by decide) (by decide) rfl rfl (Nat.le_of_ble_eq_true rfl) dX12_beds_9 (fun v2 => ?_)
    refine hf_if_ne (tgt := 17) gc dX12_beds_12 (by decide) ?_ ?_
    · refine hf_iconst (v := 0) gc dX12_beds_17 (by decide) ?_
      refine hf_istore_n (i := 3) (lv' := [(3, .int ((0 : Int32))), (0, .ref (ad 0)), (1, .int a1), (2, .int a2)]) gc dX12_beds_18 rfl (by decide) rfl ?_
      refine hf_iconst (v := 0) gc dX12_beds_19 (by decide) ?_
      refine hf_istore (i := 4) (lv' := [(4, .int ((0 : Int32))), (3, .int ((0 : Int32))), (0, .ref (ad 0)), (1, .int a1), (2, .int a2)]) gc dX12_beds_20 (by decide) rfl ?_
      refine hf_sub (lv' := [(0, .ref (ad 0)), (1, .int a1), (2, .int a2), (3, .int ((0 : Int32))), (4, .int ((0 : Int32)))]) [2, 3, 4, 1, 0] rfl ?_
      exact xm_md_beds_l22 g hf_fuel _ _ _ _
    · refine hf_iconst (v := -1) gc dX12_beds_15 (by decide) ?_
      exact hf_iret g dX12_beds_16 rfl
theorem cm_md_beds {l0 : Launch} {D0 : va_G} {ad : Nat → Nat} {cA : Nat → ClassId} {E : State → Prop} {s : hf_St} {a1 : Int32} {a2 : Int32} : hf_Ct l0 D0 hmT ad cA E 2 yX12_beds cX12_beds 5 (some .int) [.ref (ad 0), .int a1, .int a2] s (Fm_md_beds s a1 a2) (hf_rp s) := hf_met (by decide) (Nat.le_of_ble_eq_true rfl) (fun _ _ g => xm_md_beds g)
set_option maxHeartbeats 2000000 in
set_option maxRecDepth 20000 in
theorem xm_md_reviewOf_b44 {x : hf_Cx} {ad : Nat → Nat} {cA : Nat → ClassId} {E : State → Prop} {A : Nat → Prop} {l0 : Launch} {D0 : va_G} {s : hf_St} (g : hf_G x hmT ad cA E A l0 D0 cX12_reviewOf 4 RX12 (some .int) 0) (l1 : Int32) (t0 : Int32) (t1 : Int32) : hf_X x A 4 (0, 0) (hf_Q x hmT ad cA A (hf_rp s)) (Fm_md_reviewOf_b44 s l1 t0 t1) (hf_wd hmT ad cA s) 44 [(0, .ref (ad 0)), (1, .int l1)] [.int t0, .int t1] := by
  have gc := g.1
  unfold Fm_md_reviewOf_b44
  refine hf_iadd gc dX12_reviewOf_44 ?_
  refine hf_let (fun v1 => ?_)
  refine hf_istore_n (i := 3) (lv' := [(3, .int v1), (0, .ref (ad 0)), (1, .int l1)]) gc dX12_reviewOf_45 rfl (by decide) rfl ?_
  refine hf_iload_n (i := 3) (q := 0) gc dX12_reviewOf_46 rfl rfl ?_
  refine hf_aload_n (i := 0) (q := 1) gc dX12_reviewOf_47 rfl rfl ?_
  refine hf_getR (j := 0) (k := 5) (r := 4) g rfl rfl kF_RX12_20 dX12_reviewOf_48 ?_
  refine hf_iload_n (i := 1) (q := 2) gc dX12_reviewOf_51 rfl rfl ?_
  refine hf_iald (a := 3) (r := 4) (n := 7) g rfl rfl dX12_reviewOf_52 ?_
  refine hf_icmp_gt (tgt := 60) gc dX12_reviewOf_53 (by decide) ?_ ?_
  · refine hf_iconst (v := -1) gc dX12_reviewOf_60 (by decide) ?_
    exact hf_iret g dX12_reviewOf_61 rfl
  · refine hf_iload_n (i := 3) (q := 0) gc dX12_reviewOf_56 rfl rfl ?_
    refine hf_goto (tgt := 61) gc dX12_reviewOf_57 (by decide) ?_
    exact hf_iret g dX12_reviewOf_61 rfl
set_option maxHeartbeats 2000000 in
set_option maxRecDepth 20000 in
theorem xm_md_reviewOf {x : hf_Cx} {ad : Nat → Nat} {cA : Nat → ClassId} {E : State → Prop} {A : Nat → Prop} {l0 : Launch} {D0 : va_G} (g : hf_G x hmT ad cA E A l0 D0 cX12_reviewOf 4 RX12 (some .int) 0) {s : hf_St} {a1 : Int32} {a2 : Int32} : hf_X x A 4 (0, 0) (hf_Q x hmT ad cA A (hf_rp s)) (Fm_md_reviewOf s a1 a2) (hf_wd hmT ad cA s) 0 [(0, .ref (ad 0)), (1, .int a1), (2, .int a2)] [] := by
  have gc := g.1
  unfold Fm_md_reviewOf
  refine hf_aload_n (i := 0) (q := 0) gc dX12_reviewOf_0 rfl rfl ?_
  refine hf_getR (j := 0) (k := 46) (r := 33) g rfl rfl kF_RX12_108 dX12_reviewOf_1 ?_
  refine hf_iload_n (i := 1) (q := 1) gc dX12_reviewOf_4 rfl rfl ?_
  refine hf_iald (a := 32) (r := 33) (n := 7) g rfl rfl dX12_reviewOf_5 ?_
  refine hf_if_lt (tgt := 18) gc dX12_reviewOf_6 (by decide) ?_ ?_
  · refine hf_iconst (v := -1) gc dX12_reviewOf_18 (by decide) ?_
    exact hf_iret g dX12_reviewOf_19 rfl
  · refine hf_aload_n (i := 0) (q := 0) gc dX12_reviewOf_9 rfl rfl ?_
    refine hf_getR (j := 0) (k := 3) (r := 2) g rfl rfl kF_RX12_13 dX12_reviewOf_10 ?_
    refine hf_iload_n (i := 1) (q := 1) gc dX12_reviewOf_13 rfl rfl ?_
    refine hf_zald (a := 1) (r := 2) (n := 7) g rfl rfl dX12_reviewOf_14 ?_
    refine hf_if_ne (tgt := 20) gc dX12_reviewOf_15 (by decide) ?_ ?_
    · refine hf_aload_n (i := 0) (q := 0) gc dX12_reviewOf_20 rfl rfl ?_
      refine hf_getR (j := 0) (k := 4) (r := 3) g rfl rfl kF_RX12_17 dX12_reviewOf_21 ?_
      refine hf_iload_n (i := 1) (q := 1) gc dX12_reviewOf_24 rfl rfl ?_
      refine hf_iald (a := 2) (r := 3) (n := 7) g rfl rfl dX12_reviewOf_25 ?_
      refine hf_iload_n (i := 2) (q := 2) gc dX12_reviewOf_26 rfl rfl ?_
      refine hf_if_ne (tgt := 35) gc dX12_reviewOf_27 (by decide) ?_ ?_
      · refine hf_bipush (v := 28) gc dX12_reviewOf_35 (by decide) ?_
        refine hf_bipush (v := 90) gc dX12_reviewOf_37 (by decide) ?_
        refine hf_iload_n (i := 2) (q := 2) gc dX12_reviewOf_39 rfl rfl ?_
        refine hf_iconst (v := 1) gc dX12_reviewOf_40 (by decide) ?_
        refine hf_isub gc dX12_reviewOf_41 ?_
        refine hf_imul gc dX12_reviewOf_42 ?_
        refine hf_iadd gc dX12_reviewOf_43 ?_
        refine hf_sub (lv' := [(0, .ref (ad 0)), (1, .int a1)]) [0, 1] rfl ?_
        exact xm_md_reviewOf_b44 g _ _ _
      · refine hf_bipush (v := 7) gc dX12_reviewOf_30 (by decide) ?_
        refine hf_goto (tgt := 44) gc dX12_reviewOf_32 (by decide) ?_
        refine hf_sub (lv' := [(0, .ref (ad 0)), (1, .int a1)]) [0, 1] rfl ?_
        exact xm_md_reviewOf_b44 g _ _ _
    · refine hf_iconst (v := -1) gc dX12_reviewOf_18 (by decide) ?_
      exact hf_iret g dX12_reviewOf_19 rfl
theorem cm_md_reviewOf {l0 : Launch} {D0 : va_G} {ad : Nat → Nat} {cA : Nat → ClassId} {E : State → Prop} {s : hf_St} {a1 : Int32} {a2 : Int32} : hf_Ct l0 D0 hmT ad cA E 0 yX12_reviewOf cX12_reviewOf 4 (some .int) [.ref (ad 0), .int a1, .int a2] s (Fm_md_reviewOf s a1 a2) (hf_rp s) := hf_met (by decide) (Nat.le_of_ble_eq_true rfl) (fun _ _ g => xm_md_reviewOf g)
set_option maxHeartbeats 2000000 in
set_option maxRecDepth 20000 in
theorem xm_md_review {x : hf_Cx} {ad : Nat → Nat} {cA : Nat → ClassId} {E : State → Prop} {A : Nat → Prop} {l0 : Launch} {D0 : va_G} (g : hf_G x hmT ad cA E A l0 D0 cX12_review 3 RX12 (some .int) 2) {s : hf_St} {a1 : Int32} {a2 : Int32} : hf_X x A 3 (0, 0) (hf_Q x hmT ad cA A (hf_rp s)) (Fm_md_review s a1 a2) (hf_wd hmT ad cA s) 0 [(0, .ref (ad 0)), (1, .int a1), (2, .int a2)] [] := by
  have gc := g.1
  unfold Fm_md_review
  refine hf_aload_n (i := 0) (q := 0) gc dX12_review_0 rfl rfl ?_
  refine hf_iload_n (i := 1) (q := 1) gc dX12_review_1 rfl rfl ?_
  refine hf_callV1 (j := 0) g (cm_md_isChild (a1 := a1)) kV_RX12_144 (by decide) (by decide) rfl rfl rfl rfl (Nat.le_of_ble_eq_true rfl) dX12_review_2 (fun v1 => ?_)
  refine hf_if_eq (tgt := 27) gc dX12_review_5 (by decide) ?_ ?_
  · refine hf_iconst (v := -1) gc dX12_review_27 (by decide) ?_
    exact hf_iret g dX12_review_28 rfl
  · refine hf_iload_n (i := 2) (q := 2) gc dX12_review_8 rfl rfl ?_
    refine hf_iconst (v := 0) gc dX12_review_9 (by decide) ?_
    refine hf_bipush (v := 100) gc dX12_review_10 (by decide) ?_
    refine hf_callS1 g (cm_md_in (a1 := a2) (a2 := (0 : Int32)) (a3 := (100 : Int32))) kS_RX12_123 (by decide) (by decide) rfl rfl (Nat.le_of_ble_eq_true rfl) dX12_review_12 (fun v2 => ?_)
    refine hf_if_eq (tgt := 27) gc dX12_review_15 (by decide) ?_ ?_
    · refine hf_iconst (v := -1) gc dX12_review_27 (by decide) ?_
      exact hf_iret g dX12_review_28 rfl
    · refine hf_aload_n (i := 0) (q := 0) gc dX12_review_18 rfl rfl ?_
      refine hf_iload_n (i := 1) (q := 1) gc dX12_review_19 rfl rfl ?_
      refine hf_iload_n (i := 2) (q := 2) gc dX12_review_20 rfl rfl ?_
      refine hf_callV1 (j := 0) g (cm_md_reviewOf (a1 := a1) (a2 := a2)) kV_RX12_278 (by decide) (by decide) rfl rfl rfl rfl (Nat.le_of_ble_eq_true rfl) dX12_review_21 (fun v3 => ?_)
      refine hf_goto (tgt := 28) gc dX12_review_24 (by decide) ?_
      exact hf_iret g dX12_review_28 rfl
theorem cm_md_review {l0 : Launch} {D0 : va_G} {ad : Nat → Nat} {cA : Nat → ClassId} {E : State → Prop} {s : hf_St} {a1 : Int32} {a2 : Int32} : hf_Ct l0 D0 hmT ad cA E 2 yX12_review cX12_review 3 (some .int) [.ref (ad 0), .int a1, .int a2] s (Fm_md_review s a1 a2) (hf_rp s) := hf_met (by decide) (Nat.le_of_ble_eq_true rfl) (fun _ _ g => xm_md_review g)
set_option maxHeartbeats 2000000 in
set_option maxRecDepth 20000 in
theorem xm_md_reviews_l24 {x : hf_Cx} {ad : Nat → Nat} {cA : Nat → ClassId} {E : State → Prop} {A : Nat → Prop} {l0 : Launch} {D0 : va_G} {s : hf_St} {k13 : Int32 → Int32 → Int32 → Option Int32} (g : hf_G x hmT ad cA E A l0 D0 cX12_reviews 5 RX12 (some .int) 2) (hk13 : ∀ (l1 : Int32) (l2 : Int32) (l3 : Int32), hf_X x A 5 (0, 0) (hf_Q x hmT ad cA A (hf_rp s)) (k13 l1 l2 l3) (hf_wd hmT ad cA s) 13 [(0, .ref (ad 0)), (1, .int l1), (2, .int l2), (3, .int l3)] []) : ∀ (n : Nat) (l1 : Int32) (l2 : Int32) (l3 : Int32) (l4 : Int32), hf_X x A 5 (0, 0) (hf_Q x hmT ad cA A (hf_rp s)) (Fm_md_reviews_l24 s k13 n l1 l2 l3 l4) (hf_wd hmT ad cA s) 24 [(0, .ref (ad 0)), (1, .int l1), (2, .int l2), (3, .int l3), (4, .int l4)] [] := by
  have gc := g.1
  intro n
  induction n with
  | zero => intro l1 l2 l3 l4; exact hf_none
  | succ n ih =>
    intro l1 l2 l3 l4
    rw [Fm_md_reviews_l24]
    refine hf_iload (i := 4) (q := 4) gc dX12_reviews_24 rfl ?_
    refine hf_bipush (v := 12) gc dX12_reviews_26 (by decide) ?_
    refine hf_icmp_ge (tgt := 56) gc dX12_reviews_28 (by decide) ?_ ?_
    · refine hf_iinc (q := 3) (v' := l3 + (1 : Int32)) (lv' := [(3, .int (l3 + (1 : Int32))), (0, .ref (ad 0)), (1, .int l1), (2, .int l2), (4, .int l4)]) gc dX12_reviews_56 rfl rfl (by decide) rfl ?_
      refine hf_goto (tgt := 13) gc dX12_reviews_59 (by decide) ?_
      refine hf_sub (lv' := [(0, .ref (ad 0)), (1, .int l1), (2, .int l2), (3, .int (l3 + (1 : Int32)))]) [1, 2, 3, 0] rfl ?_
      exact hk13 _ _ _
    · refine hf_iload_n (i := 2) (q := 2) gc dX12_reviews_31 rfl rfl ?_
      refine hf_aload_n (i := 0) (q := 0) gc dX12_reviews_32 rfl rfl ?_
      refine hf_iload_n (i := 3) (q := 3) gc dX12_reviews_33 rfl rfl ?_
      refine hf_iload (i := 4) (q := 4) gc dX12_reviews_34 rfl ?_
      refine hf_callV1 (j := 0) g (cm_md_reviewOf (a1 := l3) (a2 := l4)) kV_RX12_278 (by decide) (by decide) rfl rfl rfl rfl (Nat.le_of_ble_eq_true rfl) dX12_reviews_36 (fun v1 => ?_)
      refine hf_iload_n (i := 1) (q := 1) gc dX12_reviews_39 rfl rfl ?_
      refine hf_icmp_ne (tgt := 47) gc dX12_reviews_40 (by decide) ?_ ?_
      · refine hf_iconst (v := 0) gc dX12_reviews_47 (by decide) ?_
        refine hf_iadd gc dX12_reviews_48 ?_
        refine hf_let (fun v2 => ?_)
        refine hf_istore_n (i := 2) (lv' := [(2, .int v2), (0, .ref (ad 0)), (1, .int l1), (3, .int l3), (4, .int l4)]) gc dX12_reviews_49 rfl (by decide) rfl ?_
        refine hf_iinc (q := 4) (v' := l4 + (1 : Int32)) (lv' := [(4, .int (l4 + (1 : Int32))), (2, .int v2), (0, .ref (ad 0)), (1, .int l1), (3, .int l3)]) gc dX12_reviews_50 rfl rfl (by decide) rfl ?_
        refine hf_goto (tgt := 24) gc dX12_reviews_53 (by decide) ?_
        refine hf_sub (lv' := [(0, .ref (ad 0)), (1, .int l1), (2, .int v2), (3, .int l3), (4, .int (l4 + (1 : Int32)))]) [2, 3, 1, 4, 0] rfl ?_
        exact ih _ _ _ _
      · refine hf_iconst (v := 1) gc dX12_reviews_43 (by decide) ?_
        refine hf_goto (tgt := 48) gc dX12_reviews_44 (by decide) ?_
        refine hf_iadd gc dX12_reviews_48 ?_
        refine hf_let (fun v3 => ?_)
        refine hf_istore_n (i := 2) (lv' := [(2, .int v3), (0, .ref (ad 0)), (1, .int l1), (3, .int l3), (4, .int l4)]) gc dX12_reviews_49 rfl (by decide) rfl ?_
        refine hf_iinc (q := 4) (v' := l4 + (1 : Int32)) (lv' := [(4, .int (l4 + (1 : Int32))), (2, .int v3), (0, .ref (ad 0)), (1, .int l1), (3, .int l3)]) gc dX12_reviews_50 rfl rfl (by decide) rfl ?_
        refine hf_goto (tgt := 24) gc dX12_reviews_53 (by decide) ?_
        refine hf_sub (lv' := [(0, .ref (ad 0)), (1, .int l1), (2, .int v3), (3, .int l3), (4, .int (l4 + (1 : Int32)))]) [2, 3, 1, 4, 0] rfl ?_
        exact ih _ _ _ _
set_option maxHeartbeats 2000000 in
set_option maxRecDepth 20000 in
theorem xm_md_reviews_l13 {x : hf_Cx} {ad : Nat → Nat} {cA : Nat → ClassId} {E : State → Prop} {A : Nat → Prop} {l0 : Launch} {D0 : va_G} {s : hf_St} (g : hf_G x hmT ad cA E A l0 D0 cX12_reviews 5 RX12 (some .int) 2) : ∀ (n : Nat) (l1 : Int32) (l2 : Int32) (l3 : Int32), hf_X x A 5 (0, 0) (hf_Q x hmT ad cA A (hf_rp s)) (Fm_md_reviews_l13 s n l1 l2 l3) (hf_wd hmT ad cA s) 13 [(0, .ref (ad 0)), (1, .int l1), (2, .int l2), (3, .int l3)] [] := by
  have gc := g.1
  intro n
  induction n with
  | zero => intro l1 l2 l3; exact hf_none
  | succ n ih =>
    intro l1 l2 l3
    rw [Fm_md_reviews_l13]
    refine hf_iload_n (i := 3) (q := 3) gc dX12_reviews_13 rfl rfl ?_
    refine hf_aload_n (i := 0) (q := 0) gc dX12_reviews_14 rfl rfl ?_
    refine hf_getI (j := 0) (k := 1) g rfl rfl kF_RX12_131 dX12_reviews_15 ?_
    refine hf_icmp_ge (tgt := 62) gc dX12_reviews_18 (by decide) ?_ ?_
    · refine hf_iload_n (i := 2) (q := 2) gc dX12_reviews_62 rfl rfl ?_
      exact hf_iret g dX12_reviews_63 rfl
    · refine hf_iconst (v := 0) gc dX12_reviews_21 (by decide) ?_
      refine hf_istore (i := 4) (lv' := [(4, .int ((0 : Int32))), (0, .ref (ad 0)), (1, .int l1), (2, .int l2), (3, .int l3)]) gc dX12_reviews_22 (by decide) rfl ?_
      refine hf_sub (lv' := [(0, .ref (ad 0)), (1, .int l1), (2, .int l2), (3, .int l3), (4, .int ((0 : Int32)))]) [1, 2, 3, 4, 0] rfl ?_
      exact xm_md_reviews_l24 g (fun z0 z1 z2 => ih z0 z1 z2) hf_fuel _ _ _ _
set_option maxHeartbeats 2000000 in
set_option maxRecDepth 20000 in
theorem xm_md_reviews {x : hf_Cx} {ad : Nat → Nat} {cA : Nat → ClassId} {E : State → Prop} {A : Nat → Prop} {l0 : Launch} {D0 : va_G} (g : hf_G x hmT ad cA E A l0 D0 cX12_reviews 5 RX12 (some .int) 2) {s : hf_St} {a1 : Int32} : hf_X x A 5 (0, 0) (hf_Q x hmT ad cA A (hf_rp s)) (Fm_md_reviews s a1) (hf_wd hmT ad cA s) 0 [(0, .ref (ad 0)), (1, .int a1)] [] := by
  have gc := g.1
  unfold Fm_md_reviews
  refine hf_iload_n (i := 1) (q := 1) gc dX12_reviews_0 rfl rfl ?_
  refine hf_callS1 g (cm_md_isDay (a1 := a1)) kS_RX12_147 (by decide) (by decide) rfl rfl (Nat.le_of_ble_eq_true rfl) dX12_reviews_1 (fun v1 => ?_)
  refine hf_if_ne (tgt := 9) gc dX12_reviews_4 (by decide) ?_ ?_
  · refine hf_iconst (v := 0) gc dX12_reviews_9 (by decide) ?_
    refine hf_istore_n (i := 2) (lv' := [(2, .int ((0 : Int32))), (0, .ref (ad 0)), (1, .int a1)]) gc dX12_reviews_10 rfl (by decide) rfl ?_
    refine hf_iconst (v := 0) gc dX12_reviews_11 (by decide) ?_
    refine hf_istore_n (i := 3) (lv' := [(3, .int ((0 : Int32))), (2, .int ((0 : Int32))), (0, .ref (ad 0)), (1, .int a1)]) gc dX12_reviews_12 rfl (by decide) rfl ?_
    refine hf_sub (lv' := [(0, .ref (ad 0)), (1, .int a1), (2, .int ((0 : Int32))), (3, .int ((0 : Int32)))]) [2, 3, 1, 0] rfl ?_
    exact xm_md_reviews_l13 g hf_fuel _ _ _
  · refine hf_iconst (v := -1) gc dX12_reviews_7 (by decide) ?_
    exact hf_iret g dX12_reviews_8 rfl
theorem cm_md_reviews {l0 : Launch} {D0 : va_G} {ad : Nat → Nat} {cA : Nat → ClassId} {E : State → Prop} {s : hf_St} {a1 : Int32} : hf_Ct l0 D0 hmT ad cA E 2 yX12_reviews cX12_reviews 5 (some .int) [.ref (ad 0), .int a1] s (Fm_md_reviews s a1) (hf_rp s) := hf_met (by decide) (Nat.le_of_ble_eq_true rfl) (fun _ _ g => xm_md_reviews g)
set_option maxHeartbeats 2000000 in
set_option maxRecDepth 20000 in
theorem xm_md_count {x : hf_Cx} {ad : Nat → Nat} {cA : Nat → ClassId} {E : State → Prop} {A : Nat → Prop} {l0 : Launch} {D0 : va_G} (g : hf_G x hmT ad cA E A l0 D0 cX12_count 2 RX12 (some .int) 0) {s : hf_St} {a1 : Int32} : hf_X x A 2 (0, 0) (hf_Q x hmT ad cA A (hf_rp s)) (Fm_md_count s a1) (hf_wd hmT ad cA s) 0 [(0, .ref (ad 0)), (1, .int a1)] [] := by
  have gc := g.1
  unfold Fm_md_count
  refine hf_iload_n (i := 1) (q := 1) gc dX12_count_0 rfl rfl ?_
  refine hf_switch (lo := 0) gc [44, 49, 54, 59, 64, 69, 74] 79 dX12_count_1 (by decide) rfl (by decide) ⟨?_, ?_, ?_, ?_, ?_, ?_, ?_, trivial⟩ ?_
  · refine hf_aload_n (i := 0) (q := 0) gc dX12_count_44 rfl rfl ?_
    refine hf_getI (j := 0) (k := 1) g rfl rfl kF_RX12_131 dX12_count_45 ?_
    exact hf_iret g dX12_count_48 rfl
  · refine hf_aload_n (i := 0) (q := 0) gc dX12_count_49 rfl rfl ?_
    refine hf_getI (j := 0) (k := 7) g rfl rfl kF_RX12_134 dX12_count_50 ?_
    exact hf_iret g dX12_count_53 rfl
  · refine hf_aload_n (i := 0) (q := 0) gc dX12_count_54 rfl rfl ?_
    refine hf_getI (j := 0) (k := 14) g rfl rfl kF_RX12_137 dX12_count_55 ?_
    exact hf_iret g dX12_count_58 rfl
  · refine hf_aload_n (i := 0) (q := 0) gc dX12_count_59 rfl rfl ?_
    refine hf_getI (j := 0) (k := 10) g rfl rfl kF_RX12_154 dX12_count_60 ?_
    exact hf_iret g dX12_count_63 rfl
  · refine hf_aload_n (i := 0) (q := 0) gc dX12_count_64 rfl rfl ?_
    refine hf_getI (j := 0) (k := 24) g rfl rfl kF_RX12_223 dX12_count_65 ?_
    exact hf_iret g dX12_count_68 rfl
  · refine hf_aload_n (i := 0) (q := 0) gc dX12_count_69 rfl rfl ?_
    refine hf_getI (j := 0) (k := 0) g rfl rfl kF_RX12_127 dX12_count_70 ?_
    exact hf_iret g dX12_count_73 rfl
  · refine hf_aload_n (i := 0) (q := 0) gc dX12_count_74 rfl rfl ?_
    refine hf_getI (j := 0) (k := 21) g rfl rfl kF_RX12_157 dX12_count_75 ?_
    exact hf_iret g dX12_count_78 rfl
  · refine hf_iconst (v := -1) gc dX12_count_79 (by decide) ?_
    exact hf_iret g dX12_count_80 rfl
theorem cm_md_count {l0 : Launch} {D0 : va_G} {ad : Nat → Nat} {cA : Nat → ClassId} {E : State → Prop} {s : hf_St} {a1 : Int32} : hf_Ct l0 D0 hmT ad cA E 0 yX12_count cX12_count 2 (some .int) [.ref (ad 0), .int a1] s (Fm_md_count s a1) (hf_rp s) := hf_met (by decide) (Nat.le_of_ble_eq_true rfl) (fun _ _ g => xm_md_count g)
