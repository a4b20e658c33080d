set_option maxHeartbeats 2000000 in
set_option maxRecDepth 20000 in
theorem xc_children_lastDay {x : hf_Cx} {ad : Nat → Nat} {cA : Nat → ClassId} {E : State → Prop} {A : Nat → Prop} {l0 : Launch} {D0 : va_G} (g : hf_G x hcT ad cA E A l0 D0 cX0_lastDay 2 RX0 (some .int) 2) {s : hf_St} {a1 : Int32} : hf_X x A 2 (0, 0) (hf_Q x hcT ad cA A (hf_rp s)) (Fc_children_lastDay s a1) (hf_wd hcT ad cA s) 0 [(0, .ref (ad 1)), (1, .int a1)] [] := by
  have gc := g.1
  unfold Fc_children_lastDay
  refine hf_aload_n (i := 0) (q := 0) gc dX0_lastDay_0 rfl rfl ?_
  refine hf_iload_n (i := 1) (q := 1) gc dX0_lastDay_1 rfl rfl ?_
  refine hf_callV1 (j := 1) g (cc_children_hasNeed (a1 := a1)) kV_RX0_36 (by decide) (by decide) rfl rfl rfl rfl (Nat.le_of_ble_eq_true rfl) dX0_lastDay_2 (fun v1 => ?_)
  refine hf_if_eq (tgt := 17) gc dX0_lastDay_5 (by decide) ?_ ?_
  · refine hf_iconst (v := -1) gc dX0_lastDay_17 (by decide) ?_
    exact hf_iret g dX0_lastDay_18 rfl
  · refine hf_aload_n (i := 0) (q := 0) gc dX0_lastDay_8 rfl rfl ?_
    refine hf_getR (j := 1) (k := 3) (r := 16) g rfl rfl kF_RX0_22 dX0_lastDay_9 ?_
    refine hf_iload_n (i := 1) (q := 1) gc dX0_lastDay_12 rfl rfl ?_
    refine hf_iald (a := 3) (r := 16) (n := 7) g rfl rfl dX0_lastDay_13 ?_
    refine hf_goto (tgt := 18) gc dX0_lastDay_14 (by decide) ?_
    exact hf_iret g dX0_lastDay_18 rfl
theorem cc_children_lastDay {l0 : Launch} {D0 : va_G} {ad : Nat → Nat} {cA : Nat → ClassId} {E : State → Prop} {s : hf_St} {a1 : Int32} : hf_Ct l0 D0 hcT ad cA E 2 yX0_lastDay cX0_lastDay 2 (some .int) [.ref (ad 1), .int a1] s (Fc_children_lastDay s a1) (hf_rp s) := hf_met (by decide) (Nat.le_of_ble_eq_true rfl) (fun _ _ g => xc_children_lastDay g)
set_option maxHeartbeats 2000000 in
set_option maxRecDepth 20000 in
theorem xc_children_firstDay {x : hf_Cx} {ad : Nat → Nat} {cA : Nat → ClassId} {E : State → Prop} {A : Nat → Prop} {l0 : Launch} {D0 : va_G} (g : hf_G x hcT ad cA E A l0 D0 cX0_firstDay 2 RX0 (some .int) 2) {s : hf_St} {a1 : Int32} : hf_X x A 2 (0, 0) (hf_Q x hcT ad cA A (hf_rp s)) (Fc_children_firstDay s a1) (hf_wd hcT ad cA s) 0 [(0, .ref (ad 1)), (1, .int a1)] [] := by
  have gc := g.1
  unfold Fc_children_firstDay
  refine hf_aload_n (i := 0) (q := 0) gc dX0_firstDay_0 rfl rfl ?_
  refine hf_iload_n (i := 1) (q := 1) gc dX0_firstDay_1 rfl rfl ?_
  refine hf_callV1 (j := 1) g (cc_children_hasNeed (a1 := a1)) kV_RX0_36 (by decide) (by decide) rfl rfl rfl rfl (Nat.le_of_ble_eq_true rfl) dX0_firstDay_2 (fun v1 => ?_)
  refine hf_if_eq (tgt := 17) gc dX0_firstDay_5 (by decide) ?_ ?_
  · refine hf_iconst (v := -1) gc dX0_firstDay_17 (by decide) ?_
    exact hf_iret g dX0_firstDay_18 rfl
  · refine hf_aload_n (i := 0) (q := 0) gc dX0_firstDay_8 rfl rfl ?_
    refine hf_getR (j := 1) (k := 2) (r := 15) g rfl rfl kF_RX0_19 dX0_firstDay_9 ?_
    refine hf_iload_n (i := 1) (q := 1) gc dX0_firstDay_12 rfl rfl ?_
    refine hf_iald (a := 2) (r := 15) (n := 7) g rfl rfl dX0_firstDay_13 ?_
    refine hf_goto (tgt := 18) gc dX0_firstDay_14 (by decide) ?_
    exact hf_iret g dX0_firstDay_18 rfl
theorem cc_children_firstDay {l0 : Launch} {D0 : va_G} {ad : Nat → Nat} {cA : Nat → ClassId} {E : State → Prop} {s : hf_St} {a1 : Int32} : hf_Ct l0 D0 hcT ad cA E 2 yX0_firstDay cX0_firstDay 2 (some .int) [.ref (ad 1), .int a1] s (Fc_children_firstDay s a1) (hf_rp s) := hf_met (by decide) (Nat.le_of_ble_eq_true rfl) (fun _ _ g => xc_children_firstDay g)
set_option maxHeartbeats 2000000 in
set_option maxRecDepth 20000 in
theorem xc_homes_closingOf {x : hf_Cx} {ad : Nat → Nat} {cA : Nat → ClassId} {E : State → Prop} {A : Nat → Prop} {l0 : Launch} {D0 : va_G} (g : hf_G x hcT ad cA E A l0 D0 cX2_closingOf 2 RX2 (some .int) 1) {s : hf_St} {a1 : Int32} : hf_X x A 2 (0, 0) (hf_Q x hcT ad cA A (hf_rp s)) (Fc_homes_closingOf s a1) (hf_wd hcT ad cA s) 0 [(0, .ref (ad 2)), (1, .int a1)] [] := by
  have gc := g.1
  unfold Fc_homes_closingOf
  refine hf_aload_n (i := 0) (q := 0) gc dX2_closingOf_0 rfl rfl ?_
  refine hf_iload_n (i := 1) (q := 1) gc dX2_closingOf_1 rfl rfl ?_
  refine hf_callV1 (j := 2) g (cc_homes_has (a1 := a1)) kV_RX2_22 (by decide) (by decide) rfl rfl rfl rfl (Nat.le_of_ble_eq_true rfl) dX2_closingOf_2 (fun v1 => ?_)
  refine hf_if_eq (tgt := 27) gc dX2_closingOf_5 (by decide) ?_ ?_
  · refine hf_sipush (v := 1000) gc dX2_closingOf_27 (by decide) ?_
    exact hf_iret g dX2_closingOf_30 rfl
  · refine hf_aload_n (i := 0) (q := 0) gc dX2_closingOf_8 rfl rfl ?_
    refine hf_getR (j := 2) (k := 1) (r := 19) g rfl rfl kF_RX2_15 dX2_closingOf_9 ?_
    refine hf_iload_n (i := 1) (q := 1) gc dX2_closingOf_12 rfl rfl ?_
    refine hf_iald (a := 6) (r := 19) (n := 5) g rfl rfl dX2_closingOf_13 ?_
    refine hf_iconst (v := -1) gc dX2_closingOf_14 (by decide) ?_
    refine hf_icmp_eq (tgt := 27) gc dX2_closingOf_15 (by decide) ?_ ?_
    · refine hf_sipush (v := 1000) gc dX2_closingOf_27 (by decide) ?_
      exact hf_iret g dX2_closingOf_30 rfl
    · refine hf_aload_n (i := 0) (q := 0) gc dX2_closingOf_18 rfl rfl ?_
      refine hf_getR (j := 2) (k := 1) (r := 19) g rfl rfl kF_RX2_15 dX2_closingOf_19 ?_
      refine hf_iload_n (i := 1) (q := 1) gc dX2_closingOf_22 rfl rfl ?_
      refine hf_iald (a := 6) (r := 19) (n := 5) g rfl rfl dX2_closingOf_23 ?_
      refine hf_goto (tgt := 30) gc dX2_closingOf_24 (by decide) ?_
      exact hf_iret g dX2_closingOf_30 rfl
theorem cc_homes_closingOf {l0 : Launch} {D0 : va_G} {ad : Nat → Nat} {cA : Nat → ClassId} {E : State → Prop} {s : hf_St} {a1 : Int32} : hf_Ct l0 D0 hcT ad cA E 1 yX2_closingOf cX2_closingOf 2 (some .int) [.ref (ad 2), .int a1] s (Fc_homes_closingOf s a1) (hf_rp s) := hf_met (by decide) (Nat.le_of_ble_eq_true rfl) (fun _ _ g => xc_homes_closingOf g)
set_option maxHeartbeats 2000000 in
set_option maxRecDepth 20000 in
theorem xc_fill_sheet_numbers_l5 {x : hf_Cx} {ad : Nat → Nat} {cA : Nat → ClassId} {E : State → Prop} {A : Nat → Prop} {l0 : Launch} {D0 : va_G} (g : hf_G x hcT ad cA E A l0 D0 cJ7_fill_53178 4 RJ7 none 0) : ∀ (n : Nat) (s : hf_St) (l1 : Int32) (l2 : Int32) (l3 : Int32), hf_X x A 4 (0, 0) (hf_Q x hcT ad cA A hf_rv) (Fc_fill_sheet_numbers_l5 n s l1 l2 l3) (hf_wd hcT ad cA s) 5 [(0, .ref (ad 41)), (1, .int l1), (2, .int l2), (3, .int l3)] [] := by
  have gc := g.1
  intro n
  induction n with
  | zero => intro s l1 l2 l3; exact hf_none
  | succ n ih =>
    intro s l1 l2 l3
    rw [Fc_fill_sheet_numbers_l5]
    refine hf_iload_n (i := 2) (q := 2) gc dJ7_fill_53178_5 rfl rfl ?_
    refine hf_iload_n (i := 3) (q := 3) gc dJ7_fill_53178_6 rfl rfl ?_
    refine hf_icmp_ge (tgt := 20) gc dJ7_fill_53178_7 (by decide) ?_ ?_
    · exact hf_vret g dJ7_fill_53178_20 rfl
    · refine hf_aload_n (i := 0) (q := 0) gc dJ7_fill_53178_10 rfl rfl ?_
      refine hf_iload_n (i := 2) (q := 2) gc dJ7_fill_53178_11 rfl rfl ?_
      refine hf_iload_n (i := 1) (q := 1) gc dJ7_fill_53178_12 rfl rfl ?_
      refine hf_iast (a := 28) (r := 41) (n := 16) g rfl rfl dJ7_fill_53178_13 (fun s1 => ?_)
      refine hf_iinc (q := 2) (v' := l2 + (1 : Int32)) (lv' := [(2, .int (l2 + (1 : Int32))), (0, .ref (ad 41)), (1, .int l1), (3, .int l3)]) gc dJ7_fill_53178_14 rfl rfl (by decide) rfl ?_
      refine hf_goto (tgt := 5) gc dJ7_fill_53178_17 (by decide) ?_
      refine hf_sub (lv' := [(0, .ref (ad 41)), (1, .int l1), (2, .int (l2 + (1 : Int32))), (3, .int l3)]) [1, 2, 0, 3] rfl ?_
      exact ih _ _ _ _
set_option maxHeartbeats 2000000 in
set_option maxRecDepth 20000 in
theorem xc_fill_sheet_numbers {x : hf_Cx} {ad : Nat → Nat} {cA : Nat → ClassId} {E : State → Prop} {A : Nat → Prop} {l0 : Launch} {D0 : va_G} (g : hf_G x hcT ad cA E A l0 D0 cJ7_fill_53178 4 RJ7 none 0) {s : hf_St} {a1 : Int32} : hf_X x A 4 (0, 0) (hf_Q x hcT ad cA A hf_rv) (Fc_fill_sheet_numbers s a1) (hf_wd hcT ad cA s) 0 [(0, .ref (ad 41)), (1, .int a1)] [] := by
  have gc := g.1
  unfold Fc_fill_sheet_numbers
  refine hf_iconst (v := 0) gc dJ7_fill_53178_0 (by decide) ?_
  refine hf_istore_n (i := 2) (lv' := [(2, .int ((0 : Int32))), (0, .ref (ad 41)), (1, .int a1)]) gc dJ7_fill_53178_1 rfl (by decide) rfl ?_
  refine hf_aload_n (i := 0) (q := 1) gc dJ7_fill_53178_2 rfl rfl ?_
  refine hf_alen (a := 28) (r := 41) (n := 16) g rfl rfl dJ7_fill_53178_3 ?_
  refine hf_let (fun v1 => ?_)
  refine hf_istore_n (i := 3) (lv' := [(3, .int v1), (2, .int ((0 : Int32))), (0, .ref (ad 41)), (1, .int a1)]) gc dJ7_fill_53178_4 rfl (by decide) rfl ?_
  refine hf_sub (lv' := [(0, .ref (ad 41)), (1, .int a1), (2, .int ((0 : Int32))), (3, .int v1)]) [2, 3, 1, 0] rfl ?_
  exact xc_fill_sheet_numbers_l5 g hf_fuel _ _ _ _
theorem cc_fill_sheet_numbers {l0 : Launch} {D0 : va_G} {ad : Nat → Nat} {cA : Nat → ClassId} {E : State → Prop} {s : hf_St} {a1 : Int32} : hf_Ct l0 D0 hcT ad cA E 0 yJ7_fill_53178 cJ7_fill_53178 4 none [.ref (ad 41), .int a1] s (Fc_fill_sheet_numbers s a1) hf_rv := hf_met (by decide) (Nat.le_of_ble_eq_true rfl) (fun _ _ g => xc_fill_sheet_numbers g)
set_option maxHeartbeats 2000000 in
set_option maxRecDepth 20000 in
theorem xc_fill_sheet_sinces_l5 {x : hf_Cx} {ad : Nat → Nat} {cA : Nat → ClassId} {E : State → Prop} {A : Nat → Prop} {l0 : Launch} {D0 : va_G} (g : hf_G x hcT ad cA E A l0 D0 cJ7_fill_53178 4 RJ7 none 0) : ∀ (n : Nat) (s : hf_St) (l1 : Int32) (l2 : Int32) (l3 : Int32), hf_X x A 4 (0, 0) (hf_Q x hcT ad cA A hf_rv) (Fc_fill_sheet_sinces_l5 n s l1 l2 l3) (hf_wd hcT ad cA s) 5 [(0, .ref (ad 42)), (1, .int l1), (2, .int l2), (3, .int l3)] [] := by
  have gc := g.1
  intro n
  induction n with
  | zero => intro s l1 l2 l3; exact hf_none
  | succ n ih =>
    intro s l1 l2 l3
    rw [Fc_fill_sheet_sinces_l5]
    refine hf_iload_n (i := 2) (q := 2) gc dJ7_fill_53178_5 rfl rfl ?_
    refine hf_iload_n (i := 3) (q := 3) gc dJ7_fill_53178_6 rfl rfl ?_
    refine hf_icmp_ge (tgt := 20) gc dJ7_fill_53178_7 (by decide) ?_ ?_
    · exact hf_vret g dJ7_fill_53178_20 rfl
    · refine hf_aload_n (i := 0) (q := 0) gc dJ7_fill_53178_10 rfl rfl ?_
      refine hf_iload_n (i := 2) (q := 2) gc dJ7_fill_53178_11 rfl rfl ?_
      refine hf_iload_n (i := 1) (q := 1) gc dJ7_fill_53178_12 rfl rfl ?_
      refine hf_iast (a := 29) (r := 42) (n := 16) g rfl rfl dJ7_fill_53178_13 (fun s1 => ?_)
      refine hf_iinc (q := 2) (v' := l2 + (1 : Int32)) (lv' := [(2, .int (l2 + (1 : Int32))), (0, .ref (ad 42)), (1, .int l1), (3, .int l3)]) gc dJ7_fill_53178_14 rfl rfl (by decide) rfl ?_
      refine hf_goto (tgt := 5) gc dJ7_fill_53178_17 (by decide) ?_
      refine hf_sub (lv' := [(0, .ref (ad 42)), (1, .int l1), (2, .int (l2 + (1 : Int32))), (3, .int l3)]) [1, 2, 0, 3] rfl ?_
      exact ih _ _ _ _
set_option maxHeartbeats 2000000 in
set_option maxRecDepth 20000 in
theorem xc_fill_sheet_sinces {x : hf_Cx} {ad : Nat → Nat} {cA : Nat → ClassId} {E : State → Prop} {A : Nat → Prop} {l0 : Launch} {D0 : va_G} (g : hf_G x hcT ad cA E A l0 D0 cJ7_fill_53178 4 RJ7 none 0) {s : hf_St} {a1 : Int32} : hf_X x A 4 (0, 0) (hf_Q x hcT ad cA A hf_rv) (Fc_fill_sheet_sinces s a1) (hf_wd hcT ad cA s) 0 [(0, .ref (ad 42)), (1, .int a1)] [] := by
  have gc := g.1
  unfold Fc_fill_sheet_sinces
  refine hf_iconst (v := 0) gc dJ7_fill_53178_0 (by decide) ?_
  refine hf_istore_n (i := 2) (lv' := [(2, .int ((0 : Int32))), (0, .ref (ad 42)), (1, .int a1)]) gc dJ7_fill_53178_1 rfl (by decide) rfl ?_
  refine hf_aload_n (i := 0) (q := 1) gc dJ7_fill_53178_2 rfl rfl ?_
  refine hf_alen (a := 29) (r := 42) (n := 16) g rfl rfl dJ7_fill_53178_3 ?_
  refine hf_let (fun v1 => ?_)
  refine hf_istore_n (i := 3) (lv' := [(3, .int v1), (2, .int ((0 : Int32))), (0, .ref (ad 42)), (1, .int a1)]) gc dJ7_fill_53178_4 rfl (by decide) rfl ?_
  refine hf_sub (lv' := [(0, .ref (ad 42)), (1, .int a1), (2, .int ((0 : Int32))), (3, .int v1)]) [2, 3, 1, 0] rfl ?_
  exact xc_fill_sheet_sinces_l5 g hf_fuel _ _ _ _
theorem cc_fill_sheet_sinces {l0 : Launch} {D0 : va_G} {ad : Nat → Nat} {cA : Nat → ClassId} {E : State → Prop} {s : hf_St} {a1 : Int32} : hf_Ct l0 D0 hcT ad cA E 0 yJ7_fill_53178 cJ7_fill_53178 4 none [.ref (ad 42), .int a1] s (Fc_fill_sheet_sinces s a1) hf_rv := hf_met (by decide) (Nat.le_of_ble_eq_true rfl) (fun _ _ g => xc_fill_sheet_sinces g)
set_option maxHeartbeats 2000000 in
set_option maxRecDepth 20000 in
theorem xc_sheet_clear {x : hf_Cx} {ad : Nat → Nat} {cA : Nat → ClassId} {E : State → Prop} {A : Nat → Prop} {l0 : Launch} {D0 : va_G} (g : hf_G x hcT ad cA E A l0 D0 cX9_clear 2 RX9 none 1) {s : hf_St} {a1 : Int32} : hf_X x A 2 (0, 0) (hf_Q x hcT ad cA A hf_rv) (Fc_sheet_clear s a1) (hf_wd hcT ad cA s) 0 [(0, .ref (ad 10)), (1, .int a1)] [] := by
  have gc := g.1
  unfold Fc_sheet_clear
  refine hf_aload_n (i := 0) (q := 0) gc dX9_clear_0 rfl rfl ?_
  refine hf_getR (j := 10) (k := 0) (r := 41) g rfl rfl kF_RX9_11 dX9_clear_1 ?_
  refine hf_iconst (v := 0) gc dX9_clear_4 (by decide) ?_
  refine hf_callS0 g (cc_fill_sheet_numbers (a1 := (0 : Int32))) kS_RX9_18 (by decide) (by decide) rfl rfl (Nat.le_of_ble_eq_true rfl) dX9_clear_5 (fun s1 => ?_)
  refine hf_aload_n (i := 0) (q := 0) gc dX9_clear_8 rfl rfl ?_
  refine hf_getR (j := 10) (k := 1) (r := 42) g rfl rfl kF_RX9_15 dX9_clear_9 ?_
  refine hf_iconst (v := -1) gc dX9_clear_12 (by decide) ?_
  refine hf_callS0 g (cc_fill_sheet_sinces (a1 := (-1 : Int32))) kS_RX9_18 (by decide) (by decide) rfl rfl (Nat.le_of_ble_eq_true rfl) dX9_clear_13 (fun s2 => ?_)
  refine hf_aload_n (i := 0) (q := 0) gc dX9_clear_16 rfl rfl ?_
  refine hf_iload_n (i := 1) (q := 1) gc dX9_clear_17 rfl rfl ?_
  refine hf_putI (j := 10) (k := 2) g rfl rfl kP_RX9_24 rfl rfl dX9_clear_18 (fun s3 => ?_)
  refine hf_aload_n (i := 0) (q := 0) gc dX9_clear_21 rfl rfl ?_
  refine hf_sipush (v := 1000) gc dX9_clear_22 (by decide) ?_
  refine hf_putI (j := 10) (k := 3) g rfl rfl kP_RX9_28 rfl rfl dX9_clear_25 (fun s4 => ?_)
  exact hf_vret g dX9_clear_28 rfl
theorem cc_sheet_clear {l0 : Launch} {D0 : va_G} {ad : Nat → Nat} {cA : Nat → ClassId} {E : State → Prop} {s : hf_St} {a1 : Int32} : hf_Ct l0 D0 hcT ad cA E 1 yX9_clear cX9_clear 2 none [.ref (ad 10), .int a1] s (Fc_sheet_clear s a1) hf_rv := hf_met (by decide) (Nat.le_of_ble_eq_true rfl) (fun _ _ g => xc_sheet_clear g)
set_option maxHeartbeats 2000000 in
set_option maxRecDepth 20000 in
theorem xc_sheet_take {x : hf_Cx} {ad : Nat → Nat} {cA : Nat → ClassId} {E : State → Prop} {A : Nat → Prop} {l0 : Launch} {D0 : va_G} (g : hf_G x hcT ad cA E A l0 D0 cX9_take 4 RX9 none 1) {s : hf_St} {a1 : Int32} {a2 : Int32} {a3 : Int32} : hf_X x A 4 (0, 0) (hf_Q x hcT ad cA A hf_rv) (Fc_sheet_take s a1 a2 a3) (hf_wd hcT ad cA s) 0 [(0, .ref (ad 10)), (1, .int a1), (2, .int a2), (3, .int a3)] [] := by
  have gc := g.1
  unfold Fc_sheet_take
  refine hf_iload_n (i := 3) (q := 3) gc dX9_take_0 rfl rfl ?_
  refine hf_aload_n (i := 0) (q := 0) gc dX9_take_1 rfl rfl ?_
  refine hf_getI (j := 10) (k := 2) g rfl rfl kF_RX9_24 dX9_take_2 ?_
  refine hf_icmp_le (tgt := 23) gc dX9_take_5 (by decide) ?_ ?_
  · refine hf_iload_n (i := 1) (q := 1) gc dX9_take_23 rfl rfl ?_
    refine hf_if_lt (tgt := 57) gc dX9_take_24 (by decide) ?_ ?_
    · exact hf_vret g dX9_take_57 rfl
    · refine hf_iload_n (i := 1) (q := 1) gc dX9_take_27 rfl rfl ?_
      refine hf_bipush (v := 16) gc dX9_take_28 (by decide) ?_
      refine hf_icmp_ge (tgt := 57) gc dX9_take_30 (by decide) ?_ ?_
      · exact hf_vret g dX9_take_57 rfl
      · refine hf_iload_n (i := 3) (q := 3) gc dX9_take_33 rfl rfl ?_
        refine hf_aload_n (i := 0) (q := 0) gc dX9_take_34 rfl rfl ?_
        refine hf_getR (j := 10) (k := 1) (r := 42) g rfl rfl kF_RX9_15 dX9_take_35 ?_
        refine hf_iload_n (i := 1) (q := 1) gc dX9_take_38 rfl rfl ?_
        refine hf_iald (a := 29) (r := 42) (n := 16) g rfl rfl dX9_take_39 ?_
        refine hf_icmp_lt (tgt := 57) gc dX9_take_40 (by decide) ?_ ?_
        · exact hf_vret g dX9_take_57 rfl
        · refine hf_aload_n (i := 0) (q := 0) gc dX9_take_43 rfl rfl ?_
          refine hf_getR (j := 10) (k := 0) (r := 41) g rfl rfl kF_RX9_11 dX9_take_44 ?_
          refine hf_iload_n (i := 1) (q := 1) gc dX9_take_47 rfl rfl ?_
          refine hf_iload_n (i := 2) (q := 2) gc dX9_take_48 rfl rfl ?_
          refine hf_iast (a := 28) (r := 41) (n := 16) g rfl rfl dX9_take_49 (fun s1 => ?_)
          refine hf_aload_n (i := 0) (q := 0) gc dX9_take_50 rfl rfl ?_
          refine hf_getR (j := 10) (k := 1) (r := 42) g rfl rfl kF_RX9_15 dX9_take_51 ?_
          refine hf_iload_n (i := 1) (q := 1) gc dX9_take_54 rfl rfl ?_
          refine hf_iload_n (i := 3) (q := 3) gc dX9_take_55 rfl rfl ?_
          refine hf_iast (a := 29) (r := 42) (n := 16) g rfl rfl dX9_take_56 (fun s2 => ?_)
          exact hf_vret g dX9_take_57 rfl
  · refine hf_aload_n (i := 0) (q := 0) gc dX9_take_8 rfl rfl ?_
    refine hf_aload_n (i := 0) (q := 0) gc dX9_take_9 rfl rfl ?_
    refine hf_getI (j := 10) (k := 3) g rfl rfl kF_RX9_28 dX9_take_10 ?_
    refine hf_iload_n (i := 3) (q := 3) gc dX9_take_13 rfl rfl ?_
    refine hf_mmin g kM_RX9_31 (by decide) (Nat.le_of_ble_eq_true rfl) dX9_take_14 ?_
    refine hf_putI (j := 10) (k := 3) g rfl rfl kP_RX9_28 rfl rfl dX9_take_17 (fun s3 => ?_)
    refine hf_goto (tgt := 57) gc dX9_take_20 (by decide) ?_
    exact hf_vret g dX9_take_57 rfl
theorem cc_sheet_take {l0 : Launch} {D0 : va_G} {ad : Nat → Nat} {cA : Nat → ClassId} {E : State → Prop} {s : hf_St} {a1 : Int32} {a2 : Int32} {a3 : Int32} : hf_Ct l0 D0 hcT ad cA E 1 yX9_take cX9_take 4 none [.ref (ad 10), .int a1, .int a2, .int a3] s (Fc_sheet_take s a1 a2 a3) hf_rv := hf_met (by decide) (Nat.le_of_ble_eq_true rfl) (fun _ _ g => xc_sheet_take g)
set_option maxHeartbeats 2000000 in
set_option maxRecDepth 20000 in
theorem xc_facts_layOut_b35 {x : hf_Cx} {ad : Nat → Nat} {cA : Nat → ClassId} {E : State → Prop} {A : Nat → Prop} {l0 : Launch} {D0 : va_G} {k9 : hf_St → Int32 → Int32 → Int32 → Int32 → Option hf_St} (g : hf_G x hcT ad cA E A l0 D0 cX1_layOut 8 RX1 none 2) (hk9 : ∀ (s : hf_St) (l2 : Int32) (l3 : Int32) (l5 : Int32) (l6 : Int32), hf_X x A 8 (0, 0) (hf_Q x hcT ad cA A hf_rv) (k9 s l2 l3 l5 l6) (hf_wd hcT ad cA s) 9 [(0, .ref (ad 4)), (1, .ref (ad 10)), (2, .int l2), (3, .int l3), (5, .int l5), (6, .int l6)] []) (s : hf_St) (l2 : Int32) (l3 : Int32) (l5 : Int32) (l6 : Int32) (t0 : Int32) : hf_X x A 8 (0, 0) (hf_Q x hcT ad cA A hf_rv) (Fc_facts_layOut_b35 k9 s l2 l3 l5 l6 t0) (hf_wd hcT ad cA s) 35 [(0, .ref (ad 4)), (1, .ref (ad 10)), (2, .int l2), (3, .int l3), (5, .int l5), (6, .int l6)] [.int t0] := by
  have gc := g.1
  unfold Fc_facts_layOut_b35
  refine hf_istore (i := 7) (lv' := [(7, .int t0), (0, .ref (ad 4)), (1, .ref (ad 10)), (2, .int l2), (3, .int l3), (5, .int l5), (6, .int l6)]) gc dX1_layOut_35 (by decide) rfl ?_
  refine hf_aload_n (i := 0) (q := 1) gc dX1_layOut_37 rfl rfl ?_
  refine hf_getR (j := 4) (k := 1) (r := 24) g rfl rfl kF_RX1_15 dX1_layOut_38 ?_
  refine hf_iload (i := 6) (q := 6) gc dX1_layOut_41 rfl ?_
  refine hf_iald (a := 11) (r := 24) (n := 100) g rfl rfl dX1_layOut_43 ?_
  refine hf_iload (i := 7) (q := 0) gc dX1_layOut_44 rfl ?_
  refine hf_icmp_ne (tgt := 86) gc dX1_layOut_46 (by decide) ?_ ?_
  · refine hf_iinc (q := 6) (v' := l6 + (1 : Int32)) (lv' := [(6, .int (l6 + (1 : Int32))), (7, .int t0), (0, .ref (ad 4)), (1, .ref (ad 10)), (2, .int l2), (3, .int l3), (5, .int l5)]) gc dX1_layOut_86 rfl rfl (by decide) rfl ?_
    refine hf_goto (tgt := 9) gc dX1_layOut_89 (by decide) ?_
    refine hf_sub (lv' := [(0, .ref (ad 4)), (1, .ref (ad 10)), (2, .int l2), (3, .int l3), (5, .int l5), (6, .int (l6 + (1 : Int32)))]) [2, 3, 4, 5, 6, 0] rfl ?_
    exact hk9 _ _ _ _ _
  · refine hf_aload_n (i := 0) (q := 1) gc dX1_layOut_49 rfl rfl ?_
    refine hf_getR (j := 4) (k := 4) (r := 27) g rfl rfl kF_RX1_24 dX1_layOut_50 ?_
    refine hf_iload (i := 6) (q := 6) gc dX1_layOut_53 rfl ?_
    refine hf_iald (a := 14) (r := 27) (n := 100) g rfl rfl dX1_layOut_55 ?_
    refine hf_iload (i := 5) (q := 5) gc dX1_layOut_56 rfl ?_
    refine hf_icmp_gt (tgt := 86) gc dX1_layOut_58 (by decide) ?_ ?_
    · refine hf_iinc (q := 6) (v' := l6 + (1 : Int32)) (lv' := [(6, .int (l6 + (1 : Int32))), (7, .int t0), (0, .ref (ad 4)), (1, .ref (ad 10)), (2, .int l2), (3, .int l3), (5, .int l5)]) gc dX1_layOut_86 rfl rfl (by decide) rfl ?_
      refine hf_goto (tgt := 9) gc dX1_layOut_89 (by decide) ?_
      refine hf_sub (lv' := [(0, .ref (ad 4)), (1, .ref (ad 10)), (2, .int l2), (3, .int l3), (5, .int l5), (6, .int (l6 + (1 : Int32)))]) [2, 3, 4, 5, 6, 0] rfl ?_
      exact hk9 _ _ _ _ _
    · refine hf_aload_n (i := 1) (q := 2) gc dX1_layOut_61 rfl rfl ?_
      refine hf_aload_n (i := 0) (q := 1) gc dX1_layOut_62 rfl rfl ?_
      refine hf_getR (j := 4) (k := 0) (r := 23) g rfl rfl kF_RX1_9 dX1_layOut_63 ?_
      refine hf_iload (i := 6) (q := 6) gc dX1_layOut_66 rfl ?_
      refine hf_iald (a := 10) (r := 23) (n := 100) g rfl rfl dX1_layOut_68 ?_
      refine hf_aload_n (i := 0) (q := 1) gc dX1_layOut_69 rfl rfl ?_
      refine hf_getR (j := 4) (k := 2) (r := 25) g rfl rfl kF_RX1_18 dX1_layOut_70 ?_
      refine hf_iload (i := 6) (q := 6) gc dX1_layOut_73 rfl ?_
      refine hf_iald (a := 12) (r := 25) (n := 100) g rfl rfl dX1_layOut_75 ?_
      refine hf_aload_n (i := 0) (q := 1) gc dX1_layOut_76 rfl rfl ?_
      refine hf_getR (j := 4) (k := 3) (r := 26) g rfl rfl kF_RX1_21 dX1_layOut_77 ?_
      refine hf_iload (i := 6) (q := 6) gc dX1_layOut_80 rfl ?_
      refine hf_iald (a := 13) (r := 26) (n := 100) g rfl rfl dX1_layOut_82 ?_
      refine hf_callV0 (j := 10) g (cc_sheet_take (a1 := s.2 10 l6.toNatClampNeg) (a2 := s.2 12 l6.toNatClampNeg) (a3 := s.2 13 l6.toNatClampNeg)) kV_RX1_37 (by decide) (by decide) rfl rfl rfl rfl (Nat.le_of_ble_eq_true rfl) dX1_layOut_83 (fun s1 => ?_)
      refine hf_iinc (q := 6) (v' := l6 + (1 : Int32)) (lv' := [(6, .int (l6 + (1 : Int32))), (7, .int t0), (0, .ref (ad 4)), (1, .ref (ad 10)), (2, .int l2), (3, .int l3), (5, .int l5)]) gc dX1_layOut_86 rfl rfl (by decide) rfl ?_
      refine hf_goto (tgt := 9) gc dX1_layOut_89 (by decide) ?_
      refine hf_sub (lv' := [(0, .ref (ad 4)), (1, .ref (ad 10)), (2, .int l2), (3, .int l3), (5, .int l5), (6, .int (l6 + (1 : Int32)))]) [2, 3, 4, 5, 6, 0] rfl ?_
      exact hk9 _ _ _ _ _
set_option maxHeartbeats 2000000 in
set_option maxRecDepth 20000 in
theorem xc_facts_layOut_l9 {x : hf_Cx} {ad : Nat → Nat} {cA : Nat → ClassId} {E : State → Prop} {A : Nat → Prop} {l0 : Launch} {D0 : va_G} (g : hf_G x hcT ad cA E A l0 D0 cX1_layOut 8 RX1 none 2) : ∀ (n : Nat) (s : hf_St) (l2 : Int32) (l3 : Int32) (l5 : Int32) (l6 : Int32), hf_X x A 8 (0, 0) (hf_Q x hcT ad cA A hf_rv) (Fc_facts_layOut_l9 n s l2 l3 l5 l6) (hf_wd hcT ad cA s) 9 [(0, .ref (ad 4)), (1, .ref (ad 10)), (2, .int l2), (3, .int l3), (5, .int l5), (6, .int l6)] [] := by
  have gc := g.1
  intro n
  induction n with
  | zero => intro s l2 l3 l5 l6; exact hf_none
  | succ n ih =>
    intro s l2 l3 l5 l6
    rw [Fc_facts_layOut_l9]
    refine hf_iload (i := 6) (q := 5) gc dX1_layOut_9 rfl ?_
    refine hf_aload_n (i := 0) (q := 0) gc dX1_layOut_11 rfl rfl ?_
    refine hf_getI (j := 4) (k := 5) g rfl rfl kF_RX1_27 dX1_layOut_12 ?_
    refine hf_icmp_ge (tgt := 92) gc dX1_layOut_15 (by decide) ?_ ?_
    · exact hf_vret g dX1_layOut_92 rfl
    · refine hf_aload_n (i := 0) (q := 0) gc dX1_layOut_18 rfl rfl ?_
      refine hf_getR (j := 4) (k := 0) (r := 23) g rfl rfl kF_RX1_9 dX1_layOut_19 ?_
      refine hf_iload (i := 6) (q := 5) gc dX1_layOut_22 rfl ?_
      refine hf_iald (a := 10) (r := 23) (n := 100) g rfl rfl dX1_layOut_24 ?_
      refine hf_bipush (v := 8) gc dX1_layOut_25 (by decide) ?_
      refine hf_icmp_ge (tgt := 34) gc dX1_layOut_27 (by decide) ?_ ?_
      · refine hf_iload_n (i := 3) (q := 3) gc dX1_layOut_34 rfl rfl ?_
        exact xc_facts_layOut_b35 g (fun z0 z1 z2 z3 z4 => ih z0 z1 z2 z3 z4) _ _ _ _ _ _
      · refine hf_iload_n (i := 2) (q := 2) gc dX1_layOut_30 rfl rfl ?_
        refine hf_goto (tgt := 35) gc dX1_layOut_31 (by decide) ?_
        exact xc_facts_layOut_b35 g (fun z0 z1 z2 z3 z4 => ih z0 z1 z2 z3 z4) _ _ _ _ _ _
set_option maxHeartbeats 2000000 in
set_option maxRecDepth 20000 in
theorem xc_facts_layOut {x : hf_Cx} {ad : Nat → Nat} {cA : Nat → ClassId} {E : State → Prop} {A : Nat → Prop} {l0 : Launch} {D0 : va_G} (g : hf_G x hcT ad cA E A l0 D0 cX1_layOut 8 RX1 none 2) {s : hf_St} {a1 : Int32} {a2 : Int32} {a3 : Int32} {a4 : Int32} : hf_X x A 8 (0, 0) (hf_Q x hcT ad cA A hf_rv) (Fc_facts_layOut s a1 a2 a3 a4) (hf_wd hcT ad cA s) 0 [(0, .ref (ad 4)), (1, .ref (ad 10)), (2, .int a1), (3, .int a2), (4, .int a3), (5, .int a4)] [] := by
  have gc := g.1
  unfold Fc_facts_layOut
  refine hf_aload_n (i := 1) (q := 1) gc dX1_layOut_0 rfl rfl ?_
  refine hf_iload (i := 4) (q := 4) gc dX1_layOut_1 rfl ?_
  refine hf_callV0 (j := 10) g (cc_sheet_clear (a1 := a3)) kV_RX1_31 (by decide) (by decide) rfl rfl rfl rfl (Nat.le_of_ble_eq_true rfl) dX1_layOut_3 (fun s1 => ?_)
  refine hf_iconst (v := 0) gc dX1_layOut_6 (by decide) ?_
  refine hf_istore (i := 6) (lv' := [(6, .int ((0 : Int32))), (0, .ref (ad 4)), (1, .ref (ad 10)), (2, .int a1), (3, .int a2), (4, .int a3), (5, .int a4)]) gc dX1_layOut_7 (by decide) rfl ?_
  refine hf_sub (lv' := [(0, .ref (ad 4)), (1, .ref (ad 10)), (2, .int a1), (3, .int a2), (5, .int a4), (6, .int ((0 : Int32)))]) [1, 2, 3, 4, 6, 0] rfl ?_
  exact xc_facts_layOut_l9 g hf_fuel _ _ _ _ _
theorem cc_facts_layOut {l0 : Launch} {D0 : va_G} {ad : Nat → Nat} {cA : Nat → ClassId} {E : State → Prop} {s : hf_St} {a1 : Int32} {a2 : Int32} {a3 : Int32} {a4 : Int32} : hf_Ct l0 D0 hcT ad cA E 2 yX1_layOut cX1_layOut 8 none [.ref (ad 4), .ref (ad 10), .int a1, .int a2, .int a3, .int a4] s (Fc_facts_layOut s a1 a2 a3 a4) hf_rv := hf_met (by decide) (Nat.le_of_ble_eq_true rfl) (fun _ _ g => xc_facts_layOut g)
set_option maxHeartbeats 2000000 in
set_option maxRecDepth 20000 in
theorem xc_children_byNight {x : hf_Cx} {ad : Nat → Nat} {cA : Nat → ClassId} {E : State → Prop} {A : Nat → Prop} {l0 : Launch} {D0 : va_G} (g : hf_G x hcT ad cA E A l0 D0 cX0_byNight 2 RX0 (some .boolean) 2) {s : hf_St} {a1 : Int32} : hf_X x A 2 (0, 0) (hf_Q x hcT ad cA A (hf_rp s)) (Fc_children_byNight s a1) (hf_wd hcT ad cA s) 0 [(0, .ref (ad 1)), (1, .int a1)] [] := by
  have gc := g.1
  unfold Fc_children_byNight
  refine hf_aload_n (i := 0) (q := 0) gc dX0_byNight_0 rfl rfl ?_
  refine hf_iload_n (i := 1) (q := 1) gc dX0_byNight_1 rfl rfl ?_
  refine hf_callV1 (j := 1) g (cc_children_hasNeed (a1 := a1)) kV_RX0_36 (by decide) (by decide) rfl rfl rfl rfl (Nat.le_of_ble_eq_true rfl) dX0_byNight_2 (fun v1 => ?_)
  refine hf_if_eq (tgt := 21) gc dX0_byNight_5 (by decide) ?_ ?_
  · refine hf_iconst (v := 0) gc dX0_byNight_21 (by decide) ?_
    exact hf_zret g dX0_byNight_22 rfl
  · refine hf_aload_n (i := 0) (q := 0) gc dX0_byNight_8 rfl rfl ?_
    refine hf_getR (j := 1) (k := 4) (r := 17) g rfl rfl kF_RX0_25 dX0_byNight_9 ?_
    refine hf_iload_n (i := 1) (q := 1) gc dX0_byNight_12 rfl rfl ?_
    refine hf_zald (a := 4) (r := 17) (n := 7) g rfl rfl dX0_byNight_13 ?_
    refine hf_if_eq (tgt := 21) gc dX0_byNight_14 (by decide) ?_ ?_
    · refine hf_iconst (v := 0) gc dX0_byNight_21 (by decide) ?_
      exact hf_zret g dX0_byNight_22 rfl
    · refine hf_iconst (v := 1) gc dX0_byNight_17 (by decide) ?_
      refine hf_goto (tgt := 22) gc dX0_byNight_18 (by decide) ?_
      exact hf_zret g dX0_byNight_22 rfl
theorem cc_children_byNight {l0 : Launch} {D0 : va_G} {ad : Nat → Nat} {cA : Nat → ClassId} {E : State → Prop} {s : hf_St} {a1 : Int32} : hf_Ct l0 D0 hcT ad cA E 2 yX0_byNight cX0_byNight 2 (some .boolean) [.ref (ad 1), .int a1] s (Fc_children_byNight s a1) (hf_rp s) := hf_met (by decide) (Nat.le_of_ble_eq_true rfl) (fun _ _ g => xc_children_byNight g)
set_option maxHeartbeats 2000000 in
set_option maxRecDepth 20000 in
theorem xc_sheet_numberOf {x : hf_Cx} {ad : Nat → Nat} {cA : Nat → ClassId} {E : State → Prop} {A : Nat → Prop} {l0 : Launch} {D0 : va_G} (g : hf_G x hcT ad cA E A l0 D0 cX9_numberOf 3 RX9 (some .int) 0) {s : hf_St} {a1 : Int32} : hf_X x A 3 (0, 0) (hf_Q x hcT ad cA A (hf_rp s)) (Fc_sheet_numberOf s a1) (hf_wd hcT ad cA s) 0 [(0, .ref (ad 10)), (1, .int a1)] [] := by
  have gc := g.1
  unfold Fc_sheet_numberOf
  refine hf_iload_n (i := 1) (q := 1) gc dX9_numberOf_0 rfl rfl ?_
  refine hf_sipush (v := 10000) gc dX9_numberOf_1 (by decide) ?_
  refine hf_isub gc dX9_numberOf_4 ?_
  refine hf_let (fun v1 => ?_)
  refine hf_istore_n (i := 2) (lv' := [(2, .int v1), (0, .ref (ad 10)), (1, .int a1)]) gc dX9_numberOf_5 rfl (by decide) rfl ?_
  refine hf_iload_n (i := 2) (q := 0) gc dX9_numberOf_6 rfl rfl ?_
  refine hf_if_lt (tgt := 25) gc dX9_numberOf_7 (by decide) ?_ ?_
  · refine hf_iload_n (i := 1) (q := 2) gc dX9_numberOf_25 rfl rfl ?_
    exact hf_iret g dX9_numberOf_26 rfl
  · refine hf_iload_n (i := 2) (q := 0) gc dX9_numberOf_10 rfl rfl ?_
    refine hf_bipush (v := 16) gc dX9_numberOf_11 (by decide) ?_
    refine hf_icmp_ge (tgt := 25) gc dX9_numberOf_13 (by decide) ?_ ?_
    · refine hf_iload_n (i := 1) (q := 2) gc dX9_numberOf_25 rfl rfl ?_
      exact hf_iret g dX9_numberOf_26 rfl
    · refine hf_aload_n (i := 0) (q := 1) gc dX9_numberOf_16 rfl rfl ?_
      refine hf_getR (j := 10) (k := 0) (r := 41) g rfl rfl kF_RX9_11 dX9_numberOf_17 ?_
      refine hf_iload_n (i := 2) (q := 0) gc dX9_numberOf_20 rfl rfl ?_
      refine hf_iald (a := 28) (r := 41) (n := 16) g rfl rfl dX9_numberOf_21 ?_
      refine hf_goto (tgt := 26) gc dX9_numberOf_22 (by decide) ?_
      exact hf_iret g dX9_numberOf_26 rfl
theorem cc_sheet_numberOf {l0 : Launch} {D0 : va_G} {ad : Nat → Nat} {cA : Nat → ClassId} {E : State → Prop} {s : hf_St} {a1 : Int32} : hf_Ct l0 D0 hcT ad cA E 0 yX9_numberOf cX9_numberOf 3 (some .int) [.ref (ad 10), .int a1] s (Fc_sheet_numberOf s a1) (hf_rp s) := hf_met (by decide) (Nat.le_of_ble_eq_true rfl) (fun _ _ g => xc_sheet_numberOf g)
set_option maxHeartbeats 2000000 in
set_option maxRecDepth 20000 in
theorem xc_book_signOf {x : hf_Cx} {ad : Nat → Nat} {cA : Nat → ClassId} {E : State → Prop} {A : Nat → Prop} {l0 : Launch} {D0 : va_G} (g : hf_G x hcT ad cA E A l0 D0 cX7_signOf 2 RX7 (some .int) 0) {s : hf_St} {a1 : Int32} {a2 : Int32} : hf_X x A 2 (0, 0) (hf_Q x hcT ad cA A (hf_rp s)) (Fc_book_signOf s a1 a2) (hf_wd hcT ad cA s) 0 [(0, .int a1), (1, .int a2)] [] := by
  have gc := g.1
  unfold Fc_book_signOf
  refine hf_iload_n (i := 0) (q := 0) gc dX7_signOf_0 rfl rfl ?_
  refine hf_iload_n (i := 1) (q := 1) gc dX7_signOf_1 rfl rfl ?_
  refine hf_icmp_ne (tgt := 8) gc dX7_signOf_2 (by decide) ?_ ?_
  · refine hf_iload_n (i := 0) (q := 0) gc dX7_signOf_8 rfl rfl ?_
    refine hf_iload_n (i := 1) (q := 1) gc dX7_signOf_9 rfl rfl ?_
    refine hf_icmp_ge (tgt := 18) gc dX7_signOf_10 (by decide) ?_ ?_
    · refine hf_bipush (v := 62) gc dX7_signOf_18 (by decide) ?_
      exact hf_iret g dX7_signOf_20 rfl
    · refine hf_bipush (v := 60) gc dX7_signOf_13 (by decide) ?_
      refine hf_goto (tgt := 20) gc dX7_signOf_15 (by decide) ?_
      exact hf_iret g dX7_signOf_20 rfl
  · refine hf_bipush (v := 61) gc dX7_signOf_5 (by decide) ?_
    exact hf_iret g dX7_signOf_7 rfl
theorem cc_book_signOf {l0 : Launch} {D0 : va_G} {ad : Nat → Nat} {cA : Nat → ClassId} {E : State → Prop} {s : hf_St} {a1 : Int32} {a2 : Int32} : hf_Ct l0 D0 hcT ad cA E 0 yX7_signOf cX7_signOf 2 (some .int) [.int a1, .int a2] s (Fc_book_signOf s a1 a2) (hf_rp s) := hf_met (by decide) (Nat.le_of_ble_eq_true rfl) (fun _ _ g => xc_book_signOf g)
set_option maxHeartbeats 2000000 in
set_option maxRecDepth 20000 in
theorem xc_book_isSo_l8 {x : hf_Cx} {ad : Nat → Nat} {cA : Nat → ClassId} {E : State → Prop} {A : Nat → Prop} {l0 : Launch} {D0 : va_G} {s : hf_St} (g : hf_G x hcT ad cA E A l0 D0 cX7_isSo 7 RX7 (some .boolean) 1) : ∀ (n : Nat) (l1 : Int32) (l3 : Int32) (l4 : Int32), hf_X x A 7 (0, 0) (hf_Q x hcT ad cA A (hf_rp s)) (Fc_book_isSo_l8 s n l1 l3 l4) (hf_wd hcT ad cA s) 8 [(0, .ref (ad 6)), (1, .int l1), (2, .ref (ad 10)), (3, .int l3), (4, .int l4)] [] := by
  have gc := g.1
  intro n
  induction n with
  | zero => intro l1 l3 l4; exact hf_none
  | succ n ih =>
    intro l1 l3 l4
    rw [Fc_book_isSo_l8]
    refine hf_iload (i := 4) (q := 4) gc dX7_isSo_8 rfl ?_
    refine hf_iload_n (i := 3) (q := 3) gc dX7_isSo_10 rfl rfl ?_
    refine hf_aload_n (i := 0) (q := 0) gc dX7_isSo_11 rfl rfl ?_
    refine hf_getR (j := 6) (k := 2) (r := 31) g rfl rfl kF_RX7_18 dX7_isSo_12 ?_
    refine hf_iload_n (i := 1) (q := 1) gc dX7_isSo_15 rfl rfl ?_
    refine hf_iald (a := 18) (r := 31) (n := 20) g rfl rfl dX7_isSo_16 ?_
    refine hf_iadd gc dX7_isSo_17 ?_
    refine hf_icmp_ge (tgt := 72) gc dX7_isSo_18 (by decide) ?_ ?_
    · refine hf_iconst (v := 1) gc dX7_isSo_72 (by decide) ?_
      exact hf_zret g dX7_isSo_73 rfl
    · refine hf_aload_n (i := 2) (q := 2) gc dX7_isSo_21 rfl rfl ?_
      refine hf_aload_n (i := 0) (q := 0) gc dX7_isSo_22 rfl rfl ?_
      refine hf_getR (j := 6) (k := 3) (r := 32) g rfl rfl kF_RX7_21 dX7_isSo_23 ?_
      refine hf_iload (i := 4) (q := 4) gc dX7_isSo_26 rfl ?_
      refine hf_iald (a := 19) (r := 32) (n := 120) g rfl rfl dX7_isSo_28 ?_
      refine hf_callV1 (j := 10) g (cc_sheet_numberOf (a1 := s.2 19 l4.toNatClampNeg)) kV_RX7_44 (by decide) (by decide) rfl rfl rfl rfl (Nat.le_of_ble_eq_true rfl) dX7_isSo_29 (fun v1 => ?_)
      refine hf_istore (i := 5) (lv' := [(5, .int v1), (0, .ref (ad 6)), (1, .int l1), (2, .ref (ad 10)), (3, .int l3), (4, .int l4)]) gc dX7_isSo_32 (by decide) rfl ?_
      refine hf_aload_n (i := 2) (q := 3) gc dX7_isSo_34 rfl rfl ?_
      refine hf_aload_n (i := 0) (q := 1) gc dX7_isSo_35 rfl rfl ?_
      refine hf_getR (j := 6) (k := 5) (r := 34) g rfl rfl kF_RX7_27 dX7_isSo_36 ?_
      refine hf_iload (i := 4) (q := 5) gc dX7_isSo_39 rfl ?_
      refine hf_iald (a := 21) (r := 34) (n := 120) g rfl rfl dX7_isSo_41 ?_
      refine hf_callV1 (j := 10) g (cc_sheet_numberOf (a1 := s.2 21 l4.toNatClampNeg)) kV_RX7_44 (by decide) (by decide) rfl rfl rfl rfl (Nat.le_of_ble_eq_true rfl) dX7_isSo_42 (fun v2 => ?_)
      refine hf_istore (i := 6) (lv' := [(6, .int v2), (5, .int v1), (0, .ref (ad 6)), (1, .int l1), (2, .ref (ad 10)), (3, .int l3), (4, .int l4)]) gc dX7_isSo_45 (by decide) rfl ?_
      refine hf_iload (i := 5) (q := 1) gc dX7_isSo_47 rfl ?_
      refine hf_iload (i := 6) (q := 0) gc dX7_isSo_49 rfl ?_
      refine hf_callS1 g (cc_book_signOf (a1 := v1) (a2 := v2)) kS_RX7_50 (by decide) (by decide) rfl rfl (Nat.le_of_ble_eq_true rfl) dX7_isSo_51 (fun v3 => ?_)
      refine hf_aload_n (i := 0) (q := 2) gc dX7_isSo_54 rfl rfl ?_
      refine hf_getR (j := 6) (k := 4) (r := 33) g rfl rfl kF_RX7_24 dX7_isSo_55 ?_
      refine hf_iload (i := 4) (q := 6) gc dX7_isSo_58 rfl ?_
      refine hf_iald (a := 20) (r := 33) (n := 120) g rfl rfl dX7_isSo_60 ?_
      refine hf_icmp_eq (tgt := 66) gc dX7_isSo_61 (by decide) ?_ ?_
      · refine hf_iinc (q := 6) (v' := l4 + (1 : Int32)) (lv' := [(4, .int (l4 + (1 : Int32))), (6, .int v2), (5, .int v1), (0, .ref (ad 6)), (1, .int l1), (2, .ref (ad 10)), (3, .int l3)]) gc dX7_isSo_66 rfl rfl (by decide) rfl ?_
        refine hf_goto (tgt := 8) gc dX7_isSo_69 (by decide) ?_
        refine hf_sub (lv' := [(0, .ref (ad 6)), (1, .int l1), (2, .ref (ad 10)), (3, .int l3), (4, .int (l4 + (1 : Int32)))]) [3, 4, 5, 6, 0] rfl ?_
        exact ih _ _ _
      · refine hf_iconst (v := 0) gc dX7_isSo_64 (by decide) ?_
        exact hf_zret g dX7_isSo_65 rfl
set_option maxHeartbeats 2000000 in
set_option maxRecDepth 20000 in
theorem xc_book_isSo {x : hf_Cx} {ad : Nat → Nat} {cA : Nat → ClassId} {E : State → Prop} {A : Nat → Prop} {l0 : Launch} {D0 : va_G} (g : hf_G x hcT ad cA E A l0 D0 cX7_isSo 7 RX7 (some .boolean) 1) {s : hf_St} {a1 : Int32} : hf_X x A 7 (0, 0) (hf_Q x hcT ad cA A (hf_rp s)) (Fc_book_isSo s a1) (hf_wd hcT ad cA s) 0 [(0, .ref (ad 6)), (1, .int a1), (2, .ref (ad 10))] [] := by
  have gc := g.1
  unfold Fc_book_isSo
  refine hf_iload_n (i := 1) (q := 1) gc dX7_isSo_0 rfl rfl ?_
  refine hf_bipush (v := 6) gc dX7_isSo_1 (by decide) ?_
  refine hf_imul gc dX7_isSo_3 ?_
  refine hf_let (fun v1 => ?_)
  refine hf_istore_n (i := 3) (lv' := [(3, .int v1), (0, .ref (ad 6)), (1, .int a1), (2, .ref (ad 10))]) gc dX7_isSo_4 rfl (by decide) rfl ?_
  refine hf_iload_n (i := 3) (q := 0) gc dX7_isSo_5 rfl rfl ?_
  refine hf_istore (i := 4) (lv' := [(4, .int v1), (3, .int v1), (0, .ref (ad 6)), (1, .int a1), (2, .ref (ad 10))]) gc dX7_isSo_6 (by decide) rfl ?_
  refine hf_sub (lv' := [(0, .ref (ad 6)), (1, .int a1), (2, .ref (ad 10)), (3, .int v1), (4, .int v1)]) [2, 3, 4, 1, 0] rfl ?_
  exact xc_book_isSo_l8 g hf_fuel _ _ _
theorem cc_book_isSo {l0 : Launch} {D0 : va_G} {ad : Nat → Nat} {cA : Nat → ClassId} {E : State → Prop} {s : hf_St} {a1 : Int32} : hf_Ct l0 D0 hcT ad cA E 1 yX7_isSo cX7_isSo 7 (some .boolean) [.ref (ad 6), .int a1, .ref (ad 10)] s (Fc_book_isSo s a1) (hf_rp s) := hf_met (by decide) (Nat.le_of_ble_eq_true rfl) (fun _ _ g => xc_book_isSo g)
set_option maxHeartbeats 2000000 in
set_option maxRecDepth 20000 in
theorem xc_book_firstBroken_l2 {x : hf_Cx} {ad : Nat → Nat} {cA : Nat → ClassId} {E : State → Prop} {A : Nat → Prop} {l0 : Launch} {D0 : va_G} {s : hf_St} (g : hf_G x hcT ad cA E A l0 D0 cX7_firstBroken 4 RX7 (some .int) 2) : ∀ (n : Nat) (l1 : Int32) (l3 : Int32), hf_X x A 4 (0, 0) (hf_Q x hcT ad cA A (hf_rp s)) (Fc_book_firstBroken_l2 s n l1 l3) (hf_wd hcT ad cA s) 2 [(0, .ref (ad 6)), (1, .int l1), (2, .ref (ad 10)), (3, .int l3)] [] := by
  have gc := g.1
  intro n
  induction n with
  | zero => intro l1 l3; exact hf_none
  | succ n ih =>
    intro l1 l3
    rw [Fc_book_firstBroken_l2]
    refine hf_iload_n (i := 3) (q := 3) gc dX7_firstBroken_2 rfl rfl ?_
    refine hf_aload_n (i := 0) (q := 0) gc dX7_firstBroken_3 rfl rfl ?_
    refine hf_getI (j := 6) (k := 6) g rfl rfl kF_RX7_30 dX7_firstBroken_4 ?_
    refine hf_icmp_ge (tgt := 37) gc dX7_firstBroken_7 (by decide) ?_ ?_
    · refine hf_iconst (v := -1) gc dX7_firstBroken_37 (by decide) ?_
      exact hf_iret g dX7_firstBroken_38 rfl
    · refine hf_aload_n (i := 0) (q := 0) gc dX7_firstBroken_10 rfl rfl ?_
      refine hf_getR (j := 6) (k := 0) (r := 29) g rfl rfl kF_RX7_11 dX7_firstBroken_11 ?_
      refine hf_iload_n (i := 3) (q := 3) gc dX7_firstBroken_14 rfl rfl ?_
      refine hf_iald (a := 16) (r := 29) (n := 20) g rfl rfl dX7_firstBroken_15 ?_
      refine hf_iload_n (i := 1) (q := 1) gc dX7_firstBroken_16 rfl rfl ?_
      refine hf_icmp_ne (tgt := 31) gc dX7_firstBroken_17 (by decide) ?_ ?_
      · refine hf_iinc (q := 3) (v' := l3 + (1 : Int32)) (lv' := [(3, .int (l3 + (1 : Int32))), (0, .ref (ad 6)), (1, .int l1), (2, .ref (ad 10))]) gc dX7_firstBroken_31 rfl rfl (by decide) rfl ?_
        refine hf_goto (tgt := 2) gc dX7_firstBroken_34 (by decide) ?_
        refine hf_sub (lv' := [(0, .ref (ad 6)), (1, .int l1), (2, .ref (ad 10)), (3, .int (l3 + (1 : Int32)))]) [1, 2, 3, 0] rfl ?_
        exact ih _ _
      · refine hf_aload_n (i := 0) (q := 0) gc dX7_firstBroken_20 rfl rfl ?_
        refine hf_iload_n (i := 3) (q := 3) gc dX7_firstBroken_21 rfl rfl ?_
        refine hf_aload_n (i := 2) (q := 2) gc dX7_firstBroken_22 rfl rfl ?_
        refine hf_callV1 (j := 6) g (cc_book_isSo (a1 := l3)) kV_RX7_40 (by decide) (by decide) rfl rfl rfl rfl (Nat.le_of_ble_eq_true rfl) dX7_firstBroken_23 (fun v1 => ?_)
        refine hf_if_ne (tgt := 31) gc dX7_firstBroken_26 (by decide) ?_ ?_
        · refine hf_iinc (q := 3) (v' := l3 + (1 : Int32)) (lv' := [(3, .int (l3 + (1 : Int32))), (0, .ref (ad 6)), (1, .int l1), (2, .ref (ad 10))]) gc dX7_firstBroken_31 rfl rfl (by decide) rfl ?_
          refine hf_goto (tgt := 2) gc dX7_firstBroken_34 (by decide) ?_
          refine hf_sub (lv' := [(0, .ref (ad 6)), (1, .int l1), (2, .ref (ad 10)), (3, .int (l3 + (1 : Int32)))]) [1, 2, 3, 0] rfl ?_
          exact ih _ _
        · refine hf_iload_n (i := 3) (q := 3) gc dX7_firstBroken_29 rfl rfl ?_
          exact hf_iret g dX7_firstBroken_30 rfl
set_option maxHeartbeats 2000000 in
set_option maxRecDepth 20000 in
theorem xc_book_firstBroken {x : hf_Cx} {ad : Nat → Nat} {cA : Nat → ClassId} {E : State → Prop} {A : Nat → Prop} {l0 : Launch} {D0 : va_G} (g : hf_G x hcT ad cA E A l0 D0 cX7_firstBroken 4 RX7 (some .int) 2) {s : hf_St} {a1 : Int32} : hf_X x A 4 (0, 0) (hf_Q x hcT ad cA A (hf_rp s)) (Fc_book_firstBroken s a1) (hf_wd hcT ad cA s) 0 [(0, .ref (ad 6)), (1, .int a1), (2, .ref (ad 10))] [] := by
  have gc := g.1
  unfold Fc_book_firstBroken
  refine hf_iconst (v := 0) gc dX7_firstBroken_0 (by decide) ?_
  refine hf_istore_n (i := 3) (lv' := [(3, .int ((0 : Int32))), (0, .ref (ad 6)), (1, .int a1), (2, .ref (ad 10))]) gc dX7_firstBroken_1 rfl (by decide) rfl ?_
  refine hf_sub (lv' := [(0, .ref (ad 6)), (1, .int a1), (2, .ref (ad 10)), (3, .int ((0 : Int32)))]) [1, 2, 3, 0] rfl ?_
  exact xc_book_firstBroken_l2 g hf_fuel _ _
theorem cc_book_firstBroken {l0 : Launch} {D0 : va_G} {ad : Nat → Nat} {cA : Nat → ClassId} {E : State → Prop} {s : hf_St} {a1 : Int32} : hf_Ct l0 D0 hcT ad cA E 2 yX7_firstBroken cX7_firstBroken 4 (some .int) [.ref (ad 6), .int a1, .ref (ad 10)] s (Fc_book_firstBroken s a1) (hf_rp s) := hf_met (by decide) (Nat.le_of_ble_eq_true rfl) (fun _ _ g => xc_book_firstBroken g)
set_option maxHeartbeats 2000000 in
set_option maxRecDepth 20000 in
theorem xc_judge_barOn_b61 {x : hf_Cx} {ad : Nat → Nat} {cA : Nat → ClassId} {E : State → Prop} {A : Nat → Prop} {l0 : Launch} {D0 : va_G} (g : hf_G x hcT ad cA E A l0 D0 cX3_barOn 7 RX3 (some .int) 3) (s : hf_St) (t0 : Int32) : hf_X x A 7 (0, 0) (hf_Q x hcT ad cA A hf_ri) (Fc_judge_barOn_b61 s t0) (hf_wd hcT ad cA s) 61 [(0, .ref (ad 9))] [.int t0] := by
  have gc := g.1
  unfold Fc_judge_barOn_b61
  refine hf_istore (i := 5) (lv' := [(5, .int t0), (0, .ref (ad 9))]) gc dX3_barOn_61 (by decide) rfl ?_
  refine hf_aload_n (i := 0) (q := 1) gc dX3_barOn_63 rfl rfl ?_
  refine hf_getR (j := 9) (k := 4) (r := 6) g rfl rfl kF_RX3_38 dX3_barOn_64 ?_
  refine hf_iload (i := 5) (q := 0) gc dX3_barOn_67 rfl ?_
  refine hf_aload_n (i := 0) (q := 1) gc dX3_barOn_69 rfl rfl ?_
  refine hf_getR (j := 9) (k := 5) (r := 10) g rfl rfl kF_RX3_12 dX3_barOn_70 ?_
  refine hf_callV1 (j := 6) g (cc_book_firstBroken (a1 := t0)) kV_RX3_87 (by decide) (by decide) rfl rfl rfl rfl (Nat.le_of_ble_eq_true rfl) dX3_barOn_73 (fun v1 => ?_)
  refine hf_istore (i := 6) (lv' := [(6, .int v1), (5, .int t0), (0, .ref (ad 9))]) gc dX3_barOn_76 (by decide) rfl ?_
  refine hf_iload (i := 6) (q := 0) gc dX3_barOn_78 rfl ?_
  refine hf_iconst (v := -1) gc dX3_barOn_80 (by decide) ?_
  refine hf_icmp_ne (tgt := 88) gc dX3_barOn_81 (by decide) ?_ ?_
  · refine hf_bipush (v := 10) gc dX3_barOn_88 (by decide) ?_
    refine hf_iload (i := 6) (q := 0) gc dX3_barOn_90 rfl ?_
    refine hf_iadd gc dX3_barOn_92 ?_
    exact hf_iret g dX3_barOn_93 rfl
  · refine hf_iconst (v := 0) gc dX3_barOn_84 (by decide) ?_
    refine hf_goto (tgt := 93) gc dX3_barOn_85 (by decide) ?_
    exact hf_iret g dX3_barOn_93 rfl
set_option maxHeartbeats 2000000 in
set_option maxRecDepth 20000 in
theorem xc_judge_barOn {x : hf_Cx} {ad : Nat → Nat} {cA : Nat → ClassId} {E : State → Prop} {A : Nat → Prop} {l0 : Launch} {D0 : va_G} (g : hf_G x hcT ad cA E A l0 D0 cX3_barOn 7 RX3 (some .int) 3) {s : hf_St} {a1 : Int32} {a2 : Int32} {a3 : Int32} {a4 : Int32} : hf_X x A 7 (0, 0) (hf_Q x hcT ad cA A hf_ri) (Fc_judge_barOn s a1 a2 a3 a4) (hf_wd hcT ad cA s) 0 [(0, .ref (ad 9)), (1, .int a1), (2, .int a2), (3, .int a3), (4, .int a4)] [] := by
  have gc := g.1
  unfold Fc_judge_barOn
  refine hf_aload_n (i := 0) (q := 0) gc dX3_barOn_0 rfl rfl ?_
  refine hf_getR (j := 9) (k := 1) (r := 2) g rfl rfl kF_RX3_26 dX3_barOn_1 ?_
  refine hf_iload_n (i := 2) (q := 2) gc dX3_barOn_4 rfl rfl ?_
  refine hf_callV1 (j := 2) g (cc_homes_closingOf (a1 := a2)) kV_RX3_68 (by decide) (by decide) rfl rfl rfl rfl (Nat.le_of_ble_eq_true rfl) dX3_barOn_5 (fun v1 => ?_)
  refine hf_iload_n (i := 3) (q := 3) gc dX3_barOn_8 rfl rfl ?_
  refine hf_icmp_gt (tgt := 14) gc dX3_barOn_9 (by decide) ?_ ?_
  · refine hf_aload_n (i := 0) (q := 0) gc dX3_barOn_14 rfl rfl ?_
    refine hf_getR (j := 9) (k := 2) (r := 3) g rfl rfl kF_RX3_30 dX3_barOn_15 ?_
    refine hf_iload_n (i := 2) (q := 2) gc dX3_barOn_18 rfl rfl ?_
    refine hf_iload_n (i := 3) (q := 3) gc dX3_barOn_19 rfl rfl ?_
    refine hf_callV1 (j := 3) g (cc_papers_latestEnd (a1 := a2) (a2 := a3)) kV_RX3_71 (by decide) (by decide) rfl rfl rfl rfl (Nat.le_of_ble_eq_true rfl) dX3_barOn_20 (fun v2 => ?_)
    refine hf_iconst (v := -1) gc dX3_barOn_23 (by decide) ?_
    refine hf_icmp_ne (tgt := 29) gc dX3_barOn_24 (by decide) ?_ ?_
    · refine hf_aload_n (i := 0) (q := 0) gc dX3_barOn_29 rfl rfl ?_
      refine hf_getR (j := 9) (k := 3) (r := 4) g rfl rfl kF_RX3_34 dX3_barOn_30 ?_
      refine hf_aload_n (i := 0) (q := 0) gc dX3_barOn_33 rfl rfl ?_
      refine hf_getR (j := 9) (k := 5) (r := 10) g rfl rfl kF_RX3_12 dX3_barOn_34 ?_
      refine hf_iload_n (i := 1) (q := 1) gc dX3_barOn_37 rfl rfl ?_
      refine hf_iload_n (i := 2) (q := 2) gc dX3_barOn_38 rfl rfl ?_
      refine hf_iload_n (i := 3) (q := 3) gc dX3_barOn_39 rfl rfl ?_
      refine hf_iload (i := 4) (q := 4) gc dX3_barOn_40 rfl ?_
      refine hf_callV0 (j := 4) g (cc_facts_layOut (a1 := a1) (a2 := a2) (a3 := a3) (a4 := a4)) kV_RX3_76 (by decide) (by decide) rfl rfl rfl rfl (Nat.le_of_ble_eq_true rfl) dX3_barOn_42 (fun s3 => ?_)
      refine hf_aload_n (i := 0) (q := 0) gc dX3_barOn_45 rfl rfl ?_
      refine hf_getR (j := 9) (k := 0) (r := 1) g rfl rfl kF_RX3_22 dX3_barOn_46 ?_
      refine hf_iload_n (i := 1) (q := 1) gc dX3_barOn_49 rfl rfl ?_
      refine hf_callV1 (j := 1) g (cc_children_byNight (a1 := a1)) kV_RX3_82 (by decide) (by decide) rfl rfl rfl rfl (Nat.le_of_ble_eq_true rfl) dX3_barOn_50 (fun v4 => ?_)
      refine hf_if_eq (tgt := 60) gc dX3_barOn_53 (by decide) ?_ ?_
      · refine hf_iconst (v := 0) gc dX3_barOn_60 (by decide) ?_
        refine hf_sub (lv' := [(0, .ref (ad 9))]) [0] rfl ?_
        exact xc_judge_barOn_b61 g _ _
      · refine hf_iconst (v := 1) gc dX3_barOn_56 (by decide) ?_
        refine hf_goto (tgt := 61) gc dX3_barOn_57 (by decide) ?_
        refine hf_sub (lv' := [(0, .ref (ad 9))]) [0] rfl ?_
        exact xc_judge_barOn_b61 g _ _
    · refine hf_iconst (v := 2) gc dX3_barOn_27 (by decide) ?_
      exact hf_iret g dX3_barOn_28 rfl
  · refine hf_iconst (v := 1) gc dX3_barOn_12 (by decide) ?_
    exact hf_iret g dX3_barOn_13 rfl
theorem cc_judge_barOn {l0 : Launch} {D0 : va_G} {ad : Nat → Nat} {cA : Nat → ClassId} {E : State → Prop} {s : hf_St} {a1 : Int32} {a2 : Int32} {a3 : Int32} {a4 : Int32} : hf_Ct l0 D0 hcT ad cA E 3 yX3_barOn cX3_barOn 7 (some .int) [.ref (ad 9), .int a1, .int a2, .int a3, .int a4] s (Fc_judge_barOn s a1 a2 a3 a4) hf_ri := hf_met (by decide) (Nat.le_of_ble_eq_true rfl) (fun _ _ g => xc_judge_barOn g)
set_option maxHeartbeats 2000000 in
set_option maxRecDepth 20000 in
theorem xc_sheet_turn {x : hf_Cx} {ad : Nat → Nat} {cA : Nat → ClassId} {E : State → Prop} {A : Nat → Prop} {l0 : Launch} {D0 : va_G} (g : hf_G x hcT ad cA E A l0 D0 cX9_turn 1 RX9 (some .int) 0) {s : hf_St} : hf_X x A 1 (0, 0) (hf_Q x hcT ad cA A (hf_rp s)) (Fc_sheet_turn s) (hf_wd hcT ad cA s) 0 [(0, .ref (ad 10))] [] := by
  have gc := g.1
  unfold Fc_sheet_turn
  refine hf_aload_n (i := 0) (q := 0) gc dX9_turn_0 rfl rfl ?_
  refine hf_getI (j := 10) (k := 3) g rfl rfl kF_RX9_28 dX9_turn_1 ?_
  exact hf_iret g dX9_turn_4 rfl
theorem cc_sheet_turn {l0 : Launch} {D0 : va_G} {ad : Nat → Nat} {cA : Nat → ClassId} {E : State → Prop} {s : hf_St} : hf_Ct l0 D0 hcT ad cA E 0 yX9_turn cX9_turn 1 (some .int) [.ref (ad 10)] s (Fc_sheet_turn s) (hf_rp s) := hf_met (by decide) (Nat.le_of_ble_eq_true rfl) (fun _ _ g => xc_sheet_turn g)
set_option maxHeartbeats 2000000 in
set_option maxRecDepth 20000 in
theorem xc_judge_turnBehind {x : hf_Cx} {ad : Nat → Nat} {cA : Nat → ClassId} {E : State → Prop} {A : Nat → Prop} {l0 : Launch} {D0 : va_G} (g : hf_G x hcT ad cA E A l0 D0 cX3_turnBehind 4 RX3 (some .int) 2) {s : hf_St} {a1 : Int32} {a2 : Int32} : hf_X x A 4 (0, 0) (hf_Q x hcT ad cA A (hf_rp s)) (Fc_judge_turnBehind s a1 a2) (hf_wd hcT ad cA s) 0 [(0, .ref (ad 9)), (1, .int a1), (2, .int a2)] [] := by
  have gc := g.1
  unfold Fc_judge_turnBehind
  refine hf_aload_n (i := 0) (q := 0) gc dX3_turnBehind_0 rfl rfl ?_
  refine hf_getR (j := 9) (k := 1) (r := 2) g rfl rfl kF_RX3_26 dX3_turnBehind_1 ?_
  refine hf_iload_n (i := 1) (q := 1) gc dX3_turnBehind_4 rfl rfl ?_
  refine hf_callV1 (j := 2) g (cc_homes_closingOf (a1 := a1)) kV_RX3_68 (by decide) (by decide) rfl rfl rfl rfl (Nat.le_of_ble_eq_true rfl) dX3_turnBehind_5 (fun v1 => ?_)
  refine hf_aload_n (i := 0) (q := 0) gc dX3_turnBehind_8 rfl rfl ?_
  refine hf_getR (j := 9) (k := 2) (r := 3) g rfl rfl kF_RX3_30 dX3_turnBehind_9 ?_
  refine hf_iload_n (i := 1) (q := 1) gc dX3_turnBehind_12 rfl rfl ?_
  refine hf_iload_n (i := 2) (q := 2) gc dX3_turnBehind_13 rfl rfl ?_
  refine hf_callV1 (j := 3) g (cc_papers_latestEnd (a1 := a1) (a2 := a2)) kV_RX3_71 (by decide) (by decide) rfl rfl rfl rfl (Nat.le_of_ble_eq_true rfl) dX3_turnBehind_14 (fun v2 => ?_)
  refine hf_iconst (v := 1) gc dX3_turnBehind_17 (by decide) ?_
  refine hf_iadd gc dX3_turnBehind_18 ?_
  refine hf_mmin g kM_RX3_91 (by decide) (Nat.le_of_ble_eq_true rfl) dX3_turnBehind_19 ?_
  refine hf_let (fun v3 => ?_)
  refine hf_istore_n (i := 3) (lv' := [(3, .int v3), (0, .ref (ad 9)), (1, .int a1), (2, .int a2)]) gc dX3_turnBehind_22 rfl (by decide) rfl ?_
  refine hf_iload_n (i := 3) (q := 0) gc dX3_turnBehind_23 rfl rfl ?_
  refine hf_aload_n (i := 0) (q := 1) gc dX3_turnBehind_24 rfl rfl ?_
  refine hf_getR (j := 9) (k := 5) (r := 10) g rfl rfl kF_RX3_12 dX3_turnBehind_25 ?_
  refine hf_callV1 (j := 10) g (cc_sheet_turn) kV_RX3_96 (by decide) (by decide) rfl rfl rfl rfl (Nat.le_of_ble_eq_true rfl) dX3_turnBehind_28 (fun v4 => ?_)
  refine hf_mmin g kM_RX3_91 (by decide) (Nat.le_of_ble_eq_true rfl) dX3_turnBehind_31 ?_
  exact hf_iret g dX3_turnBehind_34 rfl
theorem cc_judge_turnBehind {l0 : Launch} {D0 : va_G} {ad : Nat → Nat} {cA : Nat → ClassId} {E : State → Prop} {s : hf_St} {a1 : Int32} {a2 : Int32} : hf_Ct l0 D0 hcT ad cA E 2 yX3_turnBehind cX3_turnBehind 4 (some .int) [.ref (ad 9), .int a1, .int a2] s (Fc_judge_turnBehind s a1 a2) (hf_rp s) := hf_met (by decide) (Nat.le_of_ble_eq_true rfl) (fun _ _ g => xc_judge_turnBehind g)
set_option maxHeartbeats 2000000 in
set_option maxRecDepth 20000 in
theorem xc_judge_findBar_l53 {x : hf_Cx} {ad : Nat → Nat} {cA : Nat → ClassId} {E : State → Prop} {A : Nat → Prop} {l0 : Launch} {D0 : va_G} (g : hf_G x hcT ad cA E A l0 D0 cX3_findBar 8 RX3 (some .int) 4) : ∀ (n : Nat) (s : hf_St) (l1 : Int32) (l2 : Int32) (l3 : Int32) (l4 : Int32) (l5 : Int32) (l6 : Int32), hf_X x A 8 (0, 0) (hf_Q x hcT ad cA A hf_ri) (Fc_judge_findBar_l53 n s l1 l2 l3 l4 l5 l6) (hf_wd hcT ad cA s) 53 [(0, .ref (ad 9)), (1, .int l1), (2, .int l2), (3, .int l3), (4, .int l4), (5, .int l5), (6, .int l6)] [] := by
  have gc := g.1
  intro n
  induction n with
  | zero => intro s l1 l2 l3 l4 l5 l6; exact hf_none
  | succ n ih =>
    intro s l1 l2 l3 l4 l5 l6
    rw [Fc_judge_findBar_l53]
    refine hf_iload (i := 6) (q := 6) gc dX3_findBar_53 rfl ?_
    refine hf_iload (i := 4) (q := 4) gc dX3_findBar_55 rfl ?_
    refine hf_icmp_gt (tgt := 107) gc dX3_findBar_57 (by decide) ?_ ?_
    · refine hf_iconst (v := 0) gc dX3_findBar_107 (by decide) ?_
      exact hf_iret g dX3_findBar_108 rfl
    · refine hf_iload (i := 6) (q := 6) gc dX3_findBar_60 rfl ?_
      refine hf_iload (i := 5) (q := 5) gc dX3_findBar_62 rfl ?_
      refine hf_icmp_ne (tgt := 101) gc dX3_findBar_64 (by decide) ?_ ?_
      · refine hf_iinc (q := 6) (v' := l6 + (1 : Int32)) (lv' := [(6, .int (l6 + (1 : Int32))), (0, .ref (ad 9)), (1, .int l1), (2, .int l2), (3, .int l3), (4, .int l4), (5, .int l5)]) gc dX3_findBar_101 rfl rfl (by decide) rfl ?_
        refine hf_goto (tgt := 53) gc dX3_findBar_104 (by decide) ?_
        refine hf_sub (lv' := [(0, .ref (ad 9)), (1, .int l1), (2, .int l2), (3, .int l3), (4, .int l4), (5, .int l5), (6, .int (l6 + (1 : Int32)))]) [1, 2, 3, 4, 5, 6, 0] rfl ?_
        exact ih _ _ _ _ _ _ _
      · refine hf_aload_n (i := 0) (q := 0) gc dX3_findBar_67 rfl rfl ?_
        refine hf_iload_n (i := 1) (q := 1) gc dX3_findBar_68 rfl rfl ?_
        refine hf_iload_n (i := 2) (q := 2) gc dX3_findBar_69 rfl rfl ?_
        refine hf_iload (i := 6) (q := 6) gc dX3_findBar_70 rfl ?_
        refine hf_iload_n (i := 3) (q := 3) gc dX3_findBar_72 rfl rfl ?_
        refine hf_callV2 (j := 9) g (cc_judge_barOn (a1 := l1) (a2 := l2) (a3 := l6) (a4 := l3)) kV_RX3_60 (by decide) (by decide) rfl rfl rfl rfl (Nat.le_of_ble_eq_true rfl) dX3_findBar_73 (fun v1 s2 => ?_)
        refine hf_istore (i := 7) (lv' := [(7, .int v1), (0, .ref (ad 9)), (1, .int l1), (2, .int l2), (3, .int l3), (4, .int l4), (5, .int l5), (6, .int l6)]) gc dX3_findBar_76 (by decide) rfl ?_
        refine hf_iload (i := 7) (q := 0) gc dX3_findBar_78 rfl ?_
        refine hf_if_eq (tgt := 92) gc dX3_findBar_80 (by decide) ?_ ?_
        · refine hf_aload_n (i := 0) (q := 1) gc dX3_findBar_92 rfl rfl ?_
          refine hf_iload_n (i := 2) (q := 3) gc dX3_findBar_93 rfl rfl ?_
          refine hf_iload (i := 6) (q := 7) gc dX3_findBar_94 rfl ?_
          refine hf_callV1 (j := 9) g (cc_judge_turnBehind (a1 := l2) (a2 := l6)) kV_RX3_64 (by decide) (by decide) rfl rfl rfl rfl (Nat.le_of_ble_eq_true rfl) dX3_findBar_96 (fun v3 => ?_)
          refine hf_istore (i := 5) (lv' := [(5, .int v3), (7, .int v1), (0, .ref (ad 9)), (1, .int l1), (2, .int l2), (3, .int l3), (4, .int l4), (6, .int l6)]) gc dX3_findBar_99 (by decide) rfl ?_
          refine hf_iinc (q := 7) (v' := l6 + (1 : Int32)) (lv' := [(6, .int (l6 + (1 : Int32))), (5, .int v3), (7, .int v1), (0, .ref (ad 9)), (1, .int l1), (2, .int l2), (3, .int l3), (4, .int l4)]) gc dX3_findBar_101 rfl rfl (by decide) rfl ?_
          refine hf_goto (tgt := 53) gc dX3_findBar_104 (by decide) ?_
          refine hf_sub (lv' := [(0, .ref (ad 9)), (1, .int l1), (2, .int l2), (3, .int l3), (4, .int l4), (5, .int v3), (6, .int (l6 + (1 : Int32)))]) [3, 4, 5, 6, 7, 1, 0] rfl ?_
          exact ih _ _ _ _ _ _ _
        · refine hf_aload_n (i := 0) (q := 1) gc dX3_findBar_83 rfl rfl ?_
          refine hf_iload (i := 6) (q := 7) gc dX3_findBar_84 rfl ?_
          refine hf_putI (j := 9) (k := 6) g rfl rfl kP_RX3_18 rfl rfl dX3_findBar_86 (fun s4 => ?_)
          refine hf_iload (i := 7) (q := 0) gc dX3_findBar_89 rfl ?_
          exact hf_iret g dX3_findBar_91 rfl
set_option maxHeartbeats 2000000 in
set_option maxRecDepth 20000 in
theorem xc_judge_findBar {x : hf_Cx} {ad : Nat → Nat} {cA : Nat → ClassId} {E : State → Prop} {A : Nat → Prop} {l0 : Launch} {D0 : va_G} (g : hf_G x hcT ad cA E A l0 D0 cX3_findBar 8 RX3 (some .int) 4) {s : hf_St} {a1 : Int32} {a2 : Int32} {a3 : Int32} : hf_X x A 8 (0, 0) (hf_Q x hcT ad cA A hf_ri) (Fc_judge_findBar s a1 a2 a3) (hf_wd hcT ad cA s) 0 [(0, .ref (ad 9)), (1, .int a1), (2, .int a2), (3, .int a3)] [] := by
  have gc := g.1
  unfold Fc_judge_findBar
  refine hf_aload_n (i := 0) (q := 0) gc dX3_findBar_0 rfl rfl ?_
  refine hf_iconst (v := -1) gc dX3_findBar_1 (by decide) ?_
  refine hf_putI (j := 9) (k := 6) g rfl rfl kP_RX3_18 rfl rfl dX3_findBar_2 (fun s1 => ?_)
  refine hf_aload_n (i := 0) (q := 0) gc dX3_findBar_5 rfl rfl ?_
  refine hf_getR (j := 9) (k := 0) (r := 1) g rfl rfl kF_RX3_22 dX3_findBar_6 ?_
  refine hf_iload_n (i := 1) (q := 1) gc dX3_findBar_9 rfl rfl ?_
  refine hf_callV1 (j := 1) g (cc_children_hasNeed (a1 := a1)) kV_RX3_42 (by decide) (by decide) rfl rfl rfl rfl (Nat.le_of_ble_eq_true rfl) dX3_findBar_10 (fun v2 => ?_)
  refine hf_if_eq (tgt := 27) gc dX3_findBar_13 (by decide) ?_ ?_
  · refine hf_iconst (v := -1) gc dX3_findBar_27 (by decide) ?_
    exact hf_iret g dX3_findBar_28 rfl
  · refine hf_aload_n (i := 0) (q := 0) gc dX3_findBar_16 rfl rfl ?_
    refine hf_getR (j := 9) (k := 1) (r := 2) g rfl rfl kF_RX3_26 dX3_findBar_17 ?_
    refine hf_iload_n (i := 2) (q := 2) gc dX3_findBar_20 rfl rfl ?_
    refine hf_callV1 (j := 2) g (cc_homes_has (a1 := a2)) kV_RX3_48 (by decide) (by decide) rfl rfl rfl rfl (Nat.le_of_ble_eq_true rfl) dX3_findBar_21 (fun v3 => ?_)
    refine hf_if_ne (tgt := 29) gc dX3_findBar_24 (by decide) ?_ ?_
    · refine hf_aload_n (i := 0) (q := 0) gc dX3_findBar_29 rfl rfl ?_
      refine hf_getR (j := 9) (k := 0) (r := 1) g rfl rfl kF_RX3_22 dX3_findBar_30 ?_
      refine hf_iload_n (i := 1) (q := 1) gc dX3_findBar_33 rfl rfl ?_
      refine hf_callV1 (j := 1) g (cc_children_lastDay (a1 := a1)) kV_RX3_53 (by decide) (by decide) rfl rfl rfl rfl (Nat.le_of_ble_eq_true rfl) dX3_findBar_34 (fun v4 => ?_)
      refine hf_istore (i := 4) (lv' := [(4, .int v4), (0, .ref (ad 9)), (1, .int a1), (2, .int a2), (3, .int a3)]) gc dX3_findBar_37 (by decide) rfl ?_
      refine hf_aload_n (i := 0) (q := 1) gc dX3_findBar_39 rfl rfl ?_
      refine hf_getR (j := 9) (k := 0) (r := 1) g rfl rfl kF_RX3_22 dX3_findBar_40 ?_
      refine hf_iload_n (i := 1) (q := 2) gc dX3_findBar_43 rfl rfl ?_
      refine hf_callV1 (j := 1) g (cc_children_firstDay (a1 := a1)) kV_RX3_57 (by decide) (by decide) rfl rfl rfl rfl (Nat.le_of_ble_eq_true rfl) dX3_findBar_44 (fun v5 => ?_)
      refine hf_istore (i := 5) (lv' := [(5, .int v5), (4, .int v4), (0, .ref (ad 9)), (1, .int a1), (2, .int a2), (3, .int a3)]) gc dX3_findBar_47 (by decide) rfl ?_
      refine hf_iload (i := 5) (q := 0) gc dX3_findBar_49 rfl ?_
      refine hf_istore (i := 6) (lv' := [(6, .int v5), (5, .int v5), (4, .int v4), (0, .ref (ad 9)), (1, .int a1), (2, .int a2), (3, .int a3)]) gc dX3_findBar_51 (by decide) rfl ?_
      refine hf_sub (lv' := [(0, .ref (ad 9)), (1, .int a1), (2, .int a2), (3, .int a3), (4, .int v4), (5, .int v5), (6, .int v5)]) [3, 4, 5, 6, 2, 1, 0] rfl ?_
      exact xc_judge_findBar_l53 g hf_fuel _ _ _ _ _ _ _
    · refine hf_iconst (v := -1) gc dX3_findBar_27 (by decide) ?_
      exact hf_iret g dX3_findBar_28 rfl
theorem cc_judge_findBar {l0 : Launch} {D0 : va_G} {ad : Nat → Nat} {cA : Nat → ClassId} {E : State → Prop} {s : hf_St} {a1 : Int32} {a2 : Int32} {a3 : Int32} : hf_Ct l0 D0 hcT ad cA E 4 yX3_findBar cX3_findBar 8 (some .int) [.ref (ad 9), .int a1, .int a2, .int a3] s (Fc_judge_findBar s a1 a2 a3) hf_ri := hf_met (by decide) (Nat.le_of_ble_eq_true rfl) (fun _ _ g => xc_judge_findBar g)
set_option maxHeartbeats 2000000 in
set_option maxRecDepth 20000 in
theorem xc_hf_bars {x : hf_Cx} {ad : Nat → Nat} {cA : Nat → ClassId} {E : State → Prop} {A : Nat → Prop} {l0 : Launch} {D0 : va_G} (g : hf_G x hcT ad cA E A l0 D0 cX11_bars 3 RX11 (some .int) 5) {s : hf_St} {a1 : Int32} {a2 : Int32} : hf_X x A 3 (0, 0) (hf_Q x hcT ad cA A hf_ri) (Fc_hf_bars s a1 a2) (hf_wd hcT ad cA s) 0 [(0, .ref (ad 0)), (1, .int a1), (2, .int a2)] [] := by
  have gc := g.1
  unfold Fc_hf_bars
  refine hf_aload_n (i := 0) (q := 0) gc dX11_bars_0 rfl rfl ?_
  refine hf_getR (j := 0) (k := 7) (r := 9) g rfl rfl kF_RX11_65 dX11_bars_1 ?_
  refine hf_iload_n (i := 1) (q := 1) gc dX11_bars_4 rfl rfl ?_
  refine hf_iload_n (i := 2) (q := 2) gc dX11_bars_5 rfl rfl ?_
  refine hf_aload_n (i := 0) (q := 0) gc dX11_bars_6 rfl rfl ?_
  refine hf_getI (j := 0) (k := 10) g rfl rfl kF_RX11_85 dX11_bars_7 ?_
  refine hf_callV2 (j := 9) g (cc_judge_findBar (a1 := a1) (a2 := a2) (a3 := s.1 0 10)) kV_RX11_160 (by decide) (by decide) rfl rfl rfl rfl (Nat.le_of_ble_eq_true rfl) dX11_bars_10 (fun v1 s2 => ?_)
  exact hf_iret g dX11_bars_13 rfl
theorem cc_hf_bars {l0 : Launch} {D0 : va_G} {ad : Nat → Nat} {cA : Nat → ClassId} {E : State → Prop} {s : hf_St} {a1 : Int32} {a2 : Int32} : hf_Ct l0 D0 hcT ad cA E 5 yX11_bars cX11_bars 3 (some .int) [.ref (ad 0), .int a1, .int a2] s (Fc_hf_bars s a1 a2) hf_ri := hf_met (by decide) (Nat.le_of_ble_eq_true rfl) (fun _ _ g => xc_hf_bars g)
set_option maxHeartbeats 2000000 in
set_option maxRecDepth 20000 in
theorem xc_judge_barDay {x : hf_Cx} {ad : Nat → Nat} {cA : Nat → ClassId} {E : State → Prop} {A : Nat → Prop} {l0 : Launch} {D0 : va_G} (g : hf_G x hcT ad cA E A l0 D0 cX3_barDay 1 RX3 (some .int) 0) {s : hf_St} : hf_X x A 1 (0, 0) (hf_Q x hcT ad cA A (hf_rp s)) (Fc_judge_barDay s) (hf_wd hcT ad cA s) 0 [(0, .ref (ad 9))] [] := by
  have gc := g.1
  unfold Fc_judge_barDay
  refine hf_aload_n (i := 0) (q := 0) gc dX3_barDay_0 rfl rfl ?_
  refine hf_getI (j := 9) (k := 6) g rfl rfl kF_RX3_18 dX3_barDay_1 ?_
  exact hf_iret g dX3_barDay_4 rfl
theorem cc_judge_barDay {l0 : Launch} {D0 : va_G} {ad : Nat → Nat} {cA : Nat → ClassId} {E : State → Prop} {s : hf_St} : hf_Ct l0 D0 hcT ad cA E 0 yX3_barDay cX3_barDay 1 (some .int) [.ref (ad 9)] s (Fc_judge_barDay s) (hf_rp s) := hf_met (by decide) (Nat.le_of_ble_eq_true rfl) (fun _ _ g => xc_judge_barDay g)
set_option maxHeartbeats 2000000 in
set_option maxRecDepth 20000 in
theorem xc_hf_barred {x : hf_Cx} {ad : Nat → Nat} {cA : Nat → ClassId} {E : State → Prop} {A : Nat → Prop} {l0 : Launch} {D0 : va_G} (g : hf_G x hcT ad cA E A l0 D0 cX11_barred 3 RX11 (some .int) 5) {s : hf_St} {a1 : Int32} {a2 : Int32} : hf_X x A 3 (0, 0) (hf_Q x hcT ad cA A hf_ri) (Fc_hf_barred s a1 a2) (hf_wd hcT ad cA s) 0 [(0, .ref (ad 0)), (1, .int a1), (2, .int a2)] [] := by
  have gc := g.1
  unfold Fc_hf_barred
  refine hf_aload_n (i := 0) (q := 0) gc dX11_barred_0 rfl rfl ?_
  refine hf_getR (j := 0) (k := 7) (r := 9) g rfl rfl kF_RX11_65 dX11_barred_1 ?_
  refine hf_iload_n (i := 1) (q := 1) gc dX11_barred_4 rfl rfl ?_
  refine hf_iload_n (i := 2) (q := 2) gc dX11_barred_5 rfl rfl ?_
  refine hf_aload_n (i := 0) (q := 0) gc dX11_barred_6 rfl rfl ?_
  refine hf_getI (j := 0) (k := 10) g rfl rfl kF_RX11_85 dX11_barred_7 ?_
  refine hf_callV2 (j := 9) g (cc_judge_findBar (a1 := a1) (a2 := a2) (a3 := s.1 0 10)) kV_RX11_160 (by decide) (by decide) rfl rfl rfl rfl (Nat.le_of_ble_eq_true rfl) dX11_barred_10 (fun v1 s2 => ?_)
  refine hf_pop gc dX11_barred_13 rfl ?_
  refine hf_aload_n (i := 0) (q := 0) gc dX11_barred_14 rfl rfl ?_
  refine hf_getR (j := 0) (k := 7) (r := 9) g rfl rfl kF_RX11_65 dX11_barred_15 ?_
  refine hf_callV1 (j := 9) g (cc_judge_barDay) kV_RX11_163 (by decide) (by decide) rfl rfl rfl rfl (Nat.le_of_ble_eq_true rfl) dX11_barred_18 (fun v3 => ?_)
  exact hf_iret g dX11_barred_21 rfl
theorem cc_hf_barred {l0 : Launch} {D0 : va_G} {ad : Nat → Nat} {cA : Nat → ClassId} {E : State → Prop} {s : hf_St} {a1 : Int32} {a2 : Int32} : hf_Ct l0 D0 hcT ad cA E 5 yX11_barred cX11_barred 3 (some .int) [.ref (ad 0), .int a1, .int a2] s (Fc_hf_barred s a1 a2) hf_ri := hf_met (by decide) (Nat.le_of_ble_eq_true rfl) (fun _ _ g => xc_hf_barred g)
set_option maxHeartbeats 2000000 in
set_option maxRecDepth 20000 in
theorem xc_book_wishSum_l4 {x : hf_Cx} {ad : Nat → Nat} {cA : Nat → ClassId} {E : State → Prop} {A : Nat → Prop} {l0 : Launch} {D0 : va_G} {s : hf_St} (g : hf_G x hcT ad cA E A l0 D0 cX7_wishSum 4 RX7 (some .int) 2) : ∀ (n : Nat) (l2 : Int32) (l3 : Int32), hf_X x A 4 (0, 0) (hf_Q x hcT ad cA A (hf_rp s)) (Fc_book_wishSum_l4 s n l2 l3) (hf_wd hcT ad cA s) 4 [(0, .ref (ad 6)), (1, .ref (ad 10)), (2, .int l2), (3, .int l3)] [] := by
  have gc := g.1
  intro n
  induction n with
  | zero => intro l2 l3; exact hf_none
  | succ n ih =>
    intro l2 l3
    rw [Fc_book_wishSum_l4]
    refine hf_iload_n (i := 3) (q := 3) gc dX7_wishSum_4 rfl rfl ?_
    refine hf_aload_n (i := 0) (q := 0) gc dX7_wishSum_5 rfl rfl ?_
    refine hf_getI (j := 6) (k := 6) g rfl rfl kF_RX7_30 dX7_wishSum_6 ?_
    refine hf_icmp_ge (tgt := 46) gc dX7_wishSum_9 (by decide) ?_ ?_
    · refine hf_iload_n (i := 2) (q := 2) gc dX7_wishSum_46 rfl rfl ?_
      exact hf_iret g dX7_wishSum_47 rfl
    · refine hf_aload_n (i := 0) (q := 0) gc dX7_wishSum_12 rfl rfl ?_
      refine hf_getR (j := 6) (k := 0) (r := 29) g rfl rfl kF_RX7_11 dX7_wishSum_13 ?_
      refine hf_iload_n (i := 3) (q := 3) gc dX7_wishSum_16 rfl rfl ?_
      refine hf_iald (a := 16) (r := 29) (n := 20) g rfl rfl dX7_wishSum_17 ?_
      refine hf_iconst (v := 2) gc dX7_wishSum_18 (by decide) ?_
      refine hf_icmp_ne (tgt := 40) gc dX7_wishSum_19 (by decide) ?_ ?_
      · refine hf_iinc (q := 3) (v' := l3 + (1 : Int32)) (lv' := [(3, .int (l3 + (1 : Int32))), (0, .ref (ad 6)), (1, .ref (ad 10)), (2, .int l2)]) gc dX7_wishSum_40 rfl rfl (by decide) rfl ?_
        refine hf_goto (tgt := 4) gc dX7_wishSum_43 (by decide) ?_
        refine hf_sub (lv' := [(0, .ref (ad 6)), (1, .ref (ad 10)), (2, .int l2), (3, .int (l3 + (1 : Int32)))]) [1, 2, 3, 0] rfl ?_
        exact ih _ _
      · refine hf_aload_n (i := 0) (q := 0) gc dX7_wishSum_22 rfl rfl ?_
        refine hf_iload_n (i := 3) (q := 3) gc dX7_wishSum_23 rfl rfl ?_
        refine hf_aload_n (i := 1) (q := 1) gc dX7_wishSum_24 rfl rfl ?_
        refine hf_callV1 (j := 6) g (cc_book_isSo (a1 := l3)) kV_RX7_40 (by decide) (by decide) rfl rfl rfl rfl (Nat.le_of_ble_eq_true rfl) dX7_wishSum_25 (fun v1 => ?_)
        refine hf_if_eq (tgt := 40) gc dX7_wishSum_28 (by decide) ?_ ?_
        · refine hf_iinc (q := 3) (v' := l3 + (1 : Int32)) (lv' := [(3, .int (l3 + (1 : Int32))), (0, .ref (ad 6)), (1, .ref (ad 10)), (2, .int l2)]) gc dX7_wishSum_40 rfl rfl (by decide) rfl ?_
          refine hf_goto (tgt := 4) gc dX7_wishSum_43 (by decide) ?_
          refine hf_sub (lv' := [(0, .ref (ad 6)), (1, .ref (ad 10)), (2, .int l2), (3, .int (l3 + (1 : Int32)))]) [1, 2, 3, 0] rfl ?_
          exact ih _ _
        · refine hf_iload_n (i := 2) (q := 2) gc dX7_wishSum_31 rfl rfl ?_
          refine hf_aload_n (i := 0) (q := 0) gc dX7_wishSum_32 rfl rfl ?_
          refine hf_getR (j := 6) (k := 1) (r := 30) g rfl rfl kF_RX7_15 dX7_wishSum_33 ?_
          refine hf_iload_n (i := 3) (q := 3) gc dX7_wishSum_36 rfl rfl ?_
          refine hf_iald (a := 17) (r := 30) (n := 20) g rfl rfl dX7_wishSum_37 ?_
          refine hf_iadd gc dX7_wishSum_38 ?_
          refine hf_let (fun v2 => ?_)
          refine hf_istore_n (i := 2) (lv' := [(2, .int v2), (0, .ref (ad 6)), (1, .ref (ad 10)), (3, .int l3)]) gc dX7_wishSum_39 rfl (by decide) rfl ?_
          refine hf_iinc (q := 3) (v' := l3 + (1 : Int32)) (lv' := [(3, .int (l3 + (1 : Int32))), (2, .int v2), (0, .ref (ad 6)), (1, .ref (ad 10))]) gc dX7_wishSum_40 rfl rfl (by decide) rfl ?_
          refine hf_goto (tgt := 4) gc dX7_wishSum_43 (by decide) ?_
          refine hf_sub (lv' := [(0, .ref (ad 6)), (1, .ref (ad 10)), (2, .int v2), (3, .int (l3 + (1 : Int32)))]) [2, 3, 1, 0] rfl ?_
          exact ih _ _
set_option maxHeartbeats 2000000 in
set_option maxRecDepth 20000 in
theorem xc_book_wishSum {x : hf_Cx} {ad : Nat → Nat} {cA : Nat → ClassId} {E : State → Prop} {A : Nat → Prop} {l0 : Launch} {D0 : va_G} (g : hf_G x hcT ad cA E A l0 D0 cX7_wishSum 4 RX7 (some .int) 2) {s : hf_St} : hf_X x A 4 (0, 0) (hf_Q x hcT ad cA A (hf_rp s)) (Fc_book_wishSum s) (hf_wd hcT ad cA s) 0 [(0, .ref (ad 6)), (1, .ref (ad 10))] [] := by
  have gc := g.1
  unfold Fc_book_wishSum
  refine hf_iconst (v := 0) gc dX7_wishSum_0 (by decide) ?_
  refine hf_istore_n (i := 2) (lv' := [(2, .int ((0 : Int32))), (0, .ref (ad 6)), (1, .ref (ad 10))]) gc dX7_wishSum_1 rfl (by decide) rfl ?_
  refine hf_iconst (v := 0) gc dX7_wishSum_2 (by decide) ?_
  refine hf_istore_n (i := 3) (lv' := [(3, .int ((0 : Int32))), (2, .int ((0 : Int32))), (0, .ref (ad 6)), (1, .ref (ad 10))]) gc dX7_wishSum_3 rfl (by decide) rfl ?_
  refine hf_sub (lv' := [(0, .ref (ad 6)), (1, .ref (ad 10)), (2, .int ((0 : Int32))), (3, .int ((0 : Int32)))]) [2, 3, 1, 0] rfl ?_
  exact xc_book_wishSum_l4 g hf_fuel _ _
theorem cc_book_wishSum {l0 : Launch} {D0 : va_G} {ad : Nat → Nat} {cA : Nat → ClassId} {E : State → Prop} {s : hf_St} : hf_Ct l0 D0 hcT ad cA E 2 yX7_wishSum cX7_wishSum 4 (some .int) [.ref (ad 6), .ref (ad 10)] s (Fc_book_wishSum s) (hf_rp s) := hf_met (by decide) (Nat.le_of_ble_eq_true rfl) (fun _ _ g => xc_book_wishSum g)
set_option maxHeartbeats 2000000 in
set_option maxRecDepth 20000 in
theorem xc_judge_wishOf {x : hf_Cx} {ad : Nat → Nat} {cA : Nat → ClassId} {E : State → Prop} {A : Nat → Prop} {l0 : Launch} {D0 : va_G} (g : hf_G x hcT ad cA E A l0 D0 cX3_wishOf 4 RX3 (some .int) 3) {s : hf_St} {a1 : Int32} {a2 : Int32} {a3 : Int32} : hf_X x A 4 (0, 0) (hf_Q x hcT ad cA A hf_ri) (Fc_judge_wishOf s a1 a2 a3) (hf_wd hcT ad cA s) 0 [(0, .ref (ad 9)), (1, .int a1), (2, .int a2), (3, .int a3)] [] := by
  have gc := g.1
  unfold Fc_judge_wishOf
  refine hf_aload_n (i := 0) (q := 0) gc dX3_wishOf_0 rfl rfl ?_
  refine hf_getR (j := 9) (k := 0) (r := 1) g rfl rfl kF_RX3_22 dX3_wishOf_1 ?_
  refine hf_iload_n (i := 1) (q := 1) gc dX3_wishOf_4 rfl rfl ?_
  refine hf_callV1 (j := 1) g (cc_children_hasNeed (a1 := a1)) kV_RX3_42 (by decide) (by decide) rfl rfl rfl rfl (Nat.le_of_ble_eq_true rfl) dX3_wishOf_5 (fun v1 => ?_)
  refine hf_if_eq (tgt := 22) gc dX3_wishOf_8 (by decide) ?_ ?_
  · refine hf_iconst (v := -1) gc dX3_wishOf_22 (by decide) ?_
    exact hf_iret g dX3_wishOf_23 rfl
  · refine hf_aload_n (i := 0) (q := 0) gc dX3_wishOf_11 rfl rfl ?_
    refine hf_getR (j := 9) (k := 1) (r := 2) g rfl rfl kF_RX3_26 dX3_wishOf_12 ?_
    refine hf_iload_n (i := 2) (q := 2) gc dX3_wishOf_15 rfl rfl ?_
    refine hf_callV1 (j := 2) g (cc_homes_has (a1 := a2)) kV_RX3_48 (by decide) (by decide) rfl rfl rfl rfl (Nat.le_of_ble_eq_true rfl) dX3_wishOf_16 (fun v2 => ?_)
    refine hf_if_ne (tgt := 24) gc dX3_wishOf_19 (by decide) ?_ ?_
    · refine hf_aload_n (i := 0) (q := 0) gc dX3_wishOf_24 rfl rfl ?_
      refine hf_getR (j := 9) (k := 3) (r := 4) g rfl rfl kF_RX3_34 dX3_wishOf_25 ?_
      refine hf_aload_n (i := 0) (q := 0) gc dX3_wishOf_28 rfl rfl ?_
      refine hf_getR (j := 9) (k := 5) (r := 10) g rfl rfl kF_RX3_12 dX3_wishOf_29 ?_
      refine hf_iload_n (i := 1) (q := 1) gc dX3_wishOf_32 rfl rfl ?_
      refine hf_iload_n (i := 2) (q := 2) gc dX3_wishOf_33 rfl rfl ?_
      refine hf_aload_n (i := 0) (q := 0) gc dX3_wishOf_34 rfl rfl ?_
      refine hf_getR (j := 9) (k := 0) (r := 1) g rfl rfl kF_RX3_22 dX3_wishOf_35 ?_
      refine hf_iload_n (i := 1) (q := 1) gc dX3_wishOf_38 rfl rfl ?_
      refine hf_callV1 (j := 1) g (cc_children_firstDay (a1 := a1)) kV_RX3_57 (by decide) (by decide) rfl rfl rfl rfl (Nat.le_of_ble_eq_true rfl) dX3_wishOf_39 (fun v3 => ?_)
      refine hf_iload_n (i := 3) (q := 3) gc dX3_wishOf_42 rfl rfl ?_
      refine hf_callV0 (j := 4) g (cc_facts_layOut (a1 := a1) (a2 := a2) (a3 := v3) (a4 := a3)) kV_RX3_76 (by decide) (by decide) rfl rfl rfl rfl (Nat.le_of_ble_eq_true rfl) dX3_wishOf_43 (fun s4 => ?_)
      refine hf_aload_n (i := 0) (q := 0) gc dX3_wishOf_46 rfl rfl ?_
      refine hf_getR (j := 9) (k := 4) (r := 6) g rfl rfl kF_RX3_38 dX3_wishOf_47 ?_
      refine hf_aload_n (i := 0) (q := 0) gc dX3_wishOf_50 rfl rfl ?_
      refine hf_getR (j := 9) (k := 5) (r := 10) g rfl rfl kF_RX3_12 dX3_wishOf_51 ?_
      refine hf_callV1 (j := 6) g (cc_book_wishSum) kV_RX3_100 (by decide) (by decide) rfl rfl rfl rfl (Nat.le_of_ble_eq_true rfl) dX3_wishOf_54 (fun v5 => ?_)
      exact hf_iret g dX3_wishOf_57 rfl
    · refine hf_iconst (v := -1) gc dX3_wishOf_22 (by decide) ?_
      exact hf_iret g dX3_wishOf_23 rfl
theorem cc_judge_wishOf {l0 : Launch} {D0 : va_G} {ad : Nat → Nat} {cA : Nat → ClassId} {E : State → Prop} {s : hf_St} {a1 : Int32} {a2 : Int32} {a3 : Int32} : hf_Ct l0 D0 hcT ad cA E 3 yX3_wishOf cX3_wishOf 4 (some .int) [.ref (ad 9), .int a1, .int a2, .int a3] s (Fc_judge_wishOf s a1 a2 a3) hf_ri := hf_met (by decide) (Nat.le_of_ble_eq_true rfl) (fun _ _ g => xc_judge_wishOf g)
set_option maxHeartbeats 2000000 in
set_option maxRecDepth 20000 in
theorem xc_hf_wish {x : hf_Cx} {ad : Nat → Nat} {cA : Nat → ClassId} {E : State → Prop} {A : Nat → Prop} {l0 : Launch} {D0 : va_G} (g : hf_G x hcT ad cA E A l0 D0 cX11_wish 3 RX11 (some .int) 4) {s : hf_St} {a1 : Int32} {a2 : Int32} : hf_X x A 3 (0, 0) (hf_Q x hcT ad cA A hf_ri) (Fc_hf_wish s a1 a2) (hf_wd hcT ad cA s) 0 [(0, .ref (ad 0)), (1, .int a1), (2, .int a2)] [] := by
  have gc := g.1
  unfold Fc_hf_wish
  refine hf_aload_n (i := 0) (q := 0) gc dX11_wish_0 rfl rfl ?_
  refine hf_getR (j := 0) (k := 7) (r := 9) g rfl rfl kF_RX11_65 dX11_wish_1 ?_
  refine hf_iload_n (i := 1) (q := 1) gc dX11_wish_4 rfl rfl ?_
  refine hf_iload_n (i := 2) (q := 2) gc dX11_wish_5 rfl rfl ?_
  refine hf_aload_n (i := 0) (q := 0) gc dX11_wish_6 rfl rfl ?_
  refine hf_getI (j := 0) (k := 10) g rfl rfl kF_RX11_85 dX11_wish_7 ?_
  refine hf_callV2 (j := 9) g (cc_judge_wishOf (a1 := a1) (a2 := a2) (a3 := s.1 0 10)) kV_RX11_166 (by decide) (by decide) rfl rfl rfl rfl (Nat.le_of_ble_eq_true rfl) dX11_wish_10 (fun v1 s2 => ?_)
  exact hf_iret g dX11_wish_13 rfl
theorem cc_hf_wish {l0 : Launch} {D0 : va_G} {ad : Nat → Nat} {cA : Nat → ClassId} {E : State → Prop} {s : hf_St} {a1 : Int32} {a2 : Int32} : hf_Ct l0 D0 hcT ad cA E 4 yX11_wish cX11_wish 3 (some .int) [.ref (ad 0), .int a1, .int a2] s (Fc_hf_wish s a1 a2) hf_ri := hf_met (by decide) (Nat.le_of_ble_eq_true rfl) (fun _ _ g => xc_hf_wish g)
