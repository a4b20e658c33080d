set_option maxHeartbeats 2000000 in
set_option maxRecDepth 20000 in
theorem xc_draft_clear {x : hf_Cx} {ad : Nat → Nat} {cA : Nat → ClassId} {E : State → Prop} {A : Nat → Prop} {l0 : Launch} {D0 : va_G} (g : hf_G x hcT ad cA E A l0 D0 cX7_clear 1 RX7 none 0) {s : hf_St} : hf_X x A 1 (0, 0) (hf_Q x hcT ad cA A hf_rv) (Fc_draft_clear s) (hf_wd hcT ad cA s) 0 [(0, .ref (ad 8))] [] := by
  have gc := g.1
  unfold Fc_draft_clear
  refine hf_aload_n (i := 0) (q := 0) gc dX7_clear_0 rfl rfl ?_
  refine hf_iconst (v := 0) gc dX7_clear_1 (by decide) ?_
  refine hf_putI (j := 8) (k := 6) g rfl rfl kP_RX7_30 rfl rfl dX7_clear_2 (fun s1 => ?_)
  exact hf_vret g dX7_clear_5 rfl
theorem cc_draft_clear {l0 : Launch} {D0 : va_G} {ad : Nat → Nat} {cA : Nat → ClassId} {E : State → Prop} {s : hf_St} : hf_Ct l0 D0 hcT ad cA E 0 yX7_clear cX7_clear 1 none [.ref (ad 8)] s (Fc_draft_clear s) hf_rv := hf_met (by decide) (Nat.le_of_ble_eq_true rfl) (fun _ _ g => xc_draft_clear g)
set_option maxHeartbeats 2000000 in
set_option maxRecDepth 20000 in
theorem xc_tape_byteAt {x : hf_Cx} {ad : Nat → Nat} {cA : Nat → ClassId} {E : State → Prop} {A : Nat → Prop} {l0 : Launch} {D0 : va_G} (g : hf_G x hcT ad cA E A l0 D0 cX10_byteAt 2 RX10 (some .int) 0) {s : hf_St} {a1 : Int32} : hf_X x A 2 (0, 0) (hf_Q x hcT ad cA A (hf_rp s)) (Fc_tape_byteAt s a1) (hf_wd hcT ad cA s) 0 [(0, .ref (ad 5)), (1, .int a1)] [] := by
  have gc := g.1
  unfold Fc_tape_byteAt
  refine hf_iload_n (i := 1) (q := 1) gc dX10_byteAt_0 rfl rfl ?_
  refine hf_if_lt (tgt := 21) gc dX10_byteAt_1 (by decide) ?_ ?_
  · refine hf_iconst (v := -1) gc dX10_byteAt_21 (by decide) ?_
    exact hf_iret g dX10_byteAt_22 rfl
  · refine hf_iload_n (i := 1) (q := 1) gc dX10_byteAt_4 rfl rfl ?_
    refine hf_aload_n (i := 0) (q := 0) gc dX10_byteAt_5 rfl rfl ?_
    refine hf_getI (j := 5) (k := 1) g rfl rfl kF_RX10_15 dX10_byteAt_6 ?_
    refine hf_icmp_ge (tgt := 21) gc dX10_byteAt_9 (by decide) ?_ ?_
    · refine hf_iconst (v := -1) gc dX10_byteAt_21 (by decide) ?_
      exact hf_iret g dX10_byteAt_22 rfl
    · refine hf_aload_n (i := 0) (q := 0) gc dX10_byteAt_12 rfl rfl ?_
      refine hf_getR (j := 5) (k := 0) (r := 28) g rfl rfl kF_RX10_9 dX10_byteAt_13 ?_
      refine hf_iload_n (i := 1) (q := 1) gc dX10_byteAt_16 rfl rfl ?_
      refine hf_iald (a := 15) (r := 28) (n := 500) g rfl rfl dX10_byteAt_17 ?_
      refine hf_goto (tgt := 22) gc dX10_byteAt_18 (by decide) ?_
      exact hf_iret g dX10_byteAt_22 rfl
theorem cc_tape_byteAt {l0 : Launch} {D0 : va_G} {ad : Nat → Nat} {cA : Nat → ClassId} {E : State → Prop} {s : hf_St} {a1 : Int32} : hf_Ct l0 D0 hcT ad cA E 0 yX10_byteAt cX10_byteAt 2 (some .int) [.ref (ad 5), .int a1] s (Fc_tape_byteAt s a1) (hf_rp s) := hf_met (by decide) (Nat.le_of_ble_eq_true rfl) (fun _ _ g => xc_tape_byteAt g)
set_option maxHeartbeats 2000000 in
set_option maxRecDepth 20000 in
theorem xc_reader_isOfWord_b12 {x : hf_Cx} {ad : Nat → Nat} {cA : Nat → ClassId} {E : State → Prop} {A : Nat → Prop} {l0 : Launch} {D0 : va_G} {s : hf_St} (g : hf_G x hcT ad cA E A l0 D0 cX8_isOfWord 1 RX8 (some .boolean) 0) (l0 : Int32) : hf_X x A 1 (0, 0) (hf_Q x hcT ad cA A (hf_rp s)) (Fc_reader_isOfWord_b12 s l0) (hf_wd hcT ad cA s) 12 [(0, .int l0)] [] := by
  have gc := g.1
  unfold Fc_reader_isOfWord_b12
  refine hf_iload_n (i := 0) (q := 0) gc dX8_isOfWord_12 rfl rfl ?_
  refine hf_bipush (v := 48) gc dX8_isOfWord_13 (by decide) ?_
  refine hf_icmp_lt (tgt := 28) gc dX8_isOfWord_15 (by decide) ?_ ?_
  · refine hf_iconst (v := 0) gc dX8_isOfWord_28 (by decide) ?_
    exact hf_zret g dX8_isOfWord_29 rfl
  · refine hf_iload_n (i := 0) (q := 0) gc dX8_isOfWord_18 rfl rfl ?_
    refine hf_bipush (v := 57) gc dX8_isOfWord_19 (by decide) ?_
    refine hf_icmp_gt (tgt := 28) gc dX8_isOfWord_21 (by decide) ?_ ?_
    · refine hf_iconst (v := 0) gc dX8_isOfWord_28 (by decide) ?_
      exact hf_zret g dX8_isOfWord_29 rfl
    · refine hf_iconst (v := 1) gc dX8_isOfWord_24 (by decide) ?_
      refine hf_goto (tgt := 29) gc dX8_isOfWord_25 (by decide) ?_
      exact hf_zret g dX8_isOfWord_29 rfl
set_option maxHeartbeats 2000000 in
set_option maxRecDepth 20000 in
theorem xc_reader_isOfWord {x : hf_Cx} {ad : Nat → Nat} {cA : Nat → ClassId} {E : State → Prop} {A : Nat → Prop} {l0 : Launch} {D0 : va_G} (g : hf_G x hcT ad cA E A l0 D0 cX8_isOfWord 1 RX8 (some .boolean) 0) {s : hf_St} {a1 : Int32} : hf_X x A 1 (0, 0) (hf_Q x hcT ad cA A (hf_rp s)) (Fc_reader_isOfWord s a1) (hf_wd hcT ad cA s) 0 [(0, .int a1)] [] := by
  have gc := g.1
  unfold Fc_reader_isOfWord
  refine hf_iload_n (i := 0) (q := 0) gc dX8_isOfWord_0 rfl rfl ?_
  refine hf_bipush (v := 97) gc dX8_isOfWord_1 (by decide) ?_
  refine hf_icmp_lt (tgt := 12) gc dX8_isOfWord_3 (by decide) ?_ ?_
  · exact xc_reader_isOfWord_b12 g _
  · refine hf_iload_n (i := 0) (q := 0) gc dX8_isOfWord_6 rfl rfl ?_
    refine hf_bipush (v := 122) gc dX8_isOfWord_7 (by decide) ?_
    refine hf_icmp_le (tgt := 24) gc dX8_isOfWord_9 (by decide) ?_ ?_
    · refine hf_iconst (v := 1) gc dX8_isOfWord_24 (by decide) ?_
      refine hf_goto (tgt := 29) gc dX8_isOfWord_25 (by decide) ?_
      exact hf_zret g dX8_isOfWord_29 rfl
    · exact xc_reader_isOfWord_b12 g _
theorem cc_reader_isOfWord {l0 : Launch} {D0 : va_G} {ad : Nat → Nat} {cA : Nat → ClassId} {E : State → Prop} {s : hf_St} {a1 : Int32} : hf_Ct l0 D0 hcT ad cA E 0 yX8_isOfWord cX8_isOfWord 1 (some .boolean) [.int a1] s (Fc_reader_isOfWord s a1) (hf_rp s) := hf_met (by decide) (Nat.le_of_ble_eq_true rfl) (fun _ _ g => xc_reader_isOfWord g)
set_option maxHeartbeats 2000000 in
set_option maxRecDepth 20000 in
theorem xc_reader_step_b103 {x : hf_Cx} {ad : Nat → Nat} {cA : Nat → ClassId} {E : State → Prop} {A : Nat → Prop} {l0 : Launch} {D0 : va_G} (g : hf_G x hcT ad cA E A l0 D0 cX8_step 1 RX8 none 1) (s : hf_St) : hf_X x A 1 (0, 0) (hf_Q x hcT ad cA A hf_rv) (Fc_reader_step_b103 s) (hf_wd hcT ad cA s) 103 [(0, .ref (ad 7))] [] := by
  have gc := g.1
  unfold Fc_reader_step_b103
  refine hf_aload_n (i := 0) (q := 0) gc dX8_step_103 rfl rfl ?_
  refine hf_getI (j := 7) (k := 3) g rfl rfl kF_RX8_29 dX8_step_104 ?_
  refine hf_aload_n (i := 0) (q := 0) gc dX8_step_107 rfl rfl ?_
  refine hf_getI (j := 7) (k := 2) g rfl rfl kF_RX8_63 dX8_step_108 ?_
  refine hf_icmp_ne (tgt := 138) gc dX8_step_111 (by decide) ?_ ?_
  · exact hf_vret g dX8_step_138 rfl
  · refine hf_aload_n (i := 0) (q := 0) gc dX8_step_114 rfl rfl ?_
    refine hf_getI (j := 7) (k := 2) g rfl rfl kF_RX8_63 dX8_step_115 ?_
    refine hf_aload_n (i := 0) (q := 0) gc dX8_step_118 rfl rfl ?_
    refine hf_getR (j := 7) (k := 0) (r := 5) g rfl rfl kF_RX8_18 dX8_step_119 ?_
    refine hf_callV1 (j := 5) g (cc_tape_size) kV_RX8_125 (by decide) (by decide) rfl rfl rfl rfl (Nat.le_of_ble_eq_true rfl) dX8_step_122 (fun v1 => ?_)
    refine hf_icmp_ge (tgt := 138) gc dX8_step_125 (by decide) ?_ ?_
    · exact hf_vret g dX8_step_138 rfl
    · refine hf_aload_n (i := 0) (q := 0) gc dX8_step_128 rfl rfl ?_
      refine hf_dup gc dX8_step_129 rfl ?_
      refine hf_getI (j := 7) (k := 3) g rfl rfl kF_RX8_29 dX8_step_130 ?_
      refine hf_iconst (v := 1) gc dX8_step_133 (by decide) ?_
      refine hf_iadd gc dX8_step_134 ?_
      refine hf_putI (j := 7) (k := 3) g rfl rfl kP_RX8_29 rfl rfl dX8_step_135 (fun s2 => ?_)
      exact hf_vret g dX8_step_138 rfl
set_option maxHeartbeats 2000000 in
set_option maxRecDepth 20000 in
theorem xc_reader_step_l59 {x : hf_Cx} {ad : Nat → Nat} {cA : Nat → ClassId} {E : State → Prop} {A : Nat → Prop} {l0 : Launch} {D0 : va_G} (g : hf_G x hcT ad cA E A l0 D0 cX8_step 1 RX8 none 1) : ∀ (n : Nat) (s : hf_St), hf_X x A 1 (0, 0) (hf_Q x hcT ad cA A hf_rv) (Fc_reader_step_l59 n s) (hf_wd hcT ad cA s) 59 [(0, .ref (ad 7))] [] := by
  have gc := g.1
  intro n
  induction n with
  | zero => intro s; exact hf_none
  | succ n ih =>
    intro s
    rw [Fc_reader_step_l59]
    refine hf_aload_n (i := 0) (q := 0) gc dX8_step_59 rfl rfl ?_
    refine hf_getI (j := 7) (k := 3) g rfl rfl kF_RX8_29 dX8_step_60 ?_
    refine hf_aload_n (i := 0) (q := 0) gc dX8_step_63 rfl rfl ?_
    refine hf_getR (j := 7) (k := 0) (r := 5) g rfl rfl kF_RX8_18 dX8_step_64 ?_
    refine hf_callV1 (j := 5) g (cc_tape_size) kV_RX8_125 (by decide) (by decide) rfl rfl rfl rfl (Nat.le_of_ble_eq_true rfl) dX8_step_67 (fun v1 => ?_)
    refine hf_icmp_ge (tgt := 103) gc dX8_step_70 (by decide) ?_ ?_
    · exact xc_reader_step_b103 g _
    · refine hf_aload_n (i := 0) (q := 0) gc dX8_step_73 rfl rfl ?_
      refine hf_getR (j := 7) (k := 0) (r := 5) g rfl rfl kF_RX8_18 dX8_step_74 ?_
      refine hf_aload_n (i := 0) (q := 0) gc dX8_step_77 rfl rfl ?_
      refine hf_getI (j := 7) (k := 3) g rfl rfl kF_RX8_29 dX8_step_78 ?_
      refine hf_callV1 (j := 5) g (cc_tape_byteAt (a1 := s.1 7 3)) kV_RX8_66 (by decide) (by decide) rfl rfl rfl rfl (Nat.le_of_ble_eq_true rfl) dX8_step_81 (fun v2 => ?_)
      refine hf_callS1 g (cc_reader_isOfWord (a1 := v2)) kS_RX8_128 (by decide) (by decide) rfl rfl (Nat.le_of_ble_eq_true rfl) dX8_step_84 (fun v3 => ?_)
      refine hf_if_eq (tgt := 103) gc dX8_step_87 (by decide) ?_ ?_
      · exact xc_reader_step_b103 g _
      · refine hf_aload_n (i := 0) (q := 0) gc dX8_step_90 rfl rfl ?_
        refine hf_dup gc dX8_step_91 rfl ?_
        refine hf_getI (j := 7) (k := 3) g rfl rfl kF_RX8_29 dX8_step_92 ?_
        refine hf_iconst (v := 1) gc dX8_step_95 (by decide) ?_
        refine hf_iadd gc dX8_step_96 ?_
        refine hf_putI (j := 7) (k := 3) g rfl rfl kP_RX8_29 rfl rfl dX8_step_97 (fun s4 => ?_)
        refine hf_goto (tgt := 59) gc dX8_step_100 (by decide) ?_
        exact ih _
set_option maxHeartbeats 2000000 in
set_option maxRecDepth 20000 in
theorem xc_reader_step_b51 {x : hf_Cx} {ad : Nat → Nat} {cA : Nat → ClassId} {E : State → Prop} {A : Nat → Prop} {l0 : Launch} {D0 : va_G} (g : hf_G x hcT ad cA E A l0 D0 cX8_step 1 RX8 none 1) (s : hf_St) : hf_X x A 1 (0, 0) (hf_Q x hcT ad cA A hf_rv) (Fc_reader_step_b51 s) (hf_wd hcT ad cA s) 51 [(0, .ref (ad 7))] [] := by
  have gc := g.1
  unfold Fc_reader_step_b51
  refine hf_aload_n (i := 0) (q := 0) gc dX8_step_51 rfl rfl ?_
  refine hf_aload_n (i := 0) (q := 0) gc dX8_step_52 rfl rfl ?_
  refine hf_getI (j := 7) (k := 2) g rfl rfl kF_RX8_63 dX8_step_53 ?_
  refine hf_putI (j := 7) (k := 3) g rfl rfl kP_RX8_29 rfl rfl dX8_step_56 (fun s1 => ?_)
  exact xc_reader_step_l59 g hf_fuel _
set_option maxHeartbeats 2000000 in
set_option maxRecDepth 20000 in
theorem xc_reader_step_l8 {x : hf_Cx} {ad : Nat → Nat} {cA : Nat → ClassId} {E : State → Prop} {A : Nat → Prop} {l0 : Launch} {D0 : va_G} (g : hf_G x hcT ad cA E A l0 D0 cX8_step 1 RX8 none 1) : ∀ (n : Nat) (s : hf_St), hf_X x A 1 (0, 0) (hf_Q x hcT ad cA A hf_rv) (Fc_reader_step_l8 n s) (hf_wd hcT ad cA s) 8 [(0, .ref (ad 7))] [] := by
  have gc := g.1
  intro n
  induction n with
  | zero => intro s; exact hf_none
  | succ n ih =>
    intro s
    rw [Fc_reader_step_l8]
    refine hf_aload_n (i := 0) (q := 0) gc dX8_step_8 rfl rfl ?_
    refine hf_getI (j := 7) (k := 2) g rfl rfl kF_RX8_63 dX8_step_9 ?_
    refine hf_aload_n (i := 0) (q := 0) gc dX8_step_12 rfl rfl ?_
    refine hf_getR (j := 7) (k := 0) (r := 5) g rfl rfl kF_RX8_18 dX8_step_13 ?_
    refine hf_callV1 (j := 5) g (cc_tape_size) kV_RX8_125 (by decide) (by decide) rfl rfl rfl rfl (Nat.le_of_ble_eq_true rfl) dX8_step_16 (fun v1 => ?_)
    refine hf_icmp_ge (tgt := 51) gc dX8_step_19 (by decide) ?_ ?_
    · exact xc_reader_step_b51 g _
    · refine hf_aload_n (i := 0) (q := 0) gc dX8_step_22 rfl rfl ?_
      refine hf_getR (j := 7) (k := 0) (r := 5) g rfl rfl kF_RX8_18 dX8_step_23 ?_
      refine hf_aload_n (i := 0) (q := 0) gc dX8_step_26 rfl rfl ?_
      refine hf_getI (j := 7) (k := 2) g rfl rfl kF_RX8_63 dX8_step_27 ?_
      refine hf_callV1 (j := 5) g (cc_tape_byteAt (a1 := s.1 7 2)) kV_RX8_66 (by decide) (by decide) rfl rfl rfl rfl (Nat.le_of_ble_eq_true rfl) dX8_step_30 (fun v2 => ?_)
      refine hf_bipush (v := 32) gc dX8_step_33 (by decide) ?_
      refine hf_icmp_ne (tgt := 51) gc dX8_step_35 (by decide) ?_ ?_
      · exact xc_reader_step_b51 g _
      · refine hf_aload_n (i := 0) (q := 0) gc dX8_step_38 rfl rfl ?_
        refine hf_dup gc dX8_step_39 rfl ?_
        refine hf_getI (j := 7) (k := 2) g rfl rfl kF_RX8_63 dX8_step_40 ?_
        refine hf_iconst (v := 1) gc dX8_step_43 (by decide) ?_
        refine hf_iadd gc dX8_step_44 ?_
        refine hf_putI (j := 7) (k := 2) g rfl rfl kP_RX8_63 rfl rfl dX8_step_45 (fun s3 => ?_)
        refine hf_goto (tgt := 8) gc dX8_step_48 (by decide) ?_
        exact ih _
set_option maxHeartbeats 2000000 in
set_option maxRecDepth 20000 in
theorem xc_reader_step {x : hf_Cx} {ad : Nat → Nat} {cA : Nat → ClassId} {E : State → Prop} {A : Nat → Prop} {l0 : Launch} {D0 : va_G} (g : hf_G x hcT ad cA E A l0 D0 cX8_step 1 RX8 none 1) {s : hf_St} : hf_X x A 1 (0, 0) (hf_Q x hcT ad cA A hf_rv) (Fc_reader_step s) (hf_wd hcT ad cA s) 0 [(0, .ref (ad 7))] [] := by
  have gc := g.1
  unfold Fc_reader_step
  refine hf_aload_n (i := 0) (q := 0) gc dX8_step_0 rfl rfl ?_
  refine hf_aload_n (i := 0) (q := 0) gc dX8_step_1 rfl rfl ?_
  refine hf_getI (j := 7) (k := 3) g rfl rfl kF_RX8_29 dX8_step_2 ?_
  refine hf_putI (j := 7) (k := 2) g rfl rfl kP_RX8_63 rfl rfl dX8_step_5 (fun s1 => ?_)
  exact xc_reader_step_l8 g hf_fuel _
theorem cc_reader_step {l0 : Launch} {D0 : va_G} {ad : Nat → Nat} {cA : Nat → ClassId} {E : State → Prop} {s : hf_St} : hf_Ct l0 D0 hcT ad cA E 1 yX8_step cX8_step 1 none [.ref (ad 7)] s (Fc_reader_step s) hf_rv := hf_met (by decide) (Nat.le_of_ble_eq_true rfl) (fun _ _ g => xc_reader_step g)
set_option maxHeartbeats 2000000 in
set_option maxRecDepth 20000 in
theorem xc_reader_isAtEnd {x : hf_Cx} {ad : Nat → Nat} {cA : Nat → ClassId} {E : State → Prop} {A : Nat → Prop} {l0 : Launch} {D0 : va_G} (g : hf_G x hcT ad cA E A l0 D0 cX8_isAtEnd 1 RX8 (some .boolean) 1) {s : hf_St} : hf_X x A 1 (0, 0) (hf_Q x hcT ad cA A (hf_rp s)) (Fc_reader_isAtEnd s) (hf_wd hcT ad cA s) 0 [(0, .ref (ad 7))] [] := by
  have gc := g.1
  unfold Fc_reader_isAtEnd
  refine hf_aload_n (i := 0) (q := 0) gc dX8_isAtEnd_0 rfl rfl ?_
  refine hf_getI (j := 7) (k := 2) g rfl rfl kF_RX8_63 dX8_isAtEnd_1 ?_
  refine hf_aload_n (i := 0) (q := 0) gc dX8_isAtEnd_4 rfl rfl ?_
  refine hf_getR (j := 7) (k := 0) (r := 5) g rfl rfl kF_RX8_18 dX8_isAtEnd_5 ?_
  refine hf_callV1 (j := 5) g (cc_tape_size) kV_RX8_125 (by decide) (by decide) rfl rfl rfl rfl (Nat.le_of_ble_eq_true rfl) dX8_isAtEnd_8 (fun v1 => ?_)
  refine hf_icmp_lt (tgt := 18) gc dX8_isAtEnd_11 (by decide) ?_ ?_
  · refine hf_iconst (v := 0) gc dX8_isAtEnd_18 (by decide) ?_
    exact hf_zret g dX8_isAtEnd_19 rfl
  · refine hf_iconst (v := 1) gc dX8_isAtEnd_14 (by decide) ?_
    refine hf_goto (tgt := 19) gc dX8_isAtEnd_15 (by decide) ?_
    exact hf_zret g dX8_isAtEnd_19 rfl
theorem cc_reader_isAtEnd {l0 : Launch} {D0 : va_G} {ad : Nat → Nat} {cA : Nat → ClassId} {E : State → Prop} {s : hf_St} : hf_Ct l0 D0 hcT ad cA E 1 yX8_isAtEnd cX8_isAtEnd 1 (some .boolean) [.ref (ad 7)] s (Fc_reader_isAtEnd s) (hf_rp s) := hf_met (by decide) (Nat.le_of_ble_eq_true rfl) (fun _ _ g => xc_reader_isAtEnd g)
set_option maxHeartbeats 2000000 in
set_option maxRecDepth 20000 in
theorem xc_reader_isWord_l20 {x : hf_Cx} {ad : Nat → Nat} {cA : Nat → ClassId} {E : State → Prop} {A : Nat → Prop} {l0 : Launch} {D0 : va_G} {adK adV : Nat → Nat} {w : Nat} {s : hf_St} (g : hf_G x hcT ad cA E A l0 D0 cX8_isWord 3 RX8 (some .boolean) 4) (hq : hc_need E ad adK adV) (hw : w < 4) : ∀ (n : Nat) (l2 : Int32), hf_X x A 3 (0, 0) (hf_Q x hcT ad cA A (hf_rp s)) (Fc_reader_isWord_l20 s w n l2) (hf_wd hcT ad cA s) 20 [(0, .ref (ad 7)), (1, .ref (adK w)), (2, .int l2)] [] := by
  have gc := g.1
  intro n
  induction n with
  | zero => intro l2; exact hf_none
  | succ n ih =>
    intro l2
    rw [Fc_reader_isWord_l20]
    refine hf_iload_n (i := 2) (q := 2) gc dX8_isWord_20 rfl rfl ?_
    refine hf_aload_n (i := 1) (q := 1) gc dX8_isWord_21 rfl rfl ?_
    refine hf_callVs1 (As := []) g hq hw (cs_length' hq hw) kV_RX8_116 (by decide) (by decide) rfl rfl (Nat.le_of_ble_eq_true rfl) dX8_isWord_22 (fun v1 => ?_)
    refine hf_icmp_ge (tgt := 57) gc dX8_isWord_25 (by decide) ?_ ?_
    · refine hf_iconst (v := 1) gc dX8_isWord_57 (by decide) ?_
      exact hf_zret g dX8_isWord_58 rfl
    · refine hf_aload_n (i := 0) (q := 0) gc dX8_isWord_28 rfl rfl ?_
      refine hf_getR (j := 7) (k := 0) (r := 5) g rfl rfl kF_RX8_18 dX8_isWord_29 ?_
      refine hf_aload_n (i := 0) (q := 0) gc dX8_isWord_32 rfl rfl ?_
      refine hf_getI (j := 7) (k := 2) g rfl rfl kF_RX8_63 dX8_isWord_33 ?_
      refine hf_iload_n (i := 2) (q := 2) gc dX8_isWord_36 rfl rfl ?_
      refine hf_iadd gc dX8_isWord_37 ?_
      refine hf_callV1 (j := 5) g (cc_tape_byteAt (a1 := (s.1 7 2) + l2)) kV_RX8_66 (by decide) (by decide) rfl rfl rfl rfl (Nat.le_of_ble_eq_true rfl) dX8_isWord_38 (fun v2 => ?_)
      refine hf_aload_n (i := 1) (q := 1) gc dX8_isWord_41 rfl rfl ?_
      refine hf_iload_n (i := 2) (q := 2) gc dX8_isWord_42 rfl rfl ?_
      refine hf_callVs1 (As := [.int l2]) g hq hw (cs_charAt' hq hw) kV_RX8_121 (by decide) (by decide) rfl rfl (Nat.le_of_ble_eq_true rfl) dX8_isWord_43 (fun v3 => ?_)
      refine hf_icmp_eq (tgt := 51) gc dX8_isWord_46 (by decide) ?_ ?_
      · refine hf_iinc (q := 2) (v' := l2 + (1 : Int32)) (lv' := [(2, .int (l2 + (1 : Int32))), (0, .ref (ad 7)), (1, .ref (adK w))]) gc dX8_isWord_51 rfl rfl (by decide) rfl ?_
        refine hf_goto (tgt := 20) gc dX8_isWord_54 (by decide) ?_
        refine hf_sub (lv' := [(0, .ref (ad 7)), (1, .ref (adK w)), (2, .int (l2 + (1 : Int32)))]) [1, 2, 0] rfl ?_
        exact ih _
      · refine hf_iconst (v := 0) gc dX8_isWord_49 (by decide) ?_
        exact hf_zret g dX8_isWord_50 rfl
set_option maxHeartbeats 2000000 in
set_option maxRecDepth 20000 in
theorem xc_reader_isWord {x : hf_Cx} {ad : Nat → Nat} {cA : Nat → ClassId} {E : State → Prop} {A : Nat → Prop} {l0 : Launch} {D0 : va_G} {adK adV : Nat → Nat} {w : Nat} (g : hf_G x hcT ad cA E A l0 D0 cX8_isWord 3 RX8 (some .boolean) 4) (hq : hc_need E ad adK adV) (hw : w < 4) {s : hf_St} : hf_X x A 3 (0, 0) (hf_Q x hcT ad cA A (hf_rp s)) (Fc_reader_isWord s w) (hf_wd hcT ad cA s) 0 [(0, .ref (ad 7)), (1, .ref (adK w))] [] := by
  have gc := g.1
  unfold Fc_reader_isWord
  refine hf_aload_n (i := 0) (q := 0) gc dX8_isWord_0 rfl rfl ?_
  refine hf_getI (j := 7) (k := 3) g rfl rfl kF_RX8_29 dX8_isWord_1 ?_
  refine hf_aload_n (i := 0) (q := 0) gc dX8_isWord_4 rfl rfl ?_
  refine hf_getI (j := 7) (k := 2) g rfl rfl kF_RX8_63 dX8_isWord_5 ?_
  refine hf_isub gc dX8_isWord_8 ?_
  refine hf_aload_n (i := 1) (q := 1) gc dX8_isWord_9 rfl rfl ?_
  refine hf_callVs1 (As := []) g hq hw (cs_length' hq hw) kV_RX8_116 (by decide) (by decide) rfl rfl (Nat.le_of_ble_eq_true rfl) dX8_isWord_10 (fun v1 => ?_)
  refine hf_icmp_eq (tgt := 18) gc dX8_isWord_13 (by decide) ?_ ?_
  · refine hf_iconst (v := 0) gc dX8_isWord_18 (by decide) ?_
    refine hf_istore_n (i := 2) (lv' := [(2, .int ((0 : Int32))), (0, .ref (ad 7)), (1, .ref (adK w))]) gc dX8_isWord_19 rfl (by decide) rfl ?_
    refine hf_sub (lv' := [(0, .ref (ad 7)), (1, .ref (adK w)), (2, .int ((0 : Int32)))]) [1, 2, 0] rfl ?_
    exact xc_reader_isWord_l20 g hq hw hf_fuel _
  · refine hf_iconst (v := 0) gc dX8_isWord_16 (by decide) ?_
    exact hf_zret g dX8_isWord_17 rfl
theorem cc_reader_isWord {l0 : Launch} {D0 : va_G} {ad : Nat → Nat} {cA : Nat → ClassId} {E : State → Prop} {adK adV : Nat → Nat} {w : Nat} (hq : hc_need E ad adK adV) (hw : w < 4) {s : hf_St} : hf_Ct l0 D0 hcT ad cA E 4 yX8_isWord cX8_isWord 3 (some .boolean) [.ref (ad 7), .ref (adK w)] s (Fc_reader_isWord s w) (hf_rp s) := hf_met (by decide) (Nat.le_of_ble_eq_true rfl) (fun _ _ g => xc_reader_isWord g hq hw)
set_option maxHeartbeats 2000000 in
set_option maxRecDepth 20000 in
theorem xc_reader_kindOfWord {x : hf_Cx} {ad : Nat → Nat} {cA : Nat → ClassId} {E : State → Prop} {A : Nat → Prop} {l0 : Launch} {D0 : va_G} {adK adV : Nat → Nat} (g : hf_G x hcT ad cA E A l0 D0 cX8_kindOfWord 1 RX8 (some .int) 5) (hq : hc_need E ad adK adV) {s : hf_St} : hf_X x A 1 (0, 0) (hf_Q x hcT ad cA A (hf_rp s)) (Fc_reader_kindOfWord s) (hf_wd hcT ad cA s) 0 [(0, .ref (ad 7))] [] := by
  have gc := g.1
  unfold Fc_reader_kindOfWord
  refine hf_aload_n (i := 0) (q := 0) gc dX8_kindOfWord_0 rfl rfl ?_
  refine hf_ldcS g hq 0 (by decide) dX8_kindOfWord_1 ?_
  refine hf_callV1 (j := 7) g (cc_reader_isWord hq (by decide) (w := 0)) kV_RX8_74 (by decide) (by decide) rfl rfl rfl rfl (Nat.le_of_ble_eq_true rfl) dX8_kindOfWord_3 (fun v1 => ?_)
  refine hf_if_eq (tgt := 11) gc dX8_kindOfWord_6 (by decide) ?_ ?_
  · refine hf_aload_n (i := 0) (q := 0) gc dX8_kindOfWord_11 rfl rfl ?_
    refine hf_ldcS g hq 1 (by decide) dX8_kindOfWord_12 ?_
    refine hf_callV1 (j := 7) g (cc_reader_isWord hq (by decide) (w := 1)) kV_RX8_74 (by decide) (by decide) rfl rfl rfl rfl (Nat.le_of_ble_eq_true rfl) dX8_kindOfWord_14 (fun v2 => ?_)
    refine hf_if_eq (tgt := 22) gc dX8_kindOfWord_17 (by decide) ?_ ?_
    · refine hf_aload_n (i := 0) (q := 0) gc dX8_kindOfWord_22 rfl rfl ?_
      refine hf_ldcS g hq 2 (by decide) dX8_kindOfWord_23 ?_
      refine hf_callV1 (j := 7) g (cc_reader_isWord hq (by decide) (w := 2)) kV_RX8_74 (by decide) (by decide) rfl rfl rfl rfl (Nat.le_of_ble_eq_true rfl) dX8_kindOfWord_25 (fun v3 => ?_)
      refine hf_if_eq (tgt := 35) gc dX8_kindOfWord_28 (by decide) ?_ ?_
      · refine hf_iconst (v := -1) gc dX8_kindOfWord_35 (by decide) ?_
        exact hf_iret g dX8_kindOfWord_36 rfl
      · refine hf_iconst (v := 2) gc dX8_kindOfWord_31 (by decide) ?_
        refine hf_goto (tgt := 36) gc dX8_kindOfWord_32 (by decide) ?_
        exact hf_iret g dX8_kindOfWord_36 rfl
    · refine hf_iconst (v := 1) gc dX8_kindOfWord_20 (by decide) ?_
      exact hf_iret g dX8_kindOfWord_21 rfl
  · refine hf_iconst (v := 0) gc dX8_kindOfWord_9 (by decide) ?_
    exact hf_iret g dX8_kindOfWord_10 rfl
theorem cc_reader_kindOfWord {l0 : Launch} {D0 : va_G} {ad : Nat → Nat} {cA : Nat → ClassId} {E : State → Prop} {adK adV : Nat → Nat} (hq : hc_need E ad adK adV) {s : hf_St} : hf_Ct l0 D0 hcT ad cA E 5 yX8_kindOfWord cX8_kindOfWord 1 (some .int) [.ref (ad 7)] s (Fc_reader_kindOfWord s) (hf_rp s) := hf_met (by decide) (Nat.le_of_ble_eq_true rfl) (fun _ _ g => xc_reader_kindOfWord g hq)
set_option maxHeartbeats 2000000 in
set_option maxRecDepth 20000 in
theorem xc_reader_refuse {x : hf_Cx} {ad : Nat → Nat} {cA : Nat → ClassId} {E : State → Prop} {A : Nat → Prop} {l0 : Launch} {D0 : va_G} (g : hf_G x hcT ad cA E A l0 D0 cX8_refuse 2 RX8 (some .boolean) 0) {s : hf_St} {a1 : Int32} : hf_X x A 2 (0, 0) (hf_Q x hcT ad cA A hf_ri) (Fc_reader_refuse s a1) (hf_wd hcT ad cA s) 0 [(0, .ref (ad 7)), (1, .int a1)] [] := by
  have gc := g.1
  unfold Fc_reader_refuse
  refine hf_aload_n (i := 0) (q := 0) gc dX8_refuse_0 rfl rfl ?_
  refine hf_iconst (v := 1) gc dX8_refuse_1 (by decide) ?_
  refine hf_bipush (v := 8) gc dX8_refuse_2 (by decide) ?_
  refine hf_aload_n (i := 0) (q := 0) gc dX8_refuse_4 rfl rfl ?_
  refine hf_getI (j := 7) (k := 2) g rfl rfl kF_RX8_63 dX8_refuse_5 ?_
  refine hf_imul gc dX8_refuse_8 ?_
  refine hf_iadd gc dX8_refuse_9 ?_
  refine hf_iload_n (i := 1) (q := 1) gc dX8_refuse_10 rfl rfl ?_
  refine hf_iadd gc dX8_refuse_11 ?_
  refine hf_putI (j := 7) (k := 4) g rfl rfl kP_RX8_25 rfl rfl dX8_refuse_12 (fun s1 => ?_)
  refine hf_iconst (v := 0) gc dX8_refuse_15 (by decide) ?_
  exact hf_zret g dX8_refuse_16 rfl
theorem cc_reader_refuse {l0 : Launch} {D0 : va_G} {ad : Nat → Nat} {cA : Nat → ClassId} {E : State → Prop} {s : hf_St} {a1 : Int32} : hf_Ct l0 D0 hcT ad cA E 0 yX8_refuse cX8_refuse 2 (some .boolean) [.ref (ad 7), .int a1] s (Fc_reader_refuse s a1) hf_ri := hf_met (by decide) (Nat.le_of_ble_eq_true rfl) (fun _ _ g => xc_reader_refuse g)
set_option maxHeartbeats 2000000 in
set_option maxRecDepth 20000 in
theorem xc_reader_isDigit {x : hf_Cx} {ad : Nat → Nat} {cA : Nat → ClassId} {E : State → Prop} {A : Nat → Prop} {l0 : Launch} {D0 : va_G} (g : hf_G x hcT ad cA E A l0 D0 cX8_isDigit 1 RX8 (some .boolean) 0) {s : hf_St} {a1 : Int32} : hf_X x A 1 (0, 0) (hf_Q x hcT ad cA A (hf_rp s)) (Fc_reader_isDigit s a1) (hf_wd hcT ad cA s) 0 [(0, .int a1)] [] := by
  have gc := g.1
  unfold Fc_reader_isDigit
  refine hf_iload_n (i := 0) (q := 0) gc dX8_isDigit_0 rfl rfl ?_
  refine hf_bipush (v := 48) gc dX8_isDigit_1 (by decide) ?_
  refine hf_icmp_lt (tgt := 16) gc dX8_isDigit_3 (by decide) ?_ ?_
  · refine hf_iconst (v := 0) gc dX8_isDigit_16 (by decide) ?_
    exact hf_zret g dX8_isDigit_17 rfl
  · refine hf_iload_n (i := 0) (q := 0) gc dX8_isDigit_6 rfl rfl ?_
    refine hf_bipush (v := 57) gc dX8_isDigit_7 (by decide) ?_
    refine hf_icmp_gt (tgt := 16) gc dX8_isDigit_9 (by decide) ?_ ?_
    · refine hf_iconst (v := 0) gc dX8_isDigit_16 (by decide) ?_
      exact hf_zret g dX8_isDigit_17 rfl
    · refine hf_iconst (v := 1) gc dX8_isDigit_12 (by decide) ?_
      refine hf_goto (tgt := 17) gc dX8_isDigit_13 (by decide) ?_
      exact hf_zret g dX8_isDigit_17 rfl
theorem cc_reader_isDigit {l0 : Launch} {D0 : va_G} {ad : Nat → Nat} {cA : Nat → ClassId} {E : State → Prop} {s : hf_St} {a1 : Int32} : hf_Ct l0 D0 hcT ad cA E 0 yX8_isDigit cX8_isDigit 1 (some .boolean) [.int a1] s (Fc_reader_isDigit s a1) (hf_rp s) := hf_met (by decide) (Nat.le_of_ble_eq_true rfl) (fun _ _ g => xc_reader_isDigit g)
set_option maxHeartbeats 2000000 in
set_option maxRecDepth 20000 in
theorem xc_reader_isNumber_l5 {x : hf_Cx} {ad : Nat → Nat} {cA : Nat → ClassId} {E : State → Prop} {A : Nat → Prop} {l0 : Launch} {D0 : va_G} {s : hf_St} (g : hf_G x hcT ad cA E A l0 D0 cX8_isNumber 2 RX8 (some .boolean) 1) : ∀ (n : Nat) (l1 : Int32), hf_X x A 2 (0, 0) (hf_Q x hcT ad cA A (hf_rp s)) (Fc_reader_isNumber_l5 s n l1) (hf_wd hcT ad cA s) 5 [(0, .ref (ad 7)), (1, .int l1)] [] := by
  have gc := g.1
  intro n
  induction n with
  | zero => intro l1; exact hf_none
  | succ n ih =>
    intro l1
    rw [Fc_reader_isNumber_l5]
    refine hf_iload_n (i := 1) (q := 1) gc dX8_isNumber_5 rfl rfl ?_
    refine hf_aload_n (i := 0) (q := 0) gc dX8_isNumber_6 rfl rfl ?_
    refine hf_getI (j := 7) (k := 3) g rfl rfl kF_RX8_29 dX8_isNumber_7 ?_
    refine hf_icmp_ge (tgt := 35) gc dX8_isNumber_10 (by decide) ?_ ?_
    · refine hf_aload_n (i := 0) (q := 0) gc dX8_isNumber_35 rfl rfl ?_
      refine hf_getI (j := 7) (k := 3) g rfl rfl kF_RX8_29 dX8_isNumber_36 ?_
      refine hf_aload_n (i := 0) (q := 0) gc dX8_isNumber_39 rfl rfl ?_
      refine hf_getI (j := 7) (k := 2) g rfl rfl kF_RX8_63 dX8_isNumber_40 ?_
      refine hf_icmp_le (tgt := 50) gc dX8_isNumber_43 (by decide) ?_ ?_
      · refine hf_iconst (v := 0) gc dX8_isNumber_50 (by decide) ?_
        exact hf_zret g dX8_isNumber_51 rfl
      · refine hf_iconst (v := 1) gc dX8_isNumber_46 (by decide) ?_
        refine hf_goto (tgt := 51) gc dX8_isNumber_47 (by decide) ?_
        exact hf_zret g dX8_isNumber_51 rfl
    · refine hf_aload_n (i := 0) (q := 0) gc dX8_isNumber_13 rfl rfl ?_
      refine hf_getR (j := 7) (k := 0) (r := 5) g rfl rfl kF_RX8_18 dX8_isNumber_14 ?_
      refine hf_iload_n (i := 1) (q := 1) gc dX8_isNumber_17 rfl rfl ?_
      refine hf_callV1 (j := 5) g (cc_tape_byteAt (a1 := l1)) kV_RX8_66 (by decide) (by decide) rfl rfl rfl rfl (Nat.le_of_ble_eq_true rfl) dX8_isNumber_18 (fun v1 => ?_)
      refine hf_callS1 g (cc_reader_isDigit (a1 := v1)) kS_RX8_113 (by decide) (by decide) rfl rfl (Nat.le_of_ble_eq_true rfl) dX8_isNumber_21 (fun v2 => ?_)
      refine hf_if_ne (tgt := 29) gc dX8_isNumber_24 (by decide) ?_ ?_
      · refine hf_iinc (q := 1) (v' := l1 + (1 : Int32)) (lv' := [(1, .int (l1 + (1 : Int32))), (0, .ref (ad 7))]) gc dX8_isNumber_29 rfl rfl (by decide) rfl ?_
        refine hf_goto (tgt := 5) gc dX8_isNumber_32 (by decide) ?_
        refine hf_sub (lv' := [(0, .ref (ad 7)), (1, .int (l1 + (1 : Int32)))]) [1, 0] rfl ?_
        exact ih _
      · refine hf_iconst (v := 0) gc dX8_isNumber_27 (by decide) ?_
        exact hf_zret g dX8_isNumber_28 rfl
set_option maxHeartbeats 2000000 in
set_option maxRecDepth 20000 in
theorem xc_reader_isNumber {x : hf_Cx} {ad : Nat → Nat} {cA : Nat → ClassId} {E : State → Prop} {A : Nat → Prop} {l0 : Launch} {D0 : va_G} (g : hf_G x hcT ad cA E A l0 D0 cX8_isNumber 2 RX8 (some .boolean) 1) {s : hf_St} : hf_X x A 2 (0, 0) (hf_Q x hcT ad cA A (hf_rp s)) (Fc_reader_isNumber s) (hf_wd hcT ad cA s) 0 [(0, .ref (ad 7))] [] := by
  have gc := g.1
  unfold Fc_reader_isNumber
  refine hf_aload_n (i := 0) (q := 0) gc dX8_isNumber_0 rfl rfl ?_
  refine hf_getI (j := 7) (k := 2) g rfl rfl kF_RX8_63 dX8_isNumber_1 ?_
  refine hf_let (fun v1 => ?_)
  refine hf_istore_n (i := 1) (lv' := [(1, .int v1), (0, .ref (ad 7))]) gc dX8_isNumber_4 rfl (by decide) rfl ?_
  refine hf_sub (lv' := [(0, .ref (ad 7)), (1, .int v1)]) [1, 0] rfl ?_
  exact xc_reader_isNumber_l5 g hf_fuel _
theorem cc_reader_isNumber {l0 : Launch} {D0 : va_G} {ad : Nat → Nat} {cA : Nat → ClassId} {E : State → Prop} {s : hf_St} : hf_Ct l0 D0 hcT ad cA E 1 yX8_isNumber cX8_isNumber 2 (some .boolean) [.ref (ad 7)] s (Fc_reader_isNumber s) (hf_rp s) := hf_met (by decide) (Nat.le_of_ble_eq_true rfl) (fun _ _ g => xc_reader_isNumber g)
set_option maxHeartbeats 2000000 in
set_option maxRecDepth 20000 in
theorem xc_reader_numberOfWord_l22 {x : hf_Cx} {ad : Nat → Nat} {cA : Nat → ClassId} {E : State → Prop} {A : Nat → Prop} {l0 : Launch} {D0 : va_G} {s : hf_St} (g : hf_G x hcT ad cA E A l0 D0 cX8_numberOfWord 3 RX8 (some .int) 1) : ∀ (n : Nat) (l1 : Int32) (l2 : Int32), hf_X x A 3 (0, 0) (hf_Q x hcT ad cA A (hf_rp s)) (Fc_reader_numberOfWord_l22 s n l1 l2) (hf_wd hcT ad cA s) 22 [(0, .ref (ad 7)), (1, .int l1), (2, .int l2)] [] := by
  have gc := g.1
  intro n
  induction n with
  | zero => intro l1 l2; exact hf_none
  | succ n ih =>
    intro l1 l2
    rw [Fc_reader_numberOfWord_l22]
    refine hf_iload_n (i := 2) (q := 2) gc dX8_numberOfWord_22 rfl rfl ?_
    refine hf_aload_n (i := 0) (q := 0) gc dX8_numberOfWord_23 rfl rfl ?_
    refine hf_getI (j := 7) (k := 3) g rfl rfl kF_RX8_29 dX8_numberOfWord_24 ?_
    refine hf_icmp_ge (tgt := 53) gc dX8_numberOfWord_27 (by decide) ?_ ?_
    · refine hf_iload_n (i := 1) (q := 1) gc dX8_numberOfWord_53 rfl rfl ?_
      exact hf_iret g dX8_numberOfWord_54 rfl
    · refine hf_iload_n (i := 1) (q := 1) gc dX8_numberOfWord_30 rfl rfl ?_
      refine hf_bipush (v := 10) gc dX8_numberOfWord_31 (by decide) ?_
      refine hf_imul gc dX8_numberOfWord_33 ?_
      refine hf_aload_n (i := 0) (q := 0) gc dX8_numberOfWord_34 rfl rfl ?_
      refine hf_getR (j := 7) (k := 0) (r := 5) g rfl rfl kF_RX8_18 dX8_numberOfWord_35 ?_
      refine hf_iload_n (i := 2) (q := 2) gc dX8_numberOfWord_38 rfl rfl ?_
      refine hf_callV1 (j := 5) g (cc_tape_byteAt (a1 := l2)) kV_RX8_66 (by decide) (by decide) rfl rfl rfl rfl (Nat.le_of_ble_eq_true rfl) dX8_numberOfWord_39 (fun v1 => ?_)
      refine hf_iadd gc dX8_numberOfWord_42 ?_
      refine hf_bipush (v := 48) gc dX8_numberOfWord_43 (by decide) ?_
      refine hf_isub gc dX8_numberOfWord_45 ?_
      refine hf_let (fun v2 => ?_)
      refine hf_istore_n (i := 1) (lv' := [(1, .int v2), (0, .ref (ad 7)), (2, .int l2)]) gc dX8_numberOfWord_46 rfl (by decide) rfl ?_
      refine hf_iinc (q := 2) (v' := l2 + (1 : Int32)) (lv' := [(2, .int (l2 + (1 : Int32))), (1, .int v2), (0, .ref (ad 7))]) gc dX8_numberOfWord_47 rfl rfl (by decide) rfl ?_
      refine hf_goto (tgt := 22) gc dX8_numberOfWord_50 (by decide) ?_
      refine hf_sub (lv' := [(0, .ref (ad 7)), (1, .int v2), (2, .int (l2 + (1 : Int32)))]) [2, 1, 0] rfl ?_
      exact ih _ _
set_option maxHeartbeats 2000000 in
set_option maxRecDepth 20000 in
theorem xc_reader_numberOfWord {x : hf_Cx} {ad : Nat → Nat} {cA : Nat → ClassId} {E : State → Prop} {A : Nat → Prop} {l0 : Launch} {D0 : va_G} (g : hf_G x hcT ad cA E A l0 D0 cX8_numberOfWord 3 RX8 (some .int) 1) {s : hf_St} : hf_X x A 3 (0, 0) (hf_Q x hcT ad cA A (hf_rp s)) (Fc_reader_numberOfWord s) (hf_wd hcT ad cA s) 0 [(0, .ref (ad 7))] [] := by
  have gc := g.1
  unfold Fc_reader_numberOfWord
  refine hf_aload_n (i := 0) (q := 0) gc dX8_numberOfWord_0 rfl rfl ?_
  refine hf_getI (j := 7) (k := 3) g rfl rfl kF_RX8_29 dX8_numberOfWord_1 ?_
  refine hf_aload_n (i := 0) (q := 0) gc dX8_numberOfWord_4 rfl rfl ?_
  refine hf_getI (j := 7) (k := 2) g rfl rfl kF_RX8_63 dX8_numberOfWord_5 ?_
  refine hf_isub gc dX8_numberOfWord_8 ?_
  refine hf_iconst (v := 4) gc dX8_numberOfWord_9 (by decide) ?_
  refine hf_icmp_le (tgt := 15) gc dX8_numberOfWord_10 (by decide) ?_ ?_
  · refine hf_iconst (v := 0) gc dX8_numberOfWord_15 (by decide) ?_
    refine hf_istore_n (i := 1) (lv' := [(1, .int ((0 : Int32))), (0, .ref (ad 7))]) gc dX8_numberOfWord_16 rfl (by decide) rfl ?_
    refine hf_aload_n (i := 0) (q := 1) gc dX8_numberOfWord_17 rfl rfl ?_
    refine hf_getI (j := 7) (k := 2) g rfl rfl kF_RX8_63 dX8_numberOfWord_18 ?_
    refine hf_let (fun v1 => ?_)
    refine hf_istore_n (i := 2) (lv' := [(2, .int v1), (1, .int ((0 : Int32))), (0, .ref (ad 7))]) gc dX8_numberOfWord_21 rfl (by decide) rfl ?_
    refine hf_sub (lv' := [(0, .ref (ad 7)), (1, .int ((0 : Int32))), (2, .int v1)]) [2, 1, 0] rfl ?_
    exact xc_reader_numberOfWord_l22 g hf_fuel _ _
  · refine hf_iconst (v := -1) gc dX8_numberOfWord_13 (by decide) ?_
    exact hf_iret g dX8_numberOfWord_14 rfl
theorem cc_reader_numberOfWord {l0 : Launch} {D0 : va_G} {ad : Nat → Nat} {cA : Nat → ClassId} {E : State → Prop} {s : hf_St} : hf_Ct l0 D0 hcT ad cA E 1 yX8_numberOfWord cX8_numberOfWord 3 (some .int) [.ref (ad 7)] s (Fc_reader_numberOfWord s) (hf_rp s) := hf_met (by decide) (Nat.le_of_ble_eq_true rfl) (fun _ _ g => xc_reader_numberOfWord g)
set_option maxHeartbeats 2000000 in
set_option maxRecDepth 20000 in
theorem xc_reader_readWeight_b43 {x : hf_Cx} {ad : Nat → Nat} {cA : Nat → ClassId} {E : State → Prop} {A : Nat → Prop} {l0 : Launch} {D0 : va_G} (g : hf_G x hcT ad cA E A l0 D0 cX8_readWeight 2 RX8 (some .int) 2) (s : hf_St) : hf_X x A 2 (0, 0) (hf_Q x hcT ad cA A hf_ri) (Fc_reader_readWeight_b43 s) (hf_wd hcT ad cA s) 43 [(0, .ref (ad 7))] [] := by
  have gc := g.1
  unfold Fc_reader_readWeight_b43
  refine hf_aload_n (i := 0) (q := 0) gc dX8_readWeight_43 rfl rfl ?_
  refine hf_iconst (v := 1) gc dX8_readWeight_44 (by decide) ?_
  refine hf_callV2 (j := 7) g (cc_reader_refuse (a1 := (1 : Int32))) kV_RX8_53 (by decide) (by decide) rfl rfl rfl rfl (Nat.le_of_ble_eq_true rfl) dX8_readWeight_45 (fun v1 s2 => ?_)
  refine hf_pop gc dX8_readWeight_48 rfl ?_
  refine hf_iconst (v := -1) gc dX8_readWeight_49 (by decide) ?_
  refine hf_istore_n (i := 1) (lv' := [(1, .int ((-1 : Int32))), (0, .ref (ad 7))]) gc dX8_readWeight_50 rfl (by decide) rfl ?_
  refine hf_goto (tgt := 58) gc dX8_readWeight_51 (by decide) ?_
  refine hf_iload_n (i := 1) (q := 0) gc dX8_readWeight_58 rfl rfl ?_
  exact hf_iret g dX8_readWeight_59 rfl
set_option maxHeartbeats 2000000 in
set_option maxRecDepth 20000 in
theorem xc_reader_readWeight_b15 {x : hf_Cx} {ad : Nat → Nat} {cA : Nat → ClassId} {E : State → Prop} {A : Nat → Prop} {l0 : Launch} {D0 : va_G} (g : hf_G x hcT ad cA E A l0 D0 cX8_readWeight 2 RX8 (some .int) 2) (s : hf_St) (t0 : Int32) : hf_X x A 2 (0, 0) (hf_Q x hcT ad cA A hf_ri) (Fc_reader_readWeight_b15 s t0) (hf_wd hcT ad cA s) 15 [(0, .ref (ad 7))] [.int t0] := by
  have gc := g.1
  unfold Fc_reader_readWeight_b15
  refine hf_istore_n (i := 1) (lv' := [(1, .int t0), (0, .ref (ad 7))]) gc dX8_readWeight_15 rfl (by decide) rfl ?_
  refine hf_aload_n (i := 0) (q := 1) gc dX8_readWeight_16 rfl rfl ?_
  refine hf_callV1 (j := 7) g (cc_reader_isNumber) kV_RX8_82 (by decide) (by decide) rfl rfl rfl rfl (Nat.le_of_ble_eq_true rfl) dX8_readWeight_17 (fun v1 => ?_)
  refine hf_if_ne (tgt := 32) gc dX8_readWeight_20 (by decide) ?_ ?_
  · refine hf_iload_n (i := 1) (q := 0) gc dX8_readWeight_32 rfl rfl ?_
    refine hf_iconst (v := 1) gc dX8_readWeight_33 (by decide) ?_
    refine hf_icmp_lt (tgt := 43) gc dX8_readWeight_34 (by decide) ?_ ?_
    · refine hf_sub (lv' := [(0, .ref (ad 7))]) [1] rfl ?_
      exact xc_reader_readWeight_b43 g _
    · refine hf_iload_n (i := 1) (q := 0) gc dX8_readWeight_37 rfl rfl ?_
      refine hf_bipush (v := 100) gc dX8_readWeight_38 (by decide) ?_
      refine hf_icmp_le (tgt := 54) gc dX8_readWeight_40 (by decide) ?_ ?_
      · refine hf_aload_n (i := 0) (q := 1) gc dX8_readWeight_54 rfl rfl ?_
        refine hf_callV0 (j := 7) g (cc_reader_step) kV_RX8_32 (by decide) (by decide) rfl rfl rfl rfl (Nat.le_of_ble_eq_true rfl) dX8_readWeight_55 (fun s2 => ?_)
        refine hf_iload_n (i := 1) (q := 0) gc dX8_readWeight_58 rfl rfl ?_
        exact hf_iret g dX8_readWeight_59 rfl
      · refine hf_sub (lv' := [(0, .ref (ad 7))]) [1] rfl ?_
        exact xc_reader_readWeight_b43 g _
  · refine hf_aload_n (i := 0) (q := 1) gc dX8_readWeight_23 rfl rfl ?_
    refine hf_iconst (v := 0) gc dX8_readWeight_24 (by decide) ?_
    refine hf_callV2 (j := 7) g (cc_reader_refuse (a1 := (0 : Int32))) kV_RX8_53 (by decide) (by decide) rfl rfl rfl rfl (Nat.le_of_ble_eq_true rfl) dX8_readWeight_25 (fun v3 s4 => ?_)
    refine hf_pop gc dX8_readWeight_28 rfl ?_
    refine hf_goto (tgt := 58) gc dX8_readWeight_29 (by decide) ?_
    refine hf_iload_n (i := 1) (q := 0) gc dX8_readWeight_58 rfl rfl ?_
    exact hf_iret g dX8_readWeight_59 rfl
set_option maxHeartbeats 2000000 in
set_option maxRecDepth 20000 in
theorem xc_reader_readWeight {x : hf_Cx} {ad : Nat → Nat} {cA : Nat → ClassId} {E : State → Prop} {A : Nat → Prop} {l0 : Launch} {D0 : va_G} (g : hf_G x hcT ad cA E A l0 D0 cX8_readWeight 2 RX8 (some .int) 2) {s : hf_St} : hf_X x A 2 (0, 0) (hf_Q x hcT ad cA A hf_ri) (Fc_reader_readWeight s) (hf_wd hcT ad cA s) 0 [(0, .ref (ad 7))] [] := by
  have gc := g.1
  unfold Fc_reader_readWeight
  refine hf_aload_n (i := 0) (q := 0) gc dX8_readWeight_0 rfl rfl ?_
  refine hf_callV1 (j := 7) g (cc_reader_isNumber) kV_RX8_82 (by decide) (by decide) rfl rfl rfl rfl (Nat.le_of_ble_eq_true rfl) dX8_readWeight_1 (fun v1 => ?_)
  refine hf_if_eq (tgt := 14) gc dX8_readWeight_4 (by decide) ?_ ?_
  · refine hf_iconst (v := -1) gc dX8_readWeight_14 (by decide) ?_
    exact xc_reader_readWeight_b15 g _ _
  · refine hf_aload_n (i := 0) (q := 0) gc dX8_readWeight_7 rfl rfl ?_
    refine hf_callV1 (j := 7) g (cc_reader_numberOfWord) kV_RX8_85 (by decide) (by decide) rfl rfl rfl rfl (Nat.le_of_ble_eq_true rfl) dX8_readWeight_8 (fun v2 => ?_)
    refine hf_goto (tgt := 15) gc dX8_readWeight_11 (by decide) ?_
    exact xc_reader_readWeight_b15 g _ _
theorem cc_reader_readWeight {l0 : Launch} {D0 : va_G} {ad : Nat → Nat} {cA : Nat → ClassId} {E : State → Prop} {s : hf_St} : hf_Ct l0 D0 hcT ad cA E 2 yX8_readWeight cX8_readWeight 2 (some .int) [.ref (ad 7)] s (Fc_reader_readWeight s) hf_ri := hf_met (by decide) (Nat.le_of_ble_eq_true rfl) (fun _ _ g => xc_reader_readWeight g)
set_option maxHeartbeats 2000000 in
set_option maxRecDepth 20000 in
theorem xc_draft_addRule {x : hf_Cx} {ad : Nat → Nat} {cA : Nat → ClassId} {E : State → Prop} {A : Nat → Prop} {l0 : Launch} {D0 : va_G} (g : hf_G x hcT ad cA E A l0 D0 cX7_addRule 3 RX7 none 0) {s : hf_St} {a1 : Int32} {a2 : Int32} : hf_X x A 3 (0, 0) (hf_Q x hcT ad cA A hf_rv) (Fc_draft_addRule s a1 a2) (hf_wd hcT ad cA s) 0 [(0, .ref (ad 8)), (1, .int a1), (2, .int a2)] [] := by
  have gc := g.1
  unfold Fc_draft_addRule
  refine hf_aload_n (i := 0) (q := 0) gc dX7_addRule_0 rfl rfl ?_
  refine hf_getI (j := 8) (k := 6) g rfl rfl kF_RX7_30 dX7_addRule_1 ?_
  refine hf_bipush (v := 20) gc dX7_addRule_4 (by decide) ?_
  refine hf_icmp_ge (tgt := 49) gc dX7_addRule_6 (by decide) ?_ ?_
  · exact hf_vret g dX7_addRule_49 rfl
  · refine hf_aload_n (i := 0) (q := 0) gc dX7_addRule_9 rfl rfl ?_
    refine hf_getR (j := 8) (k := 0) (r := 35) g rfl rfl kF_RX7_11 dX7_addRule_10 ?_
    refine hf_aload_n (i := 0) (q := 0) gc dX7_addRule_13 rfl rfl ?_
    refine hf_getI (j := 8) (k := 6) g rfl rfl kF_RX7_30 dX7_addRule_14 ?_
    refine hf_iload_n (i := 1) (q := 1) gc dX7_addRule_17 rfl rfl ?_
    refine hf_iast (a := 22) (r := 35) (n := 20) g rfl rfl dX7_addRule_18 (fun s1 => ?_)
    refine hf_aload_n (i := 0) (q := 0) gc dX7_addRule_19 rfl rfl ?_
    refine hf_getR (j := 8) (k := 1) (r := 36) g rfl rfl kF_RX7_15 dX7_addRule_20 ?_
    refine hf_aload_n (i := 0) (q := 0) gc dX7_addRule_23 rfl rfl ?_
    refine hf_getI (j := 8) (k := 6) g rfl rfl kF_RX7_30 dX7_addRule_24 ?_
    refine hf_iload_n (i := 2) (q := 2) gc dX7_addRule_27 rfl rfl ?_
    refine hf_iast (a := 23) (r := 36) (n := 20) g rfl rfl dX7_addRule_28 (fun s2 => ?_)
    refine hf_aload_n (i := 0) (q := 0) gc dX7_addRule_29 rfl rfl ?_
    refine hf_getR (j := 8) (k := 2) (r := 37) g rfl rfl kF_RX7_18 dX7_addRule_30 ?_
    refine hf_aload_n (i := 0) (q := 0) gc dX7_addRule_33 rfl rfl ?_
    refine hf_getI (j := 8) (k := 6) g rfl rfl kF_RX7_30 dX7_addRule_34 ?_
    refine hf_iconst (v := 0) gc dX7_addRule_37 (by decide) ?_
    refine hf_iast (a := 24) (r := 37) (n := 20) g rfl rfl dX7_addRule_38 (fun s3 => ?_)
    refine hf_aload_n (i := 0) (q := 0) gc dX7_addRule_39 rfl rfl ?_
    refine hf_dup gc dX7_addRule_40 rfl ?_
    refine hf_getI (j := 8) (k := 6) g rfl rfl kF_RX7_30 dX7_addRule_41 ?_
    refine hf_iconst (v := 1) gc dX7_addRule_44 (by decide) ?_
    refine hf_iadd gc dX7_addRule_45 ?_
    refine hf_putI (j := 8) (k := 6) g rfl rfl kP_RX7_30 rfl rfl dX7_addRule_46 (fun s4 => ?_)
    exact hf_vret g dX7_addRule_49 rfl
theorem cc_draft_addRule {l0 : Launch} {D0 : va_G} {ad : Nat → Nat} {cA : Nat → ClassId} {E : State → Prop} {s : hf_St} {a1 : Int32} {a2 : Int32} : hf_Ct l0 D0 hcT ad cA E 0 yX7_addRule cX7_addRule 3 none [.ref (ad 8), .int a1, .int a2] s (Fc_draft_addRule s a1 a2) hf_rv := hf_met (by decide) (Nat.le_of_ble_eq_true rfl) (fun _ _ g => xc_draft_addRule g)
set_option maxHeartbeats 2000000 in
set_option maxRecDepth 20000 in
theorem xc_reader_readHead_b45 {x : hf_Cx} {ad : Nat → Nat} {cA : Nat → ClassId} {E : State → Prop} {A : Nat → Prop} {l0 : Launch} {D0 : va_G} {adK adV : Nat → Nat} (g : hf_G x hcT ad cA E A l0 D0 cX8_readHead 4 RX8 (some .boolean) 6) (hq : hc_need E ad adK adV) (s : hf_St) (l2 : Int32) (t0 : Int32) : hf_X x A 4 (0, 0) (hf_Q x hcT ad cA A hf_ri) (Fc_reader_readHead_b45 s l2 t0) (hf_wd hcT ad cA s) 45 [(0, .ref (ad 7)), (2, .int l2)] [.int t0] := by
  have gc := g.1
  unfold Fc_reader_readHead_b45
  refine hf_istore_n (i := 3) (lv' := [(3, .int t0), (0, .ref (ad 7)), (2, .int l2)]) gc dX8_readHead_45 rfl (by decide) rfl ?_
  refine hf_iload_n (i := 3) (q := 0) gc dX8_readHead_46 rfl rfl ?_
  refine hf_iconst (v := -1) gc dX8_readHead_47 (by decide) ?_
  refine hf_icmp_ne (tgt := 53) gc dX8_readHead_48 (by decide) ?_ ?_
  · refine hf_aload_n (i := 0) (q := 1) gc dX8_readHead_53 rfl rfl ?_
    refine hf_getR (j := 7) (k := 1) (r := 8) g rfl rfl kF_RX8_12 dX8_readHead_54 ?_
    refine hf_iload_n (i := 2) (q := 2) gc dX8_readHead_57 rfl rfl ?_
    refine hf_iload_n (i := 3) (q := 0) gc dX8_readHead_58 rfl rfl ?_
    refine hf_callV0 (j := 8) g (cc_draft_addRule (a1 := l2) (a2 := t0)) kV_RX8_59 (by decide) (by decide) rfl rfl rfl rfl (Nat.le_of_ble_eq_true rfl) dX8_readHead_59 (fun s1 => ?_)
    refine hf_iconst (v := 1) gc dX8_readHead_62 (by decide) ?_
    exact hf_zret g dX8_readHead_63 rfl
  · refine hf_iconst (v := 0) gc dX8_readHead_51 (by decide) ?_
    exact hf_zret g dX8_readHead_52 rfl
set_option maxHeartbeats 2000000 in
set_option maxRecDepth 20000 in
theorem xc_reader_readHead {x : hf_Cx} {ad : Nat → Nat} {cA : Nat → ClassId} {E : State → Prop} {A : Nat → Prop} {l0 : Launch} {D0 : va_G} {adK adV : Nat → Nat} (g : hf_G x hcT ad cA E A l0 D0 cX8_readHead 4 RX8 (some .boolean) 6) (hq : hc_need E ad adK adV) {s : hf_St} {a1 : Int32} : hf_X x A 4 (0, 0) (hf_Q x hcT ad cA A hf_ri) (Fc_reader_readHead s a1) (hf_wd hcT ad cA s) 0 [(0, .ref (ad 7)), (1, .int a1)] [] := by
  have gc := g.1
  unfold Fc_reader_readHead
  refine hf_aload_n (i := 0) (q := 0) gc dX8_readHead_0 rfl rfl ?_
  refine hf_callV1 (j := 7) g (cc_reader_kindOfWord hq) kV_RX8_49 (by decide) (by decide) rfl rfl rfl rfl (Nat.le_of_ble_eq_true rfl) dX8_readHead_1 (fun v1 => ?_)
  refine hf_istore_n (i := 2) (lv' := [(2, .int v1), (0, .ref (ad 7)), (1, .int a1)]) gc dX8_readHead_4 rfl (by decide) rfl ?_
  refine hf_iload_n (i := 2) (q := 0) gc dX8_readHead_5 rfl rfl ?_
  refine hf_iconst (v := -1) gc dX8_readHead_6 (by decide) ?_
  refine hf_icmp_ne (tgt := 16) gc dX8_readHead_7 (by decide) ?_ ?_
  · refine hf_iload_n (i := 1) (q := 2) gc dX8_readHead_16 rfl rfl ?_
    refine hf_bipush (v := 20) gc dX8_readHead_17 (by decide) ?_
    refine hf_icmp_lt (tgt := 28) gc dX8_readHead_19 (by decide) ?_ ?_
    · refine hf_aload_n (i := 0) (q := 1) gc dX8_readHead_28 rfl rfl ?_
      refine hf_callV0 (j := 7) g (cc_reader_step) kV_RX8_32 (by decide) (by decide) rfl rfl rfl rfl (Nat.le_of_ble_eq_true rfl) dX8_readHead_29 (fun s2 => ?_)
      refine hf_iload_n (i := 2) (q := 0) gc dX8_readHead_32 rfl rfl ?_
      refine hf_iconst (v := 2) gc dX8_readHead_33 (by decide) ?_
      refine hf_icmp_ne (tgt := 44) gc dX8_readHead_34 (by decide) ?_ ?_
      · refine hf_iconst (v := 0) gc dX8_readHead_44 (by decide) ?_
        refine hf_sub (lv' := [(0, .ref (ad 7)), (2, .int v1)]) [1, 0] rfl ?_
        exact xc_reader_readHead_b45 g hq _ _ _
      · refine hf_aload_n (i := 0) (q := 1) gc dX8_readHead_37 rfl rfl ?_
        refine hf_callV2 (j := 7) g (cc_reader_readWeight) kV_RX8_56 (by decide) (by decide) rfl rfl rfl rfl (Nat.le_of_ble_eq_true rfl) dX8_readHead_38 (fun v3 s4 => ?_)
        refine hf_goto (tgt := 45) gc dX8_readHead_41 (by decide) ?_
        refine hf_sub (lv' := [(0, .ref (ad 7)), (2, .int v1)]) [1, 0] rfl ?_
        exact xc_reader_readHead_b45 g hq _ _ _
    · refine hf_aload_n (i := 0) (q := 1) gc dX8_readHead_22 rfl rfl ?_
      refine hf_iconst (v := 2) gc dX8_readHead_23 (by decide) ?_
      refine hf_callV2 (j := 7) g (cc_reader_refuse (a1 := (2 : Int32))) kV_RX8_53 (by decide) (by decide) rfl rfl rfl rfl (Nat.le_of_ble_eq_true rfl) dX8_readHead_24 (fun v5 s6 => ?_)
      exact hf_zret g dX8_readHead_27 rfl
  · refine hf_aload_n (i := 0) (q := 1) gc dX8_readHead_10 rfl rfl ?_
    refine hf_iconst (v := 0) gc dX8_readHead_11 (by decide) ?_
    refine hf_callV2 (j := 7) g (cc_reader_refuse (a1 := (0 : Int32))) kV_RX8_53 (by decide) (by decide) rfl rfl rfl rfl (Nat.le_of_ble_eq_true rfl) dX8_readHead_12 (fun v7 s8 => ?_)
    exact hf_zret g dX8_readHead_15 rfl
theorem cc_reader_readHead {l0 : Launch} {D0 : va_G} {ad : Nat → Nat} {cA : Nat → ClassId} {E : State → Prop} {adK adV : Nat → Nat} (hq : hc_need E ad adK adV) {s : hf_St} {a1 : Int32} : hf_Ct l0 D0 hcT ad cA E 6 yX8_readHead cX8_readHead 4 (some .boolean) [.ref (ad 7), .int a1] s (Fc_reader_readHead s a1) hf_ri := hf_met (by decide) (Nat.le_of_ble_eq_true rfl) (fun _ _ g => xc_reader_readHead g hq)
set_option maxHeartbeats 2000000 in
set_option maxRecDepth 20000 in
theorem xc_reader_slotOfWord_b82 {x : hf_Cx} {ad : Nat → Nat} {cA : Nat → ClassId} {E : State → Prop} {A : Nat → Prop} {l0 : Launch} {D0 : va_G} {adK adV : Nat → Nat} {s : hf_St} (g : hf_G x hcT ad cA E A l0 D0 cX8_slotOfWord 4 RX8 (some .int) 1) (hq : hc_need E ad adK adV) (l2 : Int32) (t0 : Int32) : hf_X x A 4 (0, 0) (hf_Q x hcT ad cA A (hf_rp s)) (Fc_reader_slotOfWord_b82 s l2 t0) (hf_wd hcT ad cA s) 82 [(2, .int l2)] [.int t0] := by
  have gc := g.1
  unfold Fc_reader_slotOfWord_b82
  refine hf_iload_n (i := 2) (q := 0) gc dX8_slotOfWord_82 rfl rfl ?_
  refine hf_callSN1 (n := 2) (host := "HomeFinder") g (cc_hf_slotOf (a1 := t0) (a2 := l2)) (fun U h => hn_RX8_109 hq U h) kw_code_yX11_slotOf kw_init_RX11 kw_static_yX11_slotOf (by decide +kernel) (by decide) (by decide) rfl rfl (Nat.le_of_ble_eq_true rfl) dX8_slotOfWord_83 (fun v1 => ?_)
  refine hf_goto (tgt := 90) gc dX8_slotOfWord_86 (by decide) ?_
  exact hf_iret g dX8_slotOfWord_90 rfl
set_option maxHeartbeats 2000000 in
set_option maxRecDepth 20000 in
theorem xc_reader_slotOfWord_b59 {x : hf_Cx} {ad : Nat → Nat} {cA : Nat → ClassId} {E : State → Prop} {A : Nat → Prop} {l0 : Launch} {D0 : va_G} {adK adV : Nat → Nat} {s : hf_St} (g : hf_G x hcT ad cA E A l0 D0 cX8_slotOfWord 4 RX8 (some .int) 1) (hq : hc_need E ad adK adV) (l1 : Int32) (l2 : Int32) (t0 : Int32) : hf_X x A 4 (0, 0) (hf_Q x hcT ad cA A (hf_rp s)) (Fc_reader_slotOfWord_b59 s l1 l2 t0) (hf_wd hcT ad cA s) 59 [(1, .int l1), (2, .int l2)] [.int t0] := by
  have gc := g.1
  unfold Fc_reader_slotOfWord_b59
  refine hf_istore_n (i := 3) (lv' := [(3, .int t0), (1, .int l1), (2, .int l2)]) gc dX8_slotOfWord_59 rfl (by decide) rfl ?_
  refine hf_iload_n (i := 3) (q := 0) gc dX8_slotOfWord_60 rfl rfl ?_
  refine hf_if_eq (tgt := 89) gc dX8_slotOfWord_61 (by decide) ?_ ?_
  · refine hf_iconst (v := -1) gc dX8_slotOfWord_89 (by decide) ?_
    exact hf_iret g dX8_slotOfWord_90 rfl
  · refine hf_iload_n (i := 2) (q := 2) gc dX8_slotOfWord_64 rfl rfl ?_
    refine hf_callSN1 (n := 1) (host := "HomeFinder") g (cc_hf_isField (a1 := l2)) (fun U h => hn_RX8_106 hq U h) kw_code_yX11_isField kw_init_RX11 kw_static_yX11_isField (by decide +kernel) (by decide) (by decide) rfl rfl (Nat.le_of_ble_eq_true rfl) dX8_slotOfWord_65 (fun v1 => ?_)
    refine hf_if_eq (tgt := 89) gc dX8_slotOfWord_68 (by decide) ?_ ?_
    · refine hf_iconst (v := -1) gc dX8_slotOfWord_89 (by decide) ?_
      exact hf_iret g dX8_slotOfWord_90 rfl
    · refine hf_iload_n (i := 1) (q := 1) gc dX8_slotOfWord_71 rfl rfl ?_
      refine hf_bipush (v := 104) gc dX8_slotOfWord_72 (by decide) ?_
      refine hf_icmp_ne (tgt := 81) gc dX8_slotOfWord_74 (by decide) ?_ ?_
      · refine hf_iconst (v := 0) gc dX8_slotOfWord_81 (by decide) ?_
        refine hf_sub (lv' := [(2, .int l2)]) [2] rfl ?_
        exact xc_reader_slotOfWord_b82 g hq _ _
      · refine hf_iconst (v := 1) gc dX8_slotOfWord_77 (by decide) ?_
        refine hf_goto (tgt := 82) gc dX8_slotOfWord_78 (by decide) ?_
        refine hf_sub (lv' := [(2, .int l2)]) [2] rfl ?_
        exact xc_reader_slotOfWord_b82 g hq _ _
set_option maxHeartbeats 2000000 in
set_option maxRecDepth 20000 in
theorem xc_reader_slotOfWord_b54 {x : hf_Cx} {ad : Nat → Nat} {cA : Nat → ClassId} {E : State → Prop} {A : Nat → Prop} {l0 : Launch} {D0 : va_G} {adK adV : Nat → Nat} {s : hf_St} (g : hf_G x hcT ad cA E A l0 D0 cX8_slotOfWord 4 RX8 (some .int) 1) (hq : hc_need E ad adK adV) (l1 : Int32) (l2 : Int32) : hf_X x A 4 (0, 0) (hf_Q x hcT ad cA A (hf_rp s)) (Fc_reader_slotOfWord_b54 s l1 l2) (hf_wd hcT ad cA s) 54 [(1, .int l1), (2, .int l2)] [] := by
  have gc := g.1
  unfold Fc_reader_slotOfWord_b54
  refine hf_iconst (v := 1) gc dX8_slotOfWord_54 (by decide) ?_
  refine hf_goto (tgt := 59) gc dX8_slotOfWord_55 (by decide) ?_
  exact xc_reader_slotOfWord_b59 g hq _ _ _
set_option maxHeartbeats 2000000 in
set_option maxRecDepth 20000 in
theorem xc_reader_slotOfWord_b58 {x : hf_Cx} {ad : Nat → Nat} {cA : Nat → ClassId} {E : State → Prop} {A : Nat → Prop} {l0 : Launch} {D0 : va_G} {adK adV : Nat → Nat} {s : hf_St} (g : hf_G x hcT ad cA E A l0 D0 cX8_slotOfWord 4 RX8 (some .int) 1) (hq : hc_need E ad adK adV) (l1 : Int32) (l2 : Int32) : hf_X x A 4 (0, 0) (hf_Q x hcT ad cA A (hf_rp s)) (Fc_reader_slotOfWord_b58 s l1 l2) (hf_wd hcT ad cA s) 58 [(1, .int l1), (2, .int l2)] [] := by
  have gc := g.1
  unfold Fc_reader_slotOfWord_b58
  refine hf_iconst (v := 0) gc dX8_slotOfWord_58 (by decide) ?_
  exact xc_reader_slotOfWord_b59 g hq _ _ _
set_option maxHeartbeats 2000000 in
set_option maxRecDepth 20000 in
theorem xc_reader_slotOfWord {x : hf_Cx} {ad : Nat → Nat} {cA : Nat → ClassId} {E : State → Prop} {A : Nat → Prop} {l0 : Launch} {D0 : va_G} {adK adV : Nat → Nat} (g : hf_G x hcT ad cA E A l0 D0 cX8_slotOfWord 4 RX8 (some .int) 1) (hq : hc_need E ad adK adV) {s : hf_St} : hf_X x A 4 (0, 0) (hf_Q x hcT ad cA A (hf_rp s)) (Fc_reader_slotOfWord s) (hf_wd hcT ad cA s) 0 [(0, .ref (ad 7))] [] := by
  have gc := g.1
  unfold Fc_reader_slotOfWord
  refine hf_aload_n (i := 0) (q := 0) gc dX8_slotOfWord_0 rfl rfl ?_
  refine hf_getR (j := 7) (k := 0) (r := 5) g rfl rfl kF_RX8_18 dX8_slotOfWord_1 ?_
  refine hf_aload_n (i := 0) (q := 0) gc dX8_slotOfWord_4 rfl rfl ?_
  refine hf_getI (j := 7) (k := 2) g rfl rfl kF_RX8_63 dX8_slotOfWord_5 ?_
  refine hf_callV1 (j := 5) g (cc_tape_byteAt (a1 := s.1 7 2)) kV_RX8_66 (by decide) (by decide) rfl rfl rfl rfl (Nat.le_of_ble_eq_true rfl) dX8_slotOfWord_8 (fun v1 => ?_)
  refine hf_istore_n (i := 1) (lv' := [(1, .int v1), (0, .ref (ad 7))]) gc dX8_slotOfWord_11 rfl (by decide) rfl ?_
  refine hf_aload_n (i := 0) (q := 1) gc dX8_slotOfWord_12 rfl rfl ?_
  refine hf_getR (j := 7) (k := 0) (r := 5) g rfl rfl kF_RX8_18 dX8_slotOfWord_13 ?_
  refine hf_aload_n (i := 0) (q := 1) gc dX8_slotOfWord_16 rfl rfl ?_
  refine hf_getI (j := 7) (k := 2) g rfl rfl kF_RX8_63 dX8_slotOfWord_17 ?_
  refine hf_iconst (v := 1) gc dX8_slotOfWord_20 (by decide) ?_
  refine hf_iadd gc dX8_slotOfWord_21 ?_
  refine hf_callV1 (j := 5) g (cc_tape_byteAt (a1 := (s.1 7 2) + ((1 : Int32)))) kV_RX8_66 (by decide) (by decide) rfl rfl rfl rfl (Nat.le_of_ble_eq_true rfl) dX8_slotOfWord_22 (fun v2 => ?_)
  refine hf_bipush (v := 48) gc dX8_slotOfWord_25 (by decide) ?_
  refine hf_isub gc dX8_slotOfWord_27 ?_
  refine hf_let (fun v3 => ?_)
  refine hf_istore_n (i := 2) (lv' := [(2, .int v3), (1, .int v1), (0, .ref (ad 7))]) gc dX8_slotOfWord_28 rfl (by decide) rfl ?_
  refine hf_aload_n (i := 0) (q := 2) gc dX8_slotOfWord_29 rfl rfl ?_
  refine hf_getI (j := 7) (k := 3) g rfl rfl kF_RX8_29 dX8_slotOfWord_30 ?_
  refine hf_aload_n (i := 0) (q := 2) gc dX8_slotOfWord_33 rfl rfl ?_
  refine hf_getI (j := 7) (k := 2) g rfl rfl kF_RX8_63 dX8_slotOfWord_34 ?_
  refine hf_isub gc dX8_slotOfWord_37 ?_
  refine hf_iconst (v := 2) gc dX8_slotOfWord_38 (by decide) ?_
  refine hf_icmp_ne (tgt := 58) gc dX8_slotOfWord_39 (by decide) ?_ ?_
  · refine hf_sub (lv' := [(1, .int v1), (2, .int v3)]) [1, 0] rfl ?_
    exact xc_reader_slotOfWord_b58 g hq _ _
  · refine hf_iload_n (i := 1) (q := 1) gc dX8_slotOfWord_42 rfl rfl ?_
    refine hf_bipush (v := 99) gc dX8_slotOfWord_43 (by decide) ?_
    refine hf_icmp_eq (tgt := 54) gc dX8_slotOfWord_45 (by decide) ?_ ?_
    · refine hf_sub (lv' := [(1, .int v1), (2, .int v3)]) [1, 0] rfl ?_
      exact xc_reader_slotOfWord_b54 g hq _ _
    · refine hf_iload_n (i := 1) (q := 1) gc dX8_slotOfWord_48 rfl rfl ?_
      refine hf_bipush (v := 104) gc dX8_slotOfWord_49 (by decide) ?_
      refine hf_icmp_ne (tgt := 58) gc dX8_slotOfWord_51 (by decide) ?_ ?_
      · refine hf_sub (lv' := [(1, .int v1), (2, .int v3)]) [1, 0] rfl ?_
        exact xc_reader_slotOfWord_b58 g hq _ _
      · refine hf_sub (lv' := [(1, .int v1), (2, .int v3)]) [1, 0] rfl ?_
        exact xc_reader_slotOfWord_b54 g hq _ _
theorem cc_reader_slotOfWord {l0 : Launch} {D0 : va_G} {ad : Nat → Nat} {cA : Nat → ClassId} {E : State → Prop} {adK adV : Nat → Nat} (hq : hc_need E ad adK adV) {s : hf_St} : hf_Ct l0 D0 hcT ad cA E 1 yX8_slotOfWord cX8_slotOfWord 4 (some .int) [.ref (ad 7)] s (Fc_reader_slotOfWord s) (hf_rp s) := hf_met (by decide) (Nat.le_of_ble_eq_true rfl) (fun _ _ g => xc_reader_slotOfWord g hq)
set_option maxHeartbeats 2000000 in
set_option maxRecDepth 20000 in
theorem xc_reader_readSide_b75 {x : hf_Cx} {ad : Nat → Nat} {cA : Nat → ClassId} {E : State → Prop} {A : Nat → Prop} {l0 : Launch} {D0 : va_G} {adK adV : Nat → Nat} (g : hf_G x hcT ad cA E A l0 D0 cX8_readSide 5 RX8 (some .int) 2) (hq : hc_need E ad adK adV) (s : hf_St) (t0 : Int32) : hf_X x A 5 (0, 0) (hf_Q x hcT ad cA A hf_ri) (Fc_reader_readSide_b75 s t0) (hf_wd hcT ad cA s) 75 [] [.int t0, .ref (ad 7)] := by
  have gc := g.1
  unfold Fc_reader_readSide_b75
  refine hf_callV2 (j := 7) g (cc_reader_refuse (a1 := t0)) kV_RX8_53 (by decide) (by decide) rfl rfl rfl rfl (Nat.le_of_ble_eq_true rfl) dX8_readSide_75 (fun v1 s2 => ?_)
  refine hf_pop gc dX8_readSide_78 rfl ?_
  refine hf_iconst (v := -1) gc dX8_readSide_79 (by decide) ?_
  exact hf_iret g dX8_readSide_80 rfl
set_option maxHeartbeats 2000000 in
set_option maxRecDepth 20000 in
theorem xc_reader_readSide_b63 {x : hf_Cx} {ad : Nat → Nat} {cA : Nat → ClassId} {E : State → Prop} {A : Nat → Prop} {l0 : Launch} {D0 : va_G} {adK adV : Nat → Nat} (g : hf_G x hcT ad cA E A l0 D0 cX8_readSide 5 RX8 (some .int) 2) (hq : hc_need E ad adK adV) (s : hf_St) (l4 : Int32) : hf_X x A 5 (0, 0) (hf_Q x hcT ad cA A hf_ri) (Fc_reader_readSide_b63 s l4) (hf_wd hcT ad cA s) 63 [(0, .ref (ad 7)), (4, .int l4)] [] := by
  have gc := g.1
  unfold Fc_reader_readSide_b63
  refine hf_aload_n (i := 0) (q := 0) gc dX8_readSide_63 rfl rfl ?_
  refine hf_iload (i := 4) (q := 1) gc dX8_readSide_64 rfl ?_
  refine hf_iconst (v := -1) gc dX8_readSide_66 (by decide) ?_
  refine hf_icmp_ne (tgt := 74) gc dX8_readSide_67 (by decide) ?_ ?_
  · refine hf_iconst (v := 2) gc dX8_readSide_74 (by decide) ?_
    refine hf_sub (lv' := []) [] rfl ?_
    exact xc_reader_readSide_b75 g hq _ _
  · refine hf_iconst (v := 1) gc dX8_readSide_70 (by decide) ?_
    refine hf_goto (tgt := 75) gc dX8_readSide_71 (by decide) ?_
    refine hf_sub (lv' := []) [] rfl ?_
    exact xc_reader_readSide_b75 g hq _ _
set_option maxHeartbeats 2000000 in
set_option maxRecDepth 20000 in
theorem xc_reader_readSide_b51 {x : hf_Cx} {ad : Nat → Nat} {cA : Nat → ClassId} {E : State → Prop} {A : Nat → Prop} {l0 : Launch} {D0 : va_G} {adK adV : Nat → Nat} (g : hf_G x hcT ad cA E A l0 D0 cX8_readSide 5 RX8 (some .int) 2) (hq : hc_need E ad adK adV) (s : hf_St) (l1 : Int32) (t0 : Int32) : hf_X x A 5 (0, 0) (hf_Q x hcT ad cA A hf_ri) (Fc_reader_readSide_b51 s l1 t0) (hf_wd hcT ad cA s) 51 [(0, .ref (ad 7)), (1, .int l1)] [.int t0] := by
  have gc := g.1
  unfold Fc_reader_readSide_b51
  refine hf_istore (i := 4) (lv' := [(4, .int t0), (0, .ref (ad 7)), (1, .int l1)]) gc dX8_readSide_51 (by decide) rfl ?_
  refine hf_iload (i := 4) (q := 0) gc dX8_readSide_53 rfl ?_
  refine hf_iconst (v := -1) gc dX8_readSide_55 (by decide) ?_
  refine hf_icmp_eq (tgt := 63) gc dX8_readSide_56 (by decide) ?_ ?_
  · refine hf_sub (lv' := [(0, .ref (ad 7)), (4, .int t0)]) [1, 0] rfl ?_
    exact xc_reader_readSide_b63 g hq _ _
  · refine hf_iload_n (i := 1) (q := 2) gc dX8_readSide_59 rfl rfl ?_
    refine hf_if_eq (tgt := 81) gc dX8_readSide_60 (by decide) ?_ ?_
    · refine hf_aload_n (i := 0) (q := 1) gc dX8_readSide_81 rfl rfl ?_
      refine hf_callV0 (j := 7) g (cc_reader_step) kV_RX8_32 (by decide) (by decide) rfl rfl rfl rfl (Nat.le_of_ble_eq_true rfl) dX8_readSide_82 (fun s1 => ?_)
      refine hf_iload (i := 4) (q := 0) gc dX8_readSide_85 rfl ?_
      exact hf_iret g dX8_readSide_87 rfl
    · refine hf_sub (lv' := [(0, .ref (ad 7)), (4, .int t0)]) [1, 0] rfl ?_
      exact xc_reader_readSide_b63 g hq _ _
set_option maxHeartbeats 2000000 in
set_option maxRecDepth 20000 in
theorem xc_reader_readSide_b35 {x : hf_Cx} {ad : Nat → Nat} {cA : Nat → ClassId} {E : State → Prop} {A : Nat → Prop} {l0 : Launch} {D0 : va_G} {adK adV : Nat → Nat} (g : hf_G x hcT ad cA E A l0 D0 cX8_readSide 5 RX8 (some .int) 2) (hq : hc_need E ad adK adV) (s : hf_St) (l1 : Int32) (l2 : Int32) (l3 : Int32) : hf_X x A 5 (0, 0) (hf_Q x hcT ad cA A hf_ri) (Fc_reader_readSide_b35 s l1 l2 l3) (hf_wd hcT ad cA s) 35 [(0, .ref (ad 7)), (1, .int l1), (2, .int l2), (3, .int l3)] [] := by
  have gc := g.1
  unfold Fc_reader_readSide_b35
  refine hf_iload_n (i := 2) (q := 2) gc dX8_readSide_35 rfl rfl ?_
  refine hf_if_eq (tgt := 46) gc dX8_readSide_36 (by decide) ?_ ?_
  · refine hf_sipush (v := 10000) gc dX8_readSide_46 (by decide) ?_
    refine hf_iload_n (i := 3) (q := 3) gc dX8_readSide_49 rfl rfl ?_
    refine hf_iadd gc dX8_readSide_50 ?_
    refine hf_sub (lv' := [(0, .ref (ad 7)), (1, .int l1)]) [0, 1] rfl ?_
    exact xc_reader_readSide_b51 g hq _ _ _
  · refine hf_aload_n (i := 0) (q := 0) gc dX8_readSide_39 rfl rfl ?_
    refine hf_callV1 (j := 7) g (cc_reader_numberOfWord) kV_RX8_85 (by decide) (by decide) rfl rfl rfl rfl (Nat.le_of_ble_eq_true rfl) dX8_readSide_40 (fun v1 => ?_)
    refine hf_goto (tgt := 51) gc dX8_readSide_43 (by decide) ?_
    refine hf_sub (lv' := [(0, .ref (ad 7)), (1, .int l1)]) [0, 1] rfl ?_
    exact xc_reader_readSide_b51 g hq _ _ _
set_option maxHeartbeats 2000000 in
set_option maxRecDepth 20000 in
theorem xc_reader_readSide_b17 {x : hf_Cx} {ad : Nat → Nat} {cA : Nat → ClassId} {E : State → Prop} {A : Nat → Prop} {l0 : Launch} {D0 : va_G} {adK adV : Nat → Nat} (g : hf_G x hcT ad cA E A l0 D0 cX8_readSide 5 RX8 (some .int) 2) (hq : hc_need E ad adK adV) (s : hf_St) (l1 : Int32) (l2 : Int32) (t0 : Int32) : hf_X x A 5 (0, 0) (hf_Q x hcT ad cA A hf_ri) (Fc_reader_readSide_b17 s l1 l2 t0) (hf_wd hcT ad cA s) 17 [(0, .ref (ad 7)), (1, .int l1), (2, .int l2)] [.int t0] := by
  have gc := g.1
  unfold Fc_reader_readSide_b17
  refine hf_istore_n (i := 3) (lv' := [(3, .int t0), (0, .ref (ad 7)), (1, .int l1), (2, .int l2)]) gc dX8_readSide_17 rfl (by decide) rfl ?_
  refine hf_iload_n (i := 2) (q := 3) gc dX8_readSide_18 rfl rfl ?_
  refine hf_if_ne (tgt := 35) gc dX8_readSide_19 (by decide) ?_ ?_
  · refine hf_sub (lv' := [(0, .ref (ad 7)), (1, .int l1), (2, .int l2), (3, .int t0)]) [1, 2, 3, 0] rfl ?_
    exact xc_reader_readSide_b35 g hq _ _ _ _
  · refine hf_iload_n (i := 3) (q := 0) gc dX8_readSide_22 rfl rfl ?_
    refine hf_iconst (v := -1) gc dX8_readSide_23 (by decide) ?_
    refine hf_icmp_ne (tgt := 35) gc dX8_readSide_24 (by decide) ?_ ?_
    · refine hf_sub (lv' := [(0, .ref (ad 7)), (1, .int l1), (2, .int l2), (3, .int t0)]) [1, 2, 3, 0] rfl ?_
      exact xc_reader_readSide_b35 g hq _ _ _ _
    · refine hf_aload_n (i := 0) (q := 1) gc dX8_readSide_27 rfl rfl ?_
      refine hf_iconst (v := 0) gc dX8_readSide_28 (by decide) ?_
      refine hf_callV2 (j := 7) g (cc_reader_refuse (a1 := (0 : Int32))) kV_RX8_53 (by decide) (by decide) rfl rfl rfl rfl (Nat.le_of_ble_eq_true rfl) dX8_readSide_29 (fun v1 s2 => ?_)
      refine hf_pop gc dX8_readSide_32 rfl ?_
      refine hf_iconst (v := -1) gc dX8_readSide_33 (by decide) ?_
      exact hf_iret g dX8_readSide_34 rfl
set_option maxHeartbeats 2000000 in
set_option maxRecDepth 20000 in
theorem xc_reader_readSide {x : hf_Cx} {ad : Nat → Nat} {cA : Nat → ClassId} {E : State → Prop} {A : Nat → Prop} {l0 : Launch} {D0 : va_G} {adK adV : Nat → Nat} (g : hf_G x hcT ad cA E A l0 D0 cX8_readSide 5 RX8 (some .int) 2) (hq : hc_need E ad adK adV) {s : hf_St} {a1 : Int32} : hf_X x A 5 (0, 0) (hf_Q x hcT ad cA A hf_ri) (Fc_reader_readSide s a1) (hf_wd hcT ad cA s) 0 [(0, .ref (ad 7)), (1, .int a1)] [] := by
  have gc := g.1
  unfold Fc_reader_readSide
  refine hf_aload_n (i := 0) (q := 0) gc dX8_readSide_0 rfl rfl ?_
  refine hf_callV1 (j := 7) g (cc_reader_isNumber) kV_RX8_82 (by decide) (by decide) rfl rfl rfl rfl (Nat.le_of_ble_eq_true rfl) dX8_readSide_1 (fun v1 => ?_)
  refine hf_istore_n (i := 2) (lv' := [(2, .int v1), (0, .ref (ad 7)), (1, .int a1)]) gc dX8_readSide_4 rfl (by decide) rfl ?_
  refine hf_iload_n (i := 2) (q := 0) gc dX8_readSide_5 rfl rfl ?_
  refine hf_if_eq (tgt := 13) gc dX8_readSide_6 (by decide) ?_ ?_
  · refine hf_aload_n (i := 0) (q := 1) gc dX8_readSide_13 rfl rfl ?_
    refine hf_callV1 (j := 7) g (cc_reader_slotOfWord hq) kV_RX8_101 (by decide) (by decide) rfl rfl rfl rfl (Nat.le_of_ble_eq_true rfl) dX8_readSide_14 (fun v2 => ?_)
    refine hf_sub (lv' := [(0, .ref (ad 7)), (1, .int a1), (2, .int v1)]) [1, 2, 0] rfl ?_
    exact xc_reader_readSide_b17 g hq _ _ _ _
  · refine hf_iconst (v := -1) gc dX8_readSide_9 (by decide) ?_
    refine hf_goto (tgt := 17) gc dX8_readSide_10 (by decide) ?_
    refine hf_sub (lv' := [(0, .ref (ad 7)), (1, .int a1), (2, .int v1)]) [1, 2, 0] rfl ?_
    exact xc_reader_readSide_b17 g hq _ _ _ _
theorem cc_reader_readSide {l0 : Launch} {D0 : va_G} {ad : Nat → Nat} {cA : Nat → ClassId} {E : State → Prop} {adK adV : Nat → Nat} (hq : hc_need E ad adK adV) {s : hf_St} {a1 : Int32} : hf_Ct l0 D0 hcT ad cA E 2 yX8_readSide cX8_readSide 5 (some .int) [.ref (ad 7), .int a1] s (Fc_reader_readSide s a1) hf_ri := hf_met (by decide) (Nat.le_of_ble_eq_true rfl) (fun _ _ g => xc_reader_readSide g hq)
set_option maxHeartbeats 2000000 in
set_option maxRecDepth 20000 in
theorem xc_draft_addTerm {x : hf_Cx} {ad : Nat → Nat} {cA : Nat → ClassId} {E : State → Prop} {A : Nat → Prop} {l0 : Launch} {D0 : va_G} (g : hf_G x hcT ad cA E A l0 D0 cX7_addTerm 6 RX7 none 0) {s : hf_St} {a1 : Int32} {a2 : Int32} {a3 : Int32} : hf_X x A 6 (0, 0) (hf_Q x hcT ad cA A hf_rv) (Fc_draft_addTerm s a1 a2 a3) (hf_wd hcT ad cA s) 0 [(0, .ref (ad 8)), (1, .int a1), (2, .int a2), (3, .int a3)] [] := by
  have gc := g.1
  unfold Fc_draft_addTerm
  refine hf_aload_n (i := 0) (q := 0) gc dX7_addTerm_0 rfl rfl ?_
  refine hf_getI (j := 8) (k := 6) g rfl rfl kF_RX7_30 dX7_addTerm_1 ?_
  refine hf_iconst (v := 1) gc dX7_addTerm_4 (by decide) ?_
  refine hf_isub gc dX7_addTerm_5 ?_
  refine hf_let (fun v1 => ?_)
  refine hf_istore (i := 4) (lv' := [(4, .int v1), (0, .ref (ad 8)), (1, .int a1), (2, .int a2), (3, .int a3)]) gc dX7_addTerm_6 (by decide) rfl ?_
  refine hf_iload (i := 4) (q := 0) gc dX7_addTerm_8 rfl ?_
  refine hf_if_lt (tgt := 25) gc dX7_addTerm_10 (by decide) ?_ ?_
  · exact hf_vret g dX7_addTerm_25 rfl
  · refine hf_aload_n (i := 0) (q := 1) gc dX7_addTerm_13 rfl rfl ?_
    refine hf_getR (j := 8) (k := 2) (r := 37) g rfl rfl kF_RX7_18 dX7_addTerm_14 ?_
    refine hf_iload (i := 4) (q := 0) gc dX7_addTerm_17 rfl ?_
    refine hf_iald (a := 24) (r := 37) (n := 20) g rfl rfl dX7_addTerm_19 ?_
    refine hf_bipush (v := 6) gc dX7_addTerm_20 (by decide) ?_
    refine hf_icmp_lt (tgt := 26) gc dX7_addTerm_22 (by decide) ?_ ?_
    · refine hf_iload (i := 4) (q := 0) gc dX7_addTerm_26 rfl ?_
      refine hf_bipush (v := 6) gc dX7_addTerm_28 (by decide) ?_
      refine hf_imul gc dX7_addTerm_30 ?_
      refine hf_aload_n (i := 0) (q := 1) gc dX7_addTerm_31 rfl rfl ?_
      refine hf_getR (j := 8) (k := 2) (r := 37) g rfl rfl kF_RX7_18 dX7_addTerm_32 ?_
      refine hf_iload (i := 4) (q := 0) gc dX7_addTerm_35 rfl ?_
      refine hf_iald (a := 24) (r := 37) (n := 20) g rfl rfl dX7_addTerm_37 ?_
      refine hf_iadd gc dX7_addTerm_38 ?_
      refine hf_let (fun v2 => ?_)
      refine hf_istore (i := 5) (lv' := [(5, .int v2), (4, .int v1), (0, .ref (ad 8)), (1, .int a1), (2, .int a2), (3, .int a3)]) gc dX7_addTerm_39 (by decide) rfl ?_
      refine hf_aload_n (i := 0) (q := 2) gc dX7_addTerm_41 rfl rfl ?_
      refine hf_getR (j := 8) (k := 3) (r := 38) g rfl rfl kF_RX7_21 dX7_addTerm_42 ?_
      refine hf_iload (i := 5) (q := 0) gc dX7_addTerm_45 rfl ?_
      refine hf_iload_n (i := 1) (q := 3) gc dX7_addTerm_47 rfl rfl ?_
      refine hf_iast (a := 25) (r := 38) (n := 120) g rfl rfl dX7_addTerm_48 (fun s3 => ?_)
      refine hf_aload_n (i := 0) (q := 2) gc dX7_addTerm_49 rfl rfl ?_
      refine hf_getR (j := 8) (k := 4) (r := 39) g rfl rfl kF_RX7_24 dX7_addTerm_50 ?_
      refine hf_iload (i := 5) (q := 0) gc dX7_addTerm_53 rfl ?_
      refine hf_iload_n (i := 2) (q := 4) gc dX7_addTerm_55 rfl rfl ?_
      refine hf_iast (a := 26) (r := 39) (n := 120) g rfl rfl dX7_addTerm_56 (fun s4 => ?_)
      refine hf_aload_n (i := 0) (q := 2) gc dX7_addTerm_57 rfl rfl ?_
      refine hf_getR (j := 8) (k := 5) (r := 40) g rfl rfl kF_RX7_27 dX7_addTerm_58 ?_
      refine hf_iload (i := 5) (q := 0) gc dX7_addTerm_61 rfl ?_
      refine hf_iload_n (i := 3) (q := 5) gc dX7_addTerm_63 rfl rfl ?_
      refine hf_iast (a := 27) (r := 40) (n := 120) g rfl rfl dX7_addTerm_64 (fun s5 => ?_)
      refine hf_aload_n (i := 0) (q := 2) gc dX7_addTerm_65 rfl rfl ?_
      refine hf_getR (j := 8) (k := 2) (r := 37) g rfl rfl kF_RX7_18 dX7_addTerm_66 ?_
      refine hf_iload (i := 4) (q := 1) gc dX7_addTerm_69 rfl ?_
      refine hf_dup2 gc dX7_addTerm_71 rfl rfl ?_
      refine hf_iald (a := 24) (r := 37) (n := 20) g rfl rfl dX7_addTerm_72 ?_
      refine hf_iconst (v := 1) gc dX7_addTerm_73 (by decide) ?_
      refine hf_iadd gc dX7_addTerm_74 ?_
      refine hf_iast (a := 24) (r := 37) (n := 20) g rfl rfl dX7_addTerm_75 (fun s6 => ?_)
      exact hf_vret g dX7_addTerm_76 rfl
    · exact hf_vret g dX7_addTerm_25 rfl
theorem cc_draft_addTerm {l0 : Launch} {D0 : va_G} {ad : Nat → Nat} {cA : Nat → ClassId} {E : State → Prop} {s : hf_St} {a1 : Int32} {a2 : Int32} {a3 : Int32} : hf_Ct l0 D0 hcT ad cA E 0 yX7_addTerm cX7_addTerm 6 none [.ref (ad 8), .int a1, .int a2, .int a3] s (Fc_draft_addTerm s a1 a2 a3) hf_rv := hf_met (by decide) (Nat.le_of_ble_eq_true rfl) (fun _ _ g => xc_draft_addTerm g)
set_option maxHeartbeats 2000000 in
set_option maxRecDepth 20000 in
theorem xc_reader_readTerm_b59 {x : hf_Cx} {ad : Nat → Nat} {cA : Nat → ClassId} {E : State → Prop} {A : Nat → Prop} {l0 : Launch} {D0 : va_G} {adK adV : Nat → Nat} (g : hf_G x hcT ad cA E A l0 D0 cX8_readTerm 5 RX8 (some .boolean) 3) (hq : hc_need E ad adK adV) (s : hf_St) (l2 : Int32) (l3 : Int32) : hf_X x A 5 (0, 0) (hf_Q x hcT ad cA A hf_ri) (Fc_reader_readTerm_b59 s l2 l3) (hf_wd hcT ad cA s) 59 [(0, .ref (ad 7)), (2, .int l2), (3, .int l3)] [] := by
  have gc := g.1
  unfold Fc_reader_readTerm_b59
  refine hf_aload_n (i := 0) (q := 0) gc dX8_readTerm_59 rfl rfl ?_
  refine hf_callV0 (j := 7) g (cc_reader_step) kV_RX8_32 (by decide) (by decide) rfl rfl rfl rfl (Nat.le_of_ble_eq_true rfl) dX8_readTerm_60 (fun s1 => ?_)
  refine hf_aload_n (i := 0) (q := 0) gc dX8_readTerm_63 rfl rfl ?_
  refine hf_iconst (v := 0) gc dX8_readTerm_64 (by decide) ?_
  refine hf_callV2 (j := 7) g (cc_reader_readSide hq (a1 := (0 : Int32))) kV_RX8_93 (by decide) (by decide) rfl rfl rfl rfl (Nat.le_of_ble_eq_true rfl) dX8_readTerm_65 (fun v2 s3 => ?_)
  refine hf_istore (i := 4) (lv' := [(4, .int v2), (0, .ref (ad 7)), (2, .int l2), (3, .int l3)]) gc dX8_readTerm_68 (by decide) rfl ?_
  refine hf_iload (i := 4) (q := 0) gc dX8_readTerm_70 rfl ?_
  refine hf_iconst (v := -1) gc dX8_readTerm_72 (by decide) ?_
  refine hf_icmp_ne (tgt := 78) gc dX8_readTerm_73 (by decide) ?_ ?_
  · refine hf_aload_n (i := 0) (q := 1) gc dX8_readTerm_78 rfl rfl ?_
    refine hf_getR (j := 7) (k := 1) (r := 8) g rfl rfl kF_RX8_12 dX8_readTerm_79 ?_
    refine hf_iload_n (i := 2) (q := 2) gc dX8_readTerm_82 rfl rfl ?_
    refine hf_iload_n (i := 3) (q := 3) gc dX8_readTerm_83 rfl rfl ?_
    refine hf_iload (i := 4) (q := 0) gc dX8_readTerm_84 rfl ?_
    refine hf_callV0 (j := 8) g (cc_draft_addTerm (a1 := l2) (a2 := l3) (a3 := v2)) kV_RX8_97 (by decide) (by decide) rfl rfl rfl rfl (Nat.le_of_ble_eq_true rfl) dX8_readTerm_86 (fun s4 => ?_)
    refine hf_iconst (v := 1) gc dX8_readTerm_89 (by decide) ?_
    exact hf_zret g dX8_readTerm_90 rfl
  · refine hf_iconst (v := 0) gc dX8_readTerm_76 (by decide) ?_
    exact hf_zret g dX8_readTerm_77 rfl
set_option maxHeartbeats 2000000 in
set_option maxRecDepth 20000 in
theorem xc_reader_readTerm_b12 {x : hf_Cx} {ad : Nat → Nat} {cA : Nat → ClassId} {E : State → Prop} {A : Nat → Prop} {l0 : Launch} {D0 : va_G} {adK adV : Nat → Nat} (g : hf_G x hcT ad cA E A l0 D0 cX8_readTerm 5 RX8 (some .boolean) 3) (hq : hc_need E ad adK adV) (s : hf_St) (t0 : Int32) : hf_X x A 5 (0, 0) (hf_Q x hcT ad cA A hf_ri) (Fc_reader_readTerm_b12 s t0) (hf_wd hcT ad cA s) 12 [(0, .ref (ad 7))] [.int t0, .ref (ad 7)] := by
  have gc := g.1
  unfold Fc_reader_readTerm_b12
  refine hf_callV2 (j := 7) g (cc_reader_readSide hq (a1 := t0)) kV_RX8_93 (by decide) (by decide) rfl rfl rfl rfl (Nat.le_of_ble_eq_true rfl) dX8_readTerm_12 (fun v1 s2 => ?_)
  refine hf_istore_n (i := 2) (lv' := [(2, .int v1), (0, .ref (ad 7))]) gc dX8_readTerm_15 rfl (by decide) rfl ?_
  refine hf_iload_n (i := 2) (q := 0) gc dX8_readTerm_16 rfl rfl ?_
  refine hf_iconst (v := -1) gc dX8_readTerm_17 (by decide) ?_
  refine hf_icmp_ne (tgt := 23) gc dX8_readTerm_18 (by decide) ?_ ?_
  · refine hf_aload_n (i := 0) (q := 1) gc dX8_readTerm_23 rfl rfl ?_
    refine hf_getR (j := 7) (k := 0) (r := 5) g rfl rfl kF_RX8_18 dX8_readTerm_24 ?_
    refine hf_aload_n (i := 0) (q := 1) gc dX8_readTerm_27 rfl rfl ?_
    refine hf_getI (j := 7) (k := 2) g rfl rfl kF_RX8_63 dX8_readTerm_28 ?_
    refine hf_callV1 (j := 5) g (cc_tape_byteAt (a1 := s2.1 7 2)) kV_RX8_66 (by decide) (by decide) rfl rfl rfl rfl (Nat.le_of_ble_eq_true rfl) dX8_readTerm_31 (fun v3 => ?_)
    refine hf_istore_n (i := 3) (lv' := [(3, .int v3), (2, .int v1), (0, .ref (ad 7))]) gc dX8_readTerm_34 rfl (by decide) rfl ?_
    refine hf_iload_n (i := 3) (q := 0) gc dX8_readTerm_35 rfl rfl ?_
    refine hf_bipush (v := 60) gc dX8_readTerm_36 (by decide) ?_
    refine hf_icmp_eq (tgt := 59) gc dX8_readTerm_38 (by decide) ?_ ?_
    · refine hf_sub (lv' := [(0, .ref (ad 7)), (2, .int v1), (3, .int v3)]) [2, 1, 0] rfl ?_
      exact xc_reader_readTerm_b59 g hq _ _ _
    · refine hf_iload_n (i := 3) (q := 0) gc dX8_readTerm_41 rfl rfl ?_
      refine hf_bipush (v := 62) gc dX8_readTerm_42 (by decide) ?_
      refine hf_icmp_eq (tgt := 59) gc dX8_readTerm_44 (by decide) ?_ ?_
      · refine hf_sub (lv' := [(0, .ref (ad 7)), (2, .int v1), (3, .int v3)]) [2, 1, 0] rfl ?_
        exact xc_reader_readTerm_b59 g hq _ _ _
      · refine hf_iload_n (i := 3) (q := 0) gc dX8_readTerm_47 rfl rfl ?_
        refine hf_bipush (v := 61) gc dX8_readTerm_48 (by decide) ?_
        refine hf_icmp_eq (tgt := 59) gc dX8_readTerm_50 (by decide) ?_ ?_
        · refine hf_sub (lv' := [(0, .ref (ad 7)), (2, .int v1), (3, .int v3)]) [2, 1, 0] rfl ?_
          exact xc_reader_readTerm_b59 g hq _ _ _
        · refine hf_aload_n (i := 0) (q := 2) gc dX8_readTerm_53 rfl rfl ?_
          refine hf_iconst (v := 0) gc dX8_readTerm_54 (by decide) ?_
          refine hf_callV2 (j := 7) g (cc_reader_refuse (a1 := (0 : Int32))) kV_RX8_53 (by decide) (by decide) rfl rfl rfl rfl (Nat.le_of_ble_eq_true rfl) dX8_readTerm_55 (fun v4 s5 => ?_)
          exact hf_zret g dX8_readTerm_58 rfl
  · refine hf_iconst (v := 0) gc dX8_readTerm_21 (by decide) ?_
    exact hf_zret g dX8_readTerm_22 rfl
set_option maxHeartbeats 2000000 in
set_option maxRecDepth 20000 in
theorem xc_reader_readTerm {x : hf_Cx} {ad : Nat → Nat} {cA : Nat → ClassId} {E : State → Prop} {A : Nat → Prop} {l0 : Launch} {D0 : va_G} {adK adV : Nat → Nat} (g : hf_G x hcT ad cA E A l0 D0 cX8_readTerm 5 RX8 (some .boolean) 3) (hq : hc_need E ad adK adV) {s : hf_St} {a1 : Int32} : hf_X x A 5 (0, 0) (hf_Q x hcT ad cA A hf_ri) (Fc_reader_readTerm s a1) (hf_wd hcT ad cA s) 0 [(0, .ref (ad 7)), (1, .int a1)] [] := by
  have gc := g.1
  unfold Fc_reader_readTerm
  refine hf_aload_n (i := 0) (q := 0) gc dX8_readTerm_0 rfl rfl ?_
  refine hf_iload_n (i := 1) (q := 1) gc dX8_readTerm_1 rfl rfl ?_
  refine hf_bipush (v := 6) gc dX8_readTerm_2 (by decide) ?_
  refine hf_icmp_lt (tgt := 11) gc dX8_readTerm_4 (by decide) ?_ ?_
  · refine hf_iconst (v := 0) gc dX8_readTerm_11 (by decide) ?_
    refine hf_sub (lv' := [(0, .ref (ad 7))]) [0] rfl ?_
    exact xc_reader_readTerm_b12 g hq _ _
  · refine hf_iconst (v := 1) gc dX8_readTerm_7 (by decide) ?_
    refine hf_goto (tgt := 12) gc dX8_readTerm_8 (by decide) ?_
    refine hf_sub (lv' := [(0, .ref (ad 7))]) [0] rfl ?_
    exact xc_reader_readTerm_b12 g hq _ _
theorem cc_reader_readTerm {l0 : Launch} {D0 : va_G} {ad : Nat → Nat} {cA : Nat → ClassId} {E : State → Prop} {adK adV : Nat → Nat} (hq : hc_need E ad adK adV) {s : hf_St} {a1 : Int32} : hf_Ct l0 D0 hcT ad cA E 3 yX8_readTerm cX8_readTerm 5 (some .boolean) [.ref (ad 7), .int a1] s (Fc_reader_readTerm s a1) hf_ri := hf_met (by decide) (Nat.le_of_ble_eq_true rfl) (fun _ _ g => xc_reader_readTerm g hq)
set_option maxHeartbeats 2000000 in
set_option maxRecDepth 20000 in
theorem xc_reader_readTerms_l2 {x : hf_Cx} {ad : Nat → Nat} {cA : Nat → ClassId} {E : State → Prop} {A : Nat → Prop} {l0 : Launch} {D0 : va_G} {adK adV : Nat → Nat} (g : hf_G x hcT ad cA E A l0 D0 cX8_readTerms 2 RX8 (some .boolean) 5) (hq : hc_need E ad adK adV) : ∀ (n : Nat) (s : hf_St) (l1 : Int32), hf_X x A 2 (0, 0) (hf_Q x hcT ad cA A hf_ri) (Fc_reader_readTerms_l2 n s l1) (hf_wd hcT ad cA s) 2 [(0, .ref (ad 7)), (1, .int l1)] [] := by
  have gc := g.1
  intro n
  induction n with
  | zero => intro s l1; exact hf_none
  | succ n ih =>
    intro s l1
    rw [Fc_reader_readTerms_l2]
    refine hf_iload_n (i := 1) (q := 1) gc dX8_readTerms_2 rfl rfl ?_
    refine hf_bipush (v := 6) gc dX8_readTerms_3 (by decide) ?_
    refine hf_icmp_gt (tgt := 39) gc dX8_readTerms_5 (by decide) ?_ ?_
    · refine hf_iconst (v := 0) gc dX8_readTerms_39 (by decide) ?_
      exact hf_zret g dX8_readTerms_40 rfl
    · refine hf_aload_n (i := 0) (q := 0) gc dX8_readTerms_8 rfl rfl ?_
      refine hf_iload_n (i := 1) (q := 1) gc dX8_readTerms_9 rfl rfl ?_
      refine hf_callV2 (j := 7) g (cc_reader_readTerm hq (a1 := l1)) kV_RX8_88 (by decide) (by decide) rfl rfl rfl rfl (Nat.le_of_ble_eq_true rfl) dX8_readTerms_10 (fun v1 s2 => ?_)
      refine hf_if_ne (tgt := 18) gc dX8_readTerms_13 (by decide) ?_ ?_
      · refine hf_aload_n (i := 0) (q := 0) gc dX8_readTerms_18 rfl rfl ?_
        refine hf_ldcS g hq 3 (by decide) dX8_readTerms_19 ?_
        refine hf_callV1 (j := 7) g (cc_reader_isWord hq (by decide) (w := 3)) kV_RX8_74 (by decide) (by decide) rfl rfl rfl rfl (Nat.le_of_ble_eq_true rfl) dX8_readTerms_21 (fun v3 => ?_)
        refine hf_if_ne (tgt := 29) gc dX8_readTerms_24 (by decide) ?_ ?_
        · refine hf_aload_n (i := 0) (q := 0) gc dX8_readTerms_29 rfl rfl ?_
          refine hf_callV0 (j := 7) g (cc_reader_step) kV_RX8_32 (by decide) (by decide) rfl rfl rfl rfl (Nat.le_of_ble_eq_true rfl) dX8_readTerms_30 (fun s4 => ?_)
          refine hf_iinc (q := 1) (v' := l1 + (1 : Int32)) (lv' := [(1, .int (l1 + (1 : Int32))), (0, .ref (ad 7))]) gc dX8_readTerms_33 rfl rfl (by decide) rfl ?_
          refine hf_goto (tgt := 2) gc dX8_readTerms_36 (by decide) ?_
          refine hf_sub (lv' := [(0, .ref (ad 7)), (1, .int (l1 + (1 : Int32)))]) [1, 0] rfl ?_
          exact ih _ _
        · refine hf_iconst (v := 1) gc dX8_readTerms_27 (by decide) ?_
          exact hf_zret g dX8_readTerms_28 rfl
      · refine hf_iconst (v := 0) gc dX8_readTerms_16 (by decide) ?_
        exact hf_zret g dX8_readTerms_17 rfl
set_option maxHeartbeats 2000000 in
set_option maxRecDepth 20000 in
theorem xc_reader_readTerms {x : hf_Cx} {ad : Nat → Nat} {cA : Nat → ClassId} {E : State → Prop} {A : Nat → Prop} {l0 : Launch} {D0 : va_G} {adK adV : Nat → Nat} (g : hf_G x hcT ad cA E A l0 D0 cX8_readTerms 2 RX8 (some .boolean) 5) (hq : hc_need E ad adK adV) {s : hf_St} : hf_X x A 2 (0, 0) (hf_Q x hcT ad cA A hf_ri) (Fc_reader_readTerms s) (hf_wd hcT ad cA s) 0 [(0, .ref (ad 7))] [] := by
  have gc := g.1
  unfold Fc_reader_readTerms
  refine hf_iconst (v := 0) gc dX8_readTerms_0 (by decide) ?_
  refine hf_istore_n (i := 1) (lv' := [(1, .int ((0 : Int32))), (0, .ref (ad 7))]) gc dX8_readTerms_1 rfl (by decide) rfl ?_
  refine hf_sub (lv' := [(0, .ref (ad 7)), (1, .int ((0 : Int32)))]) [1, 0] rfl ?_
  exact xc_reader_readTerms_l2 g hq hf_fuel _ _
theorem cc_reader_readTerms {l0 : Launch} {D0 : va_G} {ad : Nat → Nat} {cA : Nat → ClassId} {E : State → Prop} {adK adV : Nat → Nat} (hq : hc_need E ad adK adV) {s : hf_St} : hf_Ct l0 D0 hcT ad cA E 5 yX8_readTerms cX8_readTerms 2 (some .boolean) [.ref (ad 7)] s (Fc_reader_readTerms s) hf_ri := hf_met (by decide) (Nat.le_of_ble_eq_true rfl) (fun _ _ g => xc_reader_readTerms g hq)
set_option maxHeartbeats 2000000 in
set_option maxRecDepth 20000 in
theorem xc_reader_readBetweenRules {x : hf_Cx} {ad : Nat → Nat} {cA : Nat → ClassId} {E : State → Prop} {A : Nat → Prop} {l0 : Launch} {D0 : va_G} (g : hf_G x hcT ad cA E A l0 D0 cX8_readBetweenRules 1 RX8 (some .boolean) 2) {s : hf_St} : hf_X x A 1 (0, 0) (hf_Q x hcT ad cA A hf_ri) (Fc_reader_readBetweenRules s) (hf_wd hcT ad cA s) 0 [(0, .ref (ad 7))] [] := by
  have gc := g.1
  unfold Fc_reader_readBetweenRules
  refine hf_aload_n (i := 0) (q := 0) gc dX8_readBetweenRules_0 rfl rfl ?_
  refine hf_callV1 (j := 7) g (cc_reader_isAtEnd) kV_RX8_35 (by decide) (by decide) rfl rfl rfl rfl (Nat.le_of_ble_eq_true rfl) dX8_readBetweenRules_1 (fun v1 => ?_)
  refine hf_if_eq (tgt := 9) gc dX8_readBetweenRules_4 (by decide) ?_ ?_
  · refine hf_aload_n (i := 0) (q := 0) gc dX8_readBetweenRules_9 rfl rfl ?_
    refine hf_getR (j := 7) (k := 0) (r := 5) g rfl rfl kF_RX8_18 dX8_readBetweenRules_10 ?_
    refine hf_aload_n (i := 0) (q := 0) gc dX8_readBetweenRules_13 rfl rfl ?_
    refine hf_getI (j := 7) (k := 2) g rfl rfl kF_RX8_63 dX8_readBetweenRules_14 ?_
    refine hf_callV1 (j := 5) g (cc_tape_byteAt (a1 := s.1 7 2)) kV_RX8_66 (by decide) (by decide) rfl rfl rfl rfl (Nat.le_of_ble_eq_true rfl) dX8_readBetweenRules_17 (fun v2 => ?_)
    refine hf_bipush (v := 59) gc dX8_readBetweenRules_20 (by decide) ?_
    refine hf_icmp_eq (tgt := 31) gc dX8_readBetweenRules_22 (by decide) ?_ ?_
    · refine hf_aload_n (i := 0) (q := 0) gc dX8_readBetweenRules_31 rfl rfl ?_
      refine hf_callV0 (j := 7) g (cc_reader_step) kV_RX8_32 (by decide) (by decide) rfl rfl rfl rfl (Nat.le_of_ble_eq_true rfl) dX8_readBetweenRules_32 (fun s3 => ?_)
      refine hf_iconst (v := 1) gc dX8_readBetweenRules_35 (by decide) ?_
      exact hf_zret g dX8_readBetweenRules_36 rfl
    · refine hf_aload_n (i := 0) (q := 0) gc dX8_readBetweenRules_25 rfl rfl ?_
      refine hf_iconst (v := 0) gc dX8_readBetweenRules_26 (by decide) ?_
      refine hf_callV2 (j := 7) g (cc_reader_refuse (a1 := (0 : Int32))) kV_RX8_53 (by decide) (by decide) rfl rfl rfl rfl (Nat.le_of_ble_eq_true rfl) dX8_readBetweenRules_27 (fun v4 s5 => ?_)
      exact hf_zret g dX8_readBetweenRules_30 rfl
  · refine hf_iconst (v := 0) gc dX8_readBetweenRules_7 (by decide) ?_
    exact hf_zret g dX8_readBetweenRules_8 rfl
theorem cc_reader_readBetweenRules {l0 : Launch} {D0 : va_G} {ad : Nat → Nat} {cA : Nat → ClassId} {E : State → Prop} {s : hf_St} : hf_Ct l0 D0 hcT ad cA E 2 yX8_readBetweenRules cX8_readBetweenRules 1 (some .boolean) [.ref (ad 7)] s (Fc_reader_readBetweenRules s) hf_ri := hf_met (by decide) (Nat.le_of_ble_eq_true rfl) (fun _ _ g => xc_reader_readBetweenRules g)
set_option maxHeartbeats 2000000 in
set_option maxRecDepth 20000 in
theorem xc_reader_read_l36 {x : hf_Cx} {ad : Nat → Nat} {cA : Nat → ClassId} {E : State → Prop} {A : Nat → Prop} {l0 : Launch} {D0 : va_G} {adK adV : Nat → Nat} (g : hf_G x hcT ad cA E A l0 D0 cX8_read 3 RX8 (some .int) 7) (hq : hc_need E ad adK adV) : ∀ (n : Nat) (s : hf_St) (l1 : Int32) (l2 : Int32), hf_X x A 3 (0, 0) (hf_Q x hcT ad cA A hf_ri) (Fc_reader_read_l36 n s l1 l2) (hf_wd hcT ad cA s) 36 [(0, .ref (ad 7)), (1, .int l1), (2, .int l2)] [] := by
  have gc := g.1
  intro n
  induction n with
  | zero => intro s l1 l2; exact hf_none
  | succ n ih =>
    intro s l1 l2
    rw [Fc_reader_read_l36]
    refine hf_iload_n (i := 1) (q := 1) gc dX8_read_36 rfl rfl ?_
    refine hf_if_eq (tgt := 80) gc dX8_read_37 (by decide) ?_ ?_
    · refine hf_aload_n (i := 0) (q := 0) gc dX8_read_80 rfl rfl ?_
      refine hf_getI (j := 7) (k := 4) g rfl rfl kF_RX8_25 dX8_read_81 ?_
      exact hf_iret g dX8_read_84 rfl
    · refine hf_iload_n (i := 2) (q := 2) gc dX8_read_40 rfl rfl ?_
      refine hf_bipush (v := 20) gc dX8_read_41 (by decide) ?_
      refine hf_icmp_gt (tgt := 80) gc dX8_read_43 (by decide) ?_ ?_
      · refine hf_aload_n (i := 0) (q := 0) gc dX8_read_80 rfl rfl ?_
        refine hf_getI (j := 7) (k := 4) g rfl rfl kF_RX8_25 dX8_read_81 ?_
        exact hf_iret g dX8_read_84 rfl
      · refine hf_aload_n (i := 0) (q := 0) gc dX8_read_46 rfl rfl ?_
        refine hf_iload_n (i := 2) (q := 2) gc dX8_read_47 rfl rfl ?_
        refine hf_callV2 (j := 7) g (cc_reader_readHead hq (a1 := l2)) kV_RX8_39 (by decide) (by decide) rfl rfl rfl rfl (Nat.le_of_ble_eq_true rfl) dX8_read_48 (fun v1 s2 => ?_)
        refine hf_if_eq (tgt := 72) gc dX8_read_51 (by decide) ?_ ?_
        · refine hf_iconst (v := 0) gc dX8_read_72 (by decide) ?_
          refine hf_istore_n (i := 1) (lv' := [(1, .int ((0 : Int32))), (0, .ref (ad 7)), (2, .int l2)]) gc dX8_read_73 rfl (by decide) rfl ?_
          refine hf_iinc (q := 2) (v' := l2 + (1 : Int32)) (lv' := [(2, .int (l2 + (1 : Int32))), (1, .int ((0 : Int32))), (0, .ref (ad 7))]) gc dX8_read_74 rfl rfl (by decide) rfl ?_
          refine hf_goto (tgt := 36) gc dX8_read_77 (by decide) ?_
          refine hf_sub (lv' := [(0, .ref (ad 7)), (1, .int ((0 : Int32))), (2, .int (l2 + (1 : Int32)))]) [2, 1, 0] rfl ?_
          exact ih _ _ _
        · refine hf_aload_n (i := 0) (q := 0) gc dX8_read_54 rfl rfl ?_
          refine hf_callV2 (j := 7) g (cc_reader_readTerms hq) kV_RX8_43 (by decide) (by decide) rfl rfl rfl rfl (Nat.le_of_ble_eq_true rfl) dX8_read_55 (fun v3 s4 => ?_)
          refine hf_if_eq (tgt := 72) gc dX8_read_58 (by decide) ?_ ?_
          · refine hf_iconst (v := 0) gc dX8_read_72 (by decide) ?_
            refine hf_istore_n (i := 1) (lv' := [(1, .int ((0 : Int32))), (0, .ref (ad 7)), (2, .int l2)]) gc dX8_read_73 rfl (by decide) rfl ?_
            refine hf_iinc (q := 2) (v' := l2 + (1 : Int32)) (lv' := [(2, .int (l2 + (1 : Int32))), (1, .int ((0 : Int32))), (0, .ref (ad 7))]) gc dX8_read_74 rfl rfl (by decide) rfl ?_
            refine hf_goto (tgt := 36) gc dX8_read_77 (by decide) ?_
            refine hf_sub (lv' := [(0, .ref (ad 7)), (1, .int ((0 : Int32))), (2, .int (l2 + (1 : Int32)))]) [2, 1, 0] rfl ?_
            exact ih _ _ _
          · refine hf_aload_n (i := 0) (q := 0) gc dX8_read_61 rfl rfl ?_
            refine hf_callV2 (j := 7) g (cc_reader_readBetweenRules) kV_RX8_46 (by decide) (by decide) rfl rfl rfl rfl (Nat.le_of_ble_eq_true rfl) dX8_read_62 (fun v5 s6 => ?_)
            refine hf_if_eq (tgt := 72) gc dX8_read_65 (by decide) ?_ ?_
            · refine hf_iconst (v := 0) gc dX8_read_72 (by decide) ?_
              refine hf_istore_n (i := 1) (lv' := [(1, .int ((0 : Int32))), (0, .ref (ad 7)), (2, .int l2)]) gc dX8_read_73 rfl (by decide) rfl ?_
              refine hf_iinc (q := 2) (v' := l2 + (1 : Int32)) (lv' := [(2, .int (l2 + (1 : Int32))), (1, .int ((0 : Int32))), (0, .ref (ad 7))]) gc dX8_read_74 rfl rfl (by decide) rfl ?_
              refine hf_goto (tgt := 36) gc dX8_read_77 (by decide) ?_
              refine hf_sub (lv' := [(0, .ref (ad 7)), (1, .int ((0 : Int32))), (2, .int (l2 + (1 : Int32)))]) [2, 1, 0] rfl ?_
              exact ih _ _ _
            · refine hf_iconst (v := 1) gc dX8_read_68 (by decide) ?_
              refine hf_goto (tgt := 73) gc dX8_read_69 (by decide) ?_
              refine hf_istore_n (i := 1) (lv' := [(1, .int ((1 : Int32))), (0, .ref (ad 7)), (2, .int l2)]) gc dX8_read_73 rfl (by decide) rfl ?_
              refine hf_iinc (q := 2) (v' := l2 + (1 : Int32)) (lv' := [(2, .int (l2 + (1 : Int32))), (1, .int ((1 : Int32))), (0, .ref (ad 7))]) gc dX8_read_74 rfl rfl (by decide) rfl ?_
              refine hf_goto (tgt := 36) gc dX8_read_77 (by decide) ?_
              refine hf_sub (lv' := [(0, .ref (ad 7)), (1, .int ((1 : Int32))), (2, .int (l2 + (1 : Int32)))]) [2, 1, 0] rfl ?_
              exact ih _ _ _
set_option maxHeartbeats 2000000 in
set_option maxRecDepth 20000 in
theorem xc_reader_read {x : hf_Cx} {ad : Nat → Nat} {cA : Nat → ClassId} {E : State → Prop} {A : Nat → Prop} {l0 : Launch} {D0 : va_G} {adK adV : Nat → Nat} (g : hf_G x hcT ad cA E A l0 D0 cX8_read 3 RX8 (some .int) 7) (hq : hc_need E ad adK adV) {s : hf_St} : hf_X x A 3 (0, 0) (hf_Q x hcT ad cA A hf_ri) (Fc_reader_read s) (hf_wd hcT ad cA s) 0 [(0, .ref (ad 7))] [] := by
  have gc := g.1
  unfold Fc_reader_read
  refine hf_aload_n (i := 0) (q := 0) gc dX8_read_0 rfl rfl ?_
  refine hf_getR (j := 7) (k := 1) (r := 8) g rfl rfl kF_RX8_12 dX8_read_1 ?_
  refine hf_callV0 (j := 8) g (cc_draft_clear) kV_RX8_22 (by decide) (by decide) rfl rfl rfl rfl (Nat.le_of_ble_eq_true rfl) dX8_read_4 (fun s1 => ?_)
  refine hf_aload_n (i := 0) (q := 0) gc dX8_read_7 rfl rfl ?_
  refine hf_iconst (v := -1) gc dX8_read_8 (by decide) ?_
  refine hf_putI (j := 7) (k := 4) g rfl rfl kP_RX8_25 rfl rfl dX8_read_9 (fun s2 => ?_)
  refine hf_aload_n (i := 0) (q := 0) gc dX8_read_12 rfl rfl ?_
  refine hf_iconst (v := 0) gc dX8_read_13 (by decide) ?_
  refine hf_putI (j := 7) (k := 3) g rfl rfl kP_RX8_29 rfl rfl dX8_read_14 (fun s3 => ?_)
  refine hf_aload_n (i := 0) (q := 0) gc dX8_read_17 rfl rfl ?_
  refine hf_callV0 (j := 7) g (cc_reader_step) kV_RX8_32 (by decide) (by decide) rfl rfl rfl rfl (Nat.le_of_ble_eq_true rfl) dX8_read_18 (fun s4 => ?_)
  refine hf_aload_n (i := 0) (q := 0) gc dX8_read_21 rfl rfl ?_
  refine hf_callV1 (j := 7) g (cc_reader_isAtEnd) kV_RX8_35 (by decide) (by decide) rfl rfl rfl rfl (Nat.le_of_ble_eq_true rfl) dX8_read_22 (fun v5 => ?_)
  refine hf_if_ne (tgt := 32) gc dX8_read_25 (by decide) ?_ ?_
  · refine hf_iconst (v := 0) gc dX8_read_32 (by decide) ?_
    refine hf_istore_n (i := 1) (lv' := [(1, .int ((0 : Int32))), (0, .ref (ad 7))]) gc dX8_read_33 rfl (by decide) rfl ?_
    refine hf_iconst (v := 0) gc dX8_read_34 (by decide) ?_
    refine hf_istore_n (i := 2) (lv' := [(2, .int ((0 : Int32))), (1, .int ((0 : Int32))), (0, .ref (ad 7))]) gc dX8_read_35 rfl (by decide) rfl ?_
    refine hf_sub (lv' := [(0, .ref (ad 7)), (1, .int ((0 : Int32))), (2, .int ((0 : Int32)))]) [2, 1, 0] rfl ?_
    exact xc_reader_read_l36 g hq hf_fuel _ _ _
  · refine hf_iconst (v := 1) gc dX8_read_28 (by decide) ?_
    refine hf_goto (tgt := 33) gc dX8_read_29 (by decide) ?_
    refine hf_istore_n (i := 1) (lv' := [(1, .int ((1 : Int32))), (0, .ref (ad 7))]) gc dX8_read_33 rfl (by decide) rfl ?_
    refine hf_iconst (v := 0) gc dX8_read_34 (by decide) ?_
    refine hf_istore_n (i := 2) (lv' := [(2, .int ((0 : Int32))), (1, .int ((1 : Int32))), (0, .ref (ad 7))]) gc dX8_read_35 rfl (by decide) rfl ?_
    refine hf_sub (lv' := [(0, .ref (ad 7)), (1, .int ((1 : Int32))), (2, .int ((0 : Int32)))]) [2, 1, 0] rfl ?_
    exact xc_reader_read_l36 g hq hf_fuel _ _ _
theorem cc_reader_read {l0 : Launch} {D0 : va_G} {ad : Nat → Nat} {cA : Nat → ClassId} {E : State → Prop} {adK adV : Nat → Nat} (hq : hc_need E ad adK adV) {s : hf_St} : hf_Ct l0 D0 hcT ad cA E 7 yX8_read cX8_read 3 (some .int) [.ref (ad 7)] s (Fc_reader_read s) hf_ri := hf_met (by decide) (Nat.le_of_ble_eq_true rfl) (fun _ _ g => xc_reader_read g hq)
set_option maxHeartbeats 2000000 in
set_option maxRecDepth 20000 in
theorem xc_reader_draft {x : hf_Cx} {ad : Nat → Nat} {cA : Nat → ClassId} {E : State → Prop} {A : Nat → Prop} {l0 : Launch} {D0 : va_G} (g : hf_G x hcT ad cA E A l0 D0 cX8_draft 1 RX8 (some (.object "HomeFinder$RuleBook")) 0) {s : hf_St} : hf_X x A 1 (0, 0) (hf_Q x hcT ad cA A (fun _ : Unit => (some (.ref (ad 8)), s))) (Fc_reader_draft s) (hf_wd hcT ad cA s) 0 [(0, .ref (ad 7))] [] := by
  have gc := g.1
  unfold Fc_reader_draft
  refine hf_aload_n (i := 0) (q := 0) gc dX8_draft_0 rfl rfl ?_
  refine hf_getR (j := 7) (k := 1) (r := 8) g rfl rfl kF_RX8_12 dX8_draft_1 ?_
  exact hf_aret g (Or.inl ⟨_, rfl⟩) dX8_draft_4 rfl
theorem cc_reader_draft {l0 : Launch} {D0 : va_G} {ad : Nat → Nat} {cA : Nat → ClassId} {E : State → Prop} {s : hf_St} : hf_Ct l0 D0 hcT ad cA E 0 yX8_draft cX8_draft 1 (some (.object "HomeFinder$RuleBook")) [.ref (ad 7)] s (Fc_reader_draft s) (fun _ : Unit => (some (.ref (ad 8)), s)) := hf_met (by decide) (Nat.le_of_ble_eq_true rfl) (fun _ _ g => xc_reader_draft g)
set_option maxHeartbeats 2000000 in
set_option maxRecDepth 20000 in
theorem xc_book_takeFrom {x : hf_Cx} {ad : Nat → Nat} {cA : Nat → ClassId} {E : State → Prop} {A : Nat → Prop} {l0 : Launch} {D0 : va_G} (g : hf_G x hcT ad cA E A l0 D0 cX7_takeFrom 2 RX7 none 1) {s : hf_St} : hf_X x A 2 (0, 0) (hf_Q x hcT ad cA A hf_rv) (Fc_book_takeFrom s) (hf_wd hcT ad cA s) 0 [(0, .ref (ad 6)), (1, .ref (ad 8))] [] := by
  have gc := g.1
  unfold Fc_book_takeFrom
  refine hf_aload_n (i := 1) (q := 1) gc dX7_takeFrom_0 rfl rfl ?_
  refine hf_getR (j := 8) (k := 0) (r := 35) g rfl rfl kF_RX7_11 dX7_takeFrom_1 ?_
  refine hf_iconst (v := 0) gc dX7_takeFrom_4 (by decide) ?_
  refine hf_aload_n (i := 0) (q := 0) gc dX7_takeFrom_5 rfl rfl ?_
  refine hf_getR (j := 6) (k := 0) (r := 29) g rfl rfl kF_RX7_11 dX7_takeFrom_6 ?_
  refine hf_iconst (v := 0) gc dX7_takeFrom_9 (by decide) ?_
  refine hf_bipush (v := 20) gc dX7_takeFrom_10 (by decide) ?_
  refine hf_copy (a0 := 22) (a1 := 16) (r0 := 35) (r1 := 29) (n0 := 20) (n1 := 20) g kA_RX7_34 rfl rfl rfl rfl (by decide) (by decide) (by decide) (by decide) (by decide) (by omega) (Nat.le_of_ble_eq_true rfl) dX7_takeFrom_12 (fun s1 => ?_)
  refine hf_aload_n (i := 1) (q := 1) gc dX7_takeFrom_15 rfl rfl ?_
  refine hf_getR (j := 8) (k := 1) (r := 36) g rfl rfl kF_RX7_15 dX7_takeFrom_16 ?_
  refine hf_iconst (v := 0) gc dX7_takeFrom_19 (by decide) ?_
  refine hf_aload_n (i := 0) (q := 0) gc dX7_takeFrom_20 rfl rfl ?_
  refine hf_getR (j := 6) (k := 1) (r := 30) g rfl rfl kF_RX7_15 dX7_takeFrom_21 ?_
  refine hf_iconst (v := 0) gc dX7_takeFrom_24 (by decide) ?_
  refine hf_bipush (v := 20) gc dX7_takeFrom_25 (by decide) ?_
  refine hf_copy (a0 := 23) (a1 := 17) (r0 := 36) (r1 := 30) (n0 := 20) (n1 := 20) g kA_RX7_34 rfl rfl rfl rfl (by decide) (by decide) (by decide) (by decide) (by decide) (by omega) (Nat.le_of_ble_eq_true rfl) dX7_takeFrom_27 (fun s2 => ?_)
  refine hf_aload_n (i := 1) (q := 1) gc dX7_takeFrom_30 rfl rfl ?_
  refine hf_getR (j := 8) (k := 2) (r := 37) g rfl rfl kF_RX7_18 dX7_takeFrom_31 ?_
  refine hf_iconst (v := 0) gc dX7_takeFrom_34 (by decide) ?_
  refine hf_aload_n (i := 0) (q := 0) gc dX7_takeFrom_35 rfl rfl ?_
  refine hf_getR (j := 6) (k := 2) (r := 31) g rfl rfl kF_RX7_18 dX7_takeFrom_36 ?_
  refine hf_iconst (v := 0) gc dX7_takeFrom_39 (by decide) ?_
  refine hf_bipush (v := 20) gc dX7_takeFrom_40 (by decide) ?_
  refine hf_copy (a0 := 24) (a1 := 18) (r0 := 37) (r1 := 31) (n0 := 20) (n1 := 20) g kA_RX7_34 rfl rfl rfl rfl (by decide) (by decide) (by decide) (by decide) (by decide) (by omega) (Nat.le_of_ble_eq_true rfl) dX7_takeFrom_42 (fun s3 => ?_)
  refine hf_aload_n (i := 1) (q := 1) gc dX7_takeFrom_45 rfl rfl ?_
  refine hf_getR (j := 8) (k := 3) (r := 38) g rfl rfl kF_RX7_21 dX7_takeFrom_46 ?_
  refine hf_iconst (v := 0) gc dX7_takeFrom_49 (by decide) ?_
  refine hf_aload_n (i := 0) (q := 0) gc dX7_takeFrom_50 rfl rfl ?_
  refine hf_getR (j := 6) (k := 3) (r := 32) g rfl rfl kF_RX7_21 dX7_takeFrom_51 ?_
  refine hf_iconst (v := 0) gc dX7_takeFrom_54 (by decide) ?_
  refine hf_bipush (v := 120) gc dX7_takeFrom_55 (by decide) ?_
  refine hf_copy (a0 := 25) (a1 := 19) (r0 := 38) (r1 := 32) (n0 := 120) (n1 := 120) g kA_RX7_34 rfl rfl rfl rfl (by decide) (by decide) (by decide) (by decide) (by decide) (by omega) (Nat.le_of_ble_eq_true rfl) dX7_takeFrom_57 (fun s4 => ?_)
  refine hf_aload_n (i := 1) (q := 1) gc dX7_takeFrom_60 rfl rfl ?_
  refine hf_getR (j := 8) (k := 4) (r := 39) g rfl rfl kF_RX7_24 dX7_takeFrom_61 ?_
  refine hf_iconst (v := 0) gc dX7_takeFrom_64 (by decide) ?_
  refine hf_aload_n (i := 0) (q := 0) gc dX7_takeFrom_65 rfl rfl ?_
  refine hf_getR (j := 6) (k := 4) (r := 33) g rfl rfl kF_RX7_24 dX7_takeFrom_66 ?_
  refine hf_iconst (v := 0) gc dX7_takeFrom_69 (by decide) ?_
  refine hf_bipush (v := 120) gc dX7_takeFrom_70 (by decide) ?_
  refine hf_copy (a0 := 26) (a1 := 20) (r0 := 39) (r1 := 33) (n0 := 120) (n1 := 120) g kA_RX7_34 rfl rfl rfl rfl (by decide) (by decide) (by decide) (by decide) (by decide) (by omega) (Nat.le_of_ble_eq_true rfl) dX7_takeFrom_72 (fun s5 => ?_)
  refine hf_aload_n (i := 1) (q := 1) gc dX7_takeFrom_75 rfl rfl ?_
  refine hf_getR (j := 8) (k := 5) (r := 40) g rfl rfl kF_RX7_27 dX7_takeFrom_76 ?_
  refine hf_iconst (v := 0) gc dX7_takeFrom_79 (by decide) ?_
  refine hf_aload_n (i := 0) (q := 0) gc dX7_takeFrom_80 rfl rfl ?_
  refine hf_getR (j := 6) (k := 5) (r := 34) g rfl rfl kF_RX7_27 dX7_takeFrom_81 ?_
  refine hf_iconst (v := 0) gc dX7_takeFrom_84 (by decide) ?_
  refine hf_bipush (v := 120) gc dX7_takeFrom_85 (by decide) ?_
  refine hf_copy (a0 := 27) (a1 := 21) (r0 := 40) (r1 := 34) (n0 := 120) (n1 := 120) g kA_RX7_34 rfl rfl rfl rfl (by decide) (by decide) (by decide) (by decide) (by decide) (by omega) (Nat.le_of_ble_eq_true rfl) dX7_takeFrom_87 (fun s6 => ?_)
  refine hf_aload_n (i := 0) (q := 0) gc dX7_takeFrom_90 rfl rfl ?_
  refine hf_aload_n (i := 1) (q := 1) gc dX7_takeFrom_91 rfl rfl ?_
  refine hf_getI (j := 8) (k := 6) g rfl rfl kF_RX7_30 dX7_takeFrom_92 ?_
  refine hf_putI (j := 6) (k := 6) g rfl rfl kP_RX7_30 rfl rfl dX7_takeFrom_95 (fun s7 => ?_)
  exact hf_vret g dX7_takeFrom_98 rfl
theorem cc_book_takeFrom {l0 : Launch} {D0 : va_G} {ad : Nat → Nat} {cA : Nat → ClassId} {E : State → Prop} {s : hf_St} : hf_Ct l0 D0 hcT ad cA E 1 yX7_takeFrom cX7_takeFrom 2 none [.ref (ad 6), .ref (ad 8)] s (Fc_book_takeFrom s) hf_rv := hf_met (by decide) (Nat.le_of_ble_eq_true rfl) (fun _ _ g => xc_book_takeFrom g)
set_option maxHeartbeats 2000000 in
set_option maxRecDepth 20000 in
theorem xc_hf_rules {x : hf_Cx} {ad : Nat → Nat} {cA : Nat → ClassId} {E : State → Prop} {A : Nat → Prop} {l0 : Launch} {D0 : va_G} {adK adV : Nat → Nat} (g : hf_G x hcT ad cA E A l0 D0 cX11_rules 2 RX11 (some .int) 8) (hq : hc_need E ad adK adV) {s : hf_St} : hf_X x A 2 (0, 0) (hf_Q x hcT ad cA A hf_ri) (Fc_hf_rules s) (hf_wd hcT ad cA s) 0 [(0, .ref (ad 0))] [] := by
  have gc := g.1
  unfold Fc_hf_rules
  refine hf_aload_n (i := 0) (q := 0) gc dX11_rules_0 rfl rfl ?_
  refine hf_getR (j := 0) (k := 6) (r := 7) g rfl rfl kF_RX11_56 dX11_rules_1 ?_
  refine hf_callV2 (j := 7) g (cc_reader_read hq) kV_RX11_148 (by decide) (by decide) rfl rfl rfl rfl (Nat.le_of_ble_eq_true rfl) dX11_rules_4 (fun v1 s2 => ?_)
  refine hf_istore_n (i := 1) (lv' := [(1, .int v1), (0, .ref (ad 0))]) gc dX11_rules_7 rfl (by decide) rfl ?_
  refine hf_aload_n (i := 0) (q := 1) gc dX11_rules_8 rfl rfl ?_
  refine hf_getR (j := 0) (k := 4) (r := 5) g rfl rfl kF_RX11_40 dX11_rules_9 ?_
  refine hf_iconst (v := 0) gc dX11_rules_12 (by decide) ?_
  refine hf_callV2 (j := 5) g (cc_tape_cut (a1 := (0 : Int32))) kV_RX11_145 (by decide) (by decide) rfl rfl rfl rfl (Nat.le_of_ble_eq_true rfl) dX11_rules_13 (fun v3 s4 => ?_)
  refine hf_pop gc dX11_rules_16 rfl ?_
  refine hf_iload_n (i := 1) (q := 0) gc dX11_rules_17 rfl rfl ?_
  refine hf_iconst (v := -1) gc dX11_rules_18 (by decide) ?_
  refine hf_icmp_eq (tgt := 27) gc dX11_rules_19 (by decide) ?_ ?_
  · refine hf_aload_n (i := 0) (q := 1) gc dX11_rules_27 rfl rfl ?_
    refine hf_getR (j := 0) (k := 5) (r := 6) g rfl rfl kF_RX11_47 dX11_rules_28 ?_
    refine hf_aload_n (i := 0) (q := 1) gc dX11_rules_31 rfl rfl ?_
    refine hf_getR (j := 0) (k := 6) (r := 7) g rfl rfl kF_RX11_56 dX11_rules_32 ?_
    refine hf_callVr (j := 7) g (cc_reader_draft) kV_RX11_151 (by decide) (by decide) rfl rfl rfl rfl (Nat.le_of_ble_eq_true rfl) dX11_rules_35 ?_
    refine hf_callV0 (j := 6) g (cc_book_takeFrom) kV_RX11_155 (by decide) (by decide) rfl rfl rfl rfl (Nat.le_of_ble_eq_true rfl) dX11_rules_38 (fun s5 => ?_)
    refine hf_aload_n (i := 0) (q := 1) gc dX11_rules_41 rfl rfl ?_
    refine hf_getR (j := 0) (k := 5) (r := 6) g rfl rfl kF_RX11_47 dX11_rules_42 ?_
    refine hf_callV1 (j := 6) g (cc_book_size) kV_RX11_159 (by decide) (by decide) rfl rfl rfl rfl (Nat.le_of_ble_eq_true rfl) dX11_rules_45 (fun v6 => ?_)
    exact hf_iret g dX11_rules_48 rfl
  · refine hf_bipush (v := -2) gc dX11_rules_22 (by decide) ?_
    refine hf_iload_n (i := 1) (q := 0) gc dX11_rules_24 rfl rfl ?_
    refine hf_isub gc dX11_rules_25 ?_
    exact hf_iret g dX11_rules_26 rfl
theorem cc_hf_rules {l0 : Launch} {D0 : va_G} {ad : Nat → Nat} {cA : Nat → ClassId} {E : State → Prop} {adK adV : Nat → Nat} (hq : hc_need E ad adK adV) {s : hf_St} : hf_Ct l0 D0 hcT ad cA E 8 yX11_rules cX11_rules 2 (some .int) [.ref (ad 0)] s (Fc_hf_rules s) hf_ri := hf_met (by decide) (Nat.le_of_ble_eq_true rfl) (fun _ _ g => xc_hf_rules g hq)
