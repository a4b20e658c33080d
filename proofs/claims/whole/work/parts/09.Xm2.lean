set_option maxHeartbeats 2000000 in
set_option maxRecDepth 20000 in
theorem xm_md_see_b38 {x : hf_Cx} {ad : Nat → Nat} {cA : Nat → ClassId} {E : State → Prop} {A : Nat → Prop} {l0 : Launch} {D0 : va_G} (g : hf_G x hmT ad cA E A l0 D0 cX12_see 1 RX12 (some .int) 0) (s : hf_St) : hf_X x A 1 (0, 0) (hf_Q x hmT ad cA A hf_ri) (Fm_md_see_b38 s) (hf_wd hmT ad cA s) 38 [(0, .ref (ad 0))] [] := by
  have gc := g.1
  unfold Fm_md_see_b38
  refine hf_aload_n (i := 0) (q := 0) gc dX12_see_38 rfl rfl ?_
  refine hf_getI (j := 0) (k := 22) g rfl rfl kF_RX12_167 dX12_see_39 ?_
  refine hf_aload_n (i := 0) (q := 0) gc dX12_see_42 rfl rfl ?_
  refine hf_getI (j := 0) (k := 21) g rfl rfl kF_RX12_157 dX12_see_43 ?_
  refine hf_icmp_ge (tgt := 65) gc dX12_see_46 (by decide) ?_ ?_
  · refine hf_iconst (v := -1) gc dX12_see_65 (by decide) ?_
    exact hf_iret g dX12_see_66 rfl
  · refine hf_aload_n (i := 0) (q := 0) gc dX12_see_49 rfl rfl ?_
    refine hf_getR (j := 0) (k := 20) (r := 16) g rfl rfl kF_RX12_56 dX12_see_50 ?_
    refine hf_aload_n (i := 0) (q := 0) gc dX12_see_53 rfl rfl ?_
    refine hf_getI (j := 0) (k := 22) g rfl rfl kF_RX12_167 dX12_see_54 ?_
    refine hf_bald (a := 15) (r := 16) (n := 500) g rfl rfl dX12_see_57 ?_
    refine hf_sipush (v := 255) gc dX12_see_58 (by decide) ?_
    refine hf_iand gc dX12_see_61 ?_
    refine hf_goto (tgt := 66) gc dX12_see_62 (by decide) ?_
    exact hf_iret g dX12_see_66 rfl
set_option maxHeartbeats 2000000 in
set_option maxRecDepth 20000 in
theorem xm_md_see_l0 {x : hf_Cx} {ad : Nat → Nat} {cA : Nat → ClassId} {E : State → Prop} {A : Nat → Prop} {l0 : Launch} {D0 : va_G} (g : hf_G x hmT ad cA E A l0 D0 cX12_see 1 RX12 (some .int) 0) : ∀ (n : Nat) (s : hf_St), hf_X x A 1 (0, 0) (hf_Q x hmT ad cA A hf_ri) (Fm_md_see_l0 n s) (hf_wd hmT ad cA s) 0 [(0, .ref (ad 0))] [] := by
  have gc := g.1
  intro n
  induction n with
  | zero => intro s; exact hf_none
  | succ n ih =>
    intro s
    rw [Fm_md_see_l0]
    refine hf_aload_n (i := 0) (q := 0) gc dX12_see_0 rfl rfl ?_
    refine hf_getI (j := 0) (k := 22) g rfl rfl kF_RX12_167 dX12_see_1 ?_
    refine hf_aload_n (i := 0) (q := 0) gc dX12_see_4 rfl rfl ?_
    refine hf_getI (j := 0) (k := 21) g rfl rfl kF_RX12_157 dX12_see_5 ?_
    refine hf_icmp_ge (tgt := 38) gc dX12_see_8 (by decide) ?_ ?_
    · exact xm_md_see_b38 g _
    · refine hf_aload_n (i := 0) (q := 0) gc dX12_see_11 rfl rfl ?_
      refine hf_getR (j := 0) (k := 20) (r := 16) g rfl rfl kF_RX12_56 dX12_see_12 ?_
      refine hf_aload_n (i := 0) (q := 0) gc dX12_see_15 rfl rfl ?_
      refine hf_getI (j := 0) (k := 22) g rfl rfl kF_RX12_167 dX12_see_16 ?_
      refine hf_bald (a := 15) (r := 16) (n := 500) g rfl rfl dX12_see_19 ?_
      refine hf_bipush (v := 32) gc dX12_see_20 (by decide) ?_
      refine hf_icmp_ne (tgt := 38) gc dX12_see_22 (by decide) ?_ ?_
      · exact xm_md_see_b38 g _
      · refine hf_aload_n (i := 0) (q := 0) gc dX12_see_25 rfl rfl ?_
        refine hf_dup gc dX12_see_26 rfl ?_
        refine hf_getI (j := 0) (k := 22) g rfl rfl kF_RX12_167 dX12_see_27 ?_
        refine hf_iconst (v := 1) gc dX12_see_30 (by decide) ?_
        refine hf_iadd gc dX12_see_31 ?_
        refine hf_putI (j := 0) (k := 22) g rfl rfl kP_RX12_167 rfl rfl dX12_see_32 (fun s1 => ?_)
        refine hf_goto (tgt := 0) gc dX12_see_35 (by decide) ?_
        exact ih _
set_option maxHeartbeats 2000000 in
set_option maxRecDepth 20000 in
theorem xm_md_see {x : hf_Cx} {ad : Nat → Nat} {cA : Nat → ClassId} {E : State → Prop} {A : Nat → Prop} {l0 : Launch} {D0 : va_G} (g : hf_G x hmT ad cA E A l0 D0 cX12_see 1 RX12 (some .int) 0) {s : hf_St} : hf_X x A 1 (0, 0) (hf_Q x hmT ad cA A hf_ri) (Fm_md_see s) (hf_wd hmT ad cA s) 0 [(0, .ref (ad 0))] [] := by
  have gc := g.1
  unfold Fm_md_see
  exact xm_md_see_l0 g hf_fuel _
theorem cm_md_see {l0 : Launch} {D0 : va_G} {ad : Nat → Nat} {cA : Nat → ClassId} {E : State → Prop} {s : hf_St} : hf_Ct l0 D0 hmT ad cA E 0 yX12_see cX12_see 1 (some .int) [.ref (ad 0)] s (Fm_md_see s) hf_ri := hf_met (by decide) (Nat.le_of_ble_eq_true rfl) (fun _ _ g => xm_md_see g)
set_option maxHeartbeats 2000000 in
set_option maxRecDepth 20000 in
theorem xm_md_isDigit {x : hf_Cx} {ad : Nat → Nat} {cA : Nat → ClassId} {E : State → Prop} {A : Nat → Prop} {l0 : Launch} {D0 : va_G} (g : hf_G x hmT ad cA E A l0 D0 cX12_isDigit 1 RX12 (some .boolean) 0) {s : hf_St} {a1 : Int32} : hf_X x A 1 (0, 0) (hf_Q x hmT ad cA A (hf_rp s)) (Fm_md_isDigit s a1) (hf_wd hmT ad cA s) 0 [(0, .int a1)] [] := by
  have gc := g.1
  unfold Fm_md_isDigit
  refine hf_iload_n (i := 0) (q := 0) gc dX12_isDigit_0 rfl rfl ?_
  refine hf_bipush (v := 48) gc dX12_isDigit_1 (by decide) ?_
  refine hf_icmp_lt (tgt := 16) gc dX12_isDigit_3 (by decide) ?_ ?_
  · refine hf_iconst (v := 0) gc dX12_isDigit_16 (by decide) ?_
    exact hf_zret g dX12_isDigit_17 rfl
  · refine hf_iload_n (i := 0) (q := 0) gc dX12_isDigit_6 rfl rfl ?_
    refine hf_bipush (v := 57) gc dX12_isDigit_7 (by decide) ?_
    refine hf_icmp_gt (tgt := 16) gc dX12_isDigit_9 (by decide) ?_ ?_
    · refine hf_iconst (v := 0) gc dX12_isDigit_16 (by decide) ?_
      exact hf_zret g dX12_isDigit_17 rfl
    · refine hf_iconst (v := 1) gc dX12_isDigit_12 (by decide) ?_
      refine hf_goto (tgt := 17) gc dX12_isDigit_13 (by decide) ?_
      exact hf_zret g dX12_isDigit_17 rfl
theorem cm_md_isDigit {l0 : Launch} {D0 : va_G} {ad : Nat → Nat} {cA : Nat → ClassId} {E : State → Prop} {s : hf_St} {a1 : Int32} : hf_Ct l0 D0 hmT ad cA E 0 yX12_isDigit cX12_isDigit 1 (some .boolean) [.int a1] s (Fm_md_isDigit s a1) (hf_rp s) := hf_met (by decide) (Nat.le_of_ble_eq_true rfl) (fun _ _ g => xm_md_isDigit g)
set_option maxHeartbeats 2000000 in
set_option maxRecDepth 20000 in
theorem xm_md_isWordByte {x : hf_Cx} {ad : Nat → Nat} {cA : Nat → ClassId} {E : State → Prop} {A : Nat → Prop} {l0 : Launch} {D0 : va_G} (g : hf_G x hmT ad cA E A l0 D0 cX12_isWordByte 1 RX12 (some .boolean) 1) {s : hf_St} {a1 : Int32} : hf_X x A 1 (0, 0) (hf_Q x hmT ad cA A (hf_rp s)) (Fm_md_isWordByte s a1) (hf_wd hmT ad cA s) 0 [(0, .int a1)] [] := by
  have gc := g.1
  unfold Fm_md_isWordByte
  refine hf_iload_n (i := 0) (q := 0) gc dX12_isWordByte_0 rfl rfl ?_
  refine hf_callS1 g (cm_md_isDigit (a1 := a1)) kS_RX12_170 (by decide) (by decide) rfl rfl (Nat.le_of_ble_eq_true rfl) dX12_isWordByte_1 (fun v1 => ?_)
  refine hf_if_ne (tgt := 19) gc dX12_isWordByte_4 (by decide) ?_ ?_
  · refine hf_iconst (v := 1) gc dX12_isWordByte_19 (by decide) ?_
    refine hf_goto (tgt := 24) gc dX12_isWordByte_20 (by decide) ?_
    exact hf_zret g dX12_isWordByte_24 rfl
  · refine hf_iload_n (i := 0) (q := 0) gc dX12_isWordByte_7 rfl rfl ?_
    refine hf_bipush (v := 97) gc dX12_isWordByte_8 (by decide) ?_
    refine hf_icmp_lt (tgt := 23) gc dX12_isWordByte_10 (by decide) ?_ ?_
    · refine hf_iconst (v := 0) gc dX12_isWordByte_23 (by decide) ?_
      exact hf_zret g dX12_isWordByte_24 rfl
    · refine hf_iload_n (i := 0) (q := 0) gc dX12_isWordByte_13 rfl rfl ?_
      refine hf_bipush (v := 122) gc dX12_isWordByte_14 (by decide) ?_
      refine hf_icmp_gt (tgt := 23) gc dX12_isWordByte_16 (by decide) ?_ ?_
      · refine hf_iconst (v := 0) gc dX12_isWordByte_23 (by decide) ?_
        exact hf_zret g dX12_isWordByte_24 rfl
      · refine hf_iconst (v := 1) gc dX12_isWordByte_19 (by decide) ?_
        refine hf_goto (tgt := 24) gc dX12_isWordByte_20 (by decide) ?_
        exact hf_zret g dX12_isWordByte_24 rfl
theorem cm_md_isWordByte {l0 : Launch} {D0 : va_G} {ad : Nat → Nat} {cA : Nat → ClassId} {E : State → Prop} {s : hf_St} {a1 : Int32} : hf_Ct l0 D0 hmT ad cA E 1 yX12_isWordByte cX12_isWordByte 1 (some .boolean) [.int a1] s (Fm_md_isWordByte s a1) (hf_rp s) := hf_met (by decide) (Nat.le_of_ble_eq_true rfl) (fun _ _ g => xm_md_isWordByte g)
set_option maxHeartbeats 2000000 in
set_option maxRecDepth 20000 in
theorem xm_md_looks_l18 {x : hf_Cx} {ad : Nat → Nat} {cA : Nat → ClassId} {E : State → Prop} {A : Nat → Prop} {l0 : Launch} {D0 : va_G} (g : hf_G x hmT ad cA E A l0 D0 cX12_looks 2 RX12 none 2) : ∀ (n : Nat) (s : hf_St), hf_X x A 2 (0, 0) (hf_Q x hmT ad cA A hf_rv) (Fm_md_looks_l18 n s) (hf_wd hmT ad cA s) 18 [(0, .ref (ad 0))] [] := by
  have gc := g.1
  intro n
  induction n with
  | zero => intro s; exact hf_none
  | succ n ih =>
    intro s
    rw [Fm_md_looks_l18]
    refine hf_aload_n (i := 0) (q := 0) gc dX12_looks_18 rfl rfl ?_
    refine hf_getI (j := 0) (k := 41) g rfl rfl kF_RX12_177 dX12_looks_19 ?_
    refine hf_aload_n (i := 0) (q := 0) gc dX12_looks_22 rfl rfl ?_
    refine hf_getI (j := 0) (k := 42) g rfl rfl kF_RX12_180 dX12_looks_23 ?_
    refine hf_iadd gc dX12_looks_26 ?_
    refine hf_aload_n (i := 0) (q := 0) gc dX12_looks_27 rfl rfl ?_
    refine hf_getI (j := 0) (k := 21) g rfl rfl kF_RX12_157 dX12_looks_28 ?_
    refine hf_icmp_ge (tgt := 67) gc dX12_looks_31 (by decide) ?_ ?_
    · exact hf_vret g dX12_looks_67 rfl
    · refine hf_aload_n (i := 0) (q := 0) gc dX12_looks_34 rfl rfl ?_
      refine hf_getR (j := 0) (k := 20) (r := 16) g rfl rfl kF_RX12_56 dX12_looks_35 ?_
      refine hf_aload_n (i := 0) (q := 0) gc dX12_looks_38 rfl rfl ?_
      refine hf_getI (j := 0) (k := 41) g rfl rfl kF_RX12_177 dX12_looks_39 ?_
      refine hf_aload_n (i := 0) (q := 0) gc dX12_looks_42 rfl rfl ?_
      refine hf_getI (j := 0) (k := 42) g rfl rfl kF_RX12_180 dX12_looks_43 ?_
      refine hf_iadd gc dX12_looks_46 ?_
      refine hf_bald (a := 15) (r := 16) (n := 500) g rfl rfl dX12_looks_47 ?_
      refine hf_callS1 g (cm_md_isWordByte (a1 := s.2 15 ((s.1 0 41) + (s.1 0 42)).toNatClampNeg)) kS_RX12_183 (by decide) (by decide) rfl rfl (Nat.le_of_ble_eq_true rfl) dX12_looks_48 (fun v1 => ?_)
      refine hf_if_eq (tgt := 67) gc dX12_looks_51 (by decide) ?_ ?_
      · exact hf_vret g dX12_looks_67 rfl
      · refine hf_aload_n (i := 0) (q := 0) gc dX12_looks_54 rfl rfl ?_
        refine hf_dup gc dX12_looks_55 rfl ?_
        refine hf_getI (j := 0) (k := 42) g rfl rfl kF_RX12_180 dX12_looks_56 ?_
        refine hf_iconst (v := 1) gc dX12_looks_59 (by decide) ?_
        refine hf_iadd gc dX12_looks_60 ?_
        refine hf_putI (j := 0) (k := 42) g rfl rfl kP_RX12_180 rfl rfl dX12_looks_61 (fun s2 => ?_)
        refine hf_goto (tgt := 18) gc dX12_looks_64 (by decide) ?_
        exact ih _
set_option maxHeartbeats 2000000 in
set_option maxRecDepth 20000 in
theorem xm_md_looks {x : hf_Cx} {ad : Nat → Nat} {cA : Nat → ClassId} {E : State → Prop} {A : Nat → Prop} {l0 : Launch} {D0 : va_G} (g : hf_G x hmT ad cA E A l0 D0 cX12_looks 2 RX12 none 2) {s : hf_St} : hf_X x A 2 (0, 0) (hf_Q x hmT ad cA A hf_rv) (Fm_md_looks s) (hf_wd hmT ad cA s) 0 [(0, .ref (ad 0))] [] := by
  have gc := g.1
  unfold Fm_md_looks
  refine hf_aload_n (i := 0) (q := 0) gc dX12_looks_0 rfl rfl ?_
  refine hf_callV2 (j := 0) g (cm_md_see) kV_RX12_173 (by decide) (by decide) rfl rfl rfl rfl (Nat.le_of_ble_eq_true rfl) dX12_looks_1 (fun v1 s2 => ?_)
  refine hf_istore_n (i := 1) (lv' := [(1, .int v1), (0, .ref (ad 0))]) gc dX12_looks_4 rfl (by decide) rfl ?_
  refine hf_aload_n (i := 0) (q := 1) gc dX12_looks_5 rfl rfl ?_
  refine hf_aload_n (i := 0) (q := 1) gc dX12_looks_6 rfl rfl ?_
  refine hf_getI (j := 0) (k := 22) g rfl rfl kF_RX12_167 dX12_looks_7 ?_
  refine hf_putI (j := 0) (k := 41) g rfl rfl kP_RX12_177 rfl rfl dX12_looks_10 (fun s3 => ?_)
  refine hf_aload_n (i := 0) (q := 1) gc dX12_looks_13 rfl rfl ?_
  refine hf_iconst (v := 0) gc dX12_looks_14 (by decide) ?_
  refine hf_putI (j := 0) (k := 42) g rfl rfl kP_RX12_180 rfl rfl dX12_looks_15 (fun s4 => ?_)
  refine hf_sub (lv' := [(0, .ref (ad 0))]) [1] rfl ?_
  exact xm_md_looks_l18 g hf_fuel _
theorem cm_md_looks {l0 : Launch} {D0 : va_G} {ad : Nat → Nat} {cA : Nat → ClassId} {E : State → Prop} {s : hf_St} : hf_Ct l0 D0 hmT ad cA E 2 yX12_looks cX12_looks 2 none [.ref (ad 0)] s (Fm_md_looks s) hf_rv := hf_met (by decide) (Nat.le_of_ble_eq_true rfl) (fun _ _ g => xm_md_looks g)
set_option maxHeartbeats 2000000 in
set_option maxRecDepth 20000 in
theorem xm_md_isLetters {x : hf_Cx} {ad : Nat → Nat} {cA : Nat → ClassId} {E : State → Prop} {A : Nat → Prop} {l0 : Launch} {D0 : va_G} (g : hf_G x hmT ad cA E A l0 D0 cX12_isLetters 5 RX12 (some .boolean) 0) {s : hf_St} {a1 : Int32} {a2 : Int32} {a3 : Int32} {a4 : Int32} : hf_X x A 5 (0, 0) (hf_Q x hmT ad cA A (hf_rp s)) (Fm_md_isLetters s a1 a2 a3 a4) (hf_wd hmT ad cA s) 0 [(0, .ref (ad 0)), (1, .int a1), (2, .int a2), (3, .int a3), (4, .int a4)] [] := by
  have gc := g.1
  unfold Fm_md_isLetters
  refine hf_aload_n (i := 0) (q := 0) gc dX12_isLetters_0 rfl rfl ?_
  refine hf_getI (j := 0) (k := 42) g rfl rfl kF_RX12_180 dX12_isLetters_1 ?_
  refine hf_iconst (v := 4) gc dX12_isLetters_4 (by decide) ?_
  refine hf_icmp_ne (tgt := 71) gc dX12_isLetters_5 (by decide) ?_ ?_
  · refine hf_iconst (v := 0) gc dX12_isLetters_71 (by decide) ?_
    exact hf_zret g dX12_isLetters_72 rfl
  · refine hf_aload_n (i := 0) (q := 0) gc dX12_isLetters_8 rfl rfl ?_
    refine hf_getR (j := 0) (k := 20) (r := 16) g rfl rfl kF_RX12_56 dX12_isLetters_9 ?_
    refine hf_aload_n (i := 0) (q := 0) gc dX12_isLetters_12 rfl rfl ?_
    refine hf_getI (j := 0) (k := 41) g rfl rfl kF_RX12_177 dX12_isLetters_13 ?_
    refine hf_bald (a := 15) (r := 16) (n := 500) g rfl rfl dX12_isLetters_16 ?_
    refine hf_iload_n (i := 1) (q := 1) gc dX12_isLetters_17 rfl rfl ?_
    refine hf_icmp_ne (tgt := 71) gc dX12_isLetters_18 (by decide) ?_ ?_
    · refine hf_iconst (v := 0) gc dX12_isLetters_71 (by decide) ?_
      exact hf_zret g dX12_isLetters_72 rfl
    · refine hf_aload_n (i := 0) (q := 0) gc dX12_isLetters_21 rfl rfl ?_
      refine hf_getR (j := 0) (k := 20) (r := 16) g rfl rfl kF_RX12_56 dX12_isLetters_22 ?_
      refine hf_aload_n (i := 0) (q := 0) gc dX12_isLetters_25 rfl rfl ?_
      refine hf_getI (j := 0) (k := 41) g rfl rfl kF_RX12_177 dX12_isLetters_26 ?_
      refine hf_iconst (v := 1) gc dX12_isLetters_29 (by decide) ?_
      refine hf_iadd gc dX12_isLetters_30 ?_
      refine hf_bald (a := 15) (r := 16) (n := 500) g rfl rfl dX12_isLetters_31 ?_
      refine hf_iload_n (i := 2) (q := 2) gc dX12_isLetters_32 rfl rfl ?_
      refine hf_icmp_ne (tgt := 71) gc dX12_isLetters_33 (by decide) ?_ ?_
      · refine hf_iconst (v := 0) gc dX12_isLetters_71 (by decide) ?_
        exact hf_zret g dX12_isLetters_72 rfl
      · refine hf_aload_n (i := 0) (q := 0) gc dX12_isLetters_36 rfl rfl ?_
        refine hf_getR (j := 0) (k := 20) (r := 16) g rfl rfl kF_RX12_56 dX12_isLetters_37 ?_
        refine hf_aload_n (i := 0) (q := 0) gc dX12_isLetters_40 rfl rfl ?_
        refine hf_getI (j := 0) (k := 41) g rfl rfl kF_RX12_177 dX12_isLetters_41 ?_
        refine hf_iconst (v := 2) gc dX12_isLetters_44 (by decide) ?_
        refine hf_iadd gc dX12_isLetters_45 ?_
        refine hf_bald (a := 15) (r := 16) (n := 500) g rfl rfl dX12_isLetters_46 ?_
        refine hf_iload_n (i := 3) (q := 3) gc dX12_isLetters_47 rfl rfl ?_
        refine hf_icmp_ne (tgt := 71) gc dX12_isLetters_48 (by decide) ?_ ?_
        · refine hf_iconst (v := 0) gc dX12_isLetters_71 (by decide) ?_
          exact hf_zret g dX12_isLetters_72 rfl
        · refine hf_aload_n (i := 0) (q := 0) gc dX12_isLetters_51 rfl rfl ?_
          refine hf_getR (j := 0) (k := 20) (r := 16) g rfl rfl kF_RX12_56 dX12_isLetters_52 ?_
          refine hf_aload_n (i := 0) (q := 0) gc dX12_isLetters_55 rfl rfl ?_
          refine hf_getI (j := 0) (k := 41) g rfl rfl kF_RX12_177 dX12_isLetters_56 ?_
          refine hf_iconst (v := 3) gc dX12_isLetters_59 (by decide) ?_
          refine hf_iadd gc dX12_isLetters_60 ?_
          refine hf_bald (a := 15) (r := 16) (n := 500) g rfl rfl dX12_isLetters_61 ?_
          refine hf_iload (i := 4) (q := 4) gc dX12_isLetters_62 rfl ?_
          refine hf_icmp_ne (tgt := 71) gc dX12_isLetters_64 (by decide) ?_ ?_
          · refine hf_iconst (v := 0) gc dX12_isLetters_71 (by decide) ?_
            exact hf_zret g dX12_isLetters_72 rfl
          · refine hf_iconst (v := 1) gc dX12_isLetters_67 (by decide) ?_
            refine hf_goto (tgt := 72) gc dX12_isLetters_68 (by decide) ?_
            exact hf_zret g dX12_isLetters_72 rfl
theorem cm_md_isLetters {l0 : Launch} {D0 : va_G} {ad : Nat → Nat} {cA : Nat → ClassId} {E : State → Prop} {s : hf_St} {a1 : Int32} {a2 : Int32} {a3 : Int32} {a4 : Int32} : hf_Ct l0 D0 hmT ad cA E 0 yX12_isLetters cX12_isLetters 5 (some .boolean) [.ref (ad 0), .int a1, .int a2, .int a3, .int a4] s (Fm_md_isLetters s a1 a2 a3 a4) (hf_rp s) := hf_met (by decide) (Nat.le_of_ble_eq_true rfl) (fun _ _ g => xm_md_isLetters g)
set_option maxHeartbeats 2000000 in
set_option maxRecDepth 20000 in
theorem xm_md_fails {x : hf_Cx} {ad : Nat → Nat} {cA : Nat → ClassId} {E : State → Prop} {A : Nat → Prop} {l0 : Launch} {D0 : va_G} (g : hf_G x hmT ad cA E A l0 D0 cX12_fails 3 RX12 (some .boolean) 0) {s : hf_St} {a1 : Int32} {a2 : Int32} : hf_X x A 3 (0, 0) (hf_Q x hmT ad cA A hf_ri) (Fm_md_fails s a1 a2) (hf_wd hmT ad cA s) 0 [(0, .ref (ad 0)), (1, .int a1), (2, .int a2)] [] := by
  have gc := g.1
  unfold Fm_md_fails
  refine hf_aload_n (i := 0) (q := 0) gc dX12_fails_0 rfl rfl ?_
  refine hf_getI (j := 0) (k := 23) g rfl rfl kF_RX12_164 dX12_fails_1 ?_
  refine hf_if_ne (tgt := 19) gc dX12_fails_4 (by decide) ?_ ?_
  · refine hf_iconst (v := 0) gc dX12_fails_19 (by decide) ?_
    exact hf_zret g dX12_fails_20 rfl
  · refine hf_aload_n (i := 0) (q := 0) gc dX12_fails_7 rfl rfl ?_
    refine hf_iconst (v := 1) gc dX12_fails_8 (by decide) ?_
    refine hf_bipush (v := 8) gc dX12_fails_9 (by decide) ?_
    refine hf_iload_n (i := 2) (q := 2) gc dX12_fails_11 rfl rfl ?_
    refine hf_imul gc dX12_fails_12 ?_
    refine hf_iadd gc dX12_fails_13 ?_
    refine hf_iload_n (i := 1) (q := 1) gc dX12_fails_14 rfl rfl ?_
    refine hf_iadd gc dX12_fails_15 ?_
    refine hf_putI (j := 0) (k := 23) g rfl rfl kP_RX12_164 rfl rfl dX12_fails_16 (fun s1 => ?_)
    refine hf_iconst (v := 0) gc dX12_fails_19 (by decide) ?_
    exact hf_zret g dX12_fails_20 rfl
theorem cm_md_fails {l0 : Launch} {D0 : va_G} {ad : Nat → Nat} {cA : Nat → ClassId} {E : State → Prop} {s : hf_St} {a1 : Int32} {a2 : Int32} : hf_Ct l0 D0 hmT ad cA E 0 yX12_fails cX12_fails 3 (some .boolean) [.ref (ad 0), .int a1, .int a2] s (Fm_md_fails s a1 a2) hf_ri := hf_met (by decide) (Nat.le_of_ble_eq_true rfl) (fun _ _ g => xm_md_fails g)
set_option maxHeartbeats 2000000 in
set_option maxRecDepth 20000 in
theorem xm_md_isNumber_l15 {x : hf_Cx} {ad : Nat → Nat} {cA : Nat → ClassId} {E : State → Prop} {A : Nat → Prop} {l0 : Launch} {D0 : va_G} {s : hf_St} (g : hf_G x hmT ad cA E A l0 D0 cX12_isNumber 3 RX12 (some .boolean) 1) : ∀ (n : Nat) (l1 : Int32) (l2 : Int32), hf_X x A 3 (0, 0) (hf_Q x hmT ad cA A (hf_rp s)) (Fm_md_isNumber_l15 s n l1 l2) (hf_wd hmT ad cA s) 15 [(0, .ref (ad 0)), (1, .int l1), (2, .int l2)] [] := by
  have gc := g.1
  intro n
  induction n with
  | zero => intro l1 l2; exact hf_none
  | succ n ih =>
    intro l1 l2
    rw [Fm_md_isNumber_l15]
    refine hf_iload_n (i := 2) (q := 2) gc dX12_isNumber_15 rfl rfl ?_
    refine hf_aload_n (i := 0) (q := 0) gc dX12_isNumber_16 rfl rfl ?_
    refine hf_getI (j := 0) (k := 42) g rfl rfl kF_RX12_180 dX12_isNumber_17 ?_
    refine hf_icmp_ge (tgt := 56) gc dX12_isNumber_20 (by decide) ?_ ?_
    · refine hf_iload_n (i := 1) (q := 1) gc dX12_isNumber_56 rfl rfl ?_
      exact hf_zret g dX12_isNumber_57 rfl
    · refine hf_iload_n (i := 1) (q := 1) gc dX12_isNumber_23 rfl rfl ?_
      refine hf_if_eq (tgt := 48) gc dX12_isNumber_24 (by decide) ?_ ?_
      · refine hf_iconst (v := 0) gc dX12_isNumber_48 (by decide) ?_
        refine hf_istore_n (i := 1) (lv' := [(1, .int ((0 : Int32))), (0, .ref (ad 0)), (2, .int l2)]) gc dX12_isNumber_49 rfl (by decide) rfl ?_
        refine hf_iinc (q := 2) (v' := l2 + (1 : Int32)) (lv' := [(2, .int (l2 + (1 : Int32))), (1, .int ((0 : Int32))), (0, .ref (ad 0))]) gc dX12_isNumber_50 rfl rfl (by decide) rfl ?_
        refine hf_goto (tgt := 15) gc dX12_isNumber_53 (by decide) ?_
        refine hf_sub (lv' := [(0, .ref (ad 0)), (1, .int ((0 : Int32))), (2, .int (l2 + (1 : Int32)))]) [2, 1, 0] rfl ?_
        exact ih _ _
      · refine hf_aload_n (i := 0) (q := 0) gc dX12_isNumber_27 rfl rfl ?_
        refine hf_getR (j := 0) (k := 20) (r := 16) g rfl rfl kF_RX12_56 dX12_isNumber_28 ?_
        refine hf_aload_n (i := 0) (q := 0) gc dX12_isNumber_31 rfl rfl ?_
        refine hf_getI (j := 0) (k := 41) g rfl rfl kF_RX12_177 dX12_isNumber_32 ?_
        refine hf_iload_n (i := 2) (q := 2) gc dX12_isNumber_35 rfl rfl ?_
        refine hf_iadd gc dX12_isNumber_36 ?_
        refine hf_bald (a := 15) (r := 16) (n := 500) g rfl rfl dX12_isNumber_37 ?_
        refine hf_callS1 g (cm_md_isDigit (a1 := s.2 15 ((s.1 0 41) + l2).toNatClampNeg)) kS_RX12_170 (by decide) (by decide) rfl rfl (Nat.le_of_ble_eq_true rfl) dX12_isNumber_38 (fun v1 => ?_)
        refine hf_if_eq (tgt := 48) gc dX12_isNumber_41 (by decide) ?_ ?_
        · refine hf_iconst (v := 0) gc dX12_isNumber_48 (by decide) ?_
          refine hf_istore_n (i := 1) (lv' := [(1, .int ((0 : Int32))), (0, .ref (ad 0)), (2, .int l2)]) gc dX12_isNumber_49 rfl (by decide) rfl ?_
          refine hf_iinc (q := 2) (v' := l2 + (1 : Int32)) (lv' := [(2, .int (l2 + (1 : Int32))), (1, .int ((0 : Int32))), (0, .ref (ad 0))]) gc dX12_isNumber_50 rfl rfl (by decide) rfl ?_
          refine hf_goto (tgt := 15) gc dX12_isNumber_53 (by decide) ?_
          refine hf_sub (lv' := [(0, .ref (ad 0)), (1, .int ((0 : Int32))), (2, .int (l2 + (1 : Int32)))]) [2, 1, 0] rfl ?_
          exact ih _ _
        · refine hf_iconst (v := 1) gc dX12_isNumber_44 (by decide) ?_
          refine hf_goto (tgt := 49) gc dX12_isNumber_45 (by decide) ?_
          refine hf_istore_n (i := 1) (lv' := [(1, .int ((1 : Int32))), (0, .ref (ad 0)), (2, .int l2)]) gc dX12_isNumber_49 rfl (by decide) rfl ?_
          refine hf_iinc (q := 2) (v' := l2 + (1 : Int32)) (lv' := [(2, .int (l2 + (1 : Int32))), (1, .int ((1 : Int32))), (0, .ref (ad 0))]) gc dX12_isNumber_50 rfl rfl (by decide) rfl ?_
          refine hf_goto (tgt := 15) gc dX12_isNumber_53 (by decide) ?_
          refine hf_sub (lv' := [(0, .ref (ad 0)), (1, .int ((1 : Int32))), (2, .int (l2 + (1 : Int32)))]) [2, 1, 0] rfl ?_
          exact ih _ _
set_option maxHeartbeats 2000000 in
set_option maxRecDepth 20000 in
theorem xm_md_isNumber {x : hf_Cx} {ad : Nat → Nat} {cA : Nat → ClassId} {E : State → Prop} {A : Nat → Prop} {l0 : Launch} {D0 : va_G} (g : hf_G x hmT ad cA E A l0 D0 cX12_isNumber 3 RX12 (some .boolean) 1) {s : hf_St} : hf_X x A 3 (0, 0) (hf_Q x hmT ad cA A (hf_rp s)) (Fm_md_isNumber s) (hf_wd hmT ad cA s) 0 [(0, .ref (ad 0))] [] := by
  have gc := g.1
  unfold Fm_md_isNumber
  refine hf_aload_n (i := 0) (q := 0) gc dX12_isNumber_0 rfl rfl ?_
  refine hf_getI (j := 0) (k := 42) g rfl rfl kF_RX12_180 dX12_isNumber_1 ?_
  refine hf_if_le (tgt := 11) gc dX12_isNumber_4 (by decide) ?_ ?_
  · refine hf_iconst (v := 0) gc dX12_isNumber_11 (by decide) ?_
    refine hf_istore_n (i := 1) (lv' := [(1, .int ((0 : Int32))), (0, .ref (ad 0))]) gc dX12_isNumber_12 rfl (by decide) rfl ?_
    refine hf_iconst (v := 0) gc dX12_isNumber_13 (by decide) ?_
    refine hf_istore_n (i := 2) (lv' := [(2, .int ((0 : Int32))), (1, .int ((0 : Int32))), (0, .ref (ad 0))]) gc dX12_isNumber_14 rfl (by decide) rfl ?_
    refine hf_sub (lv' := [(0, .ref (ad 0)), (1, .int ((0 : Int32))), (2, .int ((0 : Int32)))]) [2, 1, 0] rfl ?_
    exact xm_md_isNumber_l15 g hf_fuel _ _
  · refine hf_iconst (v := 1) gc dX12_isNumber_7 (by decide) ?_
    refine hf_goto (tgt := 12) gc dX12_isNumber_8 (by decide) ?_
    refine hf_istore_n (i := 1) (lv' := [(1, .int ((1 : Int32))), (0, .ref (ad 0))]) gc dX12_isNumber_12 rfl (by decide) rfl ?_
    refine hf_iconst (v := 0) gc dX12_isNumber_13 (by decide) ?_
    refine hf_istore_n (i := 2) (lv' := [(2, .int ((0 : Int32))), (1, .int ((1 : Int32))), (0, .ref (ad 0))]) gc dX12_isNumber_14 rfl (by decide) rfl ?_
    refine hf_sub (lv' := [(0, .ref (ad 0)), (1, .int ((1 : Int32))), (2, .int ((0 : Int32)))]) [2, 1, 0] rfl ?_
    exact xm_md_isNumber_l15 g hf_fuel _ _
theorem cm_md_isNumber {l0 : Launch} {D0 : va_G} {ad : Nat → Nat} {cA : Nat → ClassId} {E : State → Prop} {s : hf_St} : hf_Ct l0 D0 hmT ad cA E 1 yX12_isNumber cX12_isNumber 3 (some .boolean) [.ref (ad 0)] s (Fm_md_isNumber s) (hf_rp s) := hf_met (by decide) (Nat.le_of_ble_eq_true rfl) (fun _ _ g => xm_md_isNumber g)
set_option maxHeartbeats 2000000 in
set_option maxRecDepth 20000 in
theorem xm_md_numberHere_l4 {x : hf_Cx} {ad : Nat → Nat} {cA : Nat → ClassId} {E : State → Prop} {A : Nat → Prop} {l0 : Launch} {D0 : va_G} {s : hf_St} (g : hf_G x hmT ad cA E A l0 D0 cX12_numberHere 3 RX12 (some .int) 0) : ∀ (n : Nat) (l1 : Int32) (l2 : Int32), hf_X x A 3 (0, 0) (hf_Q x hmT ad cA A (hf_rp s)) (Fm_md_numberHere_l4 s n l1 l2) (hf_wd hmT ad cA s) 4 [(0, .ref (ad 0)), (1, .int l1), (2, .int l2)] [] := by
  have gc := g.1
  intro n
  induction n with
  | zero => intro l1 l2; exact hf_none
  | succ n ih =>
    intro l1 l2
    rw [Fm_md_numberHere_l4]
    refine hf_iload_n (i := 2) (q := 2) gc dX12_numberHere_4 rfl rfl ?_
    refine hf_aload_n (i := 0) (q := 0) gc dX12_numberHere_5 rfl rfl ?_
    refine hf_getI (j := 0) (k := 42) g rfl rfl kF_RX12_180 dX12_numberHere_6 ?_
    refine hf_icmp_ge (tgt := 43) gc dX12_numberHere_9 (by decide) ?_ ?_
    · refine hf_iload_n (i := 1) (q := 1) gc dX12_numberHere_43 rfl rfl ?_
      exact hf_iret g dX12_numberHere_44 rfl
    · refine hf_iload_n (i := 2) (q := 2) gc dX12_numberHere_12 rfl rfl ?_
      refine hf_iconst (v := 4) gc dX12_numberHere_13 (by decide) ?_
      refine hf_icmp_ge (tgt := 43) gc dX12_numberHere_14 (by decide) ?_ ?_
      · refine hf_iload_n (i := 1) (q := 1) gc dX12_numberHere_43 rfl rfl ?_
        exact hf_iret g dX12_numberHere_44 rfl
      · refine hf_bipush (v := 10) gc dX12_numberHere_17 (by decide) ?_
        refine hf_iload_n (i := 1) (q := 1) gc dX12_numberHere_19 rfl rfl ?_
        refine hf_imul gc dX12_numberHere_20 ?_
        refine hf_aload_n (i := 0) (q := 0) gc dX12_numberHere_21 rfl rfl ?_
        refine hf_getR (j := 0) (k := 20) (r := 16) g rfl rfl kF_RX12_56 dX12_numberHere_22 ?_
        refine hf_aload_n (i := 0) (q := 0) gc dX12_numberHere_25 rfl rfl ?_
        refine hf_getI (j := 0) (k := 41) g rfl rfl kF_RX12_177 dX12_numberHere_26 ?_
        refine hf_iload_n (i := 2) (q := 2) gc dX12_numberHere_29 rfl rfl ?_
        refine hf_iadd gc dX12_numberHere_30 ?_
        refine hf_bald (a := 15) (r := 16) (n := 500) g rfl rfl dX12_numberHere_31 ?_
        refine hf_iadd gc dX12_numberHere_32 ?_
        refine hf_bipush (v := 48) gc dX12_numberHere_33 (by decide) ?_
        refine hf_isub gc dX12_numberHere_35 ?_
        refine hf_let (fun v1 => ?_)
        refine hf_istore_n (i := 1) (lv' := [(1, .int v1), (0, .ref (ad 0)), (2, .int l2)]) gc dX12_numberHere_36 rfl (by decide) rfl ?_
        refine hf_iinc (q := 2) (v' := l2 + (1 : Int32)) (lv' := [(2, .int (l2 + (1 : Int32))), (1, .int v1), (0, .ref (ad 0))]) gc dX12_numberHere_37 rfl rfl (by decide) rfl ?_
        refine hf_goto (tgt := 4) gc dX12_numberHere_40 (by decide) ?_
        refine hf_sub (lv' := [(0, .ref (ad 0)), (1, .int v1), (2, .int (l2 + (1 : Int32)))]) [2, 1, 0] rfl ?_
        exact ih _ _
set_option maxHeartbeats 2000000 in
set_option maxRecDepth 20000 in
theorem xm_md_numberHere {x : hf_Cx} {ad : Nat → Nat} {cA : Nat → ClassId} {E : State → Prop} {A : Nat → Prop} {l0 : Launch} {D0 : va_G} (g : hf_G x hmT ad cA E A l0 D0 cX12_numberHere 3 RX12 (some .int) 0) {s : hf_St} : hf_X x A 3 (0, 0) (hf_Q x hmT ad cA A (hf_rp s)) (Fm_md_numberHere s) (hf_wd hmT ad cA s) 0 [(0, .ref (ad 0))] [] := by
  have gc := g.1
  unfold Fm_md_numberHere
  refine hf_iconst (v := 0) gc dX12_numberHere_0 (by decide) ?_
  refine hf_istore_n (i := 1) (lv' := [(1, .int ((0 : Int32))), (0, .ref (ad 0))]) gc dX12_numberHere_1 rfl (by decide) rfl ?_
  refine hf_iconst (v := 0) gc dX12_numberHere_2 (by decide) ?_
  refine hf_istore_n (i := 2) (lv' := [(2, .int ((0 : Int32))), (1, .int ((0 : Int32))), (0, .ref (ad 0))]) gc dX12_numberHere_3 rfl (by decide) rfl ?_
  refine hf_sub (lv' := [(0, .ref (ad 0)), (1, .int ((0 : Int32))), (2, .int ((0 : Int32)))]) [2, 1, 0] rfl ?_
  exact xm_md_numberHere_l4 g hf_fuel _ _
theorem cm_md_numberHere {l0 : Launch} {D0 : va_G} {ad : Nat → Nat} {cA : Nat → ClassId} {E : State → Prop} {s : hf_St} : hf_Ct l0 D0 hmT ad cA E 0 yX12_numberHere cX12_numberHere 3 (some .int) [.ref (ad 0)] s (Fm_md_numberHere s) (hf_rp s) := hf_met (by decide) (Nat.le_of_ble_eq_true rfl) (fun _ _ g => xm_md_numberHere g)
set_option maxHeartbeats 2000000 in
set_option maxRecDepth 20000 in
theorem xm_md_side_b195 {x : hf_Cx} {ad : Nat → Nat} {cA : Nat → ClassId} {E : State → Prop} {A : Nat → Prop} {l0 : Launch} {D0 : va_G} (g : hf_G x hmT ad cA E A l0 D0 cX12_side 3 RX12 (some .boolean) 3) (s : hf_St) (t0 : Int32) : hf_X x A 3 (0, 0) (hf_Q x hmT ad cA A hf_ri) (Fm_md_side_b195 s t0) (hf_wd hmT ad cA s) 195 [(0, .ref (ad 0))] [.int t0, .ref (ad 0)] := by
  have gc := g.1
  unfold Fm_md_side_b195
  refine hf_putI (j := 0) (k := 44) g rfl rfl kP_RX12_203 rfl rfl dX12_side_195 (fun s1 => ?_)
  refine hf_aload_n (i := 0) (q := 0) gc dX12_side_198 rfl rfl ?_
  refine hf_aload_n (i := 0) (q := 0) gc dX12_side_199 rfl rfl ?_
  refine hf_getI (j := 0) (k := 41) g rfl rfl kF_RX12_177 dX12_side_200 ?_
  refine hf_aload_n (i := 0) (q := 0) gc dX12_side_203 rfl rfl ?_
  refine hf_getI (j := 0) (k := 42) g rfl rfl kF_RX12_180 dX12_side_204 ?_
  refine hf_iadd gc dX12_side_207 ?_
  refine hf_putI (j := 0) (k := 22) g rfl rfl kP_RX12_167 rfl rfl dX12_side_208 (fun s2 => ?_)
  refine hf_iconst (v := 1) gc dX12_side_211 (by decide) ?_
  exact hf_zret g dX12_side_212 rfl
set_option maxHeartbeats 2000000 in
set_option maxRecDepth 20000 in
theorem xm_md_side_b179 {x : hf_Cx} {ad : Nat → Nat} {cA : Nat → ClassId} {E : State → Prop} {A : Nat → Prop} {l0 : Launch} {D0 : va_G} (g : hf_G x hmT ad cA E A l0 D0 cX12_side 3 RX12 (some .boolean) 3) (s : hf_St) (l2 : Int32) (t0 : Int32) : hf_X x A 3 (0, 0) (hf_Q x hmT ad cA A hf_ri) (Fm_md_side_b179 s l2 t0) (hf_wd hmT ad cA s) 179 [(0, .ref (ad 0)), (2, .int l2)] [.int t0, .ref (ad 0)] := by
  have gc := g.1
  unfold Fm_md_side_b179
  refine hf_putI (j := 0) (k := 43) g rfl rfl kP_RX12_197 rfl rfl dX12_side_179 (fun s1 => ?_)
  refine hf_aload_n (i := 0) (q := 0) gc dX12_side_182 rfl rfl ?_
  refine hf_iload_n (i := 2) (q := 1) gc dX12_side_183 rfl rfl ?_
  refine hf_if_eq (tgt := 191) gc dX12_side_184 (by decide) ?_ ?_
  · refine hf_aload_n (i := 0) (q := 0) gc dX12_side_191 rfl rfl ?_
    refine hf_callV1 (j := 0) g (cm_md_numberHere) kV_RX12_200 (by decide) (by decide) rfl rfl rfl rfl (Nat.le_of_ble_eq_true rfl) dX12_side_192 (fun v2 => ?_)
    refine hf_sub (lv' := [(0, .ref (ad 0))]) [0] rfl ?_
    exact xm_md_side_b195 g _ _
  · refine hf_iconst (v := 0) gc dX12_side_187 (by decide) ?_
    refine hf_goto (tgt := 195) gc dX12_side_188 (by decide) ?_
    refine hf_sub (lv' := [(0, .ref (ad 0))]) [0] rfl ?_
    exact xm_md_side_b195 g _ _
set_option maxHeartbeats 2000000 in
set_option maxRecDepth 20000 in
theorem xm_md_side_b178 {x : hf_Cx} {ad : Nat → Nat} {cA : Nat → ClassId} {E : State → Prop} {A : Nat → Prop} {l0 : Launch} {D0 : va_G} (g : hf_G x hmT ad cA E A l0 D0 cX12_side 3 RX12 (some .boolean) 3) (s : hf_St) (l2 : Int32) (t0 : Int32) (t1 : Int32) : hf_X x A 3 (0, 0) (hf_Q x hmT ad cA A hf_ri) (Fm_md_side_b178 s l2 t0 t1) (hf_wd hmT ad cA s) 178 [(0, .ref (ad 0)), (2, .int l2)] [.int t0, .int t1, .ref (ad 0)] := by
  have gc := g.1
  unfold Fm_md_side_b178
  refine hf_iadd gc dX12_side_178 ?_
  exact xm_md_side_b179 g _ _ _
set_option maxHeartbeats 2000000 in
set_option maxRecDepth 20000 in
theorem xm_md_side_b121 {x : hf_Cx} {ad : Nat → Nat} {cA : Nat → ClassId} {E : State → Prop} {A : Nat → Prop} {l0 : Launch} {D0 : va_G} (g : hf_G x hmT ad cA E A l0 D0 cX12_side 3 RX12 (some .boolean) 3) (s : hf_St) (l1 : Int32) (l2 : Int32) : hf_X x A 3 (0, 0) (hf_Q x hmT ad cA A hf_ri) (Fm_md_side_b121 s l1 l2) (hf_wd hmT ad cA s) 121 [(0, .ref (ad 0)), (1, .int l1), (2, .int l2)] [] := by
  have gc := g.1
  unfold Fm_md_side_b121
  refine hf_iload_n (i := 1) (q := 1) gc dX12_side_121 rfl rfl ?_
  refine hf_if_eq (tgt := 135) gc dX12_side_122 (by decide) ?_ ?_
  · refine hf_aload_n (i := 0) (q := 0) gc dX12_side_135 rfl rfl ?_
    refine hf_iload_n (i := 2) (q := 2) gc dX12_side_136 rfl rfl ?_
    refine hf_if_ne (tgt := 144) gc dX12_side_137 (by decide) ?_ ?_
    · refine hf_aload_n (i := 0) (q := 0) gc dX12_side_144 rfl rfl ?_
      refine hf_getR (j := 0) (k := 20) (r := 16) g rfl rfl kF_RX12_56 dX12_side_145 ?_
      refine hf_aload_n (i := 0) (q := 0) gc dX12_side_148 rfl rfl ?_
      refine hf_getI (j := 0) (k := 41) g rfl rfl kF_RX12_177 dX12_side_149 ?_
      refine hf_iconst (v := 1) gc dX12_side_152 (by decide) ?_
      refine hf_iadd gc dX12_side_153 ?_
      refine hf_bald (a := 15) (r := 16) (n := 500) g rfl rfl dX12_side_154 ?_
      refine hf_bipush (v := 48) gc dX12_side_155 (by decide) ?_
      refine hf_isub gc dX12_side_157 ?_
      refine hf_aload_n (i := 0) (q := 0) gc dX12_side_158 rfl rfl ?_
      refine hf_getR (j := 0) (k := 20) (r := 16) g rfl rfl kF_RX12_56 dX12_side_159 ?_
      refine hf_aload_n (i := 0) (q := 0) gc dX12_side_162 rfl rfl ?_
      refine hf_getI (j := 0) (k := 41) g rfl rfl kF_RX12_177 dX12_side_163 ?_
      refine hf_bald (a := 15) (r := 16) (n := 500) g rfl rfl dX12_side_166 ?_
      refine hf_bipush (v := 99) gc dX12_side_167 (by decide) ?_
      refine hf_icmp_ne (tgt := 176) gc dX12_side_169 (by decide) ?_ ?_
      · refine hf_bipush (v := 9) gc dX12_side_176 (by decide) ?_
        refine hf_sub (lv' := [(0, .ref (ad 0)), (2, .int l2)]) [0, 2] rfl ?_
        exact xm_md_side_b178 g _ _ _ _
      · refine hf_iconst (v := 1) gc dX12_side_172 (by decide) ?_
        refine hf_goto (tgt := 178) gc dX12_side_173 (by decide) ?_
        refine hf_sub (lv' := [(0, .ref (ad 0)), (2, .int l2)]) [0, 2] rfl ?_
        exact xm_md_side_b178 g _ _ _ _
    · refine hf_iconst (v := 0) gc dX12_side_140 (by decide) ?_
      refine hf_goto (tgt := 179) gc dX12_side_141 (by decide) ?_
      refine hf_sub (lv' := [(0, .ref (ad 0)), (2, .int l2)]) [0, 2] rfl ?_
      exact xm_md_side_b179 g _ _ _
  · refine hf_aload_n (i := 0) (q := 0) gc dX12_side_125 rfl rfl ?_
    refine hf_iconst (v := 2) gc dX12_side_126 (by decide) ?_
    refine hf_aload_n (i := 0) (q := 0) gc dX12_side_127 rfl rfl ?_
    refine hf_getI (j := 0) (k := 41) g rfl rfl kF_RX12_177 dX12_side_128 ?_
    refine hf_callV2 (j := 0) g (cm_md_fails (a1 := (2 : Int32)) (a2 := s.1 0 41)) kV_RX12_193 (by decide) (by decide) rfl rfl rfl rfl (Nat.le_of_ble_eq_true rfl) dX12_side_131 (fun v1 s2 => ?_)
    exact hf_zret g dX12_side_134 rfl
set_option maxHeartbeats 2000000 in
set_option maxRecDepth 20000 in
theorem xm_md_side_b99 {x : hf_Cx} {ad : Nat → Nat} {cA : Nat → ClassId} {E : State → Prop} {A : Nat → Prop} {l0 : Launch} {D0 : va_G} (g : hf_G x hmT ad cA E A l0 D0 cX12_side 3 RX12 (some .boolean) 3) (s : hf_St) (l1 : Int32) (l2 : Int32) : hf_X x A 3 (0, 0) (hf_Q x hmT ad cA A hf_ri) (Fm_md_side_b99 s l1 l2) (hf_wd hmT ad cA s) 99 [(0, .ref (ad 0)), (1, .int l1), (2, .int l2)] [] := by
  have gc := g.1
  unfold Fm_md_side_b99
  refine hf_iload_n (i := 2) (q := 2) gc dX12_side_99 rfl rfl ?_
  refine hf_if_ne (tgt := 121) gc dX12_side_100 (by decide) ?_ ?_
  · exact xm_md_side_b121 g _ _ _
  · refine hf_aload_n (i := 0) (q := 0) gc dX12_side_103 rfl rfl ?_
    refine hf_getI (j := 0) (k := 42) g rfl rfl kF_RX12_180 dX12_side_104 ?_
    refine hf_iconst (v := 4) gc dX12_side_107 (by decide) ?_
    refine hf_icmp_le (tgt := 121) gc dX12_side_108 (by decide) ?_ ?_
    · exact xm_md_side_b121 g _ _ _
    · refine hf_aload_n (i := 0) (q := 0) gc dX12_side_111 rfl rfl ?_
      refine hf_iconst (v := 1) gc dX12_side_112 (by decide) ?_
      refine hf_aload_n (i := 0) (q := 0) gc dX12_side_113 rfl rfl ?_
      refine hf_getI (j := 0) (k := 41) g rfl rfl kF_RX12_177 dX12_side_114 ?_
      refine hf_callV2 (j := 0) g (cm_md_fails (a1 := (1 : Int32)) (a2 := s.1 0 41)) kV_RX12_193 (by decide) (by decide) rfl rfl rfl rfl (Nat.le_of_ble_eq_true rfl) dX12_side_117 (fun v1 s2 => ?_)
      exact hf_zret g dX12_side_120 rfl
set_option maxHeartbeats 2000000 in
set_option maxRecDepth 20000 in
theorem xm_md_side_b77 {x : hf_Cx} {ad : Nat → Nat} {cA : Nat → ClassId} {E : State → Prop} {A : Nat → Prop} {l0 : Launch} {D0 : va_G} (g : hf_G x hmT ad cA E A l0 D0 cX12_side 3 RX12 (some .boolean) 3) (s : hf_St) (l1 : Int32) (t0 : Int32) : hf_X x A 3 (0, 0) (hf_Q x hmT ad cA A hf_ri) (Fm_md_side_b77 s l1 t0) (hf_wd hmT ad cA s) 77 [(0, .ref (ad 0)), (1, .int l1)] [.int t0] := by
  have gc := g.1
  unfold Fm_md_side_b77
  refine hf_istore_n (i := 2) (lv' := [(2, .int t0), (0, .ref (ad 0)), (1, .int l1)]) gc dX12_side_77 rfl (by decide) rfl ?_
  refine hf_iload_n (i := 2) (q := 0) gc dX12_side_78 rfl rfl ?_
  refine hf_if_ne (tgt := 99) gc dX12_side_79 (by decide) ?_ ?_
  · refine hf_sub (lv' := [(0, .ref (ad 0)), (1, .int l1), (2, .int t0)]) [1, 2, 0] rfl ?_
    exact xm_md_side_b99 g _ _ _
  · refine hf_aload_n (i := 0) (q := 1) gc dX12_side_82 rfl rfl ?_
    refine hf_callV1 (j := 0) g (cm_md_isNumber) kV_RX12_189 (by decide) (by decide) rfl rfl rfl rfl (Nat.le_of_ble_eq_true rfl) dX12_side_83 (fun v1 => ?_)
    refine hf_if_ne (tgt := 99) gc dX12_side_86 (by decide) ?_ ?_
    · refine hf_sub (lv' := [(0, .ref (ad 0)), (1, .int l1), (2, .int t0)]) [1, 2, 0] rfl ?_
      exact xm_md_side_b99 g _ _ _
    · refine hf_aload_n (i := 0) (q := 1) gc dX12_side_89 rfl rfl ?_
      refine hf_iconst (v := 0) gc dX12_side_90 (by decide) ?_
      refine hf_aload_n (i := 0) (q := 1) gc dX12_side_91 rfl rfl ?_
      refine hf_getI (j := 0) (k := 41) g rfl rfl kF_RX12_177 dX12_side_92 ?_
      refine hf_callV2 (j := 0) g (cm_md_fails (a1 := (0 : Int32)) (a2 := s.1 0 41)) kV_RX12_193 (by decide) (by decide) rfl rfl rfl rfl (Nat.le_of_ble_eq_true rfl) dX12_side_95 (fun v2 s3 => ?_)
      exact hf_zret g dX12_side_98 rfl
set_option maxHeartbeats 2000000 in
set_option maxRecDepth 20000 in
theorem xm_md_side_b76 {x : hf_Cx} {ad : Nat → Nat} {cA : Nat → ClassId} {E : State → Prop} {A : Nat → Prop} {l0 : Launch} {D0 : va_G} (g : hf_G x hmT ad cA E A l0 D0 cX12_side 3 RX12 (some .boolean) 3) (s : hf_St) (l1 : Int32) : hf_X x A 3 (0, 0) (hf_Q x hmT ad cA A hf_ri) (Fm_md_side_b76 s l1) (hf_wd hmT ad cA s) 76 [(0, .ref (ad 0)), (1, .int l1)] [] := by
  have gc := g.1
  unfold Fm_md_side_b76
  refine hf_iconst (v := 0) gc dX12_side_76 (by decide) ?_
  exact xm_md_side_b77 g _ _ _
set_option maxHeartbeats 2000000 in
set_option maxRecDepth 20000 in
theorem xm_md_side_b40 {x : hf_Cx} {ad : Nat → Nat} {cA : Nat → ClassId} {E : State → Prop} {A : Nat → Prop} {l0 : Launch} {D0 : va_G} (g : hf_G x hmT ad cA E A l0 D0 cX12_side 3 RX12 (some .boolean) 3) (s : hf_St) (l1 : Int32) : hf_X x A 3 (0, 0) (hf_Q x hmT ad cA A hf_ri) (Fm_md_side_b40 s l1) (hf_wd hmT ad cA s) 40 [(0, .ref (ad 0)), (1, .int l1)] [] := by
  have gc := g.1
  unfold Fm_md_side_b40
  refine hf_aload_n (i := 0) (q := 0) gc dX12_side_40 rfl rfl ?_
  refine hf_getR (j := 0) (k := 20) (r := 16) g rfl rfl kF_RX12_56 dX12_side_41 ?_
  refine hf_aload_n (i := 0) (q := 0) gc dX12_side_44 rfl rfl ?_
  refine hf_getI (j := 0) (k := 41) g rfl rfl kF_RX12_177 dX12_side_45 ?_
  refine hf_iconst (v := 1) gc dX12_side_48 (by decide) ?_
  refine hf_iadd gc dX12_side_49 ?_
  refine hf_bald (a := 15) (r := 16) (n := 500) g rfl rfl dX12_side_50 ?_
  refine hf_bipush (v := 48) gc dX12_side_51 (by decide) ?_
  refine hf_icmp_lt (tgt := 76) gc dX12_side_53 (by decide) ?_ ?_
  · exact xm_md_side_b76 g _ _
  · refine hf_aload_n (i := 0) (q := 0) gc dX12_side_56 rfl rfl ?_
    refine hf_getR (j := 0) (k := 20) (r := 16) g rfl rfl kF_RX12_56 dX12_side_57 ?_
    refine hf_aload_n (i := 0) (q := 0) gc dX12_side_60 rfl rfl ?_
    refine hf_getI (j := 0) (k := 41) g rfl rfl kF_RX12_177 dX12_side_61 ?_
    refine hf_iconst (v := 1) gc dX12_side_64 (by decide) ?_
    refine hf_iadd gc dX12_side_65 ?_
    refine hf_bald (a := 15) (r := 16) (n := 500) g rfl rfl dX12_side_66 ?_
    refine hf_bipush (v := 55) gc dX12_side_67 (by decide) ?_
    refine hf_icmp_gt (tgt := 76) gc dX12_side_69 (by decide) ?_ ?_
    · exact xm_md_side_b76 g _ _
    · refine hf_iconst (v := 1) gc dX12_side_72 (by decide) ?_
      refine hf_goto (tgt := 77) gc dX12_side_73 (by decide) ?_
      exact xm_md_side_b77 g _ _ _
set_option maxHeartbeats 2000000 in
set_option maxRecDepth 20000 in
theorem xm_md_side {x : hf_Cx} {ad : Nat → Nat} {cA : Nat → ClassId} {E : State → Prop} {A : Nat → Prop} {l0 : Launch} {D0 : va_G} (g : hf_G x hmT ad cA E A l0 D0 cX12_side 3 RX12 (some .boolean) 3) {s : hf_St} {a1 : Int32} : hf_X x A 3 (0, 0) (hf_Q x hmT ad cA A hf_ri) (Fm_md_side s a1) (hf_wd hmT ad cA s) 0 [(0, .ref (ad 0)), (1, .int a1)] [] := by
  have gc := g.1
  unfold Fm_md_side
  refine hf_aload_n (i := 0) (q := 0) gc dX12_side_0 rfl rfl ?_
  refine hf_callV0 (j := 0) g (cm_md_looks) kV_RX12_186 (by decide) (by decide) rfl rfl rfl rfl (Nat.le_of_ble_eq_true rfl) dX12_side_1 (fun s1 => ?_)
  refine hf_aload_n (i := 0) (q := 0) gc dX12_side_4 rfl rfl ?_
  refine hf_getI (j := 0) (k := 42) g rfl rfl kF_RX12_180 dX12_side_5 ?_
  refine hf_iconst (v := 2) gc dX12_side_8 (by decide) ?_
  refine hf_icmp_ne (tgt := 76) gc dX12_side_9 (by decide) ?_ ?_
  · exact xm_md_side_b76 g _ _
  · refine hf_aload_n (i := 0) (q := 0) gc dX12_side_12 rfl rfl ?_
    refine hf_getR (j := 0) (k := 20) (r := 16) g rfl rfl kF_RX12_56 dX12_side_13 ?_
    refine hf_aload_n (i := 0) (q := 0) gc dX12_side_16 rfl rfl ?_
    refine hf_getI (j := 0) (k := 41) g rfl rfl kF_RX12_177 dX12_side_17 ?_
    refine hf_bald (a := 15) (r := 16) (n := 500) g rfl rfl dX12_side_20 ?_
    refine hf_bipush (v := 99) gc dX12_side_21 (by decide) ?_
    refine hf_icmp_eq (tgt := 40) gc dX12_side_23 (by decide) ?_ ?_
    · exact xm_md_side_b40 g _ _
    · refine hf_aload_n (i := 0) (q := 0) gc dX12_side_26 rfl rfl ?_
      refine hf_getR (j := 0) (k := 20) (r := 16) g rfl rfl kF_RX12_56 dX12_side_27 ?_
      refine hf_aload_n (i := 0) (q := 0) gc dX12_side_30 rfl rfl ?_
      refine hf_getI (j := 0) (k := 41) g rfl rfl kF_RX12_177 dX12_side_31 ?_
      refine hf_bald (a := 15) (r := 16) (n := 500) g rfl rfl dX12_side_34 ?_
      refine hf_bipush (v := 104) gc dX12_side_35 (by decide) ?_
      refine hf_icmp_ne (tgt := 76) gc dX12_side_37 (by decide) ?_ ?_
      · exact xm_md_side_b76 g _ _
      · exact xm_md_side_b40 g _ _
theorem cm_md_side {l0 : Launch} {D0 : va_G} {ad : Nat → Nat} {cA : Nat → ClassId} {E : State → Prop} {s : hf_St} {a1 : Int32} : hf_Ct l0 D0 hmT ad cA E 3 yX12_side cX12_side 3 (some .boolean) [.ref (ad 0), .int a1] s (Fm_md_side s a1) hf_ri := hf_met (by decide) (Nat.le_of_ble_eq_true rfl) (fun _ _ g => xm_md_side g)
set_option maxHeartbeats 2000000 in
set_option maxRecDepth 20000 in
theorem xm_md_isAnd {x : hf_Cx} {ad : Nat → Nat} {cA : Nat → ClassId} {E : State → Prop} {A : Nat → Prop} {l0 : Launch} {D0 : va_G} (g : hf_G x hmT ad cA E A l0 D0 cX12_isAnd 1 RX12 (some .boolean) 0) {s : hf_St} : hf_X x A 1 (0, 0) (hf_Q x hmT ad cA A (hf_rp s)) (Fm_md_isAnd s) (hf_wd hmT ad cA s) 0 [(0, .ref (ad 0))] [] := by
  have gc := g.1
  unfold Fm_md_isAnd
  refine hf_aload_n (i := 0) (q := 0) gc dX12_isAnd_0 rfl rfl ?_
  refine hf_getI (j := 0) (k := 42) g rfl rfl kF_RX12_180 dX12_isAnd_1 ?_
  refine hf_iconst (v := 3) gc dX12_isAnd_4 (by decide) ?_
  refine hf_icmp_ne (tgt := 58) gc dX12_isAnd_5 (by decide) ?_ ?_
  · refine hf_iconst (v := 0) gc dX12_isAnd_58 (by decide) ?_
    exact hf_zret g dX12_isAnd_59 rfl
  · refine hf_aload_n (i := 0) (q := 0) gc dX12_isAnd_8 rfl rfl ?_
    refine hf_getR (j := 0) (k := 20) (r := 16) g rfl rfl kF_RX12_56 dX12_isAnd_9 ?_
    refine hf_aload_n (i := 0) (q := 0) gc dX12_isAnd_12 rfl rfl ?_
    refine hf_getI (j := 0) (k := 41) g rfl rfl kF_RX12_177 dX12_isAnd_13 ?_
    refine hf_bald (a := 15) (r := 16) (n := 500) g rfl rfl dX12_isAnd_16 ?_
    refine hf_bipush (v := 97) gc dX12_isAnd_17 (by decide) ?_
    refine hf_icmp_ne (tgt := 58) gc dX12_isAnd_19 (by decide) ?_ ?_
    · refine hf_iconst (v := 0) gc dX12_isAnd_58 (by decide) ?_
      exact hf_zret g dX12_isAnd_59 rfl
    · refine hf_aload_n (i := 0) (q := 0) gc dX12_isAnd_22 rfl rfl ?_
      refine hf_getR (j := 0) (k := 20) (r := 16) g rfl rfl kF_RX12_56 dX12_isAnd_23 ?_
      refine hf_aload_n (i := 0) (q := 0) gc dX12_isAnd_26 rfl rfl ?_
      refine hf_getI (j := 0) (k := 41) g rfl rfl kF_RX12_177 dX12_isAnd_27 ?_
      refine hf_iconst (v := 1) gc dX12_isAnd_30 (by decide) ?_
      refine hf_iadd gc dX12_isAnd_31 ?_
      refine hf_bald (a := 15) (r := 16) (n := 500) g rfl rfl dX12_isAnd_32 ?_
      refine hf_bipush (v := 110) gc dX12_isAnd_33 (by decide) ?_
      refine hf_icmp_ne (tgt := 58) gc dX12_isAnd_35 (by decide) ?_ ?_
      · refine hf_iconst (v := 0) gc dX12_isAnd_58 (by decide) ?_
        exact hf_zret g dX12_isAnd_59 rfl
      · refine hf_aload_n (i := 0) (q := 0) gc dX12_isAnd_38 rfl rfl ?_
        refine hf_getR (j := 0) (k := 20) (r := 16) g rfl rfl kF_RX12_56 dX12_isAnd_39 ?_
        refine hf_aload_n (i := 0) (q := 0) gc dX12_isAnd_42 rfl rfl ?_
        refine hf_getI (j := 0) (k := 41) g rfl rfl kF_RX12_177 dX12_isAnd_43 ?_
        refine hf_iconst (v := 2) gc dX12_isAnd_46 (by decide) ?_
        refine hf_iadd gc dX12_isAnd_47 ?_
        refine hf_bald (a := 15) (r := 16) (n := 500) g rfl rfl dX12_isAnd_48 ?_
        refine hf_bipush (v := 100) gc dX12_isAnd_49 (by decide) ?_
        refine hf_icmp_ne (tgt := 58) gc dX12_isAnd_51 (by decide) ?_ ?_
        · refine hf_iconst (v := 0) gc dX12_isAnd_58 (by decide) ?_
          exact hf_zret g dX12_isAnd_59 rfl
        · refine hf_iconst (v := 1) gc dX12_isAnd_54 (by decide) ?_
          refine hf_goto (tgt := 59) gc dX12_isAnd_55 (by decide) ?_
          exact hf_zret g dX12_isAnd_59 rfl
theorem cm_md_isAnd {l0 : Launch} {D0 : va_G} {ad : Nat → Nat} {cA : Nat → ClassId} {E : State → Prop} {s : hf_St} : hf_Ct l0 D0 hmT ad cA E 0 yX12_isAnd cX12_isAnd 1 (some .boolean) [.ref (ad 0)] s (Fm_md_isAnd s) (hf_rp s) := hf_met (by decide) (Nat.le_of_ble_eq_true rfl) (fun _ _ g => xm_md_isAnd g)
set_option maxHeartbeats 2000000 in
set_option maxRecDepth 20000 in
theorem xm_md_isNight {x : hf_Cx} {ad : Nat → Nat} {cA : Nat → ClassId} {E : State → Prop} {A : Nat → Prop} {l0 : Launch} {D0 : va_G} (g : hf_G x hmT ad cA E A l0 D0 cX12_isNight 1 RX12 (some .boolean) 0) {s : hf_St} : hf_X x A 1 (0, 0) (hf_Q x hmT ad cA A (hf_rp s)) (Fm_md_isNight s) (hf_wd hmT ad cA s) 0 [(0, .ref (ad 0))] [] := by
  have gc := g.1
  unfold Fm_md_isNight
  refine hf_aload_n (i := 0) (q := 0) gc dX12_isNight_0 rfl rfl ?_
  refine hf_getI (j := 0) (k := 42) g rfl rfl kF_RX12_180 dX12_isNight_1 ?_
  refine hf_iconst (v := 5) gc dX12_isNight_4 (by decide) ?_
  refine hf_icmp_ne (tgt := 90) gc dX12_isNight_5 (by decide) ?_ ?_
  · refine hf_iconst (v := 0) gc dX12_isNight_90 (by decide) ?_
    exact hf_zret g dX12_isNight_91 rfl
  · refine hf_aload_n (i := 0) (q := 0) gc dX12_isNight_8 rfl rfl ?_
    refine hf_getR (j := 0) (k := 20) (r := 16) g rfl rfl kF_RX12_56 dX12_isNight_9 ?_
    refine hf_aload_n (i := 0) (q := 0) gc dX12_isNight_12 rfl rfl ?_
    refine hf_getI (j := 0) (k := 41) g rfl rfl kF_RX12_177 dX12_isNight_13 ?_
    refine hf_bald (a := 15) (r := 16) (n := 500) g rfl rfl dX12_isNight_16 ?_
    refine hf_bipush (v := 110) gc dX12_isNight_17 (by decide) ?_
    refine hf_icmp_ne (tgt := 90) gc dX12_isNight_19 (by decide) ?_ ?_
    · refine hf_iconst (v := 0) gc dX12_isNight_90 (by decide) ?_
      exact hf_zret g dX12_isNight_91 rfl
    · refine hf_aload_n (i := 0) (q := 0) gc dX12_isNight_22 rfl rfl ?_
      refine hf_getR (j := 0) (k := 20) (r := 16) g rfl rfl kF_RX12_56 dX12_isNight_23 ?_
      refine hf_aload_n (i := 0) (q := 0) gc dX12_isNight_26 rfl rfl ?_
      refine hf_getI (j := 0) (k := 41) g rfl rfl kF_RX12_177 dX12_isNight_27 ?_
      refine hf_iconst (v := 1) gc dX12_isNight_30 (by decide) ?_
      refine hf_iadd gc dX12_isNight_31 ?_
      refine hf_bald (a := 15) (r := 16) (n := 500) g rfl rfl dX12_isNight_32 ?_
      refine hf_bipush (v := 105) gc dX12_isNight_33 (by decide) ?_
      refine hf_icmp_ne (tgt := 90) gc dX12_isNight_35 (by decide) ?_ ?_
      · refine hf_iconst (v := 0) gc dX12_isNight_90 (by decide) ?_
        exact hf_zret g dX12_isNight_91 rfl
      · refine hf_aload_n (i := 0) (q := 0) gc dX12_isNight_38 rfl rfl ?_
        refine hf_getR (j := 0) (k := 20) (r := 16) g rfl rfl kF_RX12_56 dX12_isNight_39 ?_
        refine hf_aload_n (i := 0) (q := 0) gc dX12_isNight_42 rfl rfl ?_
        refine hf_getI (j := 0) (k := 41) g rfl rfl kF_RX12_177 dX12_isNight_43 ?_
        refine hf_iconst (v := 2) gc dX12_isNight_46 (by decide) ?_
        refine hf_iadd gc dX12_isNight_47 ?_
        refine hf_bald (a := 15) (r := 16) (n := 500) g rfl rfl dX12_isNight_48 ?_
        refine hf_bipush (v := 103) gc dX12_isNight_49 (by decide) ?_
        refine hf_icmp_ne (tgt := 90) gc dX12_isNight_51 (by decide) ?_ ?_
        · refine hf_iconst (v := 0) gc dX12_isNight_90 (by decide) ?_
          exact hf_zret g dX12_isNight_91 rfl
        · refine hf_aload_n (i := 0) (q := 0) gc dX12_isNight_54 rfl rfl ?_
          refine hf_getR (j := 0) (k := 20) (r := 16) g rfl rfl kF_RX12_56 dX12_isNight_55 ?_
          refine hf_aload_n (i := 0) (q := 0) gc dX12_isNight_58 rfl rfl ?_
          refine hf_getI (j := 0) (k := 41) g rfl rfl kF_RX12_177 dX12_isNight_59 ?_
          refine hf_iconst (v := 3) gc dX12_isNight_62 (by decide) ?_
          refine hf_iadd gc dX12_isNight_63 ?_
          refine hf_bald (a := 15) (r := 16) (n := 500) g rfl rfl dX12_isNight_64 ?_
          refine hf_bipush (v := 104) gc dX12_isNight_65 (by decide) ?_
          refine hf_icmp_ne (tgt := 90) gc dX12_isNight_67 (by decide) ?_ ?_
          · refine hf_iconst (v := 0) gc dX12_isNight_90 (by decide) ?_
            exact hf_zret g dX12_isNight_91 rfl
          · refine hf_aload_n (i := 0) (q := 0) gc dX12_isNight_70 rfl rfl ?_
            refine hf_getR (j := 0) (k := 20) (r := 16) g rfl rfl kF_RX12_56 dX12_isNight_71 ?_
            refine hf_aload_n (i := 0) (q := 0) gc dX12_isNight_74 rfl rfl ?_
            refine hf_getI (j := 0) (k := 41) g rfl rfl kF_RX12_177 dX12_isNight_75 ?_
            refine hf_iconst (v := 4) gc dX12_isNight_78 (by decide) ?_
            refine hf_iadd gc dX12_isNight_79 ?_
            refine hf_bald (a := 15) (r := 16) (n := 500) g rfl rfl dX12_isNight_80 ?_
            refine hf_bipush (v := 116) gc dX12_isNight_81 (by decide) ?_
            refine hf_icmp_ne (tgt := 90) gc dX12_isNight_83 (by decide) ?_ ?_
            · refine hf_iconst (v := 0) gc dX12_isNight_90 (by decide) ?_
              exact hf_zret g dX12_isNight_91 rfl
            · refine hf_iconst (v := 1) gc dX12_isNight_86 (by decide) ?_
              refine hf_goto (tgt := 91) gc dX12_isNight_87 (by decide) ?_
              exact hf_zret g dX12_isNight_91 rfl
theorem cm_md_isNight {l0 : Launch} {D0 : va_G} {ad : Nat → Nat} {cA : Nat → ClassId} {E : State → Prop} {s : hf_St} : hf_Ct l0 D0 hmT ad cA E 0 yX12_isNight cX12_isNight 1 (some .boolean) [.ref (ad 0)] s (Fm_md_isNight s) (hf_rp s) := hf_met (by decide) (Nat.le_of_ble_eq_true rfl) (fun _ _ g => xm_md_isNight g)
set_option maxHeartbeats 2000000 in
set_option maxRecDepth 20000 in
theorem xm_md_rule_b176 {x : hf_Cx} {ad : Nat → Nat} {cA : Nat → ClassId} {E : State → Prop} {A : Nat → Prop} {l0 : Launch} {D0 : va_G} (g : hf_G x hmT ad cA E A l0 D0 cX12_rule 5 RX12 (some .boolean) 4) (s : hf_St) : hf_X x A 5 (0, 0) (hf_Q x hmT ad cA A hf_ri) (Fm_md_rule_b176 s) (hf_wd hmT ad cA s) 176 [(0, .ref (ad 0))] [] := by
  have gc := g.1
  unfold Fm_md_rule_b176
  refine hf_aload_n (i := 0) (q := 0) gc dX12_rule_176 rfl rfl ?_
  refine hf_iconst (v := 1) gc dX12_rule_177 (by decide) ?_
  refine hf_aload_n (i := 0) (q := 0) gc dX12_rule_178 rfl rfl ?_
  refine hf_getI (j := 0) (k := 41) g rfl rfl kF_RX12_177 dX12_rule_179 ?_
  refine hf_callV2 (j := 0) g (cm_md_fails (a1 := (1 : Int32)) (a2 := s.1 0 41)) kV_RX12_193 (by decide) (by decide) rfl rfl rfl rfl (Nat.le_of_ble_eq_true rfl) dX12_rule_182 (fun v1 s2 => ?_)
  exact hf_zret g dX12_rule_185 rfl
set_option maxHeartbeats 2000000 in
set_option maxRecDepth 20000 in
theorem xm_md_rule_b309 {x : hf_Cx} {ad : Nat → Nat} {cA : Nat → ClassId} {E : State → Prop} {A : Nat → Prop} {l0 : Launch} {D0 : va_G} {k211 : hf_St → Int32 → Int32 → Option (Int32 × hf_St)} (g : hf_G x hmT ad cA E A l0 D0 cX12_rule 5 RX12 (some .boolean) 4) (hk211 : ∀ (s : hf_St) (l1 : Int32) (l2 : Int32), hf_X x A 5 (0, 0) (hf_Q x hmT ad cA A hf_ri) (k211 s l1 l2) (hf_wd hmT ad cA s) 211 [(0, .ref (ad 0)), (1, .int l1), (2, .int l2)] []) (s : hf_St) (l1 : Int32) (l3 : Int32) (l4 : Int32) : hf_X x A 5 (0, 0) (hf_Q x hmT ad cA A hf_ri) (Fm_md_rule_b309 k211 s l1 l3 l4) (hf_wd hmT ad cA s) 309 [(0, .ref (ad 0)), (1, .int l1), (3, .int l3), (4, .int l4)] [] := by
  have gc := g.1
  unfold Fm_md_rule_b309
  refine hf_aload_n (i := 0) (q := 0) gc dX12_rule_309 rfl rfl ?_
  refine hf_getR (j := 0) (k := 38) (r := 30) g rfl rfl kF_RX12_99 dX12_rule_310 ?_
  refine hf_iload_n (i := 3) (q := 2) gc dX12_rule_313 rfl rfl ?_
  refine hf_iload (i := 4) (q := 3) gc dX12_rule_314 rfl ?_
  refine hf_iast (a := 29) (r := 30) (n := 126) g rfl rfl dX12_rule_316 (fun s1 => ?_)
  refine hf_aload_n (i := 0) (q := 0) gc dX12_rule_317 rfl rfl ?_
  refine hf_dup gc dX12_rule_318 rfl ?_
  refine hf_getI (j := 0) (k := 22) g rfl rfl kF_RX12_167 dX12_rule_319 ?_
  refine hf_iconst (v := 1) gc dX12_rule_322 (by decide) ?_
  refine hf_iadd gc dX12_rule_323 ?_
  refine hf_putI (j := 0) (k := 22) g rfl rfl kP_RX12_167 rfl rfl dX12_rule_324 (fun s2 => ?_)
  refine hf_aload_n (i := 0) (q := 0) gc dX12_rule_327 rfl rfl ?_
  refine hf_iconst (v := 0) gc dX12_rule_328 (by decide) ?_
  refine hf_callV2 (j := 0) g (cm_md_side (a1 := (0 : Int32))) kV_RX12_213 (by decide) (by decide) rfl rfl rfl rfl (Nat.le_of_ble_eq_true rfl) dX12_rule_329 (fun v3 s4 => ?_)
  refine hf_if_ne (tgt := 337) gc dX12_rule_332 (by decide) ?_ ?_
  · refine hf_aload_n (i := 0) (q := 0) gc dX12_rule_337 rfl rfl ?_
    refine hf_getR (j := 0) (k := 39) (r := 31) g rfl rfl kF_RX12_102 dX12_rule_338 ?_
    refine hf_iload_n (i := 3) (q := 2) gc dX12_rule_341 rfl rfl ?_
    refine hf_aload_n (i := 0) (q := 0) gc dX12_rule_342 rfl rfl ?_
    refine hf_getI (j := 0) (k := 43) g rfl rfl kF_RX12_197 dX12_rule_343 ?_
    refine hf_iast (a := 30) (r := 31) (n := 126) g rfl rfl dX12_rule_346 (fun s5 => ?_)
    refine hf_aload_n (i := 0) (q := 0) gc dX12_rule_347 rfl rfl ?_
    refine hf_getR (j := 0) (k := 40) (r := 32) g rfl rfl kF_RX12_105 dX12_rule_348 ?_
    refine hf_iload_n (i := 3) (q := 2) gc dX12_rule_351 rfl rfl ?_
    refine hf_aload_n (i := 0) (q := 0) gc dX12_rule_352 rfl rfl ?_
    refine hf_getI (j := 0) (k := 44) g rfl rfl kF_RX12_203 dX12_rule_353 ?_
    refine hf_iast (a := 31) (r := 32) (n := 126) g rfl rfl dX12_rule_356 (fun s6 => ?_)
    refine hf_aload_n (i := 0) (q := 0) gc dX12_rule_357 rfl rfl ?_
    refine hf_getR (j := 0) (k := 35) (r := 27) g rfl rfl kF_RX12_90 dX12_rule_358 ?_
    refine hf_iload_n (i := 1) (q := 1) gc dX12_rule_361 rfl rfl ?_
    refine hf_dup2 gc dX12_rule_362 rfl rfl ?_
    refine hf_iald (a := 26) (r := 27) (n := 21) g rfl rfl dX12_rule_363 ?_
    refine hf_iconst (v := 1) gc dX12_rule_364 (by decide) ?_
    refine hf_iadd gc dX12_rule_365 ?_
    refine hf_iast (a := 26) (r := 27) (n := 21) g rfl rfl dX12_rule_366 (fun s7 => ?_)
    refine hf_aload_n (i := 0) (q := 0) gc dX12_rule_367 rfl rfl ?_
    refine hf_callV0 (j := 0) g (cm_md_looks) kV_RX12_186 (by decide) (by decide) rfl rfl rfl rfl (Nat.le_of_ble_eq_true rfl) dX12_rule_368 (fun s8 => ?_)
    refine hf_aload_n (i := 0) (q := 0) gc dX12_rule_371 rfl rfl ?_
    refine hf_callV1 (j := 0) g (cm_md_isAnd) kV_RX12_217 (by decide) (by decide) rfl rfl rfl rfl (Nat.le_of_ble_eq_true rfl) dX12_rule_372 (fun v9 => ?_)
    refine hf_istore_n (i := 2) (lv' := [(2, .int v9), (0, .ref (ad 0)), (1, .int l1), (3, .int l3), (4, .int l4)]) gc dX12_rule_375 rfl (by decide) rfl ?_
    refine hf_iload_n (i := 2) (q := 0) gc dX12_rule_376 rfl rfl ?_
    refine hf_if_eq (tgt := 393) gc dX12_rule_377 (by decide) ?_ ?_
    · refine hf_goto (tgt := 211) gc dX12_rule_393 (by decide) ?_
      refine hf_sub (lv' := [(0, .ref (ad 0)), (1, .int l1), (2, .int v9)]) [1, 2, 0] rfl ?_
      exact hk211 _ _ _
    · refine hf_aload_n (i := 0) (q := 1) gc dX12_rule_380 rfl rfl ?_
      refine hf_aload_n (i := 0) (q := 1) gc dX12_rule_381 rfl rfl ?_
      refine hf_getI (j := 0) (k := 41) g rfl rfl kF_RX12_177 dX12_rule_382 ?_
      refine hf_aload_n (i := 0) (q := 1) gc dX12_rule_385 rfl rfl ?_
      refine hf_getI (j := 0) (k := 42) g rfl rfl kF_RX12_180 dX12_rule_386 ?_
      refine hf_iadd gc dX12_rule_389 ?_
      refine hf_putI (j := 0) (k := 22) g rfl rfl kP_RX12_167 rfl rfl dX12_rule_390 (fun s10 => ?_)
      refine hf_goto (tgt := 211) gc dX12_rule_393 (by decide) ?_
      refine hf_sub (lv' := [(0, .ref (ad 0)), (1, .int l1), (2, .int v9)]) [1, 2, 0] rfl ?_
      exact hk211 _ _ _
  · refine hf_iconst (v := 0) gc dX12_rule_335 (by decide) ?_
    exact hf_zret g dX12_rule_336 rfl
set_option maxHeartbeats 2000000 in
set_option maxRecDepth 20000 in
theorem xm_md_rule_b244 {x : hf_Cx} {ad : Nat → Nat} {cA : Nat → ClassId} {E : State → Prop} {A : Nat → Prop} {l0 : Launch} {D0 : va_G} {k211 : hf_St → Int32 → Int32 → Option (Int32 × hf_St)} (g : hf_G x hmT ad cA E A l0 D0 cX12_rule 5 RX12 (some .boolean) 4) (hk211 : ∀ (s : hf_St) (l1 : Int32) (l2 : Int32), hf_X x A 5 (0, 0) (hf_Q x hmT ad cA A hf_ri) (k211 s l1 l2) (hf_wd hmT ad cA s) 211 [(0, .ref (ad 0)), (1, .int l1), (2, .int l2)] []) (s : hf_St) (l1 : Int32) (l3 : Int32) (t0 : Int32) : hf_X x A 5 (0, 0) (hf_Q x hmT ad cA A hf_ri) (Fm_md_rule_b244 k211 s l1 l3 t0) (hf_wd hmT ad cA s) 244 [(0, .ref (ad 0)), (1, .int l1), (3, .int l3)] [.int t0, .ref (ad 0)] := by
  have gc := g.1
  unfold Fm_md_rule_b244
  refine hf_callV2 (j := 0) g (cm_md_side (a1 := t0)) kV_RX12_213 (by decide) (by decide) rfl rfl rfl rfl (Nat.le_of_ble_eq_true rfl) dX12_rule_244 (fun v1 s2 => ?_)
  refine hf_if_ne (tgt := 252) gc dX12_rule_247 (by decide) ?_ ?_
  · refine hf_aload_n (i := 0) (q := 0) gc dX12_rule_252 rfl rfl ?_
    refine hf_getR (j := 0) (k := 36) (r := 28) g rfl rfl kF_RX12_93 dX12_rule_253 ?_
    refine hf_iload_n (i := 3) (q := 2) gc dX12_rule_256 rfl rfl ?_
    refine hf_aload_n (i := 0) (q := 0) gc dX12_rule_257 rfl rfl ?_
    refine hf_getI (j := 0) (k := 43) g rfl rfl kF_RX12_197 dX12_rule_258 ?_
    refine hf_iast (a := 27) (r := 28) (n := 126) g rfl rfl dX12_rule_261 (fun s3 => ?_)
    refine hf_aload_n (i := 0) (q := 0) gc dX12_rule_262 rfl rfl ?_
    refine hf_getR (j := 0) (k := 37) (r := 29) g rfl rfl kF_RX12_96 dX12_rule_263 ?_
    refine hf_iload_n (i := 3) (q := 2) gc dX12_rule_266 rfl rfl ?_
    refine hf_aload_n (i := 0) (q := 0) gc dX12_rule_267 rfl rfl ?_
    refine hf_getI (j := 0) (k := 44) g rfl rfl kF_RX12_203 dX12_rule_268 ?_
    refine hf_iast (a := 28) (r := 29) (n := 126) g rfl rfl dX12_rule_271 (fun s4 => ?_)
    refine hf_aload_n (i := 0) (q := 0) gc dX12_rule_272 rfl rfl ?_
    refine hf_callV2 (j := 0) g (cm_md_see) kV_RX12_173 (by decide) (by decide) rfl rfl rfl rfl (Nat.le_of_ble_eq_true rfl) dX12_rule_273 (fun v5 s6 => ?_)
    refine hf_istore (i := 4) (lv' := [(4, .int v5), (0, .ref (ad 0)), (1, .int l1), (3, .int l3)]) gc dX12_rule_276 (by decide) rfl ?_
    refine hf_iload (i := 4) (q := 0) gc dX12_rule_278 rfl ?_
    refine hf_bipush (v := 60) gc dX12_rule_280 (by decide) ?_
    refine hf_icmp_eq (tgt := 309) gc dX12_rule_282 (by decide) ?_ ?_
    · refine hf_sub (lv' := [(0, .ref (ad 0)), (1, .int l1), (3, .int l3), (4, .int v5)]) [1, 2, 3, 0] rfl ?_
      exact xm_md_rule_b309 g hk211 _ _ _ _
    · refine hf_iload (i := 4) (q := 0) gc dX12_rule_285 rfl ?_
      refine hf_bipush (v := 62) gc dX12_rule_287 (by decide) ?_
      refine hf_icmp_eq (tgt := 309) gc dX12_rule_289 (by decide) ?_ ?_
      · refine hf_sub (lv' := [(0, .ref (ad 0)), (1, .int l1), (3, .int l3), (4, .int v5)]) [1, 2, 3, 0] rfl ?_
        exact xm_md_rule_b309 g hk211 _ _ _ _
      · refine hf_iload (i := 4) (q := 0) gc dX12_rule_292 rfl ?_
        refine hf_bipush (v := 61) gc dX12_rule_294 (by decide) ?_
        refine hf_icmp_eq (tgt := 309) gc dX12_rule_296 (by decide) ?_ ?_
        · refine hf_sub (lv' := [(0, .ref (ad 0)), (1, .int l1), (3, .int l3), (4, .int v5)]) [1, 2, 3, 0] rfl ?_
          exact xm_md_rule_b309 g hk211 _ _ _ _
        · refine hf_aload_n (i := 0) (q := 1) gc dX12_rule_299 rfl rfl ?_
          refine hf_iconst (v := 0) gc dX12_rule_300 (by decide) ?_
          refine hf_aload_n (i := 0) (q := 1) gc dX12_rule_301 rfl rfl ?_
          refine hf_getI (j := 0) (k := 22) g rfl rfl kF_RX12_167 dX12_rule_302 ?_
          refine hf_callV2 (j := 0) g (cm_md_fails (a1 := (0 : Int32)) (a2 := s6.1 0 22)) kV_RX12_193 (by decide) (by decide) rfl rfl rfl rfl (Nat.le_of_ble_eq_true rfl) dX12_rule_305 (fun v7 s8 => ?_)
          exact hf_zret g dX12_rule_308 rfl
  · refine hf_iconst (v := 0) gc dX12_rule_250 (by decide) ?_
    exact hf_zret g dX12_rule_251 rfl
set_option maxHeartbeats 2000000 in
set_option maxRecDepth 20000 in
theorem xm_md_rule_l211 {x : hf_Cx} {ad : Nat → Nat} {cA : Nat → ClassId} {E : State → Prop} {A : Nat → Prop} {l0 : Launch} {D0 : va_G} (g : hf_G x hmT ad cA E A l0 D0 cX12_rule 5 RX12 (some .boolean) 4) : ∀ (n : Nat) (s : hf_St) (l1 : Int32) (l2 : Int32), hf_X x A 5 (0, 0) (hf_Q x hmT ad cA A hf_ri) (Fm_md_rule_l211 n s l1 l2) (hf_wd hmT ad cA s) 211 [(0, .ref (ad 0)), (1, .int l1), (2, .int l2)] [] := by
  have gc := g.1
  intro n
  induction n with
  | zero => intro s l1 l2; exact hf_none
  | succ n ih =>
    intro s l1 l2
    rw [Fm_md_rule_l211]
    refine hf_iload_n (i := 2) (q := 2) gc dX12_rule_211 rfl rfl ?_
    refine hf_if_eq (tgt := 396) gc dX12_rule_212 (by decide) ?_ ?_
    · refine hf_iconst (v := 1) gc dX12_rule_396 (by decide) ?_
      exact hf_zret g dX12_rule_397 rfl
    · refine hf_bipush (v := 6) gc dX12_rule_215 (by decide) ?_
      refine hf_iload_n (i := 1) (q := 1) gc dX12_rule_217 rfl rfl ?_
      refine hf_imul gc dX12_rule_218 ?_
      refine hf_aload_n (i := 0) (q := 0) gc dX12_rule_219 rfl rfl ?_
      refine hf_getR (j := 0) (k := 35) (r := 27) g rfl rfl kF_RX12_90 dX12_rule_220 ?_
      refine hf_iload_n (i := 1) (q := 1) gc dX12_rule_223 rfl rfl ?_
      refine hf_iald (a := 26) (r := 27) (n := 21) g rfl rfl dX12_rule_224 ?_
      refine hf_iadd gc dX12_rule_225 ?_
      refine hf_let (fun v1 => ?_)
      refine hf_istore_n (i := 3) (lv' := [(3, .int v1), (0, .ref (ad 0)), (1, .int l1), (2, .int l2)]) gc dX12_rule_226 rfl (by decide) rfl ?_
      refine hf_aload_n (i := 0) (q := 1) gc dX12_rule_227 rfl rfl ?_
      refine hf_aload_n (i := 0) (q := 1) gc dX12_rule_228 rfl rfl ?_
      refine hf_getR (j := 0) (k := 35) (r := 27) g rfl rfl kF_RX12_90 dX12_rule_229 ?_
      refine hf_iload_n (i := 1) (q := 2) gc dX12_rule_232 rfl rfl ?_
      refine hf_iald (a := 26) (r := 27) (n := 21) g rfl rfl dX12_rule_233 ?_
      refine hf_bipush (v := 6) gc dX12_rule_234 (by decide) ?_
      refine hf_icmp_ne (tgt := 243) gc dX12_rule_236 (by decide) ?_ ?_
      · refine hf_iconst (v := 0) gc dX12_rule_243 (by decide) ?_
        refine hf_sub (lv' := [(0, .ref (ad 0)), (1, .int l1), (3, .int v1)]) [1, 2, 0] rfl ?_
        exact xm_md_rule_b244 g (fun z0 z1 z2 => ih z0 z1 z2) _ _ _ _
      · refine hf_iconst (v := 1) gc dX12_rule_239 (by decide) ?_
        refine hf_goto (tgt := 244) gc dX12_rule_240 (by decide) ?_
        refine hf_sub (lv' := [(0, .ref (ad 0)), (1, .int l1), (3, .int v1)]) [1, 2, 0] rfl ?_
        exact xm_md_rule_b244 g (fun z0 z1 z2 => ih z0 z1 z2) _ _ _ _
set_option maxHeartbeats 2000000 in
set_option maxRecDepth 20000 in
theorem xm_md_rule_b95 {x : hf_Cx} {ad : Nat → Nat} {cA : Nat → ClassId} {E : State → Prop} {A : Nat → Prop} {l0 : Launch} {D0 : va_G} (g : hf_G x hmT ad cA E A l0 D0 cX12_rule 5 RX12 (some .boolean) 4) (s : hf_St) (l1 : Int32) : hf_X x A 5 (0, 0) (hf_Q x hmT ad cA A hf_ri) (Fm_md_rule_b95 s l1) (hf_wd hmT ad cA s) 95 [(0, .ref (ad 0)), (1, .int l1)] [] := by
  have gc := g.1
  unfold Fm_md_rule_b95
  refine hf_iload_n (i := 1) (q := 1) gc dX12_rule_95 rfl rfl ?_
  refine hf_bipush (v := 20) gc dX12_rule_96 (by decide) ?_
  refine hf_icmp_ne (tgt := 111) gc dX12_rule_98 (by decide) ?_ ?_
  · refine hf_aload_n (i := 0) (q := 0) gc dX12_rule_111 rfl rfl ?_
    refine hf_aload_n (i := 0) (q := 0) gc dX12_rule_112 rfl rfl ?_
    refine hf_getI (j := 0) (k := 41) g rfl rfl kF_RX12_177 dX12_rule_113 ?_
    refine hf_aload_n (i := 0) (q := 0) gc dX12_rule_116 rfl rfl ?_
    refine hf_getI (j := 0) (k := 42) g rfl rfl kF_RX12_180 dX12_rule_117 ?_
    refine hf_iadd gc dX12_rule_120 ?_
    refine hf_putI (j := 0) (k := 22) g rfl rfl kP_RX12_167 rfl rfl dX12_rule_121 (fun s1 => ?_)
    refine hf_aload_n (i := 0) (q := 0) gc dX12_rule_124 rfl rfl ?_
    refine hf_getR (j := 0) (k := 33) (r := 25) g rfl rfl kF_RX12_84 dX12_rule_125 ?_
    refine hf_iload_n (i := 1) (q := 1) gc dX12_rule_128 rfl rfl ?_
    refine hf_iald (a := 24) (r := 25) (n := 21) g rfl rfl dX12_rule_129 ?_
    refine hf_iconst (v := 2) gc dX12_rule_130 (by decide) ?_
    refine hf_icmp_ne (tgt := 209) gc dX12_rule_131 (by decide) ?_ ?_
    · refine hf_iconst (v := 1) gc dX12_rule_209 (by decide) ?_
      refine hf_istore_n (i := 2) (lv' := [(2, .int ((1 : Int32))), (0, .ref (ad 0)), (1, .int l1)]) gc dX12_rule_210 rfl (by decide) rfl ?_
      refine hf_sub (lv' := [(0, .ref (ad 0)), (1, .int l1), (2, .int ((1 : Int32)))]) [1, 2, 0] rfl ?_
      exact xm_md_rule_l211 g hf_fuel _ _ _
    · refine hf_aload_n (i := 0) (q := 0) gc dX12_rule_134 rfl rfl ?_
      refine hf_callV0 (j := 0) g (cm_md_looks) kV_RX12_186 (by decide) (by decide) rfl rfl rfl rfl (Nat.le_of_ble_eq_true rfl) dX12_rule_135 (fun s2 => ?_)
      refine hf_aload_n (i := 0) (q := 0) gc dX12_rule_138 rfl rfl ?_
      refine hf_callV1 (j := 0) g (cm_md_isNumber) kV_RX12_189 (by decide) (by decide) rfl rfl rfl rfl (Nat.le_of_ble_eq_true rfl) dX12_rule_139 (fun v3 => ?_)
      refine hf_if_ne (tgt := 155) gc dX12_rule_142 (by decide) ?_ ?_
      · refine hf_aload_n (i := 0) (q := 0) gc dX12_rule_155 rfl rfl ?_
        refine hf_getI (j := 0) (k := 42) g rfl rfl kF_RX12_180 dX12_rule_156 ?_
        refine hf_iconst (v := 4) gc dX12_rule_159 (by decide) ?_
        refine hf_icmp_gt (tgt := 176) gc dX12_rule_160 (by decide) ?_ ?_
        · refine hf_sub (lv' := [(0, .ref (ad 0))]) [0] rfl ?_
          exact xm_md_rule_b176 g _
        · refine hf_aload_n (i := 0) (q := 0) gc dX12_rule_163 rfl rfl ?_
          refine hf_callV1 (j := 0) g (cm_md_numberHere) kV_RX12_200 (by decide) (by decide) rfl rfl rfl rfl (Nat.le_of_ble_eq_true rfl) dX12_rule_164 (fun v4 => ?_)
          refine hf_iconst (v := 1) gc dX12_rule_167 (by decide) ?_
          refine hf_bipush (v := 100) gc dX12_rule_168 (by decide) ?_
          refine hf_callS1 g (cm_md_in (a1 := v4) (a2 := (1 : Int32)) (a3 := (100 : Int32))) kS_RX12_123 (by decide) (by decide) rfl rfl (Nat.le_of_ble_eq_true rfl) dX12_rule_170 (fun v5 => ?_)
          refine hf_if_ne (tgt := 186) gc dX12_rule_173 (by decide) ?_ ?_
          · refine hf_aload_n (i := 0) (q := 0) gc dX12_rule_186 rfl rfl ?_
            refine hf_getR (j := 0) (k := 34) (r := 26) g rfl rfl kF_RX12_87 dX12_rule_187 ?_
            refine hf_iload_n (i := 1) (q := 1) gc dX12_rule_190 rfl rfl ?_
            refine hf_aload_n (i := 0) (q := 0) gc dX12_rule_191 rfl rfl ?_
            refine hf_callV1 (j := 0) g (cm_md_numberHere) kV_RX12_200 (by decide) (by decide) rfl rfl rfl rfl (Nat.le_of_ble_eq_true rfl) dX12_rule_192 (fun v6 => ?_)
            refine hf_iast (a := 25) (r := 26) (n := 21) g rfl rfl dX12_rule_195 (fun s7 => ?_)
            refine hf_aload_n (i := 0) (q := 0) gc dX12_rule_196 rfl rfl ?_
            refine hf_aload_n (i := 0) (q := 0) gc dX12_rule_197 rfl rfl ?_
            refine hf_getI (j := 0) (k := 41) g rfl rfl kF_RX12_177 dX12_rule_198 ?_
            refine hf_aload_n (i := 0) (q := 0) gc dX12_rule_201 rfl rfl ?_
            refine hf_getI (j := 0) (k := 42) g rfl rfl kF_RX12_180 dX12_rule_202 ?_
            refine hf_iadd gc dX12_rule_205 ?_
            refine hf_putI (j := 0) (k := 22) g rfl rfl kP_RX12_167 rfl rfl dX12_rule_206 (fun s8 => ?_)
            refine hf_iconst (v := 1) gc dX12_rule_209 (by decide) ?_
            refine hf_istore_n (i := 2) (lv' := [(2, .int ((1 : Int32))), (0, .ref (ad 0)), (1, .int l1)]) gc dX12_rule_210 rfl (by decide) rfl ?_
            refine hf_sub (lv' := [(0, .ref (ad 0)), (1, .int l1), (2, .int ((1 : Int32)))]) [1, 2, 0] rfl ?_
            exact xm_md_rule_l211 g hf_fuel _ _ _
          · refine hf_sub (lv' := [(0, .ref (ad 0))]) [0] rfl ?_
            exact xm_md_rule_b176 g _
      · refine hf_aload_n (i := 0) (q := 0) gc dX12_rule_145 rfl rfl ?_
        refine hf_iconst (v := 0) gc dX12_rule_146 (by decide) ?_
        refine hf_aload_n (i := 0) (q := 0) gc dX12_rule_147 rfl rfl ?_
        refine hf_getI (j := 0) (k := 41) g rfl rfl kF_RX12_177 dX12_rule_148 ?_
        refine hf_callV2 (j := 0) g (cm_md_fails (a1 := (0 : Int32)) (a2 := s2.1 0 41)) kV_RX12_193 (by decide) (by decide) rfl rfl rfl rfl (Nat.le_of_ble_eq_true rfl) dX12_rule_151 (fun v9 s10 => ?_)
        exact hf_zret g dX12_rule_154 rfl
  · refine hf_aload_n (i := 0) (q := 0) gc dX12_rule_101 rfl rfl ?_
    refine hf_iconst (v := 2) gc dX12_rule_102 (by decide) ?_
    refine hf_aload_n (i := 0) (q := 0) gc dX12_rule_103 rfl rfl ?_
    refine hf_getI (j := 0) (k := 41) g rfl rfl kF_RX12_177 dX12_rule_104 ?_
    refine hf_callV2 (j := 0) g (cm_md_fails (a1 := (2 : Int32)) (a2 := s.1 0 41)) kV_RX12_193 (by decide) (by decide) rfl rfl rfl rfl (Nat.le_of_ble_eq_true rfl) dX12_rule_107 (fun v11 s12 => ?_)
    exact hf_zret g dX12_rule_110 rfl
set_option maxHeartbeats 2000000 in
set_option maxRecDepth 20000 in
theorem xm_md_rule {x : hf_Cx} {ad : Nat → Nat} {cA : Nat → ClassId} {E : State → Prop} {A : Nat → Prop} {l0 : Launch} {D0 : va_G} (g : hf_G x hmT ad cA E A l0 D0 cX12_rule 5 RX12 (some .boolean) 4) {s : hf_St} {a1 : Int32} : hf_X x A 5 (0, 0) (hf_Q x hmT ad cA A hf_ri) (Fm_md_rule s a1) (hf_wd hmT ad cA s) 0 [(0, .ref (ad 0)), (1, .int a1)] [] := by
  have gc := g.1
  unfold Fm_md_rule
  refine hf_aload_n (i := 0) (q := 0) gc dX12_rule_0 rfl rfl ?_
  refine hf_callV0 (j := 0) g (cm_md_looks) kV_RX12_186 (by decide) (by decide) rfl rfl rfl rfl (Nat.le_of_ble_eq_true rfl) dX12_rule_1 (fun s1 => ?_)
  refine hf_aload_n (i := 0) (q := 0) gc dX12_rule_4 rfl rfl ?_
  refine hf_getR (j := 0) (k := 34) (r := 26) g rfl rfl kF_RX12_87 dX12_rule_5 ?_
  refine hf_iload_n (i := 1) (q := 1) gc dX12_rule_8 rfl rfl ?_
  refine hf_iconst (v := 0) gc dX12_rule_9 (by decide) ?_
  refine hf_iast (a := 25) (r := 26) (n := 21) g rfl rfl dX12_rule_10 (fun s2 => ?_)
  refine hf_aload_n (i := 0) (q := 0) gc dX12_rule_11 rfl rfl ?_
  refine hf_getR (j := 0) (k := 35) (r := 27) g rfl rfl kF_RX12_90 dX12_rule_12 ?_
  refine hf_iload_n (i := 1) (q := 1) gc dX12_rule_15 rfl rfl ?_
  refine hf_iconst (v := 0) gc dX12_rule_16 (by decide) ?_
  refine hf_iast (a := 26) (r := 27) (n := 21) g rfl rfl dX12_rule_17 (fun s3 => ?_)
  refine hf_aload_n (i := 0) (q := 0) gc dX12_rule_18 rfl rfl ?_
  refine hf_bipush (v := 109) gc dX12_rule_19 (by decide) ?_
  refine hf_bipush (v := 117) gc dX12_rule_21 (by decide) ?_
  refine hf_bipush (v := 115) gc dX12_rule_23 (by decide) ?_
  refine hf_bipush (v := 116) gc dX12_rule_25 (by decide) ?_
  refine hf_callV1 (j := 0) g (cm_md_isLetters (a1 := (109 : Int32)) (a2 := (117 : Int32)) (a3 := (115 : Int32)) (a4 := (116 : Int32))) kV_RX12_206 (by decide) (by decide) rfl rfl rfl rfl (Nat.le_of_ble_eq_true rfl) dX12_rule_27 (fun v4 => ?_)
  refine hf_if_eq (tgt := 43) gc dX12_rule_30 (by decide) ?_ ?_
  · refine hf_aload_n (i := 0) (q := 0) gc dX12_rule_43 rfl rfl ?_
    refine hf_callV1 (j := 0) g (cm_md_isNight) kV_RX12_210 (by decide) (by decide) rfl rfl rfl rfl (Nat.le_of_ble_eq_true rfl) dX12_rule_44 (fun v5 => ?_)
    refine hf_if_eq (tgt := 60) gc dX12_rule_47 (by decide) ?_ ?_
    · refine hf_aload_n (i := 0) (q := 0) gc dX12_rule_60 rfl rfl ?_
      refine hf_bipush (v := 119) gc dX12_rule_61 (by decide) ?_
      refine hf_bipush (v := 105) gc dX12_rule_63 (by decide) ?_
      refine hf_bipush (v := 115) gc dX12_rule_65 (by decide) ?_
      refine hf_bipush (v := 104) gc dX12_rule_67 (by decide) ?_
      refine hf_callV1 (j := 0) g (cm_md_isLetters (a1 := (119 : Int32)) (a2 := (105 : Int32)) (a3 := (115 : Int32)) (a4 := (104 : Int32))) kV_RX12_206 (by decide) (by decide) rfl rfl rfl rfl (Nat.le_of_ble_eq_true rfl) dX12_rule_69 (fun v6 => ?_)
      refine hf_if_eq (tgt := 85) gc dX12_rule_72 (by decide) ?_ ?_
      · refine hf_aload_n (i := 0) (q := 0) gc dX12_rule_85 rfl rfl ?_
        refine hf_iconst (v := 0) gc dX12_rule_86 (by decide) ?_
        refine hf_aload_n (i := 0) (q := 0) gc dX12_rule_87 rfl rfl ?_
        refine hf_getI (j := 0) (k := 41) g rfl rfl kF_RX12_177 dX12_rule_88 ?_
        refine hf_callV2 (j := 0) g (cm_md_fails (a1 := (0 : Int32)) (a2 := s3.1 0 41)) kV_RX12_193 (by decide) (by decide) rfl rfl rfl rfl (Nat.le_of_ble_eq_true rfl) dX12_rule_91 (fun v7 s8 => ?_)
        exact hf_zret g dX12_rule_94 rfl
      · refine hf_aload_n (i := 0) (q := 0) gc dX12_rule_75 rfl rfl ?_
        refine hf_getR (j := 0) (k := 33) (r := 25) g rfl rfl kF_RX12_84 dX12_rule_76 ?_
        refine hf_iload_n (i := 1) (q := 1) gc dX12_rule_79 rfl rfl ?_
        refine hf_iconst (v := 2) gc dX12_rule_80 (by decide) ?_
        refine hf_iast (a := 24) (r := 25) (n := 21) g rfl rfl dX12_rule_81 (fun s9 => ?_)
        refine hf_goto (tgt := 95) gc dX12_rule_82 (by decide) ?_
        exact xm_md_rule_b95 g _ _
    · refine hf_aload_n (i := 0) (q := 0) gc dX12_rule_50 rfl rfl ?_
      refine hf_getR (j := 0) (k := 33) (r := 25) g rfl rfl kF_RX12_84 dX12_rule_51 ?_
      refine hf_iload_n (i := 1) (q := 1) gc dX12_rule_54 rfl rfl ?_
      refine hf_iconst (v := 1) gc dX12_rule_55 (by decide) ?_
      refine hf_iast (a := 24) (r := 25) (n := 21) g rfl rfl dX12_rule_56 (fun s10 => ?_)
      refine hf_goto (tgt := 95) gc dX12_rule_57 (by decide) ?_
      exact xm_md_rule_b95 g _ _
  · refine hf_aload_n (i := 0) (q := 0) gc dX12_rule_33 rfl rfl ?_
    refine hf_getR (j := 0) (k := 33) (r := 25) g rfl rfl kF_RX12_84 dX12_rule_34 ?_
    refine hf_iload_n (i := 1) (q := 1) gc dX12_rule_37 rfl rfl ?_
    refine hf_iconst (v := 0) gc dX12_rule_38 (by decide) ?_
    refine hf_iast (a := 24) (r := 25) (n := 21) g rfl rfl dX12_rule_39 (fun s11 => ?_)
    refine hf_goto (tgt := 95) gc dX12_rule_40 (by decide) ?_
    exact xm_md_rule_b95 g _ _
theorem cm_md_rule {l0 : Launch} {D0 : va_G} {ad : Nat → Nat} {cA : Nat → ClassId} {E : State → Prop} {s : hf_St} {a1 : Int32} : hf_Ct l0 D0 hmT ad cA E 4 yX12_rule cX12_rule 5 (some .boolean) [.ref (ad 0), .int a1] s (Fm_md_rule s a1) hf_ri := hf_met (by decide) (Nat.le_of_ble_eq_true rfl) (fun _ _ g => xm_md_rule g)
set_option maxHeartbeats 2000000 in
set_option maxRecDepth 20000 in
theorem xm_md_rules_b86 {x : hf_Cx} {ad : Nat → Nat} {cA : Nat → ClassId} {E : State → Prop} {A : Nat → Prop} {l0 : Launch} {D0 : va_G} {k28 : hf_St → Int32 → Int32 → Int32 → Option (Int32 × hf_St)} (g : hf_G x hmT ad cA E A l0 D0 cX12_rules 6 RX12 (some .int) 5) (hk28 : ∀ (s : hf_St) (l1 : Int32) (l2 : Int32) (l3 : Int32), hf_X x A 6 (0, 0) (hf_Q x hmT ad cA A hf_ri) (k28 s l1 l2 l3) (hf_wd hmT ad cA s) 28 [(0, .ref (ad 0)), (1, .int l1), (2, .int l2), (3, .int l3)] []) (s : hf_St) (l1 : Int32) (l2 : Int32) (l3 : Int32) : hf_X x A 6 (0, 0) (hf_Q x hmT ad cA A hf_ri) (Fm_md_rules_b86 k28 s l1 l2 l3) (hf_wd hmT ad cA s) 86 [(0, .ref (ad 0)), (1, .int l1), (2, .int l2), (3, .int l3)] [] := by
  have gc := g.1
  unfold Fm_md_rules_b86
  refine hf_iload_n (i := 3) (q := 3) gc dX12_rules_86 rfl rfl ?_
  refine hf_if_eq (tgt := 28) gc dX12_rules_87 (by decide) ?_ ?_
  · exact hk28 _ _ _ _
  · refine hf_aload_n (i := 0) (q := 0) gc dX12_rules_90 rfl rfl ?_
    refine hf_dup gc dX12_rules_91 rfl ?_
    refine hf_getI (j := 0) (k := 22) g rfl rfl kF_RX12_167 dX12_rules_92 ?_
    refine hf_iconst (v := 1) gc dX12_rules_95 (by decide) ?_
    refine hf_iadd gc dX12_rules_96 ?_
    refine hf_putI (j := 0) (k := 22) g rfl rfl kP_RX12_167 rfl rfl dX12_rules_97 (fun s1 => ?_)
    refine hf_goto (tgt := 28) gc dX12_rules_100 (by decide) ?_
    exact hk28 _ _ _ _
set_option maxHeartbeats 2000000 in
set_option maxRecDepth 20000 in
theorem xm_md_rules_b62 {x : hf_Cx} {ad : Nat → Nat} {cA : Nat → ClassId} {E : State → Prop} {A : Nat → Prop} {l0 : Launch} {D0 : va_G} {k28 : hf_St → Int32 → Int32 → Int32 → Option (Int32 × hf_St)} (g : hf_G x hmT ad cA E A l0 D0 cX12_rules 6 RX12 (some .int) 5) (hk28 : ∀ (s : hf_St) (l1 : Int32) (l2 : Int32) (l3 : Int32), hf_X x A 6 (0, 0) (hf_Q x hmT ad cA A hf_ri) (k28 s l1 l2 l3) (hf_wd hmT ad cA s) 28 [(0, .ref (ad 0)), (1, .int l1), (2, .int l2), (3, .int l3)] []) (s : hf_St) (l1 : Int32) (l2 : Int32) (t0 : Int32) : hf_X x A 6 (0, 0) (hf_Q x hmT ad cA A hf_ri) (Fm_md_rules_b62 k28 s l1 l2 t0) (hf_wd hmT ad cA s) 62 [(0, .ref (ad 0)), (1, .int l1), (2, .int l2)] [.int t0] := by
  have gc := g.1
  unfold Fm_md_rules_b62
  refine hf_istore_n (i := 3) (lv' := [(3, .int t0), (0, .ref (ad 0)), (1, .int l1), (2, .int l2)]) gc dX12_rules_62 rfl (by decide) rfl ?_
  refine hf_iload_n (i := 3) (q := 0) gc dX12_rules_63 rfl rfl ?_
  refine hf_if_eq (tgt := 86) gc dX12_rules_64 (by decide) ?_ ?_
  · refine hf_sub (lv' := [(0, .ref (ad 0)), (1, .int l1), (2, .int l2), (3, .int t0)]) [1, 2, 3, 0] rfl ?_
    exact xm_md_rules_b86 g hk28 _ _ _ _
  · refine hf_aload_n (i := 0) (q := 1) gc dX12_rules_67 rfl rfl ?_
    refine hf_callV2 (j := 0) g (cm_md_see) kV_RX12_173 (by decide) (by decide) rfl rfl rfl rfl (Nat.le_of_ble_eq_true rfl) dX12_rules_68 (fun v1 s2 => ?_)
    refine hf_bipush (v := 59) gc dX12_rules_71 (by decide) ?_
    refine hf_icmp_eq (tgt := 86) gc dX12_rules_73 (by decide) ?_ ?_
    · refine hf_sub (lv' := [(0, .ref (ad 0)), (1, .int l1), (2, .int l2), (3, .int t0)]) [1, 2, 3, 0] rfl ?_
      exact xm_md_rules_b86 g hk28 _ _ _ _
    · refine hf_aload_n (i := 0) (q := 1) gc dX12_rules_76 rfl rfl ?_
      refine hf_iconst (v := 0) gc dX12_rules_77 (by decide) ?_
      refine hf_aload_n (i := 0) (q := 1) gc dX12_rules_78 rfl rfl ?_
      refine hf_getI (j := 0) (k := 22) g rfl rfl kF_RX12_167 dX12_rules_79 ?_
      refine hf_callV2 (j := 0) g (cm_md_fails (a1 := (0 : Int32)) (a2 := s2.1 0 22)) kV_RX12_193 (by decide) (by decide) rfl rfl rfl rfl (Nat.le_of_ble_eq_true rfl) dX12_rules_82 (fun v3 s4 => ?_)
      refine hf_istore_n (i := 2) (lv' := [(2, .int v3), (3, .int t0), (0, .ref (ad 0)), (1, .int l1)]) gc dX12_rules_85 rfl (by decide) rfl ?_
      refine hf_sub (lv' := [(0, .ref (ad 0)), (1, .int l1), (2, .int v3), (3, .int t0)]) [2, 3, 0, 1] rfl ?_
      exact xm_md_rules_b86 g hk28 _ _ _ _
set_option maxHeartbeats 2000000 in
set_option maxRecDepth 20000 in
theorem xm_md_rules_b61 {x : hf_Cx} {ad : Nat → Nat} {cA : Nat → ClassId} {E : State → Prop} {A : Nat → Prop} {l0 : Launch} {D0 : va_G} {k28 : hf_St → Int32 → Int32 → Int32 → Option (Int32 × hf_St)} (g : hf_G x hmT ad cA E A l0 D0 cX12_rules 6 RX12 (some .int) 5) (hk28 : ∀ (s : hf_St) (l1 : Int32) (l2 : Int32) (l3 : Int32), hf_X x A 6 (0, 0) (hf_Q x hmT ad cA A hf_ri) (k28 s l1 l2 l3) (hf_wd hmT ad cA s) 28 [(0, .ref (ad 0)), (1, .int l1), (2, .int l2), (3, .int l3)] []) (s : hf_St) (l1 : Int32) (l2 : Int32) : hf_X x A 6 (0, 0) (hf_Q x hmT ad cA A hf_ri) (Fm_md_rules_b61 k28 s l1 l2) (hf_wd hmT ad cA s) 61 [(0, .ref (ad 0)), (1, .int l1), (2, .int l2)] [] := by
  have gc := g.1
  unfold Fm_md_rules_b61
  refine hf_iconst (v := 0) gc dX12_rules_61 (by decide) ?_
  exact xm_md_rules_b62 g hk28 _ _ _ _
set_option maxHeartbeats 2000000 in
set_option maxRecDepth 20000 in
theorem xm_md_rules_l183 {x : hf_Cx} {ad : Nat → Nat} {cA : Nat → ClassId} {E : State → Prop} {A : Nat → Prop} {l0 : Launch} {D0 : va_G} {k128 : hf_St → Int32 → Int32 → Option (Int32 × hf_St)} (g : hf_G x hmT ad cA E A l0 D0 cX12_rules 6 RX12 (some .int) 5) (hk128 : ∀ (s : hf_St) (l1 : Int32) (l4 : Int32), hf_X x A 6 (0, 0) (hf_Q x hmT ad cA A hf_ri) (k128 s l1 l4) (hf_wd hmT ad cA s) 128 [(0, .ref (ad 0)), (1, .int l1), (4, .int l4)] []) : ∀ (n : Nat) (s : hf_St) (l1 : Int32) (l4 : Int32) (l5 : Int32), hf_X x A 6 (0, 0) (hf_Q x hmT ad cA A hf_ri) (Fm_md_rules_l183 k128 n s l1 l4 l5) (hf_wd hmT ad cA s) 183 [(0, .ref (ad 0)), (1, .int l1), (4, .int l4), (5, .int l5)] [] := by
  have gc := g.1
  intro n
  induction n with
  | zero => intro s l1 l4 l5; exact hf_none
  | succ n ih =>
    intro s l1 l4 l5
    rw [Fm_md_rules_l183]
    refine hf_iload (i := 5) (q := 3) gc dX12_rules_183 rfl ?_
    refine hf_bipush (v := 6) gc dX12_rules_185 (by decide) ?_
    refine hf_iload (i := 4) (q := 2) gc dX12_rules_187 rfl ?_
    refine hf_imul gc dX12_rules_189 ?_
    refine hf_aload_n (i := 0) (q := 0) gc dX12_rules_190 rfl rfl ?_
    refine hf_getR (j := 0) (k := 27) (r := 19) g rfl rfl kF_RX12_66 dX12_rules_191 ?_
    refine hf_iload (i := 4) (q := 2) gc dX12_rules_194 rfl ?_
    refine hf_iald (a := 18) (r := 19) (n := 20) g rfl rfl dX12_rules_196 ?_
    refine hf_iadd gc dX12_rules_197 ?_
    refine hf_icmp_ge (tgt := 277) gc dX12_rules_198 (by decide) ?_ ?_
    · refine hf_iinc (q := 2) (v' := l4 + (1 : Int32)) (lv' := [(4, .int (l4 + (1 : Int32))), (0, .ref (ad 0)), (1, .int l1), (5, .int l5)]) gc dX12_rules_277 rfl rfl (by decide) rfl ?_
      refine hf_goto (tgt := 128) gc dX12_rules_280 (by decide) ?_
      refine hf_sub (lv' := [(0, .ref (ad 0)), (1, .int l1), (4, .int (l4 + (1 : Int32)))]) [1, 2, 0] rfl ?_
      exact hk128 _ _ _
    · refine hf_aload_n (i := 0) (q := 0) gc dX12_rules_201 rfl rfl ?_
      refine hf_getR (j := 0) (k := 28) (r := 20) g rfl rfl kF_RX12_69 dX12_rules_202 ?_
      refine hf_iload (i := 5) (q := 3) gc dX12_rules_205 rfl ?_
      refine hf_aload_n (i := 0) (q := 0) gc dX12_rules_207 rfl rfl ?_
      refine hf_getR (j := 0) (k := 36) (r := 28) g rfl rfl kF_RX12_93 dX12_rules_208 ?_
      refine hf_iload (i := 5) (q := 3) gc dX12_rules_211 rfl ?_
      refine hf_iald (a := 27) (r := 28) (n := 126) g rfl rfl dX12_rules_213 ?_
      refine hf_iast (a := 19) (r := 20) (n := 120) g rfl rfl dX12_rules_214 (fun s1 => ?_)
      refine hf_aload_n (i := 0) (q := 0) gc dX12_rules_215 rfl rfl ?_
      refine hf_getR (j := 0) (k := 29) (r := 21) g rfl rfl kF_RX12_72 dX12_rules_216 ?_
      refine hf_iload (i := 5) (q := 3) gc dX12_rules_219 rfl ?_
      refine hf_aload_n (i := 0) (q := 0) gc dX12_rules_221 rfl rfl ?_
      refine hf_getR (j := 0) (k := 37) (r := 29) g rfl rfl kF_RX12_96 dX12_rules_222 ?_
      refine hf_iload (i := 5) (q := 3) gc dX12_rules_225 rfl ?_
      refine hf_iald (a := 28) (r := 29) (n := 126) g rfl rfl dX12_rules_227 ?_
      refine hf_iast (a := 20) (r := 21) (n := 120) g rfl rfl dX12_rules_228 (fun s2 => ?_)
      refine hf_aload_n (i := 0) (q := 0) gc dX12_rules_229 rfl rfl ?_
      refine hf_getR (j := 0) (k := 30) (r := 22) g rfl rfl kF_RX12_75 dX12_rules_230 ?_
      refine hf_iload (i := 5) (q := 3) gc dX12_rules_233 rfl ?_
      refine hf_aload_n (i := 0) (q := 0) gc dX12_rules_235 rfl rfl ?_
      refine hf_getR (j := 0) (k := 38) (r := 30) g rfl rfl kF_RX12_99 dX12_rules_236 ?_
      refine hf_iload (i := 5) (q := 3) gc dX12_rules_239 rfl ?_
      refine hf_iald (a := 29) (r := 30) (n := 126) g rfl rfl dX12_rules_241 ?_
      refine hf_iast (a := 21) (r := 22) (n := 120) g rfl rfl dX12_rules_242 (fun s3 => ?_)
      refine hf_aload_n (i := 0) (q := 0) gc dX12_rules_243 rfl rfl ?_
      refine hf_getR (j := 0) (k := 31) (r := 23) g rfl rfl kF_RX12_78 dX12_rules_244 ?_
      refine hf_iload (i := 5) (q := 3) gc dX12_rules_247 rfl ?_
      refine hf_aload_n (i := 0) (q := 0) gc dX12_rules_249 rfl rfl ?_
      refine hf_getR (j := 0) (k := 39) (r := 31) g rfl rfl kF_RX12_102 dX12_rules_250 ?_
      refine hf_iload (i := 5) (q := 3) gc dX12_rules_253 rfl ?_
      refine hf_iald (a := 30) (r := 31) (n := 126) g rfl rfl dX12_rules_255 ?_
      refine hf_iast (a := 22) (r := 23) (n := 120) g rfl rfl dX12_rules_256 (fun s4 => ?_)
      refine hf_aload_n (i := 0) (q := 0) gc dX12_rules_257 rfl rfl ?_
      refine hf_getR (j := 0) (k := 32) (r := 24) g rfl rfl kF_RX12_81 dX12_rules_258 ?_
      refine hf_iload (i := 5) (q := 3) gc dX12_rules_261 rfl ?_
      refine hf_aload_n (i := 0) (q := 0) gc dX12_rules_263 rfl rfl ?_
      refine hf_getR (j := 0) (k := 40) (r := 32) g rfl rfl kF_RX12_105 dX12_rules_264 ?_
      refine hf_iload (i := 5) (q := 3) gc dX12_rules_267 rfl ?_
      refine hf_iald (a := 31) (r := 32) (n := 126) g rfl rfl dX12_rules_269 ?_
      refine hf_iast (a := 23) (r := 24) (n := 120) g rfl rfl dX12_rules_270 (fun s5 => ?_)
      refine hf_iinc (q := 3) (v' := l5 + (1 : Int32)) (lv' := [(5, .int (l5 + (1 : Int32))), (0, .ref (ad 0)), (1, .int l1), (4, .int l4)]) gc dX12_rules_271 rfl rfl (by decide) rfl ?_
      refine hf_goto (tgt := 183) gc dX12_rules_274 (by decide) ?_
      refine hf_sub (lv' := [(0, .ref (ad 0)), (1, .int l1), (4, .int l4), (5, .int (l5 + (1 : Int32)))]) [1, 2, 3, 0] rfl ?_
      exact ih _ _ _ _
set_option maxHeartbeats 2000000 in
set_option maxRecDepth 20000 in
theorem xm_md_rules_l128 {x : hf_Cx} {ad : Nat → Nat} {cA : Nat → ClassId} {E : State → Prop} {A : Nat → Prop} {l0 : Launch} {D0 : va_G} (g : hf_G x hmT ad cA E A l0 D0 cX12_rules 6 RX12 (some .int) 5) : ∀ (n : Nat) (s : hf_St) (l1 : Int32) (l4 : Int32), hf_X x A 6 (0, 0) (hf_Q x hmT ad cA A hf_ri) (Fm_md_rules_l128 n s l1 l4) (hf_wd hmT ad cA s) 128 [(0, .ref (ad 0)), (1, .int l1), (4, .int l4)] [] := by
  have gc := g.1
  intro n
  induction n with
  | zero => intro s l1 l4; exact hf_none
  | succ n ih =>
    intro s l1 l4
    rw [Fm_md_rules_l128]
    refine hf_iload (i := 4) (q := 2) gc dX12_rules_128 rfl ?_
    refine hf_iload_n (i := 1) (q := 1) gc dX12_rules_130 rfl rfl ?_
    refine hf_icmp_ge (tgt := 283) gc dX12_rules_131 (by decide) ?_ ?_
    · refine hf_iload_n (i := 1) (q := 1) gc dX12_rules_283 rfl rfl ?_
      exact hf_iret g dX12_rules_284 rfl
    · refine hf_aload_n (i := 0) (q := 0) gc dX12_rules_134 rfl rfl ?_
      refine hf_getR (j := 0) (k := 25) (r := 17) g rfl rfl kF_RX12_60 dX12_rules_135 ?_
      refine hf_iload (i := 4) (q := 2) gc dX12_rules_138 rfl ?_
      refine hf_aload_n (i := 0) (q := 0) gc dX12_rules_140 rfl rfl ?_
      refine hf_getR (j := 0) (k := 33) (r := 25) g rfl rfl kF_RX12_84 dX12_rules_141 ?_
      refine hf_iload (i := 4) (q := 2) gc dX12_rules_144 rfl ?_
      refine hf_iald (a := 24) (r := 25) (n := 21) g rfl rfl dX12_rules_146 ?_
      refine hf_iast (a := 16) (r := 17) (n := 20) g rfl rfl dX12_rules_147 (fun s1 => ?_)
      refine hf_aload_n (i := 0) (q := 0) gc dX12_rules_148 rfl rfl ?_
      refine hf_getR (j := 0) (k := 26) (r := 18) g rfl rfl kF_RX12_63 dX12_rules_149 ?_
      refine hf_iload (i := 4) (q := 2) gc dX12_rules_152 rfl ?_
      refine hf_aload_n (i := 0) (q := 0) gc dX12_rules_154 rfl rfl ?_
      refine hf_getR (j := 0) (k := 34) (r := 26) g rfl rfl kF_RX12_87 dX12_rules_155 ?_
      refine hf_iload (i := 4) (q := 2) gc dX12_rules_158 rfl ?_
      refine hf_iald (a := 25) (r := 26) (n := 21) g rfl rfl dX12_rules_160 ?_
      refine hf_iast (a := 17) (r := 18) (n := 20) g rfl rfl dX12_rules_161 (fun s2 => ?_)
      refine hf_aload_n (i := 0) (q := 0) gc dX12_rules_162 rfl rfl ?_
      refine hf_getR (j := 0) (k := 27) (r := 19) g rfl rfl kF_RX12_66 dX12_rules_163 ?_
      refine hf_iload (i := 4) (q := 2) gc dX12_rules_166 rfl ?_
      refine hf_aload_n (i := 0) (q := 0) gc dX12_rules_168 rfl rfl ?_
      refine hf_getR (j := 0) (k := 35) (r := 27) g rfl rfl kF_RX12_90 dX12_rules_169 ?_
      refine hf_iload (i := 4) (q := 2) gc dX12_rules_172 rfl ?_
      refine hf_iald (a := 26) (r := 27) (n := 21) g rfl rfl dX12_rules_174 ?_
      refine hf_iast (a := 18) (r := 19) (n := 20) g rfl rfl dX12_rules_175 (fun s3 => ?_)
      refine hf_bipush (v := 6) gc dX12_rules_176 (by decide) ?_
      refine hf_iload (i := 4) (q := 2) gc dX12_rules_178 rfl ?_
      refine hf_imul gc dX12_rules_180 ?_
      refine hf_let (fun v4 => ?_)
      refine hf_istore (i := 5) (lv' := [(5, .int v4), (0, .ref (ad 0)), (1, .int l1), (4, .int l4)]) gc dX12_rules_181 (by decide) rfl ?_
      refine hf_sub (lv' := [(0, .ref (ad 0)), (1, .int l1), (4, .int l4), (5, .int v4)]) [1, 2, 3, 0] rfl ?_
      exact xm_md_rules_l183 g (fun z0 z1 z2 => ih z0 z1 z2) hf_fuel _ _ _ _
set_option maxHeartbeats 2000000 in
set_option maxRecDepth 20000 in
theorem xm_md_rules_b103 {x : hf_Cx} {ad : Nat → Nat} {cA : Nat → ClassId} {E : State → Prop} {A : Nat → Prop} {l0 : Launch} {D0 : va_G} (g : hf_G x hmT ad cA E A l0 D0 cX12_rules 6 RX12 (some .int) 5) (s : hf_St) (l1 : Int32) (l2 : Int32) : hf_X x A 6 (0, 0) (hf_Q x hmT ad cA A hf_ri) (Fm_md_rules_b103 s l1 l2) (hf_wd hmT ad cA s) 103 [(0, .ref (ad 0)), (1, .int l1), (2, .int l2)] [] := by
  have gc := g.1
  unfold Fm_md_rules_b103
  refine hf_aload_n (i := 0) (q := 0) gc dX12_rules_103 rfl rfl ?_
  refine hf_iconst (v := 0) gc dX12_rules_104 (by decide) ?_
  refine hf_putI (j := 0) (k := 21) g rfl rfl kP_RX12_157 rfl rfl dX12_rules_105 (fun s1 => ?_)
  refine hf_iload_n (i := 2) (q := 2) gc dX12_rules_108 rfl rfl ?_
  refine hf_if_ne (tgt := 120) gc dX12_rules_109 (by decide) ?_ ?_
  · refine hf_aload_n (i := 0) (q := 0) gc dX12_rules_120 rfl rfl ?_
    refine hf_iload_n (i := 1) (q := 1) gc dX12_rules_121 rfl rfl ?_
    refine hf_putI (j := 0) (k := 24) g rfl rfl kP_RX12_223 rfl rfl dX12_rules_122 (fun s2 => ?_)
    refine hf_iconst (v := 0) gc dX12_rules_125 (by decide) ?_
    refine hf_istore (i := 4) (lv' := [(4, .int ((0 : Int32))), (0, .ref (ad 0)), (1, .int l1), (2, .int l2)]) gc dX12_rules_126 (by decide) rfl ?_
    refine hf_sub (lv' := [(0, .ref (ad 0)), (1, .int l1), (4, .int ((0 : Int32)))]) [1, 2, 0] rfl ?_
    exact xm_md_rules_l128 g hf_fuel _ _ _
  · refine hf_bipush (v := -2) gc dX12_rules_112 (by decide) ?_
    refine hf_aload_n (i := 0) (q := 0) gc dX12_rules_114 rfl rfl ?_
    refine hf_getI (j := 0) (k := 23) g rfl rfl kF_RX12_164 dX12_rules_115 ?_
    refine hf_isub gc dX12_rules_118 ?_
    exact hf_iret g dX12_rules_119 rfl
set_option maxHeartbeats 2000000 in
set_option maxRecDepth 20000 in
theorem xm_md_rules_l28 {x : hf_Cx} {ad : Nat → Nat} {cA : Nat → ClassId} {E : State → Prop} {A : Nat → Prop} {l0 : Launch} {D0 : va_G} (g : hf_G x hmT ad cA E A l0 D0 cX12_rules 6 RX12 (some .int) 5) : ∀ (n : Nat) (s : hf_St) (l1 : Int32) (l2 : Int32) (l3 : Int32), hf_X x A 6 (0, 0) (hf_Q x hmT ad cA A hf_ri) (Fm_md_rules_l28 n s l1 l2 l3) (hf_wd hmT ad cA s) 28 [(0, .ref (ad 0)), (1, .int l1), (2, .int l2), (3, .int l3)] [] := by
  have gc := g.1
  intro n
  induction n with
  | zero => intro s l1 l2 l3; exact hf_none
  | succ n ih =>
    intro s l1 l2 l3
    rw [Fm_md_rules_l28]
    refine hf_iload_n (i := 2) (q := 2) gc dX12_rules_28 rfl rfl ?_
    refine hf_if_eq (tgt := 103) gc dX12_rules_29 (by decide) ?_ ?_
    · refine hf_sub (lv' := [(0, .ref (ad 0)), (1, .int l1), (2, .int l2)]) [0, 1, 2] rfl ?_
      exact xm_md_rules_b103 g _ _ _
    · refine hf_iload_n (i := 3) (q := 3) gc dX12_rules_32 rfl rfl ?_
      refine hf_if_eq (tgt := 103) gc dX12_rules_33 (by decide) ?_ ?_
      · refine hf_sub (lv' := [(0, .ref (ad 0)), (1, .int l1), (2, .int l2)]) [0, 1, 2] rfl ?_
        exact xm_md_rules_b103 g _ _ _
      · refine hf_aload_n (i := 0) (q := 0) gc dX12_rules_36 rfl rfl ?_
        refine hf_iload_n (i := 1) (q := 1) gc dX12_rules_37 rfl rfl ?_
        refine hf_callV2 (j := 0) g (cm_md_rule (a1 := l1)) kV_RX12_220 (by decide) (by decide) rfl rfl rfl rfl (Nat.le_of_ble_eq_true rfl) dX12_rules_38 (fun v1 s2 => ?_)
        refine hf_istore_n (i := 2) (lv' := [(2, .int v1), (0, .ref (ad 0)), (1, .int l1), (3, .int l3)]) gc dX12_rules_41 rfl (by decide) rfl ?_
        refine hf_iinc (q := 2) (v' := l1 + (1 : Int32)) (lv' := [(1, .int (l1 + (1 : Int32))), (2, .int v1), (0, .ref (ad 0)), (3, .int l3)]) gc dX12_rules_42 rfl rfl (by decide) rfl ?_
        refine hf_iload_n (i := 2) (q := 1) gc dX12_rules_45 rfl rfl ?_
        refine hf_if_eq (tgt := 61) gc dX12_rules_46 (by decide) ?_ ?_
        · refine hf_sub (lv' := [(0, .ref (ad 0)), (1, .int (l1 + (1 : Int32))), (2, .int v1)]) [2, 0, 1] rfl ?_
          exact xm_md_rules_b61 g (fun z0 z1 z2 z3 => ih z0 z1 z2 z3) _ _ _
        · refine hf_aload_n (i := 0) (q := 2) gc dX12_rules_49 rfl rfl ?_
          refine hf_callV2 (j := 0) g (cm_md_see) kV_RX12_173 (by decide) (by decide) rfl rfl rfl rfl (Nat.le_of_ble_eq_true rfl) dX12_rules_50 (fun v3 s4 => ?_)
          refine hf_iconst (v := -1) gc dX12_rules_53 (by decide) ?_
          refine hf_icmp_eq (tgt := 61) gc dX12_rules_54 (by decide) ?_ ?_
          · refine hf_sub (lv' := [(0, .ref (ad 0)), (1, .int (l1 + (1 : Int32))), (2, .int v1)]) [2, 0, 1] rfl ?_
            exact xm_md_rules_b61 g (fun z0 z1 z2 z3 => ih z0 z1 z2 z3) _ _ _
          · refine hf_iconst (v := 1) gc dX12_rules_57 (by decide) ?_
            refine hf_goto (tgt := 62) gc dX12_rules_58 (by decide) ?_
            refine hf_sub (lv' := [(0, .ref (ad 0)), (1, .int (l1 + (1 : Int32))), (2, .int v1)]) [2, 0, 1] rfl ?_
            exact xm_md_rules_b62 g (fun z0 z1 z2 z3 => ih z0 z1 z2 z3) _ _ _ _
set_option maxHeartbeats 2000000 in
set_option maxRecDepth 20000 in
theorem xm_md_rules {x : hf_Cx} {ad : Nat → Nat} {cA : Nat → ClassId} {E : State → Prop} {A : Nat → Prop} {l0 : Launch} {D0 : va_G} (g : hf_G x hmT ad cA E A l0 D0 cX12_rules 6 RX12 (some .int) 5) {s : hf_St} : hf_X x A 6 (0, 0) (hf_Q x hmT ad cA A hf_ri) (Fm_md_rules s) (hf_wd hmT ad cA s) 0 [(0, .ref (ad 0))] [] := by
  have gc := g.1
  unfold Fm_md_rules
  refine hf_aload_n (i := 0) (q := 0) gc dX12_rules_0 rfl rfl ?_
  refine hf_iconst (v := 0) gc dX12_rules_1 (by decide) ?_
  refine hf_putI (j := 0) (k := 22) g rfl rfl kP_RX12_167 rfl rfl dX12_rules_2 (fun s1 => ?_)
  refine hf_aload_n (i := 0) (q := 0) gc dX12_rules_5 rfl rfl ?_
  refine hf_iconst (v := 0) gc dX12_rules_6 (by decide) ?_
  refine hf_putI (j := 0) (k := 23) g rfl rfl kP_RX12_164 rfl rfl dX12_rules_7 (fun s2 => ?_)
  refine hf_iconst (v := 0) gc dX12_rules_10 (by decide) ?_
  refine hf_istore_n (i := 1) (lv' := [(1, .int ((0 : Int32))), (0, .ref (ad 0))]) gc dX12_rules_11 rfl (by decide) rfl ?_
  refine hf_iconst (v := 1) gc dX12_rules_12 (by decide) ?_
  refine hf_istore_n (i := 2) (lv' := [(2, .int ((1 : Int32))), (1, .int ((0 : Int32))), (0, .ref (ad 0))]) gc dX12_rules_13 rfl (by decide) rfl ?_
  refine hf_aload_n (i := 0) (q := 2) gc dX12_rules_14 rfl rfl ?_
  refine hf_callV2 (j := 0) g (cm_md_see) kV_RX12_173 (by decide) (by decide) rfl rfl rfl rfl (Nat.le_of_ble_eq_true rfl) dX12_rules_15 (fun v3 s4 => ?_)
  refine hf_iconst (v := -1) gc dX12_rules_18 (by decide) ?_
  refine hf_icmp_eq (tgt := 26) gc dX12_rules_19 (by decide) ?_ ?_
  · refine hf_iconst (v := 0) gc dX12_rules_26 (by decide) ?_
    refine hf_istore_n (i := 3) (lv' := [(3, .int ((0 : Int32))), (2, .int ((1 : Int32))), (1, .int ((0 : Int32))), (0, .ref (ad 0))]) gc dX12_rules_27 rfl (by decide) rfl ?_
    refine hf_sub (lv' := [(0, .ref (ad 0)), (1, .int ((0 : Int32))), (2, .int ((1 : Int32))), (3, .int ((0 : Int32)))]) [3, 2, 1, 0] rfl ?_
    exact xm_md_rules_l28 g hf_fuel _ _ _ _
  · refine hf_iconst (v := 1) gc dX12_rules_22 (by decide) ?_
    refine hf_goto (tgt := 27) gc dX12_rules_23 (by decide) ?_
    refine hf_istore_n (i := 3) (lv' := [(3, .int ((1 : Int32))), (2, .int ((1 : Int32))), (1, .int ((0 : Int32))), (0, .ref (ad 0))]) gc dX12_rules_27 rfl (by decide) rfl ?_
    refine hf_sub (lv' := [(0, .ref (ad 0)), (1, .int ((0 : Int32))), (2, .int ((1 : Int32))), (3, .int ((1 : Int32)))]) [3, 2, 1, 0] rfl ?_
    exact xm_md_rules_l28 g hf_fuel _ _ _ _
theorem cm_md_rules {l0 : Launch} {D0 : va_G} {ad : Nat → Nat} {cA : Nat → ClassId} {E : State → Prop} {s : hf_St} : hf_Ct l0 D0 hmT ad cA E 5 yX12_rules cX12_rules 6 (some .int) [.ref (ad 0)] s (Fm_md_rules s) hf_ri := hf_met (by decide) (Nat.le_of_ble_eq_true rfl) (fun _ _ g => xm_md_rules g)
