set_option maxHeartbeats 2000000 in
set_option maxRecDepth 20000 in
theorem xm_md_sideOf {x : hf_Cx} {ad : Nat → Nat} {cA : Nat → ClassId} {E : State → Prop} {A : Nat → Prop} {l0 : Launch} {D0 : va_G} (g : hf_G x hmT ad cA E A l0 D0 cX12_sideOf 6 RX12 (some .int) 1) {s : hf_St} {a1 : Int32} {a2 : Int32} {a3 : Int32} {a4 : Int32} {a5 : Int32} : hf_X x A 6 (0, 0) (hf_Q x hmT ad cA A (hf_rp s)) (Fm_md_sideOf s a1 a2 a3 a4 a5) (hf_wd hmT ad cA s) 0 [(0, .ref (ad 0)), (1, .int a1), (2, .int a2), (3, .int a3), (4, .int a4), (5, .int a5)] [] := by
  have gc := g.1
  unfold Fm_md_sideOf
  refine hf_iload_n (i := 1) (q := 1) gc dX12_sideOf_0 rfl rfl ?_
  refine hf_if_ne (tgt := 6) gc dX12_sideOf_1 (by decide) ?_ ?_
  · refine hf_iload_n (i := 1) (q := 1) gc dX12_sideOf_6 rfl rfl ?_
    refine hf_bipush (v := 9) gc dX12_sideOf_7 (by decide) ?_
    refine hf_icmp_ge (tgt := 29) gc dX12_sideOf_9 (by decide) ?_ ?_
    · refine hf_aload_n (i := 0) (q := 0) gc dX12_sideOf_29 rfl rfl ?_
      refine hf_bipush (v := 100) gc dX12_sideOf_30 (by decide) ?_
      refine hf_iload (i := 4) (q := 4) gc dX12_sideOf_32 rfl ?_
      refine hf_iadd gc dX12_sideOf_34 ?_
      refine hf_iload_n (i := 1) (q := 1) gc dX12_sideOf_35 rfl rfl ?_
      refine hf_bipush (v := 9) gc dX12_sideOf_36 (by decide) ?_
      refine hf_isub gc dX12_sideOf_38 ?_
      refine hf_iload (i := 5) (q := 5) gc dX12_sideOf_39 rfl ?_
      refine hf_aload_n (i := 0) (q := 0) gc dX12_sideOf_41 rfl rfl ?_
      refine hf_getI (j := 0) (k := 0) g rfl rfl kF_RX12_127 dX12_sideOf_42 ?_
      refine hf_callV1 (j := 0) g (cm_md_valueOf (a1 := ((100 : Int32)) + a4) (a2 := a1 - ((9 : Int32))) (a3 := a5) (a4 := s.1 0 0)) kV_RX12_150 (by decide) (by decide) rfl rfl rfl rfl (Nat.le_of_ble_eq_true rfl) dX12_sideOf_45 (fun v1 => ?_)
      exact hf_iret g dX12_sideOf_48 rfl
    · refine hf_aload_n (i := 0) (q := 0) gc dX12_sideOf_12 rfl rfl ?_
      refine hf_iload_n (i := 3) (q := 3) gc dX12_sideOf_13 rfl rfl ?_
      refine hf_iload_n (i := 1) (q := 1) gc dX12_sideOf_14 rfl rfl ?_
      refine hf_iconst (v := 1) gc dX12_sideOf_15 (by decide) ?_
      refine hf_isub gc dX12_sideOf_16 ?_
      refine hf_iload (i := 5) (q := 5) gc dX12_sideOf_17 rfl ?_
      refine hf_aload_n (i := 0) (q := 0) gc dX12_sideOf_19 rfl rfl ?_
      refine hf_getI (j := 0) (k := 0) g rfl rfl kF_RX12_127 dX12_sideOf_20 ?_
      refine hf_callV1 (j := 0) g (cm_md_valueOf (a1 := a3) (a2 := a1 - ((1 : Int32))) (a3 := a5) (a4 := s.1 0 0)) kV_RX12_150 (by decide) (by decide) rfl rfl rfl rfl (Nat.le_of_ble_eq_true rfl) dX12_sideOf_23 (fun v2 => ?_)
      refine hf_goto (tgt := 48) gc dX12_sideOf_26 (by decide) ?_
      exact hf_iret g dX12_sideOf_48 rfl
  · refine hf_iload_n (i := 2) (q := 2) gc dX12_sideOf_4 rfl rfl ?_
    exact hf_iret g dX12_sideOf_5 rfl
theorem cm_md_sideOf {l0 : Launch} {D0 : va_G} {ad : Nat → Nat} {cA : Nat → ClassId} {E : State → Prop} {s : hf_St} {a1 : Int32} {a2 : Int32} {a3 : Int32} {a4 : Int32} {a5 : Int32} : hf_Ct l0 D0 hmT ad cA E 1 yX12_sideOf cX12_sideOf 6 (some .int) [.ref (ad 0), .int a1, .int a2, .int a3, .int a4, .int a5] s (Fm_md_sideOf s a1 a2 a3 a4 a5) (hf_rp s) := hf_met (by decide) (Nat.le_of_ble_eq_true rfl) (fun _ _ g => xm_md_sideOf g)
set_option maxHeartbeats 2000000 in
set_option maxRecDepth 20000 in
theorem xm_md_isSo_l6 {x : hf_Cx} {ad : Nat → Nat} {cA : Nat → ClassId} {E : State → Prop} {A : Nat → Prop} {l0 : Launch} {D0 : va_G} {s : hf_St} (g : hf_G x hmT ad cA E A l0 D0 cX12_isSo 8 RX12 (some .boolean) 2) : ∀ (n : Nat) (l1 : Int32) (l2 : Int32) (l3 : Int32) (l4 : Int32) (l5 : Int32), hf_X x A 8 (0, 0) (hf_Q x hmT ad cA A (hf_rp s)) (Fm_md_isSo_l6 s n l1 l2 l3 l4 l5) (hf_wd hmT ad cA s) 6 [(0, .ref (ad 0)), (1, .int l1), (2, .int l2), (3, .int l3), (4, .int l4), (5, .int l5)] [] := by
  have gc := g.1
  intro n
  induction n with
  | zero => intro l1 l2 l3 l4 l5; exact hf_none
  | succ n ih =>
    intro l1 l2 l3 l4 l5
    rw [Fm_md_isSo_l6]
    refine hf_iload (i := 5) (q := 5) gc dX12_isSo_6 rfl ?_
    refine hf_bipush (v := 6) gc dX12_isSo_8 (by decide) ?_
    refine hf_iload_n (i := 1) (q := 1) gc dX12_isSo_10 rfl rfl ?_
    refine hf_imul gc dX12_isSo_11 ?_
    refine hf_aload_n (i := 0) (q := 0) gc dX12_isSo_12 rfl rfl ?_
    refine hf_getR (j := 0) (k := 27) (r := 19) g rfl rfl kF_RX12_66 dX12_isSo_13 ?_
    refine hf_iload_n (i := 1) (q := 1) gc dX12_isSo_16 rfl rfl ?_
    refine hf_iald (a := 18) (r := 19) (n := 20) g rfl rfl dX12_isSo_17 ?_
    refine hf_iadd gc dX12_isSo_18 ?_
    refine hf_icmp_ge (tgt := 129) gc dX12_isSo_19 (by decide) ?_ ?_
    · refine hf_iconst (v := 1) gc dX12_isSo_129 (by decide) ?_
      exact hf_zret g dX12_isSo_130 rfl
    · refine hf_aload_n (i := 0) (q := 0) gc dX12_isSo_22 rfl rfl ?_
      refine hf_aload_n (i := 0) (q := 0) gc dX12_isSo_23 rfl rfl ?_
      refine hf_getR (j := 0) (k := 28) (r := 20) g rfl rfl kF_RX12_69 dX12_isSo_24 ?_
      refine hf_iload (i := 5) (q := 5) gc dX12_isSo_27 rfl ?_
      refine hf_iald (a := 19) (r := 20) (n := 120) g rfl rfl dX12_isSo_29 ?_
      refine hf_aload_n (i := 0) (q := 0) gc dX12_isSo_30 rfl rfl ?_
      refine hf_getR (j := 0) (k := 29) (r := 21) g rfl rfl kF_RX12_72 dX12_isSo_31 ?_
      refine hf_iload (i := 5) (q := 5) gc dX12_isSo_34 rfl ?_
      refine hf_iald (a := 20) (r := 21) (n := 120) g rfl rfl dX12_isSo_36 ?_
      refine hf_iload_n (i := 2) (q := 2) gc dX12_isSo_37 rfl rfl ?_
      refine hf_iload_n (i := 3) (q := 3) gc dX12_isSo_38 rfl rfl ?_
      refine hf_iload (i := 4) (q := 4) gc dX12_isSo_39 rfl ?_
      refine hf_callV1 (j := 0) g (cm_md_sideOf (a1 := s.2 19 l5.toNatClampNeg) (a2 := s.2 20 l5.toNatClampNeg) (a3 := l2) (a4 := l3) (a5 := l4)) kV_RX12_226 (by decide) (by decide) rfl rfl rfl rfl (Nat.le_of_ble_eq_true rfl) dX12_isSo_41 (fun v1 => ?_)
      refine hf_istore (i := 6) (lv' := [(6, .int v1), (0, .ref (ad 0)), (1, .int l1), (2, .int l2), (3, .int l3), (4, .int l4), (5, .int l5)]) gc dX12_isSo_44 (by decide) rfl ?_
      refine hf_aload_n (i := 0) (q := 1) gc dX12_isSo_46 rfl rfl ?_
      refine hf_aload_n (i := 0) (q := 1) gc dX12_isSo_47 rfl rfl ?_
      refine hf_getR (j := 0) (k := 31) (r := 23) g rfl rfl kF_RX12_78 dX12_isSo_48 ?_
      refine hf_iload (i := 5) (q := 6) gc dX12_isSo_51 rfl ?_
      refine hf_iald (a := 22) (r := 23) (n := 120) g rfl rfl dX12_isSo_53 ?_
      refine hf_aload_n (i := 0) (q := 1) gc dX12_isSo_54 rfl rfl ?_
      refine hf_getR (j := 0) (k := 32) (r := 24) g rfl rfl kF_RX12_81 dX12_isSo_55 ?_
      refine hf_iload (i := 5) (q := 6) gc dX12_isSo_58 rfl ?_
      refine hf_iald (a := 23) (r := 24) (n := 120) g rfl rfl dX12_isSo_60 ?_
      refine hf_iload_n (i := 2) (q := 3) gc dX12_isSo_61 rfl rfl ?_
      refine hf_iload_n (i := 3) (q := 4) gc dX12_isSo_62 rfl rfl ?_
      refine hf_iload (i := 4) (q := 5) gc dX12_isSo_63 rfl ?_
      refine hf_callV1 (j := 0) g (cm_md_sideOf (a1 := s.2 22 l5.toNatClampNeg) (a2 := s.2 23 l5.toNatClampNeg) (a3 := l2) (a4 := l3) (a5 := l4)) kV_RX12_226 (by decide) (by decide) rfl rfl rfl rfl (Nat.le_of_ble_eq_true rfl) dX12_isSo_65 (fun v2 => ?_)
      refine hf_istore (i := 7) (lv' := [(7, .int v2), (6, .int v1), (0, .ref (ad 0)), (1, .int l1), (2, .int l2), (3, .int l3), (4, .int l4), (5, .int l5)]) gc dX12_isSo_68 (by decide) rfl ?_
      refine hf_aload_n (i := 0) (q := 2) gc dX12_isSo_70 rfl rfl ?_
      refine hf_getR (j := 0) (k := 30) (r := 22) g rfl rfl kF_RX12_75 dX12_isSo_71 ?_
      refine hf_iload (i := 5) (q := 7) gc dX12_isSo_74 rfl ?_
      refine hf_iald (a := 21) (r := 22) (n := 120) g rfl rfl dX12_isSo_76 ?_
      refine hf_bipush (v := 60) gc dX12_isSo_77 (by decide) ?_
      refine hf_icmp_ne (tgt := 92) gc dX12_isSo_79 (by decide) ?_ ?_
      · refine hf_aload_n (i := 0) (q := 2) gc dX12_isSo_92 rfl rfl ?_
        refine hf_getR (j := 0) (k := 30) (r := 22) g rfl rfl kF_RX12_75 dX12_isSo_93 ?_
        refine hf_iload (i := 5) (q := 7) gc dX12_isSo_96 rfl ?_
        refine hf_iald (a := 21) (r := 22) (n := 120) g rfl rfl dX12_isSo_98 ?_
        refine hf_bipush (v := 62) gc dX12_isSo_99 (by decide) ?_
        refine hf_icmp_ne (tgt := 114) gc dX12_isSo_101 (by decide) ?_ ?_
        · refine hf_iload (i := 6) (q := 1) gc dX12_isSo_114 rfl ?_
          refine hf_iload (i := 7) (q := 0) gc dX12_isSo_116 rfl ?_
          refine hf_icmp_eq (tgt := 123) gc dX12_isSo_118 (by decide) ?_ ?_
          · refine hf_iinc (q := 7) (v' := l5 + (1 : Int32)) (lv' := [(5, .int (l5 + (1 : Int32))), (7, .int v2), (6, .int v1), (0, .ref (ad 0)), (1, .int l1), (2, .int l2), (3, .int l3), (4, .int l4)]) gc dX12_isSo_123 rfl rfl (by decide) rfl ?_
            refine hf_goto (tgt := 6) gc dX12_isSo_126 (by decide) ?_
            refine hf_sub (lv' := [(0, .ref (ad 0)), (1, .int l1), (2, .int l2), (3, .int l3), (4, .int l4), (5, .int (l5 + (1 : Int32)))]) [3, 4, 5, 6, 7, 0] rfl ?_
            exact ih _ _ _ _ _
          · refine hf_iconst (v := 0) gc dX12_isSo_121 (by decide) ?_
            exact hf_zret g dX12_isSo_122 rfl
        · refine hf_iload (i := 6) (q := 1) gc dX12_isSo_104 rfl ?_
          refine hf_iload (i := 7) (q := 0) gc dX12_isSo_106 rfl ?_
          refine hf_icmp_le (tgt := 121) gc dX12_isSo_108 (by decide) ?_ ?_
          · refine hf_iconst (v := 0) gc dX12_isSo_121 (by decide) ?_
            exact hf_zret g dX12_isSo_122 rfl
          · refine hf_goto (tgt := 123) gc dX12_isSo_111 (by decide) ?_
            refine hf_iinc (q := 7) (v' := l5 + (1 : Int32)) (lv' := [(5, .int (l5 + (1 : Int32))), (7, .int v2), (6, .int v1), (0, .ref (ad 0)), (1, .int l1), (2, .int l2), (3, .int l3), (4, .int l4)]) gc dX12_isSo_123 rfl rfl (by decide) rfl ?_
            refine hf_goto (tgt := 6) gc dX12_isSo_126 (by decide) ?_
            refine hf_sub (lv' := [(0, .ref (ad 0)), (1, .int l1), (2, .int l2), (3, .int l3), (4, .int l4), (5, .int (l5 + (1 : Int32)))]) [3, 4, 5, 6, 7, 0] rfl ?_
            exact ih _ _ _ _ _
      · refine hf_iload (i := 6) (q := 1) gc dX12_isSo_82 rfl ?_
        refine hf_iload (i := 7) (q := 0) gc dX12_isSo_84 rfl ?_
        refine hf_icmp_ge (tgt := 121) gc dX12_isSo_86 (by decide) ?_ ?_
        · refine hf_iconst (v := 0) gc dX12_isSo_121 (by decide) ?_
          exact hf_zret g dX12_isSo_122 rfl
        · refine hf_goto (tgt := 123) gc dX12_isSo_89 (by decide) ?_
          refine hf_iinc (q := 7) (v' := l5 + (1 : Int32)) (lv' := [(5, .int (l5 + (1 : Int32))), (7, .int v2), (6, .int v1), (0, .ref (ad 0)), (1, .int l1), (2, .int l2), (3, .int l3), (4, .int l4)]) gc dX12_isSo_123 rfl rfl (by decide) rfl ?_
          refine hf_goto (tgt := 6) gc dX12_isSo_126 (by decide) ?_
          refine hf_sub (lv' := [(0, .ref (ad 0)), (1, .int l1), (2, .int l2), (3, .int l3), (4, .int l4), (5, .int (l5 + (1 : Int32)))]) [3, 4, 5, 6, 7, 0] rfl ?_
          exact ih _ _ _ _ _
set_option maxHeartbeats 2000000 in
set_option maxRecDepth 20000 in
theorem xm_md_isSo {x : hf_Cx} {ad : Nat → Nat} {cA : Nat → ClassId} {E : State → Prop} {A : Nat → Prop} {l0 : Launch} {D0 : va_G} (g : hf_G x hmT ad cA E A l0 D0 cX12_isSo 8 RX12 (some .boolean) 2) {s : hf_St} {a1 : Int32} {a2 : Int32} {a3 : Int32} {a4 : Int32} : hf_X x A 8 (0, 0) (hf_Q x hmT ad cA A (hf_rp s)) (Fm_md_isSo s a1 a2 a3 a4) (hf_wd hmT ad cA s) 0 [(0, .ref (ad 0)), (1, .int a1), (2, .int a2), (3, .int a3), (4, .int a4)] [] := by
  have gc := g.1
  unfold Fm_md_isSo
  refine hf_bipush (v := 6) gc dX12_isSo_0 (by decide) ?_
  refine hf_iload_n (i := 1) (q := 1) gc dX12_isSo_2 rfl rfl ?_
  refine hf_imul gc dX12_isSo_3 ?_
  refine hf_let (fun v1 => ?_)
  refine hf_istore (i := 5) (lv' := [(5, .int v1), (0, .ref (ad 0)), (1, .int a1), (2, .int a2), (3, .int a3), (4, .int a4)]) gc dX12_isSo_4 (by decide) rfl ?_
  refine hf_sub (lv' := [(0, .ref (ad 0)), (1, .int a1), (2, .int a2), (3, .int a3), (4, .int a4), (5, .int v1)]) [1, 2, 3, 4, 5, 0] rfl ?_
  exact xm_md_isSo_l6 g hf_fuel _ _ _ _ _
theorem cm_md_isSo {l0 : Launch} {D0 : va_G} {ad : Nat → Nat} {cA : Nat → ClassId} {E : State → Prop} {s : hf_St} {a1 : Int32} {a2 : Int32} {a3 : Int32} {a4 : Int32} : hf_Ct l0 D0 hmT ad cA E 2 yX12_isSo cX12_isSo 8 (some .boolean) [.ref (ad 0), .int a1, .int a2, .int a3, .int a4] s (Fm_md_isSo s a1 a2 a3 a4) (hf_rp s) := hf_met (by decide) (Nat.le_of_ble_eq_true rfl) (fun _ _ g => xm_md_isSo g)
set_option maxHeartbeats 2000000 in
set_option maxRecDepth 20000 in
theorem xm_md_barOf_b88 {x : hf_Cx} {ad : Nat → Nat} {cA : Nat → ClassId} {E : State → Prop} {A : Nat → Prop} {l0 : Launch} {D0 : va_G} {k7 : hf_St → Int32 → Int32 → Int32 → Option (Int32 × hf_St)} {k58 : hf_St → Int32 → Int32 → Int32 → Int32 → Option (Int32 × hf_St)} (g : hf_G x hmT ad cA E A l0 D0 cX12_barOf 5 RX12 (some .int) 3) (hk7 : ∀ (s : hf_St) (l1 : Int32) (l2 : Int32) (l3 : Int32), hf_X x A 5 (0, 0) (hf_Q x hmT ad cA A hf_ri) (k7 s l1 l2 l3) (hf_wd hmT ad cA s) 7 [(0, .ref (ad 0)), (1, .int l1), (2, .int l2), (3, .int l3)] []) (hk58 : ∀ (s : hf_St) (l1 : Int32) (l2 : Int32) (l3 : Int32) (l4 : Int32), hf_X x A 5 (0, 0) (hf_Q x hmT ad cA A hf_ri) (k58 s l1 l2 l3 l4) (hf_wd hmT ad cA s) 58 [(0, .ref (ad 0)), (1, .int l1), (2, .int l2), (3, .int l3), (4, .int l4)] []) (s : hf_St) (l1 : Int32) (l2 : Int32) (l3 : Int32) (l4 : Int32) (t0 : Int32) (t1 : Int32) : hf_X x A 5 (0, 0) (hf_Q x hmT ad cA A hf_ri) (Fm_md_barOf_b88 k7 k58 s l1 l2 l3 l4 t0 t1) (hf_wd hmT ad cA s) 88 [(0, .ref (ad 0)), (1, .int l1), (2, .int l2), (3, .int l3), (4, .int l4)] [.int t0, .int t1] := by
  have gc := g.1
  unfold Fm_md_barOf_b88
  refine hf_icmp_ne (tgt := 109) gc dX12_barOf_88 (by decide) ?_ ?_
  · refine hf_iinc (q := 4) (v' := l4 + (1 : Int32)) (lv' := [(4, .int (l4 + (1 : Int32))), (0, .ref (ad 0)), (1, .int l1), (2, .int l2), (3, .int l3)]) gc dX12_barOf_109 rfl rfl (by decide) rfl ?_
    refine hf_goto (tgt := 58) gc dX12_barOf_112 (by decide) ?_
    refine hf_sub (lv' := [(0, .ref (ad 0)), (1, .int l1), (2, .int l2), (3, .int l3), (4, .int (l4 + (1 : Int32)))]) [1, 2, 3, 4, 0] rfl ?_
    exact hk58 _ _ _ _ _
  · refine hf_aload_n (i := 0) (q := 0) gc dX12_barOf_91 rfl rfl ?_
    refine hf_iload (i := 4) (q := 4) gc dX12_barOf_92 rfl ?_
    refine hf_iload_n (i := 1) (q := 1) gc dX12_barOf_94 rfl rfl ?_
    refine hf_iload_n (i := 2) (q := 2) gc dX12_barOf_95 rfl rfl ?_
    refine hf_iload_n (i := 3) (q := 3) gc dX12_barOf_96 rfl rfl ?_
    refine hf_callV1 (j := 0) g (cm_md_isSo (a1 := l4) (a2 := l1) (a3 := l2) (a4 := l3)) kV_RX12_237 (by decide) (by decide) rfl rfl rfl rfl (Nat.le_of_ble_eq_true rfl) dX12_barOf_97 (fun v1 => ?_)
    refine hf_if_ne (tgt := 109) gc dX12_barOf_100 (by decide) ?_ ?_
    · refine hf_iinc (q := 4) (v' := l4 + (1 : Int32)) (lv' := [(4, .int (l4 + (1 : Int32))), (0, .ref (ad 0)), (1, .int l1), (2, .int l2), (3, .int l3)]) gc dX12_barOf_109 rfl rfl (by decide) rfl ?_
      refine hf_goto (tgt := 58) gc dX12_barOf_112 (by decide) ?_
      refine hf_sub (lv' := [(0, .ref (ad 0)), (1, .int l1), (2, .int l2), (3, .int l3), (4, .int (l4 + (1 : Int32)))]) [1, 2, 3, 4, 0] rfl ?_
      exact hk58 _ _ _ _ _
    · refine hf_bipush (v := 10) gc dX12_barOf_103 (by decide) ?_
      refine hf_iload (i := 4) (q := 4) gc dX12_barOf_105 rfl ?_
      refine hf_iadd gc dX12_barOf_107 ?_
      exact hf_iret g dX12_barOf_108 rfl
set_option maxHeartbeats 2000000 in
set_option maxRecDepth 20000 in
theorem xm_md_barOf_l58 {x : hf_Cx} {ad : Nat → Nat} {cA : Nat → ClassId} {E : State → Prop} {A : Nat → Prop} {l0 : Launch} {D0 : va_G} {k7 : hf_St → Int32 → Int32 → Int32 → Option (Int32 × hf_St)} (g : hf_G x hmT ad cA E A l0 D0 cX12_barOf 5 RX12 (some .int) 3) (hk7 : ∀ (s : hf_St) (l1 : Int32) (l2 : Int32) (l3 : Int32), hf_X x A 5 (0, 0) (hf_Q x hmT ad cA A hf_ri) (k7 s l1 l2 l3) (hf_wd hmT ad cA s) 7 [(0, .ref (ad 0)), (1, .int l1), (2, .int l2), (3, .int l3)] []) : ∀ (n : Nat) (s : hf_St) (l1 : Int32) (l2 : Int32) (l3 : Int32) (l4 : Int32), hf_X x A 5 (0, 0) (hf_Q x hmT ad cA A hf_ri) (Fm_md_barOf_l58 k7 n s l1 l2 l3 l4) (hf_wd hmT ad cA s) 58 [(0, .ref (ad 0)), (1, .int l1), (2, .int l2), (3, .int l3), (4, .int l4)] [] := by
  have gc := g.1
  intro n
  induction n with
  | zero => intro s l1 l2 l3 l4; exact hf_none
  | succ n ih =>
    intro s l1 l2 l3 l4
    rw [Fm_md_barOf_l58]
    refine hf_iload (i := 4) (q := 4) gc dX12_barOf_58 rfl ?_
    refine hf_aload_n (i := 0) (q := 0) gc dX12_barOf_60 rfl rfl ?_
    refine hf_getI (j := 0) (k := 24) g rfl rfl kF_RX12_223 dX12_barOf_61 ?_
    refine hf_icmp_ge (tgt := 115) gc dX12_barOf_64 (by decide) ?_ ?_
    · refine hf_iinc (q := 3) (v' := l3 + (1 : Int32)) (lv' := [(3, .int (l3 + (1 : Int32))), (0, .ref (ad 0)), (1, .int l1), (2, .int l2), (4, .int l4)]) gc dX12_barOf_115 rfl rfl (by decide) rfl ?_
      refine hf_goto (tgt := 7) gc dX12_barOf_118 (by decide) ?_
      refine hf_sub (lv' := [(0, .ref (ad 0)), (1, .int l1), (2, .int l2), (3, .int (l3 + (1 : Int32)))]) [1, 2, 3, 0] rfl ?_
      exact hk7 _ _ _ _
    · refine hf_aload_n (i := 0) (q := 0) gc dX12_barOf_67 rfl rfl ?_
      refine hf_getR (j := 0) (k := 25) (r := 17) g rfl rfl kF_RX12_60 dX12_barOf_68 ?_
      refine hf_iload (i := 4) (q := 4) gc dX12_barOf_71 rfl ?_
      refine hf_iald (a := 16) (r := 17) (n := 20) g rfl rfl dX12_barOf_73 ?_
      refine hf_aload_n (i := 0) (q := 0) gc dX12_barOf_74 rfl rfl ?_
      refine hf_getR (j := 0) (k := 6) (r := 5) g rfl rfl kF_RX12_23 dX12_barOf_75 ?_
      refine hf_iload_n (i := 1) (q := 1) gc dX12_barOf_78 rfl rfl ?_
      refine hf_zald (a := 4) (r := 5) (n := 7) g rfl rfl dX12_barOf_79 ?_
      refine hf_if_eq (tgt := 87) gc dX12_barOf_80 (by decide) ?_ ?_
      · refine hf_iconst (v := 0) gc dX12_barOf_87 (by decide) ?_
        exact xm_md_barOf_b88 g hk7 (fun z0 z1 z2 z3 z4 => ih z0 z1 z2 z3 z4) _ _ _ _ _ _ _
      · refine hf_iconst (v := 1) gc dX12_barOf_83 (by decide) ?_
        refine hf_goto (tgt := 88) gc dX12_barOf_84 (by decide) ?_
        exact xm_md_barOf_b88 g hk7 (fun z0 z1 z2 z3 z4 => ih z0 z1 z2 z3 z4) _ _ _ _ _ _ _
set_option maxHeartbeats 2000000 in
set_option maxRecDepth 20000 in
theorem xm_md_barOf_b44 {x : hf_Cx} {ad : Nat → Nat} {cA : Nat → ClassId} {E : State → Prop} {A : Nat → Prop} {l0 : Launch} {D0 : va_G} {k7 : hf_St → Int32 → Int32 → Int32 → Option (Int32 × hf_St)} (g : hf_G x hmT ad cA E A l0 D0 cX12_barOf 5 RX12 (some .int) 3) (hk7 : ∀ (s : hf_St) (l1 : Int32) (l2 : Int32) (l3 : Int32), hf_X x A 5 (0, 0) (hf_Q x hmT ad cA A hf_ri) (k7 s l1 l2 l3) (hf_wd hmT ad cA s) 7 [(0, .ref (ad 0)), (1, .int l1), (2, .int l2), (3, .int l3)] []) (s : hf_St) (l1 : Int32) (l2 : Int32) (l3 : Int32) : hf_X x A 5 (0, 0) (hf_Q x hmT ad cA A hf_ri) (Fm_md_barOf_b44 k7 s l1 l2 l3) (hf_wd hmT ad cA s) 44 [(0, .ref (ad 0)), (1, .int l1), (2, .int l2), (3, .int l3)] [] := by
  have gc := g.1
  unfold Fm_md_barOf_b44
  refine hf_aload_n (i := 0) (q := 0) gc dX12_barOf_44 rfl rfl ?_
  refine hf_iload_n (i := 2) (q := 2) gc dX12_barOf_45 rfl rfl ?_
  refine hf_iload_n (i := 3) (q := 3) gc dX12_barOf_46 rfl rfl ?_
  refine hf_callV1 (j := 0) g (cm_md_until (a1 := l2) (a2 := l3)) kV_RX12_233 (by decide) (by decide) rfl rfl rfl rfl (Nat.le_of_ble_eq_true rfl) dX12_barOf_47 (fun v1 => ?_)
  refine hf_if_ge (tgt := 55) gc dX12_barOf_50 (by decide) ?_ ?_
  · refine hf_iconst (v := 0) gc dX12_barOf_55 (by decide) ?_
    refine hf_istore (i := 4) (lv' := [(4, .int ((0 : Int32))), (0, .ref (ad 0)), (1, .int l1), (2, .int l2), (3, .int l3)]) gc dX12_barOf_56 (by decide) rfl ?_
    refine hf_sub (lv' := [(0, .ref (ad 0)), (1, .int l1), (2, .int l2), (3, .int l3), (4, .int ((0 : Int32)))]) [1, 2, 3, 4, 0] rfl ?_
    exact xm_md_barOf_l58 g hk7 hf_fuel _ _ _ _ _
  · refine hf_iconst (v := 2) gc dX12_barOf_53 (by decide) ?_
    exact hf_iret g dX12_barOf_54 rfl
set_option maxHeartbeats 2000000 in
set_option maxRecDepth 20000 in
theorem xm_md_barOf_l7 {x : hf_Cx} {ad : Nat → Nat} {cA : Nat → ClassId} {E : State → Prop} {A : Nat → Prop} {l0 : Launch} {D0 : va_G} (g : hf_G x hmT ad cA E A l0 D0 cX12_barOf 5 RX12 (some .int) 3) : ∀ (n : Nat) (s : hf_St) (l1 : Int32) (l2 : Int32) (l3 : Int32), hf_X x A 5 (0, 0) (hf_Q x hmT ad cA A hf_ri) (Fm_md_barOf_l7 n s l1 l2 l3) (hf_wd hmT ad cA s) 7 [(0, .ref (ad 0)), (1, .int l1), (2, .int l2), (3, .int l3)] [] := by
  have gc := g.1
  intro n
  induction n with
  | zero => intro s l1 l2 l3; exact hf_none
  | succ n ih =>
    intro s l1 l2 l3
    rw [Fm_md_barOf_l7]
    refine hf_iload_n (i := 3) (q := 3) gc dX12_barOf_7 rfl rfl ?_
    refine hf_aload_n (i := 0) (q := 0) gc dX12_barOf_8 rfl rfl ?_
    refine hf_getR (j := 0) (k := 5) (r := 4) g rfl rfl kF_RX12_20 dX12_barOf_9 ?_
    refine hf_iload_n (i := 1) (q := 1) gc dX12_barOf_12 rfl rfl ?_
    refine hf_iald (a := 3) (r := 4) (n := 7) g rfl rfl dX12_barOf_13 ?_
    refine hf_icmp_gt (tgt := 121) gc dX12_barOf_14 (by decide) ?_ ?_
    · refine hf_aload_n (i := 0) (q := 0) gc dX12_barOf_121 rfl rfl ?_
      refine hf_iconst (v := -1) gc dX12_barOf_122 (by decide) ?_
      refine hf_putI (j := 0) (k := 45) g rfl rfl kP_RX12_230 rfl rfl dX12_barOf_123 (fun s1 => ?_)
      refine hf_iconst (v := 0) gc dX12_barOf_126 (by decide) ?_
      exact hf_iret g dX12_barOf_127 rfl
    · refine hf_aload_n (i := 0) (q := 0) gc dX12_barOf_17 rfl rfl ?_
      refine hf_iload_n (i := 3) (q := 3) gc dX12_barOf_18 rfl rfl ?_
      refine hf_putI (j := 0) (k := 45) g rfl rfl kP_RX12_230 rfl rfl dX12_barOf_19 (fun s2 => ?_)
      refine hf_aload_n (i := 0) (q := 0) gc dX12_barOf_22 rfl rfl ?_
      refine hf_getR (j := 0) (k := 9) (r := 7) g rfl rfl kF_RX12_29 dX12_barOf_23 ?_
      refine hf_iload_n (i := 2) (q := 2) gc dX12_barOf_26 rfl rfl ?_
      refine hf_iald (a := 6) (r := 7) (n := 5) g rfl rfl dX12_barOf_27 ?_
      refine hf_iconst (v := -1) gc dX12_barOf_28 (by decide) ?_
      refine hf_icmp_eq (tgt := 44) gc dX12_barOf_29 (by decide) ?_ ?_
      · exact xm_md_barOf_b44 g (fun z0 z1 z2 z3 => ih z0 z1 z2 z3) _ _ _ _
      · refine hf_aload_n (i := 0) (q := 0) gc dX12_barOf_32 rfl rfl ?_
        refine hf_getR (j := 0) (k := 9) (r := 7) g rfl rfl kF_RX12_29 dX12_barOf_33 ?_
        refine hf_iload_n (i := 2) (q := 2) gc dX12_barOf_36 rfl rfl ?_
        refine hf_iald (a := 6) (r := 7) (n := 5) g rfl rfl dX12_barOf_37 ?_
        refine hf_iload_n (i := 3) (q := 3) gc dX12_barOf_38 rfl rfl ?_
        refine hf_icmp_gt (tgt := 44) gc dX12_barOf_39 (by decide) ?_ ?_
        · exact xm_md_barOf_b44 g (fun z0 z1 z2 z3 => ih z0 z1 z2 z3) _ _ _ _
        · refine hf_iconst (v := 1) gc dX12_barOf_42 (by decide) ?_
          exact hf_iret g dX12_barOf_43 rfl
set_option maxHeartbeats 2000000 in
set_option maxRecDepth 20000 in
theorem xm_md_barOf {x : hf_Cx} {ad : Nat → Nat} {cA : Nat → ClassId} {E : State → Prop} {A : Nat → Prop} {l0 : Launch} {D0 : va_G} (g : hf_G x hmT ad cA E A l0 D0 cX12_barOf 5 RX12 (some .int) 3) {s : hf_St} {a1 : Int32} {a2 : Int32} : hf_X x A 5 (0, 0) (hf_Q x hmT ad cA A hf_ri) (Fm_md_barOf s a1 a2) (hf_wd hmT ad cA s) 0 [(0, .ref (ad 0)), (1, .int a1), (2, .int a2)] [] := by
  have gc := g.1
  unfold Fm_md_barOf
  refine hf_aload_n (i := 0) (q := 0) gc dX12_barOf_0 rfl rfl ?_
  refine hf_getR (j := 0) (k := 4) (r := 3) g rfl rfl kF_RX12_17 dX12_barOf_1 ?_
  refine hf_iload_n (i := 1) (q := 1) gc dX12_barOf_4 rfl rfl ?_
  refine hf_iald (a := 2) (r := 3) (n := 7) g rfl rfl dX12_barOf_5 ?_
  refine hf_let (fun v1 => ?_)
  refine hf_istore_n (i := 3) (lv' := [(3, .int v1), (0, .ref (ad 0)), (1, .int a1), (2, .int a2)]) gc dX12_barOf_6 rfl (by decide) rfl ?_
  refine hf_sub (lv' := [(0, .ref (ad 0)), (1, .int a1), (2, .int a2), (3, .int v1)]) [1, 2, 3, 0] rfl ?_
  exact xm_md_barOf_l7 g hf_fuel _ _ _ _
theorem cm_md_barOf {l0 : Launch} {D0 : va_G} {ad : Nat → Nat} {cA : Nat → ClassId} {E : State → Prop} {s : hf_St} {a1 : Int32} {a2 : Int32} : hf_Ct l0 D0 hmT ad cA E 3 yX12_barOf cX12_barOf 5 (some .int) [.ref (ad 0), .int a1, .int a2] s (Fm_md_barOf s a1 a2) hf_ri := hf_met (by decide) (Nat.le_of_ble_eq_true rfl) (fun _ _ g => xm_md_barOf g)
set_option maxHeartbeats 2000000 in
set_option maxRecDepth 20000 in
theorem xm_md_bars {x : hf_Cx} {ad : Nat → Nat} {cA : Nat → ClassId} {E : State → Prop} {A : Nat → Prop} {l0 : Launch} {D0 : va_G} (g : hf_G x hmT ad cA E A l0 D0 cX12_bars 3 RX12 (some .int) 4) {s : hf_St} {a1 : Int32} {a2 : Int32} : hf_X x A 3 (0, 0) (hf_Q x hmT ad cA A hf_ri) (Fm_md_bars s a1 a2) (hf_wd hmT ad cA s) 0 [(0, .ref (ad 0)), (1, .int a1), (2, .int a2)] [] := by
  have gc := g.1
  unfold Fm_md_bars
  refine hf_aload_n (i := 0) (q := 0) gc dX12_bars_0 rfl rfl ?_
  refine hf_iload_n (i := 1) (q := 1) gc dX12_bars_1 rfl rfl ?_
  refine hf_callV1 (j := 0) g (cm_md_isChild (a1 := a1)) kV_RX12_144 (by decide) (by decide) rfl rfl rfl rfl (Nat.le_of_ble_eq_true rfl) dX12_bars_2 (fun v1 => ?_)
  refine hf_if_eq (tgt := 34) gc dX12_bars_5 (by decide) ?_ ?_
  · refine hf_iconst (v := -1) gc dX12_bars_34 (by decide) ?_
    exact hf_iret g dX12_bars_35 rfl
  · refine hf_aload_n (i := 0) (q := 0) gc dX12_bars_8 rfl rfl ?_
    refine hf_iload_n (i := 2) (q := 2) gc dX12_bars_9 rfl rfl ?_
    refine hf_callV1 (j := 0) g (cm_md_isHome (a1 := a2)) kV_RX12_140 (by decide) (by decide) rfl rfl rfl rfl (Nat.le_of_ble_eq_true rfl) dX12_bars_10 (fun v2 => ?_)
    refine hf_if_eq (tgt := 34) gc dX12_bars_13 (by decide) ?_ ?_
    · refine hf_iconst (v := -1) gc dX12_bars_34 (by decide) ?_
      exact hf_iret g dX12_bars_35 rfl
    · refine hf_aload_n (i := 0) (q := 0) gc dX12_bars_16 rfl rfl ?_
      refine hf_getR (j := 0) (k := 3) (r := 2) g rfl rfl kF_RX12_13 dX12_bars_17 ?_
      refine hf_iload_n (i := 1) (q := 1) gc dX12_bars_20 rfl rfl ?_
      refine hf_zald (a := 1) (r := 2) (n := 7) g rfl rfl dX12_bars_21 ?_
      refine hf_if_eq (tgt := 34) gc dX12_bars_22 (by decide) ?_ ?_
      · refine hf_iconst (v := -1) gc dX12_bars_34 (by decide) ?_
        exact hf_iret g dX12_bars_35 rfl
      · refine hf_aload_n (i := 0) (q := 0) gc dX12_bars_25 rfl rfl ?_
        refine hf_iload_n (i := 1) (q := 1) gc dX12_bars_26 rfl rfl ?_
        refine hf_iload_n (i := 2) (q := 2) gc dX12_bars_27 rfl rfl ?_
        refine hf_callV2 (j := 0) g (cm_md_barOf (a1 := a1) (a2 := a2)) kV_RX12_240 (by decide) (by decide) rfl rfl rfl rfl (Nat.le_of_ble_eq_true rfl) dX12_bars_28 (fun v3 s4 => ?_)
        refine hf_goto (tgt := 35) gc dX12_bars_31 (by decide) ?_
        exact hf_iret g dX12_bars_35 rfl
theorem cm_md_bars {l0 : Launch} {D0 : va_G} {ad : Nat → Nat} {cA : Nat → ClassId} {E : State → Prop} {s : hf_St} {a1 : Int32} {a2 : Int32} : hf_Ct l0 D0 hmT ad cA E 4 yX12_bars cX12_bars 3 (some .int) [.ref (ad 0), .int a1, .int a2] s (Fm_md_bars s a1 a2) hf_ri := hf_met (by decide) (Nat.le_of_ble_eq_true rfl) (fun _ _ g => xm_md_bars g)
set_option maxHeartbeats 2000000 in
set_option maxRecDepth 20000 in
theorem xm_md_barred {x : hf_Cx} {ad : Nat → Nat} {cA : Nat → ClassId} {E : State → Prop} {A : Nat → Prop} {l0 : Launch} {D0 : va_G} (g : hf_G x hmT ad cA E A l0 D0 cX12_barred 3 RX12 (some .int) 5) {s : hf_St} {a1 : Int32} {a2 : Int32} : hf_X x A 3 (0, 0) (hf_Q x hmT ad cA A hf_ri) (Fm_md_barred s a1 a2) (hf_wd hmT ad cA s) 0 [(0, .ref (ad 0)), (1, .int a1), (2, .int a2)] [] := by
  have gc := g.1
  unfold Fm_md_barred
  refine hf_aload_n (i := 0) (q := 0) gc dX12_barred_0 rfl rfl ?_
  refine hf_iload_n (i := 1) (q := 1) gc dX12_barred_1 rfl rfl ?_
  refine hf_iload_n (i := 2) (q := 2) gc dX12_barred_2 rfl rfl ?_
  refine hf_callV2 (j := 0) g (cm_md_bars (a1 := a1) (a2 := a2)) kV_RX12_243 (by decide) (by decide) rfl rfl rfl rfl (Nat.le_of_ble_eq_true rfl) dX12_barred_3 (fun v1 s2 => ?_)
  refine hf_if_le (tgt := 16) gc dX12_barred_6 (by decide) ?_ ?_
  · refine hf_iconst (v := -1) gc dX12_barred_16 (by decide) ?_
    exact hf_iret g dX12_barred_17 rfl
  · refine hf_aload_n (i := 0) (q := 0) gc dX12_barred_9 rfl rfl ?_
    refine hf_getI (j := 0) (k := 45) g rfl rfl kF_RX12_230 dX12_barred_10 ?_
    refine hf_goto (tgt := 17) gc dX12_barred_13 (by decide) ?_
    exact hf_iret g dX12_barred_17 rfl
theorem cm_md_barred {l0 : Launch} {D0 : va_G} {ad : Nat → Nat} {cA : Nat → ClassId} {E : State → Prop} {s : hf_St} {a1 : Int32} {a2 : Int32} : hf_Ct l0 D0 hmT ad cA E 5 yX12_barred cX12_barred 3 (some .int) [.ref (ad 0), .int a1, .int a2] s (Fm_md_barred s a1 a2) hf_ri := hf_met (by decide) (Nat.le_of_ble_eq_true rfl) (fun _ _ g => xm_md_barred g)
set_option maxHeartbeats 2000000 in
set_option maxRecDepth 20000 in
theorem xm_md_wishOf_l5 {x : hf_Cx} {ad : Nat → Nat} {cA : Nat → ClassId} {E : State → Prop} {A : Nat → Prop} {l0 : Launch} {D0 : va_G} {s : hf_St} (g : hf_G x hmT ad cA E A l0 D0 cX12_wishOf 5 RX12 (some .int) 3) : ∀ (n : Nat) (l1 : Int32) (l2 : Int32) (l3 : Int32) (l4 : Int32), hf_X x A 5 (0, 0) (hf_Q x hmT ad cA A (hf_rp s)) (Fm_md_wishOf_l5 s n l1 l2 l3 l4) (hf_wd hmT ad cA s) 5 [(0, .ref (ad 0)), (1, .int l1), (2, .int l2), (3, .int l3), (4, .int l4)] [] := by
  have gc := g.1
  intro n
  induction n with
  | zero => intro l1 l2 l3 l4; exact hf_none
  | succ n ih =>
    intro l1 l2 l3 l4
    rw [Fm_md_wishOf_l5]
    refine hf_iload (i := 4) (q := 4) gc dX12_wishOf_5 rfl ?_
    refine hf_aload_n (i := 0) (q := 0) gc dX12_wishOf_7 rfl rfl ?_
    refine hf_getI (j := 0) (k := 24) g rfl rfl kF_RX12_223 dX12_wishOf_8 ?_
    refine hf_icmp_ge (tgt := 58) gc dX12_wishOf_11 (by decide) ?_ ?_
    · refine hf_iload_n (i := 3) (q := 3) gc dX12_wishOf_58 rfl rfl ?_
      exact hf_iret g dX12_wishOf_59 rfl
    · refine hf_aload_n (i := 0) (q := 0) gc dX12_wishOf_14 rfl rfl ?_
      refine hf_getR (j := 0) (k := 25) (r := 17) g rfl rfl kF_RX12_60 dX12_wishOf_15 ?_
      refine hf_iload (i := 4) (q := 4) gc dX12_wishOf_18 rfl ?_
      refine hf_iald (a := 16) (r := 17) (n := 20) g rfl rfl dX12_wishOf_20 ?_
      refine hf_iconst (v := 2) gc dX12_wishOf_21 (by decide) ?_
      refine hf_icmp_ne (tgt := 52) gc dX12_wishOf_22 (by decide) ?_ ?_
      · refine hf_iinc (q := 4) (v' := l4 + (1 : Int32)) (lv' := [(4, .int (l4 + (1 : Int32))), (0, .ref (ad 0)), (1, .int l1), (2, .int l2), (3, .int l3)]) gc dX12_wishOf_52 rfl rfl (by decide) rfl ?_
        refine hf_goto (tgt := 5) gc dX12_wishOf_55 (by decide) ?_
        refine hf_sub (lv' := [(0, .ref (ad 0)), (1, .int l1), (2, .int l2), (3, .int l3), (4, .int (l4 + (1 : Int32)))]) [1, 2, 3, 4, 0] rfl ?_
        exact ih _ _ _ _
      · refine hf_aload_n (i := 0) (q := 0) gc dX12_wishOf_25 rfl rfl ?_
        refine hf_iload (i := 4) (q := 4) gc dX12_wishOf_26 rfl ?_
        refine hf_iload_n (i := 1) (q := 1) gc dX12_wishOf_28 rfl rfl ?_
        refine hf_iload_n (i := 2) (q := 2) gc dX12_wishOf_29 rfl rfl ?_
        refine hf_aload_n (i := 0) (q := 0) gc dX12_wishOf_30 rfl rfl ?_
        refine hf_getR (j := 0) (k := 4) (r := 3) g rfl rfl kF_RX12_17 dX12_wishOf_31 ?_
        refine hf_iload_n (i := 1) (q := 1) gc dX12_wishOf_34 rfl rfl ?_
        refine hf_iald (a := 2) (r := 3) (n := 7) g rfl rfl dX12_wishOf_35 ?_
        refine hf_callV1 (j := 0) g (cm_md_isSo (a1 := l4) (a2 := l1) (a3 := l2) (a4 := s.2 2 l1.toNatClampNeg)) kV_RX12_237 (by decide) (by decide) rfl rfl rfl rfl (Nat.le_of_ble_eq_true rfl) dX12_wishOf_36 (fun v1 => ?_)
        refine hf_if_eq (tgt := 52) gc dX12_wishOf_39 (by decide) ?_ ?_
        · refine hf_iinc (q := 4) (v' := l4 + (1 : Int32)) (lv' := [(4, .int (l4 + (1 : Int32))), (0, .ref (ad 0)), (1, .int l1), (2, .int l2), (3, .int l3)]) gc dX12_wishOf_52 rfl rfl (by decide) rfl ?_
          refine hf_goto (tgt := 5) gc dX12_wishOf_55 (by decide) ?_
          refine hf_sub (lv' := [(0, .ref (ad 0)), (1, .int l1), (2, .int l2), (3, .int l3), (4, .int (l4 + (1 : Int32)))]) [1, 2, 3, 4, 0] rfl ?_
          exact ih _ _ _ _
        · refine hf_iload_n (i := 3) (q := 3) gc dX12_wishOf_42 rfl rfl ?_
          refine hf_aload_n (i := 0) (q := 0) gc dX12_wishOf_43 rfl rfl ?_
          refine hf_getR (j := 0) (k := 26) (r := 18) g rfl rfl kF_RX12_63 dX12_wishOf_44 ?_
          refine hf_iload (i := 4) (q := 4) gc dX12_wishOf_47 rfl ?_
          refine hf_iald (a := 17) (r := 18) (n := 20) g rfl rfl dX12_wishOf_49 ?_
          refine hf_iadd gc dX12_wishOf_50 ?_
          refine hf_let (fun v2 => ?_)
          refine hf_istore_n (i := 3) (lv' := [(3, .int v2), (0, .ref (ad 0)), (1, .int l1), (2, .int l2), (4, .int l4)]) gc dX12_wishOf_51 rfl (by decide) rfl ?_
          refine hf_iinc (q := 4) (v' := l4 + (1 : Int32)) (lv' := [(4, .int (l4 + (1 : Int32))), (3, .int v2), (0, .ref (ad 0)), (1, .int l1), (2, .int l2)]) gc dX12_wishOf_52 rfl rfl (by decide) rfl ?_
          refine hf_goto (tgt := 5) gc dX12_wishOf_55 (by decide) ?_
          refine hf_sub (lv' := [(0, .ref (ad 0)), (1, .int l1), (2, .int l2), (3, .int v2), (4, .int (l4 + (1 : Int32)))]) [2, 3, 4, 1, 0] rfl ?_
          exact ih _ _ _ _
set_option maxHeartbeats 2000000 in
set_option maxRecDepth 20000 in
theorem xm_md_wishOf {x : hf_Cx} {ad : Nat → Nat} {cA : Nat → ClassId} {E : State → Prop} {A : Nat → Prop} {l0 : Launch} {D0 : va_G} (g : hf_G x hmT ad cA E A l0 D0 cX12_wishOf 5 RX12 (some .int) 3) {s : hf_St} {a1 : Int32} {a2 : Int32} : hf_X x A 5 (0, 0) (hf_Q x hmT ad cA A (hf_rp s)) (Fm_md_wishOf s a1 a2) (hf_wd hmT ad cA s) 0 [(0, .ref (ad 0)), (1, .int a1), (2, .int a2)] [] := by
  have gc := g.1
  unfold Fm_md_wishOf
  refine hf_iconst (v := 0) gc dX12_wishOf_0 (by decide) ?_
  refine hf_istore_n (i := 3) (lv' := [(3, .int ((0 : Int32))), (0, .ref (ad 0)), (1, .int a1), (2, .int a2)]) gc dX12_wishOf_1 rfl (by decide) rfl ?_
  refine hf_iconst (v := 0) gc dX12_wishOf_2 (by decide) ?_
  refine hf_istore (i := 4) (lv' := [(4, .int ((0 : Int32))), (3, .int ((0 : Int32))), (0, .ref (ad 0)), (1, .int a1), (2, .int a2)]) gc dX12_wishOf_3 (by decide) rfl ?_
  refine hf_sub (lv' := [(0, .ref (ad 0)), (1, .int a1), (2, .int a2), (3, .int ((0 : Int32))), (4, .int ((0 : Int32)))]) [2, 3, 4, 1, 0] rfl ?_
  exact xm_md_wishOf_l5 g hf_fuel _ _ _ _
theorem cm_md_wishOf {l0 : Launch} {D0 : va_G} {ad : Nat → Nat} {cA : Nat → ClassId} {E : State → Prop} {s : hf_St} {a1 : Int32} {a2 : Int32} : hf_Ct l0 D0 hmT ad cA E 3 yX12_wishOf cX12_wishOf 5 (some .int) [.ref (ad 0), .int a1, .int a2] s (Fm_md_wishOf s a1 a2) (hf_rp s) := hf_met (by decide) (Nat.le_of_ble_eq_true rfl) (fun _ _ g => xm_md_wishOf g)
set_option maxHeartbeats 2000000 in
set_option maxRecDepth 20000 in
theorem xm_md_wish {x : hf_Cx} {ad : Nat → Nat} {cA : Nat → ClassId} {E : State → Prop} {A : Nat → Prop} {l0 : Launch} {D0 : va_G} (g : hf_G x hmT ad cA E A l0 D0 cX12_wish 3 RX12 (some .int) 4) {s : hf_St} {a1 : Int32} {a2 : Int32} : hf_X x A 3 (0, 0) (hf_Q x hmT ad cA A (hf_rp s)) (Fm_md_wish s a1 a2) (hf_wd hmT ad cA s) 0 [(0, .ref (ad 0)), (1, .int a1), (2, .int a2)] [] := by
  have gc := g.1
  unfold Fm_md_wish
  refine hf_aload_n (i := 0) (q := 0) gc dX12_wish_0 rfl rfl ?_
  refine hf_iload_n (i := 1) (q := 1) gc dX12_wish_1 rfl rfl ?_
  refine hf_callV1 (j := 0) g (cm_md_isChild (a1 := a1)) kV_RX12_144 (by decide) (by decide) rfl rfl rfl rfl (Nat.le_of_ble_eq_true rfl) dX12_wish_2 (fun v1 => ?_)
  refine hf_if_eq (tgt := 34) gc dX12_wish_5 (by decide) ?_ ?_
  · refine hf_iconst (v := -1) gc dX12_wish_34 (by decide) ?_
    exact hf_iret g dX12_wish_35 rfl
  · refine hf_aload_n (i := 0) (q := 0) gc dX12_wish_8 rfl rfl ?_
    refine hf_iload_n (i := 2) (q := 2) gc dX12_wish_9 rfl rfl ?_
    refine hf_callV1 (j := 0) g (cm_md_isHome (a1 := a2)) kV_RX12_140 (by decide) (by decide) rfl rfl rfl rfl (Nat.le_of_ble_eq_true rfl) dX12_wish_10 (fun v2 => ?_)
    refine hf_if_eq (tgt := 34) gc dX12_wish_13 (by decide) ?_ ?_
    · refine hf_iconst (v := -1) gc dX12_wish_34 (by decide) ?_
      exact hf_iret g dX12_wish_35 rfl
    · refine hf_aload_n (i := 0) (q := 0) gc dX12_wish_16 rfl rfl ?_
      refine hf_getR (j := 0) (k := 3) (r := 2) g rfl rfl kF_RX12_13 dX12_wish_17 ?_
      refine hf_iload_n (i := 1) (q := 1) gc dX12_wish_20 rfl rfl ?_
      refine hf_zald (a := 1) (r := 2) (n := 7) g rfl rfl dX12_wish_21 ?_
      refine hf_if_eq (tgt := 34) gc dX12_wish_22 (by decide) ?_ ?_
      · refine hf_iconst (v := -1) gc dX12_wish_34 (by decide) ?_
        exact hf_iret g dX12_wish_35 rfl
      · refine hf_aload_n (i := 0) (q := 0) gc dX12_wish_25 rfl rfl ?_
        refine hf_iload_n (i := 1) (q := 1) gc dX12_wish_26 rfl rfl ?_
        refine hf_iload_n (i := 2) (q := 2) gc dX12_wish_27 rfl rfl ?_
        refine hf_callV1 (j := 0) g (cm_md_wishOf (a1 := a1) (a2 := a2)) kV_RX12_246 (by decide) (by decide) rfl rfl rfl rfl (Nat.le_of_ble_eq_true rfl) dX12_wish_28 (fun v3 => ?_)
        refine hf_goto (tgt := 35) gc dX12_wish_31 (by decide) ?_
        exact hf_iret g dX12_wish_35 rfl
theorem cm_md_wish {l0 : Launch} {D0 : va_G} {ad : Nat → Nat} {cA : Nat → ClassId} {E : State → Prop} {s : hf_St} {a1 : Int32} {a2 : Int32} : hf_Ct l0 D0 hmT ad cA E 4 yX12_wish cX12_wish 3 (some .int) [.ref (ad 0), .int a1, .int a2] s (Fm_md_wish s a1 a2) (hf_rp s) := hf_met (by decide) (Nat.le_of_ble_eq_true rfl) (fun _ _ g => xm_md_wish g)
