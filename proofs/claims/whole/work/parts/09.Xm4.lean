set_option maxHeartbeats 2000000 in
set_option maxRecDepth 20000 in
theorem xm_md_parted_l26 {x : hf_Cx} {ad : Nat → Nat} {cA : Nat → ClassId} {E : State → Prop} {A : Nat → Prop} {l0 : Launch} {D0 : va_G} {s : hf_St} {k4 : Int32 → Int32 → Option Int32} {k14 : Int32 → Int32 → Int32 → Int32 → Option Int32} (g : hf_G x hmT ad cA E A l0 D0 cX12_parted 6 RX12 (some .int) 0) (hk4 : ∀ (l1 : Int32) (l2 : Int32), hf_X x A 6 (0, 0) (hf_Q x hmT ad cA A (hf_rp s)) (k4 l1 l2) (hf_wd hmT ad cA s) 4 [(0, .ref (ad 0)), (1, .int l1), (2, .int l2)] []) (hk14 : ∀ (l1 : Int32) (l2 : Int32) (l3 : Int32) (l4 : Int32), hf_X x A 6 (0, 0) (hf_Q x hmT ad cA A (hf_rp s)) (k14 l1 l2 l3 l4) (hf_wd hmT ad cA s) 14 [(0, .ref (ad 0)), (1, .int l1), (2, .int l2), (3, .int l3), (4, .int l4)] []) : ∀ (n : Nat) (l1 : Int32) (l2 : Int32) (l3 : Int32) (l4 : Int32) (l5 : Int32), hf_X x A 6 (0, 0) (hf_Q x hmT ad cA A (hf_rp s)) (Fm_md_parted_l26 s k4 k14 n l1 l2 l3 l4 l5) (hf_wd hmT ad cA s) 26 [(0, .ref (ad 0)), (1, .int l1), (2, .int l2), (3, .int l3), (4, .int l4), (5, .int l5)] [] := by
  have gc := g.1
  intro n
  induction n with
  | zero => intro l1 l2 l3 l4 l5; exact hf_none
  | succ n ih =>
    intro l1 l2 l3 l4 l5
    rw [Fm_md_parted_l26]
    refine hf_iload (i := 5) (q := 5) gc dX12_parted_26 rfl ?_
    refine hf_iload (i := 4) (q := 4) gc dX12_parted_28 rfl ?_
    refine hf_icmp_ge (tgt := 116) gc dX12_parted_30 (by decide) ?_ ?_
    · refine hf_iinc (q := 4) (v' := l4 + (1 : Int32)) (lv' := [(4, .int (l4 + (1 : Int32))), (0, .ref (ad 0)), (1, .int l1), (2, .int l2), (3, .int l3), (5, .int l5)]) gc dX12_parted_116 rfl rfl (by decide) rfl ?_
      refine hf_goto (tgt := 14) gc dX12_parted_119 (by decide) ?_
      refine hf_sub (lv' := [(0, .ref (ad 0)), (1, .int l1), (2, .int l2), (3, .int l3), (4, .int (l4 + (1 : Int32)))]) [1, 2, 3, 4, 0] rfl ?_
      exact hk14 _ _ _ _
    · refine hf_iload_n (i := 3) (q := 3) gc dX12_parted_33 rfl rfl ?_
      refine hf_if_ne (tgt := 104) gc dX12_parted_34 (by decide) ?_ ?_
      · refine hf_iconst (v := 1) gc dX12_parted_104 (by decide) ?_
        refine hf_goto (tgt := 109) gc dX12_parted_105 (by decide) ?_
        refine hf_istore_n (i := 3) (lv' := [(3, .int ((1 : Int32))), (0, .ref (ad 0)), (1, .int l1), (2, .int l2), (4, .int l4), (5, .int l5)]) gc dX12_parted_109 rfl (by decide) rfl ?_
        refine hf_iinc (q := 5) (v' := l5 + (1 : Int32)) (lv' := [(5, .int (l5 + (1 : Int32))), (3, .int ((1 : Int32))), (0, .ref (ad 0)), (1, .int l1), (2, .int l2), (4, .int l4)]) gc dX12_parted_110 rfl rfl (by decide) rfl ?_
        refine hf_goto (tgt := 26) gc dX12_parted_113 (by decide) ?_
        refine hf_sub (lv' := [(0, .ref (ad 0)), (1, .int l1), (2, .int l2), (3, .int ((1 : Int32))), (4, .int l4), (5, .int (l5 + (1 : Int32)))]) [2, 3, 4, 1, 5, 0] rfl ?_
        exact ih _ _ _ _ _
      · refine hf_aload_n (i := 0) (q := 0) gc dX12_parted_37 rfl rfl ?_
        refine hf_getR (j := 0) (k := 2) (r := 1) g rfl rfl kF_RX12_7 dX12_parted_38 ?_
        refine hf_iload (i := 4) (q := 4) gc dX12_parted_41 rfl ?_
        refine hf_iald (a := 0) (r := 1) (n := 7) g rfl rfl dX12_parted_43 ?_
        refine hf_iload_n (i := 2) (q := 2) gc dX12_parted_44 rfl rfl ?_
        refine hf_icmp_ne (tgt := 108) gc dX12_parted_45 (by decide) ?_ ?_
        · refine hf_iconst (v := 0) gc dX12_parted_108 (by decide) ?_
          refine hf_istore_n (i := 3) (lv' := [(3, .int ((0 : Int32))), (0, .ref (ad 0)), (1, .int l1), (2, .int l2), (4, .int l4), (5, .int l5)]) gc dX12_parted_109 rfl (by decide) rfl ?_
          refine hf_iinc (q := 5) (v' := l5 + (1 : Int32)) (lv' := [(5, .int (l5 + (1 : Int32))), (3, .int ((0 : Int32))), (0, .ref (ad 0)), (1, .int l1), (2, .int l2), (4, .int l4)]) gc dX12_parted_110 rfl rfl (by decide) rfl ?_
          refine hf_goto (tgt := 26) gc dX12_parted_113 (by decide) ?_
          refine hf_sub (lv' := [(0, .ref (ad 0)), (1, .int l1), (2, .int l2), (3, .int ((0 : Int32))), (4, .int l4), (5, .int (l5 + (1 : Int32)))]) [2, 3, 4, 1, 5, 0] rfl ?_
          exact ih _ _ _ _ _
        · refine hf_aload_n (i := 0) (q := 0) gc dX12_parted_48 rfl rfl ?_
          refine hf_getR (j := 0) (k := 2) (r := 1) g rfl rfl kF_RX12_7 dX12_parted_49 ?_
          refine hf_iload (i := 5) (q := 5) gc dX12_parted_52 rfl ?_
          refine hf_iald (a := 0) (r := 1) (n := 7) g rfl rfl dX12_parted_54 ?_
          refine hf_iload_n (i := 2) (q := 2) gc dX12_parted_55 rfl rfl ?_
          refine hf_icmp_ne (tgt := 108) gc dX12_parted_56 (by decide) ?_ ?_
          · refine hf_iconst (v := 0) gc dX12_parted_108 (by decide) ?_
            refine hf_istore_n (i := 3) (lv' := [(3, .int ((0 : Int32))), (0, .ref (ad 0)), (1, .int l1), (2, .int l2), (4, .int l4), (5, .int l5)]) gc dX12_parted_109 rfl (by decide) rfl ?_
            refine hf_iinc (q := 5) (v' := l5 + (1 : Int32)) (lv' := [(5, .int (l5 + (1 : Int32))), (3, .int ((0 : Int32))), (0, .ref (ad 0)), (1, .int l1), (2, .int l2), (4, .int l4)]) gc dX12_parted_110 rfl rfl (by decide) rfl ?_
            refine hf_goto (tgt := 26) gc dX12_parted_113 (by decide) ?_
            refine hf_sub (lv' := [(0, .ref (ad 0)), (1, .int l1), (2, .int l2), (3, .int ((0 : Int32))), (4, .int l4), (5, .int (l5 + (1 : Int32)))]) [2, 3, 4, 1, 5, 0] rfl ?_
            exact ih _ _ _ _ _
          · refine hf_aload_n (i := 0) (q := 0) gc dX12_parted_59 rfl rfl ?_
            refine hf_getR (j := 0) (k := 47) (r := 34) g rfl rfl kF_RX12_111 dX12_parted_60 ?_
            refine hf_iload (i := 4) (q := 4) gc dX12_parted_63 rfl ?_
            refine hf_iald (a := 33) (r := 34) (n := 7) g rfl rfl dX12_parted_65 ?_
            refine hf_aload_n (i := 0) (q := 0) gc dX12_parted_66 rfl rfl ?_
            refine hf_getI (j := 0) (k := 7) g rfl rfl kF_RX12_134 dX12_parted_67 ?_
            refine hf_icmp_ge (tgt := 108) gc dX12_parted_70 (by decide) ?_ ?_
            · refine hf_iconst (v := 0) gc dX12_parted_108 (by decide) ?_
              refine hf_istore_n (i := 3) (lv' := [(3, .int ((0 : Int32))), (0, .ref (ad 0)), (1, .int l1), (2, .int l2), (4, .int l4), (5, .int l5)]) gc dX12_parted_109 rfl (by decide) rfl ?_
              refine hf_iinc (q := 5) (v' := l5 + (1 : Int32)) (lv' := [(5, .int (l5 + (1 : Int32))), (3, .int ((0 : Int32))), (0, .ref (ad 0)), (1, .int l1), (2, .int l2), (4, .int l4)]) gc dX12_parted_110 rfl rfl (by decide) rfl ?_
              refine hf_goto (tgt := 26) gc dX12_parted_113 (by decide) ?_
              refine hf_sub (lv' := [(0, .ref (ad 0)), (1, .int l1), (2, .int l2), (3, .int ((0 : Int32))), (4, .int l4), (5, .int (l5 + (1 : Int32)))]) [2, 3, 4, 1, 5, 0] rfl ?_
              exact ih _ _ _ _ _
            · refine hf_aload_n (i := 0) (q := 0) gc dX12_parted_73 rfl rfl ?_
              refine hf_getR (j := 0) (k := 47) (r := 34) g rfl rfl kF_RX12_111 dX12_parted_74 ?_
              refine hf_iload (i := 5) (q := 5) gc dX12_parted_77 rfl ?_
              refine hf_iald (a := 33) (r := 34) (n := 7) g rfl rfl dX12_parted_79 ?_
              refine hf_aload_n (i := 0) (q := 0) gc dX12_parted_80 rfl rfl ?_
              refine hf_getI (j := 0) (k := 7) g rfl rfl kF_RX12_134 dX12_parted_81 ?_
              refine hf_icmp_ge (tgt := 108) gc dX12_parted_84 (by decide) ?_ ?_
              · refine hf_iconst (v := 0) gc dX12_parted_108 (by decide) ?_
                refine hf_istore_n (i := 3) (lv' := [(3, .int ((0 : Int32))), (0, .ref (ad 0)), (1, .int l1), (2, .int l2), (4, .int l4), (5, .int l5)]) gc dX12_parted_109 rfl (by decide) rfl ?_
                refine hf_iinc (q := 5) (v' := l5 + (1 : Int32)) (lv' := [(5, .int (l5 + (1 : Int32))), (3, .int ((0 : Int32))), (0, .ref (ad 0)), (1, .int l1), (2, .int l2), (4, .int l4)]) gc dX12_parted_110 rfl rfl (by decide) rfl ?_
                refine hf_goto (tgt := 26) gc dX12_parted_113 (by decide) ?_
                refine hf_sub (lv' := [(0, .ref (ad 0)), (1, .int l1), (2, .int l2), (3, .int ((0 : Int32))), (4, .int l4), (5, .int (l5 + (1 : Int32)))]) [2, 3, 4, 1, 5, 0] rfl ?_
                exact ih _ _ _ _ _
              · refine hf_aload_n (i := 0) (q := 0) gc dX12_parted_87 rfl rfl ?_
                refine hf_getR (j := 0) (k := 47) (r := 34) g rfl rfl kF_RX12_111 dX12_parted_88 ?_
                refine hf_iload (i := 4) (q := 4) gc dX12_parted_91 rfl ?_
                refine hf_iald (a := 33) (r := 34) (n := 7) g rfl rfl dX12_parted_93 ?_
                refine hf_aload_n (i := 0) (q := 0) gc dX12_parted_94 rfl rfl ?_
                refine hf_getR (j := 0) (k := 47) (r := 34) g rfl rfl kF_RX12_111 dX12_parted_95 ?_
                refine hf_iload (i := 5) (q := 5) gc dX12_parted_98 rfl ?_
                refine hf_iald (a := 33) (r := 34) (n := 7) g rfl rfl dX12_parted_100 ?_
                refine hf_icmp_eq (tgt := 108) gc dX12_parted_101 (by decide) ?_ ?_
                · refine hf_iconst (v := 0) gc dX12_parted_108 (by decide) ?_
                  refine hf_istore_n (i := 3) (lv' := [(3, .int ((0 : Int32))), (0, .ref (ad 0)), (1, .int l1), (2, .int l2), (4, .int l4), (5, .int l5)]) gc dX12_parted_109 rfl (by decide) rfl ?_
                  refine hf_iinc (q := 5) (v' := l5 + (1 : Int32)) (lv' := [(5, .int (l5 + (1 : Int32))), (3, .int ((0 : Int32))), (0, .ref (ad 0)), (1, .int l1), (2, .int l2), (4, .int l4)]) gc dX12_parted_110 rfl rfl (by decide) rfl ?_
                  refine hf_goto (tgt := 26) gc dX12_parted_113 (by decide) ?_
                  refine hf_sub (lv' := [(0, .ref (ad 0)), (1, .int l1), (2, .int l2), (3, .int ((0 : Int32))), (4, .int l4), (5, .int (l5 + (1 : Int32)))]) [2, 3, 4, 1, 5, 0] rfl ?_
                  exact ih _ _ _ _ _
                · refine hf_iconst (v := 1) gc dX12_parted_104 (by decide) ?_
                  refine hf_goto (tgt := 109) gc dX12_parted_105 (by decide) ?_
                  refine hf_istore_n (i := 3) (lv' := [(3, .int ((1 : Int32))), (0, .ref (ad 0)), (1, .int l1), (2, .int l2), (4, .int l4), (5, .int l5)]) gc dX12_parted_109 rfl (by decide) rfl ?_
                  refine hf_iinc (q := 5) (v' := l5 + (1 : Int32)) (lv' := [(5, .int (l5 + (1 : Int32))), (3, .int ((1 : Int32))), (0, .ref (ad 0)), (1, .int l1), (2, .int l2), (4, .int l4)]) gc dX12_parted_110 rfl rfl (by decide) rfl ?_
                  refine hf_goto (tgt := 26) gc dX12_parted_113 (by decide) ?_
                  refine hf_sub (lv' := [(0, .ref (ad 0)), (1, .int l1), (2, .int l2), (3, .int ((1 : Int32))), (4, .int l4), (5, .int (l5 + (1 : Int32)))]) [2, 3, 4, 1, 5, 0] rfl ?_
                  exact ih _ _ _ _ _
set_option maxHeartbeats 2000000 in
set_option maxRecDepth 20000 in
theorem xm_md_parted_l14 {x : hf_Cx} {ad : Nat → Nat} {cA : Nat → ClassId} {E : State → Prop} {A : Nat → Prop} {l0 : Launch} {D0 : va_G} {s : hf_St} {k4 : Int32 → Int32 → Option Int32} (g : hf_G x hmT ad cA E A l0 D0 cX12_parted 6 RX12 (some .int) 0) (hk4 : ∀ (l1 : Int32) (l2 : Int32), hf_X x A 6 (0, 0) (hf_Q x hmT ad cA A (hf_rp s)) (k4 l1 l2) (hf_wd hmT ad cA s) 4 [(0, .ref (ad 0)), (1, .int l1), (2, .int l2)] []) : ∀ (n : Nat) (l1 : Int32) (l2 : Int32) (l3 : Int32) (l4 : Int32), hf_X x A 6 (0, 0) (hf_Q x hmT ad cA A (hf_rp s)) (Fm_md_parted_l14 s k4 n l1 l2 l3 l4) (hf_wd hmT ad cA s) 14 [(0, .ref (ad 0)), (1, .int l1), (2, .int l2), (3, .int l3), (4, .int l4)] [] := by
  have gc := g.1
  intro n
  induction n with
  | zero => intro l1 l2 l3 l4; exact hf_none
  | succ n ih =>
    intro l1 l2 l3 l4
    rw [Fm_md_parted_l14]
    refine hf_iload (i := 4) (q := 4) gc dX12_parted_14 rfl ?_
    refine hf_aload_n (i := 0) (q := 0) gc dX12_parted_16 rfl rfl ?_
    refine hf_getI (j := 0) (k := 1) g rfl rfl kF_RX12_131 dX12_parted_17 ?_
    refine hf_icmp_ge (tgt := 122) gc dX12_parted_20 (by decide) ?_ ?_
    · refine hf_iload_n (i := 1) (q := 1) gc dX12_parted_122 rfl rfl ?_
      refine hf_iload_n (i := 3) (q := 3) gc dX12_parted_123 rfl rfl ?_
      refine hf_if_eq (tgt := 131) gc dX12_parted_124 (by decide) ?_ ?_
      · refine hf_iconst (v := 0) gc dX12_parted_131 (by decide) ?_
        refine hf_iadd gc dX12_parted_132 ?_
        refine hf_let (fun v1 => ?_)
        refine hf_istore_n (i := 1) (lv' := [(1, .int v1), (0, .ref (ad 0)), (2, .int l2), (3, .int l3), (4, .int l4)]) gc dX12_parted_133 rfl (by decide) rfl ?_
        refine hf_iinc (q := 2) (v' := l2 + (1 : Int32)) (lv' := [(2, .int (l2 + (1 : Int32))), (1, .int v1), (0, .ref (ad 0)), (3, .int l3), (4, .int l4)]) gc dX12_parted_134 rfl rfl (by decide) rfl ?_
        refine hf_goto (tgt := 4) gc dX12_parted_137 (by decide) ?_
        refine hf_sub (lv' := [(0, .ref (ad 0)), (1, .int v1), (2, .int (l2 + (1 : Int32)))]) [2, 1, 0] rfl ?_
        exact hk4 _ _
      · refine hf_iconst (v := 1) gc dX12_parted_127 (by decide) ?_
        refine hf_goto (tgt := 132) gc dX12_parted_128 (by decide) ?_
        refine hf_iadd gc dX12_parted_132 ?_
        refine hf_let (fun v2 => ?_)
        refine hf_istore_n (i := 1) (lv' := [(1, .int v2), (0, .ref (ad 0)), (2, .int l2), (3, .int l3), (4, .int l4)]) gc dX12_parted_133 rfl (by decide) rfl ?_
        refine hf_iinc (q := 2) (v' := l2 + (1 : Int32)) (lv' := [(2, .int (l2 + (1 : Int32))), (1, .int v2), (0, .ref (ad 0)), (3, .int l3), (4, .int l4)]) gc dX12_parted_134 rfl rfl (by decide) rfl ?_
        refine hf_goto (tgt := 4) gc dX12_parted_137 (by decide) ?_
        refine hf_sub (lv' := [(0, .ref (ad 0)), (1, .int v2), (2, .int (l2 + (1 : Int32)))]) [2, 1, 0] rfl ?_
        exact hk4 _ _
    · refine hf_iconst (v := 0) gc dX12_parted_23 (by decide) ?_
      refine hf_istore (i := 5) (lv' := [(5, .int ((0 : Int32))), (0, .ref (ad 0)), (1, .int l1), (2, .int l2), (3, .int l3), (4, .int l4)]) gc dX12_parted_24 (by decide) rfl ?_
      refine hf_sub (lv' := [(0, .ref (ad 0)), (1, .int l1), (2, .int l2), (3, .int l3), (4, .int l4), (5, .int ((0 : Int32)))]) [1, 2, 3, 4, 5, 0] rfl ?_
      exact xm_md_parted_l26 g hk4 (fun z0 z1 z2 z3 => ih z0 z1 z2 z3) hf_fuel _ _ _ _ _
set_option maxHeartbeats 2000000 in
set_option maxRecDepth 20000 in
theorem xm_md_parted_l4 {x : hf_Cx} {ad : Nat → Nat} {cA : Nat → ClassId} {E : State → Prop} {A : Nat → Prop} {l0 : Launch} {D0 : va_G} {s : hf_St} (g : hf_G x hmT ad cA E A l0 D0 cX12_parted 6 RX12 (some .int) 0) : ∀ (n : Nat) (l1 : Int32) (l2 : Int32), hf_X x A 6 (0, 0) (hf_Q x hmT ad cA A (hf_rp s)) (Fm_md_parted_l4 s n l1 l2) (hf_wd hmT ad cA s) 4 [(0, .ref (ad 0)), (1, .int l1), (2, .int l2)] [] := by
  have gc := g.1
  intro n
  induction n with
  | zero => intro l1 l2; exact hf_none
  | succ n ih =>
    intro l1 l2
    rw [Fm_md_parted_l4]
    refine hf_iload_n (i := 2) (q := 2) gc dX12_parted_4 rfl rfl ?_
    refine hf_iconst (v := 4) gc dX12_parted_5 (by decide) ?_
    refine hf_icmp_ge (tgt := 140) gc dX12_parted_6 (by decide) ?_ ?_
    · refine hf_iload_n (i := 1) (q := 1) gc dX12_parted_140 rfl rfl ?_
      exact hf_iret g dX12_parted_141 rfl
    · refine hf_iconst (v := 0) gc dX12_parted_9 (by decide) ?_
      refine hf_istore_n (i := 3) (lv' := [(3, .int ((0 : Int32))), (0, .ref (ad 0)), (1, .int l1), (2, .int l2)]) gc dX12_parted_10 rfl (by decide) rfl ?_
      refine hf_iconst (v := 0) gc dX12_parted_11 (by decide) ?_
      refine hf_istore (i := 4) (lv' := [(4, .int ((0 : Int32))), (3, .int ((0 : Int32))), (0, .ref (ad 0)), (1, .int l1), (2, .int l2)]) gc dX12_parted_12 (by decide) rfl ?_
      refine hf_sub (lv' := [(0, .ref (ad 0)), (1, .int l1), (2, .int l2), (3, .int ((0 : Int32))), (4, .int ((0 : Int32)))]) [2, 3, 4, 1, 0] rfl ?_
      exact xm_md_parted_l14 g (fun z0 z1 => ih z0 z1) hf_fuel _ _ _ _
set_option maxHeartbeats 2000000 in
set_option maxRecDepth 20000 in
theorem xm_md_parted {x : hf_Cx} {ad : Nat → Nat} {cA : Nat → ClassId} {E : State → Prop} {A : Nat → Prop} {l0 : Launch} {D0 : va_G} (g : hf_G x hmT ad cA E A l0 D0 cX12_parted 6 RX12 (some .int) 0) {s : hf_St} : hf_X x A 6 (0, 0) (hf_Q x hmT ad cA A (hf_rp s)) (Fm_md_parted s) (hf_wd hmT ad cA s) 0 [(0, .ref (ad 0))] [] := by
  have gc := g.1
  unfold Fm_md_parted
  refine hf_iconst (v := 0) gc dX12_parted_0 (by decide) ?_
  refine hf_istore_n (i := 1) (lv' := [(1, .int ((0 : Int32))), (0, .ref (ad 0))]) gc dX12_parted_1 rfl (by decide) rfl ?_
  refine hf_iconst (v := 1) gc dX12_parted_2 (by decide) ?_
  refine hf_istore_n (i := 2) (lv' := [(2, .int ((1 : Int32))), (1, .int ((0 : Int32))), (0, .ref (ad 0))]) gc dX12_parted_3 rfl (by decide) rfl ?_
  refine hf_sub (lv' := [(0, .ref (ad 0)), (1, .int ((0 : Int32))), (2, .int ((1 : Int32)))]) [2, 1, 0] rfl ?_
  exact xm_md_parted_l4 g hf_fuel _ _
theorem cm_md_parted {l0 : Launch} {D0 : va_G} {ad : Nat → Nat} {cA : Nat → ClassId} {E : State → Prop} {s : hf_St} : hf_Ct l0 D0 hmT ad cA E 0 yX12_parted cX12_parted 6 (some .int) [.ref (ad 0)] s (Fm_md_parted s) (hf_rp s) := hf_met (by decide) (Nat.le_of_ble_eq_true rfl) (fun _ _ g => xm_md_parted g)
set_option maxHeartbeats 2000000 in
set_option maxRecDepth 20000 in
theorem xm_md_weighs_b67 {x : hf_Cx} {ad : Nat → Nat} {cA : Nat → ClassId} {E : State → Prop} {A : Nat → Prop} {l0 : Launch} {D0 : va_G} {k14 : hf_St → Int32 → Int32 → Int32 → Int32 → Int32 → Int32 → Option hf_St} (g : hf_G x hmT ad cA E A l0 D0 cX12_weighs 8 RX12 none 1) (hk14 : ∀ (s : hf_St) (l1 : Int32) (l2 : Int32) (l3 : Int32) (l4 : Int32) (l5 : Int32) (l6 : Int32), hf_X x A 8 (0, 0) (hf_Q x hmT ad cA A hf_rv) (k14 s l1 l2 l3 l4 l5 l6) (hf_wd hmT ad cA s) 14 [(0, .ref (ad 0)), (1, .int l1), (2, .int l2), (3, .int l3), (4, .int l4), (5, .int l5), (6, .int l6)] []) (s : hf_St) (l1 : Int32) (l2 : Int32) (l3 : Int32) (l5 : Int32) (l6 : Int32) (t0 : Int32) (t1 : Int32) : hf_X x A 8 (0, 0) (hf_Q x hmT ad cA A hf_rv) (Fm_md_weighs_b67 k14 s l1 l2 l3 l5 l6 t0 t1) (hf_wd hmT ad cA s) 67 [(0, .ref (ad 0)), (1, .int l1), (2, .int l2), (3, .int l3), (5, .int l5), (6, .int l6)] [.int t0, .int t1] := by
  have gc := g.1
  unfold Fm_md_weighs_b67
  refine hf_iadd gc dX12_weighs_67 ?_
  refine hf_let (fun v1 => ?_)
  refine hf_istore (i := 4) (lv' := [(4, .int v1), (0, .ref (ad 0)), (1, .int l1), (2, .int l2), (3, .int l3), (5, .int l5), (6, .int l6)]) gc dX12_weighs_68 (by decide) rfl ?_
  refine hf_iload (i := 5) (q := 5) gc dX12_weighs_70 rfl ?_
  refine hf_aload_n (i := 0) (q := 1) gc dX12_weighs_72 rfl rfl ?_
  refine hf_getR (j := 0) (k := 47) (r := 34) g rfl rfl kF_RX12_111 dX12_weighs_73 ?_
  refine hf_iload (i := 6) (q := 6) gc dX12_weighs_76 rfl ?_
  refine hf_iald (a := 33) (r := 34) (n := 7) g rfl rfl dX12_weighs_78 ?_
  refine hf_aload_n (i := 0) (q := 1) gc dX12_weighs_79 rfl rfl ?_
  refine hf_getI (j := 0) (k := 7) g rfl rfl kF_RX12_134 dX12_weighs_80 ?_
  refine hf_icmp_ge (tgt := 106) gc dX12_weighs_83 (by decide) ?_ ?_
  · refine hf_iconst (v := 0) gc dX12_weighs_106 (by decide) ?_
    refine hf_iadd gc dX12_weighs_107 ?_
    refine hf_let (fun v2 => ?_)
    refine hf_istore (i := 5) (lv' := [(5, .int v2), (4, .int v1), (0, .ref (ad 0)), (1, .int l1), (2, .int l2), (3, .int l3), (6, .int l6)]) gc dX12_weighs_108 (by decide) rfl ?_
    refine hf_iinc (q := 6) (v' := l6 + (1 : Int32)) (lv' := [(6, .int (l6 + (1 : Int32))), (5, .int v2), (4, .int v1), (0, .ref (ad 0)), (1, .int l1), (2, .int l2), (3, .int l3)]) gc dX12_weighs_110 rfl rfl (by decide) rfl ?_
    refine hf_goto (tgt := 14) gc dX12_weighs_113 (by decide) ?_
    refine hf_sub (lv' := [(0, .ref (ad 0)), (1, .int l1), (2, .int l2), (3, .int l3), (4, .int v1), (5, .int v2), (6, .int (l6 + (1 : Int32)))]) [3, 4, 5, 6, 2, 1, 0] rfl ?_
    exact hk14 _ _ _ _ _ _ _
  · refine hf_aload_n (i := 0) (q := 1) gc dX12_weighs_86 rfl rfl ?_
    refine hf_getR (j := 0) (k := 50) (r := 37) g rfl rfl kF_RX12_120 dX12_weighs_87 ?_
    refine hf_iconst (v := 5) gc dX12_weighs_90 (by decide) ?_
    refine hf_iload (i := 6) (q := 6) gc dX12_weighs_91 rfl ?_
    refine hf_imul gc dX12_weighs_93 ?_
    refine hf_aload_n (i := 0) (q := 1) gc dX12_weighs_94 rfl rfl ?_
    refine hf_getR (j := 0) (k := 47) (r := 34) g rfl rfl kF_RX12_111 dX12_weighs_95 ?_
    refine hf_iload (i := 6) (q := 6) gc dX12_weighs_98 rfl ?_
    refine hf_iald (a := 33) (r := 34) (n := 7) g rfl rfl dX12_weighs_100 ?_
    refine hf_iadd gc dX12_weighs_101 ?_
    refine hf_iald (a := 36) (r := 37) (n := 35) g rfl rfl dX12_weighs_102 ?_
    refine hf_goto (tgt := 107) gc dX12_weighs_103 (by decide) ?_
    refine hf_iadd gc dX12_weighs_107 ?_
    refine hf_let (fun v3 => ?_)
    refine hf_istore (i := 5) (lv' := [(5, .int v3), (4, .int v1), (0, .ref (ad 0)), (1, .int l1), (2, .int l2), (3, .int l3), (6, .int l6)]) gc dX12_weighs_108 (by decide) rfl ?_
    refine hf_iinc (q := 6) (v' := l6 + (1 : Int32)) (lv' := [(6, .int (l6 + (1 : Int32))), (5, .int v3), (4, .int v1), (0, .ref (ad 0)), (1, .int l1), (2, .int l2), (3, .int l3)]) gc dX12_weighs_110 rfl rfl (by decide) rfl ?_
    refine hf_goto (tgt := 14) gc dX12_weighs_113 (by decide) ?_
    refine hf_sub (lv' := [(0, .ref (ad 0)), (1, .int l1), (2, .int l2), (3, .int l3), (4, .int v1), (5, .int v3), (6, .int (l6 + (1 : Int32)))]) [3, 4, 5, 6, 2, 1, 0] rfl ?_
    exact hk14 _ _ _ _ _ _ _
set_option maxHeartbeats 2000000 in
set_option maxRecDepth 20000 in
theorem xm_md_weighs_b66 {x : hf_Cx} {ad : Nat → Nat} {cA : Nat → ClassId} {E : State → Prop} {A : Nat → Prop} {l0 : Launch} {D0 : va_G} {k14 : hf_St → Int32 → Int32 → Int32 → Int32 → Int32 → Int32 → Option hf_St} (g : hf_G x hmT ad cA E A l0 D0 cX12_weighs 8 RX12 none 1) (hk14 : ∀ (s : hf_St) (l1 : Int32) (l2 : Int32) (l3 : Int32) (l4 : Int32) (l5 : Int32) (l6 : Int32), hf_X x A 8 (0, 0) (hf_Q x hmT ad cA A hf_rv) (k14 s l1 l2 l3 l4 l5 l6) (hf_wd hmT ad cA s) 14 [(0, .ref (ad 0)), (1, .int l1), (2, .int l2), (3, .int l3), (4, .int l4), (5, .int l5), (6, .int l6)] []) (s : hf_St) (l1 : Int32) (l2 : Int32) (l3 : Int32) (l5 : Int32) (l6 : Int32) (t0 : Int32) : hf_X x A 8 (0, 0) (hf_Q x hmT ad cA A hf_rv) (Fm_md_weighs_b66 k14 s l1 l2 l3 l5 l6 t0) (hf_wd hmT ad cA s) 66 [(0, .ref (ad 0)), (1, .int l1), (2, .int l2), (3, .int l3), (5, .int l5), (6, .int l6)] [.int t0] := by
  have gc := g.1
  unfold Fm_md_weighs_b66
  refine hf_iconst (v := 0) gc dX12_weighs_66 (by decide) ?_
  exact xm_md_weighs_b67 g hk14 _ _ _ _ _ _ _ _
set_option maxHeartbeats 2000000 in
set_option maxRecDepth 20000 in
theorem xm_md_weighs_l241 {x : hf_Cx} {ad : Nat → Nat} {cA : Nat → ClassId} {E : State → Prop} {A : Nat → Prop} {l0 : Launch} {D0 : va_G} (g : hf_G x hmT ad cA E A l0 D0 cX12_weighs 8 RX12 none 1) : ∀ (n : Nat) (s : hf_St) (l7 : Int32), hf_X x A 8 (0, 0) (hf_Q x hmT ad cA A hf_rv) (Fm_md_weighs_l241 n s l7) (hf_wd hmT ad cA s) 241 [(0, .ref (ad 0)), (7, .int l7)] [] := by
  have gc := g.1
  intro n
  induction n with
  | zero => intro s l7; exact hf_none
  | succ n ih =>
    intro s l7
    rw [Fm_md_weighs_l241]
    refine hf_iload (i := 7) (q := 1) gc dX12_weighs_241 rfl ?_
    refine hf_aload_n (i := 0) (q := 0) gc dX12_weighs_243 rfl rfl ?_
    refine hf_getI (j := 0) (k := 1) g rfl rfl kF_RX12_131 dX12_weighs_244 ?_
    refine hf_icmp_ge (tgt := 270) gc dX12_weighs_247 (by decide) ?_ ?_
    · exact hf_vret g dX12_weighs_270 rfl
    · refine hf_aload_n (i := 0) (q := 0) gc dX12_weighs_250 rfl rfl ?_
      refine hf_getR (j := 0) (k := 48) (r := 35) g rfl rfl kF_RX12_114 dX12_weighs_251 ?_
      refine hf_iload (i := 7) (q := 1) gc dX12_weighs_254 rfl ?_
      refine hf_aload_n (i := 0) (q := 0) gc dX12_weighs_256 rfl rfl ?_
      refine hf_getR (j := 0) (k := 47) (r := 34) g rfl rfl kF_RX12_111 dX12_weighs_257 ?_
      refine hf_iload (i := 7) (q := 1) gc dX12_weighs_260 rfl ?_
      refine hf_iald (a := 33) (r := 34) (n := 7) g rfl rfl dX12_weighs_262 ?_
      refine hf_iast (a := 34) (r := 35) (n := 7) g rfl rfl dX12_weighs_263 (fun s1 => ?_)
      refine hf_iinc (q := 1) (v' := l7 + (1 : Int32)) (lv' := [(7, .int (l7 + (1 : Int32))), (0, .ref (ad 0))]) gc dX12_weighs_264 rfl rfl (by decide) rfl ?_
      refine hf_goto (tgt := 241) gc dX12_weighs_267 (by decide) ?_
      refine hf_sub (lv' := [(0, .ref (ad 0)), (7, .int (l7 + (1 : Int32)))]) [1, 0] rfl ?_
      exact ih _ _
set_option maxHeartbeats 2000000 in
set_option maxRecDepth 20000 in
theorem xm_md_weighs_b208 {x : hf_Cx} {ad : Nat → Nat} {cA : Nat → ClassId} {E : State → Prop} {A : Nat → Prop} {l0 : Launch} {D0 : va_G} (g : hf_G x hmT ad cA E A l0 D0 cX12_weighs 8 RX12 none 1) (s : hf_St) (l1 : Int32) (l3 : Int32) (l4 : Int32) (l5 : Int32) (t0 : Int32) : hf_X x A 8 (0, 0) (hf_Q x hmT ad cA A hf_rv) (Fm_md_weighs_b208 s l1 l3 l4 l5 t0) (hf_wd hmT ad cA s) 208 [(0, .ref (ad 0)), (1, .int l1), (3, .int l3), (4, .int l4), (5, .int l5)] [.int t0] := by
  have gc := g.1
  unfold Fm_md_weighs_b208
  refine hf_istore (i := 6) (lv' := [(6, .int t0), (0, .ref (ad 0)), (1, .int l1), (3, .int l3), (4, .int l4), (5, .int l5)]) gc dX12_weighs_208 (by decide) rfl ?_
  refine hf_iload (i := 6) (q := 0) gc dX12_weighs_210 rfl ?_
  refine hf_if_ne (tgt := 216) gc dX12_weighs_212 (by decide) ?_ ?_
  · refine hf_aload_n (i := 0) (q := 1) gc dX12_weighs_216 rfl rfl ?_
    refine hf_iload_n (i := 1) (q := 2) gc dX12_weighs_217 rfl rfl ?_
    refine hf_putI (j := 0) (k := 51) g rfl rfl kP_RX12_252 rfl rfl dX12_weighs_218 (fun s1 => ?_)
    refine hf_aload_n (i := 0) (q := 1) gc dX12_weighs_221 rfl rfl ?_
    refine hf_iload_n (i := 3) (q := 3) gc dX12_weighs_222 rfl rfl ?_
    refine hf_putI (j := 0) (k := 52) g rfl rfl kP_RX12_255 rfl rfl dX12_weighs_223 (fun s2 => ?_)
    refine hf_aload_n (i := 0) (q := 1) gc dX12_weighs_226 rfl rfl ?_
    refine hf_iload (i := 4) (q := 4) gc dX12_weighs_227 rfl ?_
    refine hf_putI (j := 0) (k := 53) g rfl rfl kP_RX12_258 rfl rfl dX12_weighs_229 (fun s3 => ?_)
    refine hf_aload_n (i := 0) (q := 1) gc dX12_weighs_232 rfl rfl ?_
    refine hf_iload (i := 5) (q := 5) gc dX12_weighs_233 rfl ?_
    refine hf_putI (j := 0) (k := 54) g rfl rfl kP_RX12_261 rfl rfl dX12_weighs_235 (fun s4 => ?_)
    refine hf_iconst (v := 0) gc dX12_weighs_238 (by decide) ?_
    refine hf_istore (i := 7) (lv' := [(7, .int ((0 : Int32))), (6, .int t0), (0, .ref (ad 0)), (1, .int l1), (3, .int l3), (4, .int l4), (5, .int l5)]) gc dX12_weighs_239 (by decide) rfl ?_
    refine hf_sub (lv' := [(0, .ref (ad 0)), (7, .int ((0 : Int32)))]) [2, 0] rfl ?_
    exact xm_md_weighs_l241 g hf_fuel _ _
  · exact hf_vret g dX12_weighs_215 rfl
set_option maxHeartbeats 2000000 in
set_option maxRecDepth 20000 in
theorem xm_md_weighs_b194 {x : hf_Cx} {ad : Nat → Nat} {cA : Nat → ClassId} {E : State → Prop} {A : Nat → Prop} {l0 : Launch} {D0 : va_G} (g : hf_G x hmT ad cA E A l0 D0 cX12_weighs 8 RX12 none 1) (s : hf_St) (l1 : Int32) (l3 : Int32) (l4 : Int32) (l5 : Int32) : hf_X x A 8 (0, 0) (hf_Q x hmT ad cA A hf_rv) (Fm_md_weighs_b194 s l1 l3 l4 l5) (hf_wd hmT ad cA s) 194 [(0, .ref (ad 0)), (1, .int l1), (3, .int l3), (4, .int l4), (5, .int l5)] [] := by
  have gc := g.1
  unfold Fm_md_weighs_b194
  refine hf_iload (i := 5) (q := 4) gc dX12_weighs_194 rfl ?_
  refine hf_aload_n (i := 0) (q := 0) gc dX12_weighs_196 rfl rfl ?_
  refine hf_getI (j := 0) (k := 54) g rfl rfl kF_RX12_261 dX12_weighs_197 ?_
  refine hf_icmp_le (tgt := 207) gc dX12_weighs_200 (by decide) ?_ ?_
  · refine hf_iconst (v := 0) gc dX12_weighs_207 (by decide) ?_
    exact xm_md_weighs_b208 g _ _ _ _ _ _
  · refine hf_iconst (v := 1) gc dX12_weighs_203 (by decide) ?_
    refine hf_goto (tgt := 208) gc dX12_weighs_204 (by decide) ?_
    exact xm_md_weighs_b208 g _ _ _ _ _ _
set_option maxHeartbeats 2000000 in
set_option maxRecDepth 20000 in
theorem xm_md_weighs_l14 {x : hf_Cx} {ad : Nat → Nat} {cA : Nat → ClassId} {E : State → Prop} {A : Nat → Prop} {l0 : Launch} {D0 : va_G} (g : hf_G x hmT ad cA E A l0 D0 cX12_weighs 8 RX12 none 1) : ∀ (n : Nat) (s : hf_St) (l1 : Int32) (l2 : Int32) (l3 : Int32) (l4 : Int32) (l5 : Int32) (l6 : Int32), hf_X x A 8 (0, 0) (hf_Q x hmT ad cA A hf_rv) (Fm_md_weighs_l14 n s l1 l2 l3 l4 l5 l6) (hf_wd hmT ad cA s) 14 [(0, .ref (ad 0)), (1, .int l1), (2, .int l2), (3, .int l3), (4, .int l4), (5, .int l5), (6, .int l6)] [] := by
  have gc := g.1
  intro n
  induction n with
  | zero => intro s l1 l2 l3 l4 l5 l6; exact hf_none
  | succ n ih =>
    intro s l1 l2 l3 l4 l5 l6
    rw [Fm_md_weighs_l14]
    refine hf_iload (i := 6) (q := 6) gc dX12_weighs_14 rfl ?_
    refine hf_aload_n (i := 0) (q := 0) gc dX12_weighs_16 rfl rfl ?_
    refine hf_getI (j := 0) (k := 1) g rfl rfl kF_RX12_131 dX12_weighs_17 ?_
    refine hf_icmp_ge (tgt := 116) gc dX12_weighs_20 (by decide) ?_ ?_
    · refine hf_iload_n (i := 1) (q := 1) gc dX12_weighs_116 rfl rfl ?_
      refine hf_aload_n (i := 0) (q := 0) gc dX12_weighs_117 rfl rfl ?_
      refine hf_getI (j := 0) (k := 51) g rfl rfl kF_RX12_252 dX12_weighs_118 ?_
      refine hf_icmp_eq (tgt := 140) gc dX12_weighs_121 (by decide) ?_ ?_
      · refine hf_iload_n (i := 3) (q := 3) gc dX12_weighs_140 rfl rfl ?_
        refine hf_aload_n (i := 0) (q := 0) gc dX12_weighs_141 rfl rfl ?_
        refine hf_getI (j := 0) (k := 52) g rfl rfl kF_RX12_255 dX12_weighs_142 ?_
        refine hf_icmp_eq (tgt := 164) gc dX12_weighs_145 (by decide) ?_ ?_
        · refine hf_iload_n (i := 2) (q := 2) gc dX12_weighs_164 rfl rfl ?_
          refine hf_if_eq (tgt := 194) gc dX12_weighs_165 (by decide) ?_ ?_
          · refine hf_sub (lv' := [(0, .ref (ad 0)), (1, .int l1), (3, .int l3), (4, .int l4), (5, .int l5)]) [0, 1, 3, 4, 5] rfl ?_
            exact xm_md_weighs_b194 g _ _ _ _ _
          · refine hf_iload (i := 4) (q := 4) gc dX12_weighs_168 rfl ?_
            refine hf_aload_n (i := 0) (q := 0) gc dX12_weighs_170 rfl rfl ?_
            refine hf_getI (j := 0) (k := 53) g rfl rfl kF_RX12_258 dX12_weighs_171 ?_
            refine hf_icmp_eq (tgt := 194) gc dX12_weighs_174 (by decide) ?_ ?_
            · refine hf_sub (lv' := [(0, .ref (ad 0)), (1, .int l1), (3, .int l3), (4, .int l4), (5, .int l5)]) [0, 1, 3, 4, 5] rfl ?_
              exact xm_md_weighs_b194 g _ _ _ _ _
            · refine hf_iload (i := 4) (q := 4) gc dX12_weighs_177 rfl ?_
              refine hf_aload_n (i := 0) (q := 0) gc dX12_weighs_179 rfl rfl ?_
              refine hf_getI (j := 0) (k := 53) g rfl rfl kF_RX12_258 dX12_weighs_180 ?_
              refine hf_icmp_ge (tgt := 190) gc dX12_weighs_183 (by decide) ?_ ?_
              · refine hf_iconst (v := 0) gc dX12_weighs_190 (by decide) ?_
                refine hf_goto (tgt := 208) gc dX12_weighs_191 (by decide) ?_
                refine hf_sub (lv' := [(0, .ref (ad 0)), (1, .int l1), (3, .int l3), (4, .int l4), (5, .int l5)]) [0, 1, 3, 4, 5] rfl ?_
                exact xm_md_weighs_b208 g _ _ _ _ _ _
              · refine hf_iconst (v := 1) gc dX12_weighs_186 (by decide) ?_
                refine hf_goto (tgt := 208) gc dX12_weighs_187 (by decide) ?_
                refine hf_sub (lv' := [(0, .ref (ad 0)), (1, .int l1), (3, .int l3), (4, .int l4), (5, .int l5)]) [0, 1, 3, 4, 5] rfl ?_
                exact xm_md_weighs_b208 g _ _ _ _ _ _
        · refine hf_iload_n (i := 3) (q := 3) gc dX12_weighs_148 rfl rfl ?_
          refine hf_aload_n (i := 0) (q := 0) gc dX12_weighs_149 rfl rfl ?_
          refine hf_getI (j := 0) (k := 52) g rfl rfl kF_RX12_255 dX12_weighs_150 ?_
          refine hf_icmp_ge (tgt := 160) gc dX12_weighs_153 (by decide) ?_ ?_
          · refine hf_iconst (v := 0) gc dX12_weighs_160 (by decide) ?_
            refine hf_goto (tgt := 208) gc dX12_weighs_161 (by decide) ?_
            refine hf_sub (lv' := [(0, .ref (ad 0)), (1, .int l1), (3, .int l3), (4, .int l4), (5, .int l5)]) [0, 1, 3, 4, 5] rfl ?_
            exact xm_md_weighs_b208 g _ _ _ _ _ _
          · refine hf_iconst (v := 1) gc dX12_weighs_156 (by decide) ?_
            refine hf_goto (tgt := 208) gc dX12_weighs_157 (by decide) ?_
            refine hf_sub (lv' := [(0, .ref (ad 0)), (1, .int l1), (3, .int l3), (4, .int l4), (5, .int l5)]) [0, 1, 3, 4, 5] rfl ?_
            exact xm_md_weighs_b208 g _ _ _ _ _ _
      · refine hf_iload_n (i := 1) (q := 1) gc dX12_weighs_124 rfl rfl ?_
        refine hf_aload_n (i := 0) (q := 0) gc dX12_weighs_125 rfl rfl ?_
        refine hf_getI (j := 0) (k := 51) g rfl rfl kF_RX12_252 dX12_weighs_126 ?_
        refine hf_icmp_ge (tgt := 136) gc dX12_weighs_129 (by decide) ?_ ?_
        · refine hf_iconst (v := 0) gc dX12_weighs_136 (by decide) ?_
          refine hf_goto (tgt := 208) gc dX12_weighs_137 (by decide) ?_
          refine hf_sub (lv' := [(0, .ref (ad 0)), (1, .int l1), (3, .int l3), (4, .int l4), (5, .int l5)]) [0, 1, 3, 4, 5] rfl ?_
          exact xm_md_weighs_b208 g _ _ _ _ _ _
        · refine hf_iconst (v := 1) gc dX12_weighs_132 (by decide) ?_
          refine hf_goto (tgt := 208) gc dX12_weighs_133 (by decide) ?_
          refine hf_sub (lv' := [(0, .ref (ad 0)), (1, .int l1), (3, .int l3), (4, .int l4), (5, .int l5)]) [0, 1, 3, 4, 5] rfl ?_
          exact xm_md_weighs_b208 g _ _ _ _ _ _
    · refine hf_iload (i := 4) (q := 4) gc dX12_weighs_23 rfl ?_
      refine hf_aload_n (i := 0) (q := 0) gc dX12_weighs_25 rfl rfl ?_
      refine hf_getR (j := 0) (k := 3) (r := 2) g rfl rfl kF_RX12_13 dX12_weighs_26 ?_
      refine hf_iload (i := 6) (q := 6) gc dX12_weighs_29 rfl ?_
      refine hf_zald (a := 1) (r := 2) (n := 7) g rfl rfl dX12_weighs_31 ?_
      refine hf_if_eq (tgt := 66) gc dX12_weighs_32 (by decide) ?_ ?_
      · refine hf_sub (lv' := [(0, .ref (ad 0)), (1, .int l1), (2, .int l2), (3, .int l3), (5, .int l5), (6, .int l6)]) [0, 1, 2, 3, 5, 6] rfl ?_
        exact xm_md_weighs_b66 g (fun z0 z1 z2 z3 z4 z5 z6 => ih z0 z1 z2 z3 z4 z5 z6) _ _ _ _ _ _ _
      · refine hf_aload_n (i := 0) (q := 0) gc dX12_weighs_35 rfl rfl ?_
        refine hf_getR (j := 0) (k := 46) (r := 33) g rfl rfl kF_RX12_108 dX12_weighs_36 ?_
        refine hf_iload (i := 6) (q := 6) gc dX12_weighs_39 rfl ?_
        refine hf_iald (a := 32) (r := 33) (n := 7) g rfl rfl dX12_weighs_41 ?_
        refine hf_if_lt (tgt := 66) gc dX12_weighs_42 (by decide) ?_ ?_
        · refine hf_sub (lv' := [(0, .ref (ad 0)), (1, .int l1), (2, .int l2), (3, .int l3), (5, .int l5), (6, .int l6)]) [0, 1, 2, 3, 5, 6] rfl ?_
          exact xm_md_weighs_b66 g (fun z0 z1 z2 z3 z4 z5 z6 => ih z0 z1 z2 z3 z4 z5 z6) _ _ _ _ _ _ _
        · refine hf_aload_n (i := 0) (q := 0) gc dX12_weighs_45 rfl rfl ?_
          refine hf_getR (j := 0) (k := 46) (r := 33) g rfl rfl kF_RX12_108 dX12_weighs_46 ?_
          refine hf_iload (i := 6) (q := 6) gc dX12_weighs_49 rfl ?_
          refine hf_iald (a := 32) (r := 33) (n := 7) g rfl rfl dX12_weighs_51 ?_
          refine hf_aload_n (i := 0) (q := 0) gc dX12_weighs_52 rfl rfl ?_
          refine hf_getR (j := 0) (k := 47) (r := 34) g rfl rfl kF_RX12_111 dX12_weighs_53 ?_
          refine hf_iload (i := 6) (q := 6) gc dX12_weighs_56 rfl ?_
          refine hf_iald (a := 33) (r := 34) (n := 7) g rfl rfl dX12_weighs_58 ?_
          refine hf_icmp_eq (tgt := 66) gc dX12_weighs_59 (by decide) ?_ ?_
          · refine hf_sub (lv' := [(0, .ref (ad 0)), (1, .int l1), (2, .int l2), (3, .int l3), (5, .int l5), (6, .int l6)]) [0, 1, 2, 3, 5, 6] rfl ?_
            exact xm_md_weighs_b66 g (fun z0 z1 z2 z3 z4 z5 z6 => ih z0 z1 z2 z3 z4 z5 z6) _ _ _ _ _ _ _
          · refine hf_iconst (v := 1) gc dX12_weighs_62 (by decide) ?_
            refine hf_goto (tgt := 67) gc dX12_weighs_63 (by decide) ?_
            refine hf_sub (lv' := [(0, .ref (ad 0)), (1, .int l1), (2, .int l2), (3, .int l3), (5, .int l5), (6, .int l6)]) [0, 1, 2, 3, 5, 6] rfl ?_
            exact xm_md_weighs_b67 g (fun z0 z1 z2 z3 z4 z5 z6 => ih z0 z1 z2 z3 z4 z5 z6) _ _ _ _ _ _ _ _
set_option maxHeartbeats 2000000 in
set_option maxRecDepth 20000 in
theorem xm_md_weighs {x : hf_Cx} {ad : Nat → Nat} {cA : Nat → ClassId} {E : State → Prop} {A : Nat → Prop} {l0 : Launch} {D0 : va_G} (g : hf_G x hmT ad cA E A l0 D0 cX12_weighs 8 RX12 none 1) {s : hf_St} {a1 : Int32} {a2 : Int32} : hf_X x A 8 (0, 0) (hf_Q x hmT ad cA A hf_rv) (Fm_md_weighs s a1 a2) (hf_wd hmT ad cA s) 0 [(0, .ref (ad 0)), (1, .int a1), (2, .int a2)] [] := by
  have gc := g.1
  unfold Fm_md_weighs
  refine hf_aload_n (i := 0) (q := 0) gc dX12_weighs_0 rfl rfl ?_
  refine hf_callV1 (j := 0) g (cm_md_parted) kV_RX12_249 (by decide) (by decide) rfl rfl rfl rfl (Nat.le_of_ble_eq_true rfl) dX12_weighs_1 (fun v1 => ?_)
  refine hf_istore_n (i := 3) (lv' := [(3, .int v1), (0, .ref (ad 0)), (1, .int a1), (2, .int a2)]) gc dX12_weighs_4 rfl (by decide) rfl ?_
  refine hf_iconst (v := 0) gc dX12_weighs_5 (by decide) ?_
  refine hf_istore (i := 4) (lv' := [(4, .int ((0 : Int32))), (3, .int v1), (0, .ref (ad 0)), (1, .int a1), (2, .int a2)]) gc dX12_weighs_6 (by decide) rfl ?_
  refine hf_iconst (v := 0) gc dX12_weighs_8 (by decide) ?_
  refine hf_istore (i := 5) (lv' := [(5, .int ((0 : Int32))), (4, .int ((0 : Int32))), (3, .int v1), (0, .ref (ad 0)), (1, .int a1), (2, .int a2)]) gc dX12_weighs_9 (by decide) rfl ?_
  refine hf_iconst (v := 0) gc dX12_weighs_11 (by decide) ?_
  refine hf_istore (i := 6) (lv' := [(6, .int ((0 : Int32))), (5, .int ((0 : Int32))), (4, .int ((0 : Int32))), (3, .int v1), (0, .ref (ad 0)), (1, .int a1), (2, .int a2)]) gc dX12_weighs_12 (by decide) rfl ?_
  refine hf_sub (lv' := [(0, .ref (ad 0)), (1, .int a1), (2, .int a2), (3, .int v1), (4, .int ((0 : Int32))), (5, .int ((0 : Int32))), (6, .int ((0 : Int32)))]) [4, 5, 6, 3, 2, 1, 0] rfl ?_
  exact xm_md_weighs_l14 g hf_fuel _ _ _ _ _ _ _
theorem cm_md_weighs {l0 : Launch} {D0 : va_G} {ad : Nat → Nat} {cA : Nat → ClassId} {E : State → Prop} {s : hf_St} {a1 : Int32} {a2 : Int32} : hf_Ct l0 D0 hmT ad cA E 1 yX12_weighs cX12_weighs 8 none [.ref (ad 0), .int a1, .int a2] s (Fm_md_weighs s a1 a2) hf_rv := hf_met (by decide) (Nat.le_of_ble_eq_true rfl) (fun _ _ g => xm_md_weighs g)
set_option maxHeartbeats 2000000 in
set_option maxRecDepth 20000 in
theorem xm_md_isLet_l64 {x : hf_Cx} {ad : Nat → Nat} {cA : Nat → ClassId} {E : State → Prop} {A : Nat → Prop} {l0 : Launch} {D0 : va_G} {s : hf_St} {k48 : Int32 → Int32 → Int32 → Option Int32} (g : hf_G x hmT ad cA E A l0 D0 cX12_isLet 6 RX12 (some .boolean) 0) (hk48 : ∀ (l1 : Int32) (l2 : Int32) (l3 : Int32), hf_X x A 6 (0, 0) (hf_Q x hmT ad cA A (hf_rp s)) (k48 l1 l2 l3) (hf_wd hmT ad cA s) 48 [(0, .ref (ad 0)), (1, .int l1), (2, .int l2), (3, .int l3)] []) : ∀ (n : Nat) (l1 : Int32) (l2 : Int32) (l3 : Int32) (l4 : Int32) (l5 : Int32), hf_X x A 6 (0, 0) (hf_Q x hmT ad cA A (hf_rp s)) (Fm_md_isLet_l64 s k48 n l1 l2 l3 l4 l5) (hf_wd hmT ad cA s) 64 [(0, .ref (ad 0)), (1, .int l1), (2, .int l2), (3, .int l3), (4, .int l4), (5, .int l5)] [] := by
  have gc := g.1
  intro n
  induction n with
  | zero => intro l1 l2 l3 l4 l5; exact hf_none
  | succ n ih =>
    intro l1 l2 l3 l4 l5
    rw [Fm_md_isLet_l64]
    refine hf_iload (i := 5) (q := 5) gc dX12_isLet_64 rfl ?_
    refine hf_iload_n (i := 1) (q := 1) gc dX12_isLet_66 rfl rfl ?_
    refine hf_icmp_ge (tgt := 119) gc dX12_isLet_67 (by decide) ?_ ?_
    · refine hf_iload (i := 4) (q := 4) gc dX12_isLet_119 rfl ?_
      refine hf_aload_n (i := 0) (q := 0) gc dX12_isLet_121 rfl rfl ?_
      refine hf_getR (j := 0) (k := 8) (r := 6) g rfl rfl kF_RX12_26 dX12_isLet_122 ?_
      refine hf_iload_n (i := 2) (q := 2) gc dX12_isLet_125 rfl rfl ?_
      refine hf_iald (a := 5) (r := 6) (n := 5) g rfl rfl dX12_isLet_126 ?_
      refine hf_icmp_le (tgt := 132) gc dX12_isLet_127 (by decide) ?_ ?_
      · refine hf_iinc (q := 3) (v' := l3 + (1 : Int32)) (lv' := [(3, .int (l3 + (1 : Int32))), (0, .ref (ad 0)), (1, .int l1), (2, .int l2), (4, .int l4), (5, .int l5)]) gc dX12_isLet_132 rfl rfl (by decide) rfl ?_
        refine hf_goto (tgt := 48) gc dX12_isLet_135 (by decide) ?_
        refine hf_sub (lv' := [(0, .ref (ad 0)), (1, .int l1), (2, .int l2), (3, .int (l3 + (1 : Int32)))]) [1, 2, 3, 0] rfl ?_
        exact hk48 _ _ _
      · refine hf_iconst (v := 0) gc dX12_isLet_130 (by decide) ?_
        exact hf_zret g dX12_isLet_131 rfl
    · refine hf_iload (i := 4) (q := 4) gc dX12_isLet_70 rfl ?_
      refine hf_aload_n (i := 0) (q := 0) gc dX12_isLet_72 rfl rfl ?_
      refine hf_getR (j := 0) (k := 47) (r := 34) g rfl rfl kF_RX12_111 dX12_isLet_73 ?_
      refine hf_iload (i := 5) (q := 5) gc dX12_isLet_76 rfl ?_
      refine hf_iald (a := 33) (r := 34) (n := 7) g rfl rfl dX12_isLet_78 ?_
      refine hf_iload_n (i := 2) (q := 2) gc dX12_isLet_79 rfl rfl ?_
      refine hf_icmp_ne (tgt := 109) gc dX12_isLet_80 (by decide) ?_ ?_
      · refine hf_iconst (v := 0) gc dX12_isLet_109 (by decide) ?_
        refine hf_iadd gc dX12_isLet_110 ?_
        refine hf_let (fun v1 => ?_)
        refine hf_istore (i := 4) (lv' := [(4, .int v1), (0, .ref (ad 0)), (1, .int l1), (2, .int l2), (3, .int l3), (5, .int l5)]) gc dX12_isLet_111 (by decide) rfl ?_
        refine hf_iinc (q := 5) (v' := l5 + (1 : Int32)) (lv' := [(5, .int (l5 + (1 : Int32))), (4, .int v1), (0, .ref (ad 0)), (1, .int l1), (2, .int l2), (3, .int l3)]) gc dX12_isLet_113 rfl rfl (by decide) rfl ?_
        refine hf_goto (tgt := 64) gc dX12_isLet_116 (by decide) ?_
        refine hf_sub (lv' := [(0, .ref (ad 0)), (1, .int l1), (2, .int l2), (3, .int l3), (4, .int v1), (5, .int (l5 + (1 : Int32)))]) [2, 3, 4, 5, 1, 0] rfl ?_
        exact ih _ _ _ _ _
      · refine hf_aload_n (i := 0) (q := 0) gc dX12_isLet_83 rfl rfl ?_
        refine hf_getR (j := 0) (k := 4) (r := 3) g rfl rfl kF_RX12_17 dX12_isLet_84 ?_
        refine hf_iload (i := 5) (q := 5) gc dX12_isLet_87 rfl ?_
        refine hf_iald (a := 2) (r := 3) (n := 7) g rfl rfl dX12_isLet_89 ?_
        refine hf_iload_n (i := 3) (q := 3) gc dX12_isLet_90 rfl rfl ?_
        refine hf_icmp_gt (tgt := 109) gc dX12_isLet_91 (by decide) ?_ ?_
        · refine hf_iconst (v := 0) gc dX12_isLet_109 (by decide) ?_
          refine hf_iadd gc dX12_isLet_110 ?_
          refine hf_let (fun v2 => ?_)
          refine hf_istore (i := 4) (lv' := [(4, .int v2), (0, .ref (ad 0)), (1, .int l1), (2, .int l2), (3, .int l3), (5, .int l5)]) gc dX12_isLet_111 (by decide) rfl ?_
          refine hf_iinc (q := 5) (v' := l5 + (1 : Int32)) (lv' := [(5, .int (l5 + (1 : Int32))), (4, .int v2), (0, .ref (ad 0)), (1, .int l1), (2, .int l2), (3, .int l3)]) gc dX12_isLet_113 rfl rfl (by decide) rfl ?_
          refine hf_goto (tgt := 64) gc dX12_isLet_116 (by decide) ?_
          refine hf_sub (lv' := [(0, .ref (ad 0)), (1, .int l1), (2, .int l2), (3, .int l3), (4, .int v2), (5, .int (l5 + (1 : Int32)))]) [2, 3, 4, 5, 1, 0] rfl ?_
          exact ih _ _ _ _ _
        · refine hf_aload_n (i := 0) (q := 0) gc dX12_isLet_94 rfl rfl ?_
          refine hf_getR (j := 0) (k := 5) (r := 4) g rfl rfl kF_RX12_20 dX12_isLet_95 ?_
          refine hf_iload (i := 5) (q := 5) gc dX12_isLet_98 rfl ?_
          refine hf_iald (a := 3) (r := 4) (n := 7) g rfl rfl dX12_isLet_100 ?_
          refine hf_iload_n (i := 3) (q := 3) gc dX12_isLet_101 rfl rfl ?_
          refine hf_icmp_lt (tgt := 109) gc dX12_isLet_102 (by decide) ?_ ?_
          · refine hf_iconst (v := 0) gc dX12_isLet_109 (by decide) ?_
            refine hf_iadd gc dX12_isLet_110 ?_
            refine hf_let (fun v3 => ?_)
            refine hf_istore (i := 4) (lv' := [(4, .int v3), (0, .ref (ad 0)), (1, .int l1), (2, .int l2), (3, .int l3), (5, .int l5)]) gc dX12_isLet_111 (by decide) rfl ?_
            refine hf_iinc (q := 5) (v' := l5 + (1 : Int32)) (lv' := [(5, .int (l5 + (1 : Int32))), (4, .int v3), (0, .ref (ad 0)), (1, .int l1), (2, .int l2), (3, .int l3)]) gc dX12_isLet_113 rfl rfl (by decide) rfl ?_
            refine hf_goto (tgt := 64) gc dX12_isLet_116 (by decide) ?_
            refine hf_sub (lv' := [(0, .ref (ad 0)), (1, .int l1), (2, .int l2), (3, .int l3), (4, .int v3), (5, .int (l5 + (1 : Int32)))]) [2, 3, 4, 5, 1, 0] rfl ?_
            exact ih _ _ _ _ _
          · refine hf_iconst (v := 1) gc dX12_isLet_105 (by decide) ?_
            refine hf_goto (tgt := 110) gc dX12_isLet_106 (by decide) ?_
            refine hf_iadd gc dX12_isLet_110 ?_
            refine hf_let (fun v4 => ?_)
            refine hf_istore (i := 4) (lv' := [(4, .int v4), (0, .ref (ad 0)), (1, .int l1), (2, .int l2), (3, .int l3), (5, .int l5)]) gc dX12_isLet_111 (by decide) rfl ?_
            refine hf_iinc (q := 5) (v' := l5 + (1 : Int32)) (lv' := [(5, .int (l5 + (1 : Int32))), (4, .int v4), (0, .ref (ad 0)), (1, .int l1), (2, .int l2), (3, .int l3)]) gc dX12_isLet_113 rfl rfl (by decide) rfl ?_
            refine hf_goto (tgt := 64) gc dX12_isLet_116 (by decide) ?_
            refine hf_sub (lv' := [(0, .ref (ad 0)), (1, .int l1), (2, .int l2), (3, .int l3), (4, .int v4), (5, .int (l5 + (1 : Int32)))]) [2, 3, 4, 5, 1, 0] rfl ?_
            exact ih _ _ _ _ _
set_option maxHeartbeats 2000000 in
set_option maxRecDepth 20000 in
theorem xm_md_isLet_l48 {x : hf_Cx} {ad : Nat → Nat} {cA : Nat → ClassId} {E : State → Prop} {A : Nat → Prop} {l0 : Launch} {D0 : va_G} {s : hf_St} (g : hf_G x hmT ad cA E A l0 D0 cX12_isLet 6 RX12 (some .boolean) 0) : ∀ (n : Nat) (l1 : Int32) (l2 : Int32) (l3 : Int32), hf_X x A 6 (0, 0) (hf_Q x hmT ad cA A (hf_rp s)) (Fm_md_isLet_l48 s n l1 l2 l3) (hf_wd hmT ad cA s) 48 [(0, .ref (ad 0)), (1, .int l1), (2, .int l2), (3, .int l3)] [] := by
  have gc := g.1
  intro n
  induction n with
  | zero => intro l1 l2 l3; exact hf_none
  | succ n ih =>
    intro l1 l2 l3
    rw [Fm_md_isLet_l48]
    refine hf_iload_n (i := 3) (q := 3) gc dX12_isLet_48 rfl rfl ?_
    refine hf_aload_n (i := 0) (q := 0) gc dX12_isLet_49 rfl rfl ?_
    refine hf_getR (j := 0) (k := 5) (r := 4) g rfl rfl kF_RX12_20 dX12_isLet_50 ?_
    refine hf_iload_n (i := 1) (q := 1) gc dX12_isLet_53 rfl rfl ?_
    refine hf_iald (a := 3) (r := 4) (n := 7) g rfl rfl dX12_isLet_54 ?_
    refine hf_icmp_gt (tgt := 138) gc dX12_isLet_55 (by decide) ?_ ?_
    · refine hf_iconst (v := 1) gc dX12_isLet_138 (by decide) ?_
      exact hf_zret g dX12_isLet_139 rfl
    · refine hf_iconst (v := 1) gc dX12_isLet_58 (by decide) ?_
      refine hf_istore (i := 4) (lv' := [(4, .int ((1 : Int32))), (0, .ref (ad 0)), (1, .int l1), (2, .int l2), (3, .int l3)]) gc dX12_isLet_59 (by decide) rfl ?_
      refine hf_iconst (v := 0) gc dX12_isLet_61 (by decide) ?_
      refine hf_istore (i := 5) (lv' := [(5, .int ((0 : Int32))), (4, .int ((1 : Int32))), (0, .ref (ad 0)), (1, .int l1), (2, .int l2), (3, .int l3)]) gc dX12_isLet_62 (by decide) rfl ?_
      refine hf_sub (lv' := [(0, .ref (ad 0)), (1, .int l1), (2, .int l2), (3, .int l3), (4, .int ((1 : Int32))), (5, .int ((0 : Int32)))]) [2, 3, 4, 5, 1, 0] rfl ?_
      exact xm_md_isLet_l64 g (fun z0 z1 z2 => ih z0 z1 z2) hf_fuel _ _ _ _ _
set_option maxHeartbeats 2000000 in
set_option maxRecDepth 20000 in
theorem xm_md_isLet {x : hf_Cx} {ad : Nat → Nat} {cA : Nat → ClassId} {E : State → Prop} {A : Nat → Prop} {l0 : Launch} {D0 : va_G} (g : hf_G x hmT ad cA E A l0 D0 cX12_isLet 6 RX12 (some .boolean) 0) {s : hf_St} {a1 : Int32} : hf_X x A 6 (0, 0) (hf_Q x hmT ad cA A (hf_rp s)) (Fm_md_isLet s a1) (hf_wd hmT ad cA s) 0 [(0, .ref (ad 0)), (1, .int a1)] [] := by
  have gc := g.1
  unfold Fm_md_isLet
  refine hf_aload_n (i := 0) (q := 0) gc dX12_isLet_0 rfl rfl ?_
  refine hf_getR (j := 0) (k := 47) (r := 34) g rfl rfl kF_RX12_111 dX12_isLet_1 ?_
  refine hf_iload_n (i := 1) (q := 1) gc dX12_isLet_4 rfl rfl ?_
  refine hf_iald (a := 33) (r := 34) (n := 7) g rfl rfl dX12_isLet_5 ?_
  refine hf_let (fun v1 => ?_)
  refine hf_istore_n (i := 2) (lv' := [(2, .int v1), (0, .ref (ad 0)), (1, .int a1)]) gc dX12_isLet_6 rfl (by decide) rfl ?_
  refine hf_iload_n (i := 2) (q := 0) gc dX12_isLet_7 rfl rfl ?_
  refine hf_aload_n (i := 0) (q := 1) gc dX12_isLet_8 rfl rfl ?_
  refine hf_getI (j := 0) (k := 7) g rfl rfl kF_RX12_134 dX12_isLet_9 ?_
  refine hf_icmp_ne (tgt := 17) gc dX12_isLet_12 (by decide) ?_ ?_
  · refine hf_aload_n (i := 0) (q := 1) gc dX12_isLet_17 rfl rfl ?_
    refine hf_getR (j := 0) (k := 3) (r := 2) g rfl rfl kF_RX12_13 dX12_isLet_18 ?_
    refine hf_iload_n (i := 1) (q := 2) gc dX12_isLet_21 rfl rfl ?_
    refine hf_zald (a := 1) (r := 2) (n := 7) g rfl rfl dX12_isLet_22 ?_
    refine hf_if_eq (tgt := 39) gc dX12_isLet_23 (by decide) ?_ ?_
    · refine hf_iconst (v := 0) gc dX12_isLet_39 (by decide) ?_
      exact hf_zret g dX12_isLet_40 rfl
    · refine hf_aload_n (i := 0) (q := 1) gc dX12_isLet_26 rfl rfl ?_
      refine hf_getR (j := 0) (k := 49) (r := 36) g rfl rfl kF_RX12_117 dX12_isLet_27 ?_
      refine hf_iconst (v := 5) gc dX12_isLet_30 (by decide) ?_
      refine hf_iload_n (i := 1) (q := 2) gc dX12_isLet_31 rfl rfl ?_
      refine hf_imul gc dX12_isLet_32 ?_
      refine hf_iload_n (i := 2) (q := 0) gc dX12_isLet_33 rfl rfl ?_
      refine hf_iadd gc dX12_isLet_34 ?_
      refine hf_zald (a := 35) (r := 36) (n := 35) g rfl rfl dX12_isLet_35 ?_
      refine hf_if_ne (tgt := 41) gc dX12_isLet_36 (by decide) ?_ ?_
      · refine hf_aload_n (i := 0) (q := 1) gc dX12_isLet_41 rfl rfl ?_
        refine hf_getR (j := 0) (k := 4) (r := 3) g rfl rfl kF_RX12_17 dX12_isLet_42 ?_
        refine hf_iload_n (i := 1) (q := 2) gc dX12_isLet_45 rfl rfl ?_
        refine hf_iald (a := 2) (r := 3) (n := 7) g rfl rfl dX12_isLet_46 ?_
        refine hf_let (fun v2 => ?_)
        refine hf_istore_n (i := 3) (lv' := [(3, .int v2), (2, .int v1), (0, .ref (ad 0)), (1, .int a1)]) gc dX12_isLet_47 rfl (by decide) rfl ?_
        refine hf_sub (lv' := [(0, .ref (ad 0)), (1, .int a1), (2, .int v1), (3, .int v2)]) [2, 3, 1, 0] rfl ?_
        exact xm_md_isLet_l48 g hf_fuel _ _ _
      · refine hf_iconst (v := 0) gc dX12_isLet_39 (by decide) ?_
        exact hf_zret g dX12_isLet_40 rfl
  · refine hf_iconst (v := 1) gc dX12_isLet_15 (by decide) ?_
    exact hf_zret g dX12_isLet_16 rfl
theorem cm_md_isLet {l0 : Launch} {D0 : va_G} {ad : Nat → Nat} {cA : Nat → ClassId} {E : State → Prop} {s : hf_St} {a1 : Int32} : hf_Ct l0 D0 hmT ad cA E 0 yX12_isLet cX12_isLet 6 (some .boolean) [.ref (ad 0), .int a1] s (Fm_md_isLet s a1) (hf_rp s) := hf_met (by decide) (Nat.le_of_ble_eq_true rfl) (fun _ _ g => xm_md_isLet g)
set_option maxHeartbeats 2000000 in
set_option maxRecDepth 20000 in
theorem xm_md_place_b87 {x : hf_Cx} {ad : Nat → Nat} {cA : Nat → ClassId} {E : State → Prop} {A : Nat → Prop} {l0 : Launch} {D0 : va_G} {k7 : hf_St → Int32 → Int32 → Option (Int32 × hf_St)} {k47 : hf_St → Int32 → Int32 → Int32 → Option (Int32 × hf_St)} (g : hf_G x hmT ad cA E A l0 D0 cX12_place 5 RX12 (some .int) 4) (hk7 : ∀ (s : hf_St) (l1 : Int32) (l2 : Int32), hf_X x A 5 (0, 0) (hf_Q x hmT ad cA A hf_ri) (k7 s l1 l2) (hf_wd hmT ad cA s) 7 [(0, .ref (ad 0)), (1, .int l1), (2, .int l2)] []) (hk47 : ∀ (s : hf_St) (l1 : Int32) (l2 : Int32) (l3 : Int32), hf_X x A 5 (0, 0) (hf_Q x hmT ad cA A hf_ri) (k47 s l1 l2 l3) (hf_wd hmT ad cA s) 47 [(0, .ref (ad 0)), (1, .int l1), (2, .int l2), (3, .int l3)] []) (s : hf_St) (l1 : Int32) (l2 : Int32) (l3 : Int32) (t0 : Int32) (t1 : Int32) : hf_X x A 5 (0, 0) (hf_Q x hmT ad cA A hf_ri) (Fm_md_place_b87 k7 k47 s l1 l2 l3 t0 t1) (hf_wd hmT ad cA s) 87 [(0, .ref (ad 0)), (1, .int l1), (2, .int l2), (3, .int l3)] [.int t0, .int t1, .ref (ad 36)] := by
  have gc := g.1
  unfold Fm_md_place_b87
  refine hf_zast (a := 35) (r := 36) (n := 35) g rfl rfl dX12_place_87 (fun s1 => ?_)
  refine hf_aload_n (i := 0) (q := 0) gc dX12_place_88 rfl rfl ?_
  refine hf_getR (j := 0) (k := 50) (r := 37) g rfl rfl kF_RX12_120 dX12_place_89 ?_
  refine hf_iconst (v := 5) gc dX12_place_92 (by decide) ?_
  refine hf_iload_n (i := 2) (q := 2) gc dX12_place_93 rfl rfl ?_
  refine hf_imul gc dX12_place_94 ?_
  refine hf_iload_n (i := 3) (q := 3) gc dX12_place_95 rfl rfl ?_
  refine hf_iadd gc dX12_place_96 ?_
  refine hf_aload_n (i := 0) (q := 0) gc dX12_place_97 rfl rfl ?_
  refine hf_iload_n (i := 2) (q := 2) gc dX12_place_98 rfl rfl ?_
  refine hf_iload_n (i := 3) (q := 3) gc dX12_place_99 rfl rfl ?_
  refine hf_callV1 (j := 0) g (cm_md_wishOf (a1 := l2) (a2 := l3)) kV_RX12_246 (by decide) (by decide) rfl rfl rfl rfl (Nat.le_of_ble_eq_true rfl) dX12_place_100 (fun v2 => ?_)
  refine hf_iast (a := 36) (r := 37) (n := 35) g rfl rfl dX12_place_103 (fun s3 => ?_)
  refine hf_iinc (q := 3) (v' := l3 + (1 : Int32)) (lv' := [(3, .int (l3 + (1 : Int32))), (0, .ref (ad 0)), (1, .int l1), (2, .int l2)]) gc dX12_place_104 rfl rfl (by decide) rfl ?_
  refine hf_goto (tgt := 47) gc dX12_place_107 (by decide) ?_
  refine hf_sub (lv' := [(0, .ref (ad 0)), (1, .int l1), (2, .int l2), (3, .int (l3 + (1 : Int32)))]) [1, 2, 3, 0] rfl ?_
  exact hk47 _ _ _ _
set_option maxHeartbeats 2000000 in
set_option maxRecDepth 20000 in
theorem xm_md_place_l47 {x : hf_Cx} {ad : Nat → Nat} {cA : Nat → ClassId} {E : State → Prop} {A : Nat → Prop} {l0 : Launch} {D0 : va_G} {k7 : hf_St → Int32 → Int32 → Option (Int32 × hf_St)} (g : hf_G x hmT ad cA E A l0 D0 cX12_place 5 RX12 (some .int) 4) (hk7 : ∀ (s : hf_St) (l1 : Int32) (l2 : Int32), hf_X x A 5 (0, 0) (hf_Q x hmT ad cA A hf_ri) (k7 s l1 l2) (hf_wd hmT ad cA s) 7 [(0, .ref (ad 0)), (1, .int l1), (2, .int l2)] []) : ∀ (n : Nat) (s : hf_St) (l1 : Int32) (l2 : Int32) (l3 : Int32), hf_X x A 5 (0, 0) (hf_Q x hmT ad cA A hf_ri) (Fm_md_place_l47 k7 n s l1 l2 l3) (hf_wd hmT ad cA s) 47 [(0, .ref (ad 0)), (1, .int l1), (2, .int l2), (3, .int l3)] [] := by
  have gc := g.1
  intro n
  induction n with
  | zero => intro s l1 l2 l3; exact hf_none
  | succ n ih =>
    intro s l1 l2 l3
    rw [Fm_md_place_l47]
    refine hf_iload_n (i := 3) (q := 3) gc dX12_place_47 rfl rfl ?_
    refine hf_aload_n (i := 0) (q := 0) gc dX12_place_48 rfl rfl ?_
    refine hf_getI (j := 0) (k := 7) g rfl rfl kF_RX12_134 dX12_place_49 ?_
    refine hf_icmp_ge (tgt := 110) gc dX12_place_52 (by decide) ?_ ?_
    · refine hf_iinc (q := 2) (v' := l2 + (1 : Int32)) (lv' := [(2, .int (l2 + (1 : Int32))), (0, .ref (ad 0)), (1, .int l1), (3, .int l3)]) gc dX12_place_110 rfl rfl (by decide) rfl ?_
      refine hf_goto (tgt := 7) gc dX12_place_113 (by decide) ?_
      refine hf_sub (lv' := [(0, .ref (ad 0)), (1, .int l1), (2, .int (l2 + (1 : Int32)))]) [1, 2, 0] rfl ?_
      exact hk7 _ _ _
    · refine hf_aload_n (i := 0) (q := 0) gc dX12_place_55 rfl rfl ?_
      refine hf_getR (j := 0) (k := 3) (r := 2) g rfl rfl kF_RX12_13 dX12_place_56 ?_
      refine hf_iload_n (i := 2) (q := 2) gc dX12_place_59 rfl rfl ?_
      refine hf_zald (a := 1) (r := 2) (n := 7) g rfl rfl dX12_place_60 ?_
      refine hf_if_eq (tgt := 110) gc dX12_place_61 (by decide) ?_ ?_
      · refine hf_iinc (q := 2) (v' := l2 + (1 : Int32)) (lv' := [(2, .int (l2 + (1 : Int32))), (0, .ref (ad 0)), (1, .int l1), (3, .int l3)]) gc dX12_place_110 rfl rfl (by decide) rfl ?_
        refine hf_goto (tgt := 7) gc dX12_place_113 (by decide) ?_
        refine hf_sub (lv' := [(0, .ref (ad 0)), (1, .int l1), (2, .int (l2 + (1 : Int32)))]) [1, 2, 0] rfl ?_
        exact hk7 _ _ _
      · refine hf_aload_n (i := 0) (q := 0) gc dX12_place_64 rfl rfl ?_
        refine hf_getR (j := 0) (k := 49) (r := 36) g rfl rfl kF_RX12_117 dX12_place_65 ?_
        refine hf_iconst (v := 5) gc dX12_place_68 (by decide) ?_
        refine hf_iload_n (i := 2) (q := 2) gc dX12_place_69 rfl rfl ?_
        refine hf_imul gc dX12_place_70 ?_
        refine hf_iload_n (i := 3) (q := 3) gc dX12_place_71 rfl rfl ?_
        refine hf_iadd gc dX12_place_72 ?_
        refine hf_aload_n (i := 0) (q := 0) gc dX12_place_73 rfl rfl ?_
        refine hf_iload_n (i := 2) (q := 2) gc dX12_place_74 rfl rfl ?_
        refine hf_iload_n (i := 3) (q := 3) gc dX12_place_75 rfl rfl ?_
        refine hf_callV2 (j := 0) g (cm_md_barOf (a1 := l2) (a2 := l3)) kV_RX12_240 (by decide) (by decide) rfl rfl rfl rfl (Nat.le_of_ble_eq_true rfl) dX12_place_76 (fun v1 s2 => ?_)
        refine hf_if_ne (tgt := 86) gc dX12_place_79 (by decide) ?_ ?_
        · refine hf_iconst (v := 0) gc dX12_place_86 (by decide) ?_
          exact xm_md_place_b87 g hk7 (fun z0 z1 z2 z3 => ih z0 z1 z2 z3) _ _ _ _ _ _
        · refine hf_iconst (v := 1) gc dX12_place_82 (by decide) ?_
          refine hf_goto (tgt := 87) gc dX12_place_83 (by decide) ?_
          exact xm_md_place_b87 g hk7 (fun z0 z1 z2 z3 => ih z0 z1 z2 z3) _ _ _ _ _ _
set_option maxHeartbeats 2000000 in
set_option maxRecDepth 20000 in
theorem xm_md_place_b41 {x : hf_Cx} {ad : Nat → Nat} {cA : Nat → ClassId} {E : State → Prop} {A : Nat → Prop} {l0 : Launch} {D0 : va_G} {k7 : hf_St → Int32 → Int32 → Option (Int32 × hf_St)} (g : hf_G x hmT ad cA E A l0 D0 cX12_place 5 RX12 (some .int) 4) (hk7 : ∀ (s : hf_St) (l1 : Int32) (l2 : Int32), hf_X x A 5 (0, 0) (hf_Q x hmT ad cA A hf_ri) (k7 s l1 l2) (hf_wd hmT ad cA s) 7 [(0, .ref (ad 0)), (1, .int l1), (2, .int l2)] []) (s : hf_St) (l1 : Int32) (l2 : Int32) (t0 : Int32) (t1 : Int32) : hf_X x A 5 (0, 0) (hf_Q x hmT ad cA A hf_ri) (Fm_md_place_b41 k7 s l1 l2 t0 t1) (hf_wd hmT ad cA s) 41 [(0, .ref (ad 0)), (1, .int l1), (2, .int l2)] [.int t0, .int t1, .ref (ad 0)] := by
  have gc := g.1
  unfold Fm_md_place_b41
  refine hf_iadd gc dX12_place_41 ?_
  refine hf_putI (j := 0) (k := 56) g rfl rfl kP_RX12_264 rfl rfl dX12_place_42 (fun s1 => ?_)
  refine hf_iconst (v := 0) gc dX12_place_45 (by decide) ?_
  refine hf_istore_n (i := 3) (lv' := [(3, .int ((0 : Int32))), (0, .ref (ad 0)), (1, .int l1), (2, .int l2)]) gc dX12_place_46 rfl (by decide) rfl ?_
  refine hf_sub (lv' := [(0, .ref (ad 0)), (1, .int l1), (2, .int l2), (3, .int ((0 : Int32)))]) [1, 2, 3, 0] rfl ?_
  exact xm_md_place_l47 g hk7 hf_fuel _ _ _ _
set_option maxHeartbeats 2000000 in
set_option maxRecDepth 20000 in
theorem xm_md_place_b178 {x : hf_Cx} {ad : Nat → Nat} {cA : Nat → ClassId} {E : State → Prop} {A : Nat → Prop} {l0 : Launch} {D0 : va_G} {k139 : hf_St → Int32 → Int32 → Int32 → Option (Int32 × hf_St)} (g : hf_G x hmT ad cA E A l0 D0 cX12_place 5 RX12 (some .int) 4) (hk139 : ∀ (s : hf_St) (l1 : Int32) (l2 : Int32) (l3 : Int32), hf_X x A 5 (0, 0) (hf_Q x hmT ad cA A hf_ri) (k139 s l1 l2 l3) (hf_wd hmT ad cA s) 139 [(0, .ref (ad 0)), (1, .int l1), (2, .int l2), (3, .int l3)] []) (s : hf_St) (l1 : Int32) (l2 : Int32) (t0 : Int32) (t1 : Int32) : hf_X x A 5 (0, 0) (hf_Q x hmT ad cA A hf_ri) (Fm_md_place_b178 k139 s l1 l2 t0 t1) (hf_wd hmT ad cA s) 178 [(0, .ref (ad 0)), (1, .int l1), (2, .int l2)] [.int t0, .int t1] := by
  have gc := g.1
  unfold Fm_md_place_b178
  refine hf_isub gc dX12_place_178 ?_
  refine hf_let (fun v1 => ?_)
  refine hf_istore_n (i := 3) (lv' := [(3, .int v1), (0, .ref (ad 0)), (1, .int l1), (2, .int l2)]) gc dX12_place_179 rfl (by decide) rfl ?_
  refine hf_aload_n (i := 0) (q := 1) gc dX12_place_180 rfl rfl ?_
  refine hf_getR (j := 0) (k := 47) (r := 34) g rfl rfl kF_RX12_111 dX12_place_181 ?_
  refine hf_iload_n (i := 2) (q := 3) gc dX12_place_184 rfl rfl ?_
  refine hf_iconst (v := -1) gc dX12_place_185 (by decide) ?_
  refine hf_iast (a := 33) (r := 34) (n := 7) g rfl rfl dX12_place_186 (fun s2 => ?_)
  refine hf_iinc (q := 3) (v' := l2 + (-1 : Int32)) (lv' := [(2, .int (l2 + (-1 : Int32))), (3, .int v1), (0, .ref (ad 0)), (1, .int l1)]) gc dX12_place_187 rfl rfl (by decide) rfl ?_
  refine hf_goto (tgt := 139) gc dX12_place_190 (by decide) ?_
  refine hf_sub (lv' := [(0, .ref (ad 0)), (1, .int l1), (2, .int (l2 + (-1 : Int32))), (3, .int v1)]) [2, 3, 0, 1] rfl ?_
  exact hk139 _ _ _ _
set_option maxHeartbeats 2000000 in
set_option maxRecDepth 20000 in
theorem xm_md_place_b231 {x : hf_Cx} {ad : Nat → Nat} {cA : Nat → ClassId} {E : State → Prop} {A : Nat → Prop} {l0 : Launch} {D0 : va_G} {k139 : hf_St → Int32 → Int32 → Int32 → Option (Int32 × hf_St)} (g : hf_G x hmT ad cA E A l0 D0 cX12_place 5 RX12 (some .int) 4) (hk139 : ∀ (s : hf_St) (l1 : Int32) (l2 : Int32) (l3 : Int32), hf_X x A 5 (0, 0) (hf_Q x hmT ad cA A hf_ri) (k139 s l1 l2 l3) (hf_wd hmT ad cA s) 139 [(0, .ref (ad 0)), (1, .int l1), (2, .int l2), (3, .int l3)] []) (s : hf_St) (l1 : Int32) (l2 : Int32) (t0 : Int32) (t1 : Int32) : hf_X x A 5 (0, 0) (hf_Q x hmT ad cA A hf_ri) (Fm_md_place_b231 k139 s l1 l2 t0 t1) (hf_wd hmT ad cA s) 231 [(0, .ref (ad 0)), (1, .int l1), (2, .int l2)] [.int t0, .int t1] := by
  have gc := g.1
  unfold Fm_md_place_b231
  refine hf_iadd gc dX12_place_231 ?_
  refine hf_let (fun v1 => ?_)
  refine hf_istore_n (i := 3) (lv' := [(3, .int v1), (0, .ref (ad 0)), (1, .int l1), (2, .int l2)]) gc dX12_place_232 rfl (by decide) rfl ?_
  refine hf_iload_n (i := 3) (q := 0) gc dX12_place_233 rfl rfl ?_
  refine hf_aload_n (i := 0) (q := 1) gc dX12_place_234 rfl rfl ?_
  refine hf_getI (j := 0) (k := 51) g rfl rfl kF_RX12_252 dX12_place_235 ?_
  refine hf_icmp_gt (tgt := 139) gc dX12_place_238 (by decide) ?_ ?_
  · refine hf_sub (lv' := [(0, .ref (ad 0)), (1, .int l1), (2, .int l2), (3, .int v1)]) [1, 2, 3, 0] rfl ?_
    exact hk139 _ _ _ _
  · refine hf_aload_n (i := 0) (q := 1) gc dX12_place_241 rfl rfl ?_
    refine hf_iload_n (i := 2) (q := 3) gc dX12_place_242 rfl rfl ?_
    refine hf_callV1 (j := 0) g (cm_md_isLet (a1 := l2)) kV_RX12_271 (by decide) (by decide) rfl rfl rfl rfl (Nat.le_of_ble_eq_true rfl) dX12_place_243 (fun v2 => ?_)
    refine hf_if_ne (tgt := 252) gc dX12_place_246 (by decide) ?_ ?_
    · refine hf_iload_n (i := 2) (q := 3) gc dX12_place_252 rfl rfl ?_
      refine hf_iconst (v := 1) gc dX12_place_253 (by decide) ?_
      refine hf_iadd gc dX12_place_254 ?_
      refine hf_aload_n (i := 0) (q := 1) gc dX12_place_255 rfl rfl ?_
      refine hf_getI (j := 0) (k := 1) g rfl rfl kF_RX12_131 dX12_place_256 ?_
      refine hf_icmp_ge (tgt := 268) gc dX12_place_259 (by decide) ?_ ?_
      · refine hf_aload_n (i := 0) (q := 1) gc dX12_place_268 rfl rfl ?_
        refine hf_iload_n (i := 3) (q := 0) gc dX12_place_269 rfl rfl ?_
        refine hf_iload_n (i := 1) (q := 2) gc dX12_place_270 rfl rfl ?_
        refine hf_callV0 (j := 0) g (cm_md_weighs (a1 := v1) (a2 := l1)) kV_RX12_267 (by decide) (by decide) rfl rfl rfl rfl (Nat.le_of_ble_eq_true rfl) dX12_place_271 (fun s3 => ?_)
        refine hf_goto (tgt := 139) gc dX12_place_274 (by decide) ?_
        refine hf_sub (lv' := [(0, .ref (ad 0)), (1, .int l1), (2, .int l2), (3, .int v1)]) [1, 2, 3, 0] rfl ?_
        exact hk139 _ _ _ _
      · refine hf_iinc (q := 3) (v' := l2 + (1 : Int32)) (lv' := [(2, .int (l2 + (1 : Int32))), (3, .int v1), (0, .ref (ad 0)), (1, .int l1)]) gc dX12_place_262 rfl rfl (by decide) rfl ?_
        refine hf_goto (tgt := 139) gc dX12_place_265 (by decide) ?_
        refine hf_sub (lv' := [(0, .ref (ad 0)), (1, .int l1), (2, .int (l2 + (1 : Int32))), (3, .int v1)]) [2, 3, 0, 1] rfl ?_
        exact hk139 _ _ _ _
    · refine hf_goto (tgt := 139) gc dX12_place_249 (by decide) ?_
      refine hf_sub (lv' := [(0, .ref (ad 0)), (1, .int l1), (2, .int l2), (3, .int v1)]) [1, 2, 3, 0] rfl ?_
      exact hk139 _ _ _ _
set_option maxHeartbeats 2000000 in
set_option maxRecDepth 20000 in
theorem xm_md_place_b230 {x : hf_Cx} {ad : Nat → Nat} {cA : Nat → ClassId} {E : State → Prop} {A : Nat → Prop} {l0 : Launch} {D0 : va_G} {k139 : hf_St → Int32 → Int32 → Int32 → Option (Int32 × hf_St)} (g : hf_G x hmT ad cA E A l0 D0 cX12_place 5 RX12 (some .int) 4) (hk139 : ∀ (s : hf_St) (l1 : Int32) (l2 : Int32) (l3 : Int32), hf_X x A 5 (0, 0) (hf_Q x hmT ad cA A hf_ri) (k139 s l1 l2 l3) (hf_wd hmT ad cA s) 139 [(0, .ref (ad 0)), (1, .int l1), (2, .int l2), (3, .int l3)] []) (s : hf_St) (l1 : Int32) (l2 : Int32) (t0 : Int32) : hf_X x A 5 (0, 0) (hf_Q x hmT ad cA A hf_ri) (Fm_md_place_b230 k139 s l1 l2 t0) (hf_wd hmT ad cA s) 230 [(0, .ref (ad 0)), (1, .int l1), (2, .int l2)] [.int t0] := by
  have gc := g.1
  unfold Fm_md_place_b230
  refine hf_iconst (v := 0) gc dX12_place_230 (by decide) ?_
  exact xm_md_place_b231 g hk139 _ _ _ _ _
set_option maxHeartbeats 2000000 in
set_option maxRecDepth 20000 in
theorem xm_md_place_b320 {x : hf_Cx} {ad : Nat → Nat} {cA : Nat → ClassId} {E : State → Prop} {A : Nat → Prop} {l0 : Launch} {D0 : va_G} {k280 : hf_St → Int32 → Option (Int32 × hf_St)} (g : hf_G x hmT ad cA E A l0 D0 cX12_place 5 RX12 (some .int) 4) (hk280 : ∀ (s : hf_St) (l4 : Int32), hf_X x A 5 (0, 0) (hf_Q x hmT ad cA A hf_ri) (k280 s l4) (hf_wd hmT ad cA s) 280 [(0, .ref (ad 0)), (4, .int l4)] []) (s : hf_St) (l4 : Int32) (t0 : Int32) (t1 : Int32) : hf_X x A 5 (0, 0) (hf_Q x hmT ad cA A hf_ri) (Fm_md_place_b320 k280 s l4 t0 t1) (hf_wd hmT ad cA s) 320 [(0, .ref (ad 0)), (4, .int l4)] [.int t0, .int t1, .ref (ad 33)] := by
  have gc := g.1
  unfold Fm_md_place_b320
  refine hf_iast (a := 32) (r := 33) (n := 7) g rfl rfl dX12_place_320 (fun s1 => ?_)
  refine hf_iinc (q := 1) (v' := l4 + (1 : Int32)) (lv' := [(4, .int (l4 + (1 : Int32))), (0, .ref (ad 0))]) gc dX12_place_321 rfl rfl (by decide) rfl ?_
  refine hf_goto (tgt := 280) gc dX12_place_324 (by decide) ?_
  refine hf_sub (lv' := [(0, .ref (ad 0)), (4, .int (l4 + (1 : Int32)))]) [1, 0] rfl ?_
  exact hk280 _ _
set_option maxHeartbeats 2000000 in
set_option maxRecDepth 20000 in
theorem xm_md_place_l280 {x : hf_Cx} {ad : Nat → Nat} {cA : Nat → ClassId} {E : State → Prop} {A : Nat → Prop} {l0 : Launch} {D0 : va_G} (g : hf_G x hmT ad cA E A l0 D0 cX12_place 5 RX12 (some .int) 4) : ∀ (n : Nat) (s : hf_St) (l4 : Int32), hf_X x A 5 (0, 0) (hf_Q x hmT ad cA A hf_ri) (Fm_md_place_l280 n s l4) (hf_wd hmT ad cA s) 280 [(0, .ref (ad 0)), (4, .int l4)] [] := by
  have gc := g.1
  intro n
  induction n with
  | zero => intro s l4; exact hf_none
  | succ n ih =>
    intro s l4
    rw [Fm_md_place_l280]
    refine hf_iload (i := 4) (q := 1) gc dX12_place_280 rfl ?_
    refine hf_aload_n (i := 0) (q := 0) gc dX12_place_282 rfl rfl ?_
    refine hf_getI (j := 0) (k := 1) g rfl rfl kF_RX12_131 dX12_place_283 ?_
    refine hf_icmp_ge (tgt := 327) gc dX12_place_286 (by decide) ?_ ?_
    · refine hf_aload_n (i := 0) (q := 0) gc dX12_place_327 rfl rfl ?_
      refine hf_iconst (v := 1) gc dX12_place_328 (by decide) ?_
      refine hf_putI (j := 0) (k := 55) g rfl rfl kP_RX12_274 rfl rfl dX12_place_329 (fun s1 => ?_)
      refine hf_aload_n (i := 0) (q := 0) gc dX12_place_332 rfl rfl ?_
      refine hf_getI (j := 0) (k := 51) g rfl rfl kF_RX12_252 dX12_place_333 ?_
      exact hf_iret g dX12_place_336 rfl
    · refine hf_aload_n (i := 0) (q := 0) gc dX12_place_289 rfl rfl ?_
      refine hf_getR (j := 0) (k := 46) (r := 33) g rfl rfl kF_RX12_108 dX12_place_290 ?_
      refine hf_iload (i := 4) (q := 1) gc dX12_place_293 rfl ?_
      refine hf_aload_n (i := 0) (q := 0) gc dX12_place_295 rfl rfl ?_
      refine hf_getR (j := 0) (k := 48) (r := 35) g rfl rfl kF_RX12_114 dX12_place_296 ?_
      refine hf_iload (i := 4) (q := 1) gc dX12_place_299 rfl ?_
      refine hf_iald (a := 34) (r := 35) (n := 7) g rfl rfl dX12_place_301 ?_
      refine hf_aload_n (i := 0) (q := 0) gc dX12_place_302 rfl rfl ?_
      refine hf_getI (j := 0) (k := 7) g rfl rfl kF_RX12_134 dX12_place_303 ?_
      refine hf_icmp_ge (tgt := 319) gc dX12_place_306 (by decide) ?_ ?_
      · refine hf_iconst (v := -1) gc dX12_place_319 (by decide) ?_
        exact xm_md_place_b320 g (fun z0 z1 => ih z0 z1) _ _ _ _
      · refine hf_aload_n (i := 0) (q := 0) gc dX12_place_309 rfl rfl ?_
        refine hf_getR (j := 0) (k := 48) (r := 35) g rfl rfl kF_RX12_114 dX12_place_310 ?_
        refine hf_iload (i := 4) (q := 1) gc dX12_place_313 rfl ?_
        refine hf_iald (a := 34) (r := 35) (n := 7) g rfl rfl dX12_place_315 ?_
        refine hf_goto (tgt := 320) gc dX12_place_316 (by decide) ?_
        exact xm_md_place_b320 g (fun z0 z1 => ih z0 z1) _ _ _ _
set_option maxHeartbeats 2000000 in
set_option maxRecDepth 20000 in
theorem xm_md_place_l139 {x : hf_Cx} {ad : Nat → Nat} {cA : Nat → ClassId} {E : State → Prop} {A : Nat → Prop} {l0 : Launch} {D0 : va_G} (g : hf_G x hmT ad cA E A l0 D0 cX12_place 5 RX12 (some .int) 4) : ∀ (n : Nat) (s : hf_St) (l1 : Int32) (l2 : Int32) (l3 : Int32), hf_X x A 5 (0, 0) (hf_Q x hmT ad cA A hf_ri) (Fm_md_place_l139 n s l1 l2 l3) (hf_wd hmT ad cA s) 139 [(0, .ref (ad 0)), (1, .int l1), (2, .int l2), (3, .int l3)] [] := by
  have gc := g.1
  intro n
  induction n with
  | zero => intro s l1 l2 l3; exact hf_none
  | succ n ih =>
    intro s l1 l2 l3
    rw [Fm_md_place_l139]
    refine hf_aload_n (i := 0) (q := 0) gc dX12_place_139 rfl rfl ?_
    refine hf_getI (j := 0) (k := 1) g rfl rfl kF_RX12_131 dX12_place_140 ?_
    refine hf_if_le (tgt := 277) gc dX12_place_143 (by decide) ?_ ?_
    · refine hf_iconst (v := 0) gc dX12_place_277 (by decide) ?_
      refine hf_istore (i := 4) (lv' := [(4, .int ((0 : Int32))), (0, .ref (ad 0)), (1, .int l1), (2, .int l2), (3, .int l3)]) gc dX12_place_278 (by decide) rfl ?_
      refine hf_sub (lv' := [(0, .ref (ad 0)), (4, .int ((0 : Int32)))]) [1, 0] rfl ?_
      exact xm_md_place_l280 g hf_fuel _ _
    · refine hf_iload_n (i := 2) (q := 2) gc dX12_place_146 rfl rfl ?_
      refine hf_if_lt (tgt := 277) gc dX12_place_147 (by decide) ?_ ?_
      · refine hf_iconst (v := 0) gc dX12_place_277 (by decide) ?_
        refine hf_istore (i := 4) (lv' := [(4, .int ((0 : Int32))), (0, .ref (ad 0)), (1, .int l1), (2, .int l2), (3, .int l3)]) gc dX12_place_278 (by decide) rfl ?_
        refine hf_sub (lv' := [(0, .ref (ad 0)), (4, .int ((0 : Int32)))]) [1, 0] rfl ?_
        exact xm_md_place_l280 g hf_fuel _ _
      · refine hf_aload_n (i := 0) (q := 0) gc dX12_place_150 rfl rfl ?_
        refine hf_getR (j := 0) (k := 47) (r := 34) g rfl rfl kF_RX12_111 dX12_place_151 ?_
        refine hf_iload_n (i := 2) (q := 2) gc dX12_place_154 rfl rfl ?_
        refine hf_iald (a := 33) (r := 34) (n := 7) g rfl rfl dX12_place_155 ?_
        refine hf_aload_n (i := 0) (q := 0) gc dX12_place_156 rfl rfl ?_
        refine hf_getI (j := 0) (k := 7) g rfl rfl kF_RX12_134 dX12_place_157 ?_
        refine hf_icmp_ne (tgt := 193) gc dX12_place_160 (by decide) ?_ ?_
        · refine hf_aload_n (i := 0) (q := 0) gc dX12_place_193 rfl rfl ?_
          refine hf_getR (j := 0) (k := 47) (r := 34) g rfl rfl kF_RX12_111 dX12_place_194 ?_
          refine hf_iload_n (i := 2) (q := 2) gc dX12_place_197 rfl rfl ?_
          refine hf_dup2 gc dX12_place_198 rfl rfl ?_
          refine hf_iald (a := 33) (r := 34) (n := 7) g rfl rfl dX12_place_199 ?_
          refine hf_iconst (v := 1) gc dX12_place_200 (by decide) ?_
          refine hf_iadd gc dX12_place_201 ?_
          refine hf_iast (a := 33) (r := 34) (n := 7) g rfl rfl dX12_place_202 (fun s1 => ?_)
          refine hf_iload_n (i := 3) (q := 3) gc dX12_place_203 rfl rfl ?_
          refine hf_aload_n (i := 0) (q := 0) gc dX12_place_204 rfl rfl ?_
          refine hf_getR (j := 0) (k := 47) (r := 34) g rfl rfl kF_RX12_111 dX12_place_205 ?_
          refine hf_iload_n (i := 2) (q := 2) gc dX12_place_208 rfl rfl ?_
          refine hf_iald (a := 33) (r := 34) (n := 7) g rfl rfl dX12_place_209 ?_
          refine hf_aload_n (i := 0) (q := 0) gc dX12_place_210 rfl rfl ?_
          refine hf_getI (j := 0) (k := 7) g rfl rfl kF_RX12_134 dX12_place_211 ?_
          refine hf_icmp_ne (tgt := 230) gc dX12_place_214 (by decide) ?_ ?_
          · refine hf_sub (lv' := [(0, .ref (ad 0)), (1, .int l1), (2, .int l2)]) [0, 1, 2] rfl ?_
            exact xm_md_place_b230 g (fun z0 z1 z2 z3 => ih z0 z1 z2 z3) _ _ _ _
          · refine hf_aload_n (i := 0) (q := 0) gc dX12_place_217 rfl rfl ?_
            refine hf_getR (j := 0) (k := 3) (r := 2) g rfl rfl kF_RX12_13 dX12_place_218 ?_
            refine hf_iload_n (i := 2) (q := 2) gc dX12_place_221 rfl rfl ?_
            refine hf_zald (a := 1) (r := 2) (n := 7) g rfl rfl dX12_place_222 ?_
            refine hf_if_eq (tgt := 230) gc dX12_place_223 (by decide) ?_ ?_
            · refine hf_sub (lv' := [(0, .ref (ad 0)), (1, .int l1), (2, .int l2)]) [0, 1, 2] rfl ?_
              exact xm_md_place_b230 g (fun z0 z1 z2 z3 => ih z0 z1 z2 z3) _ _ _ _
            · refine hf_iconst (v := 1) gc dX12_place_226 (by decide) ?_
              refine hf_goto (tgt := 231) gc dX12_place_227 (by decide) ?_
              refine hf_sub (lv' := [(0, .ref (ad 0)), (1, .int l1), (2, .int l2)]) [0, 1, 2] rfl ?_
              exact xm_md_place_b231 g (fun z0 z1 z2 z3 => ih z0 z1 z2 z3) _ _ _ _ _
        · refine hf_iload_n (i := 3) (q := 3) gc dX12_place_163 rfl rfl ?_
          refine hf_aload_n (i := 0) (q := 0) gc dX12_place_164 rfl rfl ?_
          refine hf_getR (j := 0) (k := 3) (r := 2) g rfl rfl kF_RX12_13 dX12_place_165 ?_
          refine hf_iload_n (i := 2) (q := 2) gc dX12_place_168 rfl rfl ?_
          refine hf_zald (a := 1) (r := 2) (n := 7) g rfl rfl dX12_place_169 ?_
          refine hf_if_eq (tgt := 177) gc dX12_place_170 (by decide) ?_ ?_
          · refine hf_iconst (v := 0) gc dX12_place_177 (by decide) ?_
            refine hf_sub (lv' := [(0, .ref (ad 0)), (1, .int l1), (2, .int l2)]) [0, 1, 2] rfl ?_
            exact xm_md_place_b178 g (fun z0 z1 z2 z3 => ih z0 z1 z2 z3) _ _ _ _ _
          · refine hf_iconst (v := 1) gc dX12_place_173 (by decide) ?_
            refine hf_goto (tgt := 178) gc dX12_place_174 (by decide) ?_
            refine hf_sub (lv' := [(0, .ref (ad 0)), (1, .int l1), (2, .int l2)]) [0, 1, 2] rfl ?_
            exact xm_md_place_b178 g (fun z0 z1 z2 z3 => ih z0 z1 z2 z3) _ _ _ _ _
set_option maxHeartbeats 2000000 in
set_option maxRecDepth 20000 in
theorem xm_md_place_l7 {x : hf_Cx} {ad : Nat → Nat} {cA : Nat → ClassId} {E : State → Prop} {A : Nat → Prop} {l0 : Launch} {D0 : va_G} (g : hf_G x hmT ad cA E A l0 D0 cX12_place 5 RX12 (some .int) 4) : ∀ (n : Nat) (s : hf_St) (l1 : Int32) (l2 : Int32), hf_X x A 5 (0, 0) (hf_Q x hmT ad cA A hf_ri) (Fm_md_place_l7 n s l1 l2) (hf_wd hmT ad cA s) 7 [(0, .ref (ad 0)), (1, .int l1), (2, .int l2)] [] := by
  have gc := g.1
  intro n
  induction n with
  | zero => intro s l1 l2; exact hf_none
  | succ n ih =>
    intro s l1 l2
    rw [Fm_md_place_l7]
    refine hf_iload_n (i := 2) (q := 2) gc dX12_place_7 rfl rfl ?_
    refine hf_aload_n (i := 0) (q := 0) gc dX12_place_8 rfl rfl ?_
    refine hf_getI (j := 0) (k := 1) g rfl rfl kF_RX12_131 dX12_place_9 ?_
    refine hf_icmp_ge (tgt := 116) gc dX12_place_12 (by decide) ?_ ?_
    · refine hf_aload_n (i := 0) (q := 0) gc dX12_place_116 rfl rfl ?_
      refine hf_bipush (v := 99) gc dX12_place_117 (by decide) ?_
      refine hf_putI (j := 0) (k := 51) g rfl rfl kP_RX12_252 rfl rfl dX12_place_119 (fun s1 => ?_)
      refine hf_iconst (v := 0) gc dX12_place_122 (by decide) ?_
      refine hf_istore_n (i := 2) (lv' := [(2, .int ((0 : Int32))), (0, .ref (ad 0)), (1, .int l1)]) gc dX12_place_123 rfl (by decide) rfl ?_
      refine hf_iconst (v := 0) gc dX12_place_124 (by decide) ?_
      refine hf_istore_n (i := 3) (lv' := [(3, .int ((0 : Int32))), (2, .int ((0 : Int32))), (0, .ref (ad 0)), (1, .int l1)]) gc dX12_place_125 rfl (by decide) rfl ?_
      refine hf_aload_n (i := 0) (q := 2) gc dX12_place_126 rfl rfl ?_
      refine hf_getI (j := 0) (k := 1) g rfl rfl kF_RX12_131 dX12_place_127 ?_
      refine hf_if_ne (tgt := 139) gc dX12_place_130 (by decide) ?_ ?_
      · refine hf_sub (lv' := [(0, .ref (ad 0)), (1, .int l1), (2, .int ((0 : Int32))), (3, .int ((0 : Int32)))]) [2, 3, 1, 0] rfl ?_
        exact xm_md_place_l139 g hf_fuel _ _ _ _
      · refine hf_aload_n (i := 0) (q := 2) gc dX12_place_133 rfl rfl ?_
        refine hf_iconst (v := 0) gc dX12_place_134 (by decide) ?_
        refine hf_iload_n (i := 1) (q := 3) gc dX12_place_135 rfl rfl ?_
        refine hf_callV0 (j := 0) g (cm_md_weighs (a1 := (0 : Int32)) (a2 := l1)) kV_RX12_267 (by decide) (by decide) rfl rfl rfl rfl (Nat.le_of_ble_eq_true rfl) dX12_place_136 (fun s2 => ?_)
        refine hf_sub (lv' := [(0, .ref (ad 0)), (1, .int l1), (2, .int ((0 : Int32))), (3, .int ((0 : Int32)))]) [2, 3, 1, 0] rfl ?_
        exact xm_md_place_l139 g hf_fuel _ _ _ _
    · refine hf_aload_n (i := 0) (q := 0) gc dX12_place_15 rfl rfl ?_
      refine hf_getR (j := 0) (k := 47) (r := 34) g rfl rfl kF_RX12_111 dX12_place_16 ?_
      refine hf_iload_n (i := 2) (q := 2) gc dX12_place_19 rfl rfl ?_
      refine hf_iconst (v := -1) gc dX12_place_20 (by decide) ?_
      refine hf_iast (a := 33) (r := 34) (n := 7) g rfl rfl dX12_place_21 (fun s3 => ?_)
      refine hf_aload_n (i := 0) (q := 0) gc dX12_place_22 rfl rfl ?_
      refine hf_dup gc dX12_place_23 rfl ?_
      refine hf_getI (j := 0) (k := 56) g rfl rfl kF_RX12_264 dX12_place_24 ?_
      refine hf_aload_n (i := 0) (q := 0) gc dX12_place_27 rfl rfl ?_
      refine hf_getR (j := 0) (k := 3) (r := 2) g rfl rfl kF_RX12_13 dX12_place_28 ?_
      refine hf_iload_n (i := 2) (q := 2) gc dX12_place_31 rfl rfl ?_
      refine hf_zald (a := 1) (r := 2) (n := 7) g rfl rfl dX12_place_32 ?_
      refine hf_if_eq (tgt := 40) gc dX12_place_33 (by decide) ?_ ?_
      · refine hf_iconst (v := 0) gc dX12_place_40 (by decide) ?_
        exact xm_md_place_b41 g (fun z0 z1 z2 => ih z0 z1 z2) _ _ _ _ _
      · refine hf_iconst (v := 1) gc dX12_place_36 (by decide) ?_
        refine hf_goto (tgt := 41) gc dX12_place_37 (by decide) ?_
        exact xm_md_place_b41 g (fun z0 z1 z2 => ih z0 z1 z2) _ _ _ _ _
set_option maxHeartbeats 2000000 in
set_option maxRecDepth 20000 in
theorem xm_md_place {x : hf_Cx} {ad : Nat → Nat} {cA : Nat → ClassId} {E : State → Prop} {A : Nat → Prop} {l0 : Launch} {D0 : va_G} (g : hf_G x hmT ad cA E A l0 D0 cX12_place 5 RX12 (some .int) 4) {s : hf_St} {a1 : Int32} : hf_X x A 5 (0, 0) (hf_Q x hmT ad cA A hf_ri) (Fm_md_place s a1) (hf_wd hmT ad cA s) 0 [(0, .ref (ad 0)), (1, .int a1)] [] := by
  have gc := g.1
  unfold Fm_md_place
  refine hf_aload_n (i := 0) (q := 0) gc dX12_place_0 rfl rfl ?_
  refine hf_iconst (v := 0) gc dX12_place_1 (by decide) ?_
  refine hf_putI (j := 0) (k := 56) g rfl rfl kP_RX12_264 rfl rfl dX12_place_2 (fun s1 => ?_)
  refine hf_iconst (v := 0) gc dX12_place_5 (by decide) ?_
  refine hf_istore_n (i := 2) (lv' := [(2, .int ((0 : Int32))), (0, .ref (ad 0)), (1, .int a1)]) gc dX12_place_6 rfl (by decide) rfl ?_
  refine hf_sub (lv' := [(0, .ref (ad 0)), (1, .int a1), (2, .int ((0 : Int32)))]) [1, 2, 0] rfl ?_
  exact xm_md_place_l7 g hf_fuel _ _ _
theorem cm_md_place {l0 : Launch} {D0 : va_G} {ad : Nat → Nat} {cA : Nat → ClassId} {E : State → Prop} {s : hf_St} {a1 : Int32} : hf_Ct l0 D0 hmT ad cA E 4 yX12_place cX12_place 5 (some .int) [.ref (ad 0), .int a1] s (Fm_md_place s a1) hf_ri := hf_met (by decide) (Nat.le_of_ble_eq_true rfl) (fun _ _ g => xm_md_place g)
