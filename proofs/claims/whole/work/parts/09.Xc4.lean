set_option maxHeartbeats 2000000 in
set_option maxRecDepth 20000 in
theorem xc_homes_bedsOf {x : hf_Cx} {ad : Nat → Nat} {cA : Nat → ClassId} {E : State → Prop} {A : Nat → Prop} {l0 : Launch} {D0 : va_G} (g : hf_G x hcT ad cA E A l0 D0 cX2_bedsOf 2 RX2 (some .int) 1) {s : hf_St} {a1 : Int32} : hf_X x A 2 (0, 0) (hf_Q x hcT ad cA A (hf_rp s)) (Fc_homes_bedsOf s a1) (hf_wd hcT ad cA s) 0 [(0, .ref (ad 2)), (1, .int a1)] [] := by
  have gc := g.1
  unfold Fc_homes_bedsOf
  refine hf_aload_n (i := 0) (q := 0) gc dX2_bedsOf_0 rfl rfl ?_
  refine hf_iload_n (i := 1) (q := 1) gc dX2_bedsOf_1 rfl rfl ?_
  refine hf_callV1 (j := 2) g (cc_homes_has (a1 := a1)) kV_RX2_22 (by decide) (by decide) rfl rfl rfl rfl (Nat.le_of_ble_eq_true rfl) dX2_bedsOf_2 (fun v1 => ?_)
  refine hf_if_eq (tgt := 17) gc dX2_bedsOf_5 (by decide) ?_ ?_
  · refine hf_iconst (v := 0) gc dX2_bedsOf_17 (by decide) ?_
    exact hf_iret g dX2_bedsOf_18 rfl
  · refine hf_aload_n (i := 0) (q := 0) gc dX2_bedsOf_8 rfl rfl ?_
    refine hf_getR (j := 2) (k := 0) (r := 18) g rfl rfl kF_RX2_9 dX2_bedsOf_9 ?_
    refine hf_iload_n (i := 1) (q := 1) gc dX2_bedsOf_12 rfl rfl ?_
    refine hf_iald (a := 5) (r := 18) (n := 5) g rfl rfl dX2_bedsOf_13 ?_
    refine hf_goto (tgt := 18) gc dX2_bedsOf_14 (by decide) ?_
    exact hf_iret g dX2_bedsOf_18 rfl
theorem cc_homes_bedsOf {l0 : Launch} {D0 : va_G} {ad : Nat → Nat} {cA : Nat → ClassId} {E : State → Prop} {s : hf_St} {a1 : Int32} : hf_Ct l0 D0 hcT ad cA E 1 yX2_bedsOf cX2_bedsOf 2 (some .int) [.ref (ad 2), .int a1] s (Fc_homes_bedsOf s a1) (hf_rp s) := hf_met (by decide) (Nat.le_of_ble_eq_true rfl) (fun _ _ g => xc_homes_bedsOf g)
set_option maxHeartbeats 2000000 in
set_option maxRecDepth 20000 in
theorem xc_children_groupOf {x : hf_Cx} {ad : Nat → Nat} {cA : Nat → ClassId} {E : State → Prop} {A : Nat → Prop} {l0 : Launch} {D0 : va_G} (g : hf_G x hcT ad cA E A l0 D0 cX0_groupOf 2 RX0 (some .int) 1) {s : hf_St} {a1 : Int32} : hf_X x A 2 (0, 0) (hf_Q x hcT ad cA A (hf_rp s)) (Fc_children_groupOf s a1) (hf_wd hcT ad cA s) 0 [(0, .ref (ad 1)), (1, .int a1)] [] := by
  have gc := g.1
  unfold Fc_children_groupOf
  refine hf_aload_n (i := 0) (q := 0) gc dX0_groupOf_0 rfl rfl ?_
  refine hf_iload_n (i := 1) (q := 1) gc dX0_groupOf_1 rfl rfl ?_
  refine hf_callV1 (j := 1) g (cc_children_has (a1 := a1)) kV_RX0_32 (by decide) (by decide) rfl rfl rfl rfl (Nat.le_of_ble_eq_true rfl) dX0_groupOf_2 (fun v1 => ?_)
  refine hf_if_eq (tgt := 17) gc dX0_groupOf_5 (by decide) ?_ ?_
  · refine hf_iconst (v := 0) gc dX0_groupOf_17 (by decide) ?_
    exact hf_iret g dX0_groupOf_18 rfl
  · refine hf_aload_n (i := 0) (q := 0) gc dX0_groupOf_8 rfl rfl ?_
    refine hf_getR (j := 1) (k := 0) (r := 13) g rfl rfl kF_RX0_11 dX0_groupOf_9 ?_
    refine hf_iload_n (i := 1) (q := 1) gc dX0_groupOf_12 rfl rfl ?_
    refine hf_iald (a := 0) (r := 13) (n := 7) g rfl rfl dX0_groupOf_13 ?_
    refine hf_goto (tgt := 18) gc dX0_groupOf_14 (by decide) ?_
    exact hf_iret g dX0_groupOf_18 rfl
theorem cc_children_groupOf {l0 : Launch} {D0 : va_G} {ad : Nat → Nat} {cA : Nat → ClassId} {E : State → Prop} {s : hf_St} {a1 : Int32} : hf_Ct l0 D0 hcT ad cA E 1 yX0_groupOf cX0_groupOf 2 (some .int) [.ref (ad 1), .int a1] s (Fc_children_groupOf s a1) (hf_rp s) := hf_met (by decide) (Nat.le_of_ble_eq_true rfl) (fun _ _ g => xc_children_groupOf g)
set_option maxHeartbeats 2000000 in
set_option maxRecDepth 20000 in
theorem xc_J_bitCount {x : hf_Cx} {ad : Nat → Nat} {cA : Nat → ClassId} {E : State → Prop} {A : Nat → Prop} {l0 : Launch} {D0 : va_G} (g : hf_G x hcT ad cA E A l0 D0 cJ6_bitCount_0f7a4 1 RJ6 (some .int) 0) {s : hf_St} {a1 : Int32} : hf_X x A 1 (0, 0) (hf_Q x hcT ad cA A (hf_rp s)) (Fc_J_bitCount s a1) (hf_wd hcT ad cA s) 0 [(0, .int a1)] [] := by
  have gc := g.1
  unfold Fc_J_bitCount
  refine hf_iload_n (i := 0) (q := 0) gc dJ6_bitCount_0f7a4_0 rfl rfl ?_
  refine hf_iload_n (i := 0) (q := 0) gc dJ6_bitCount_0f7a4_1 rfl rfl ?_
  refine hf_iconst (v := 1) gc dJ6_bitCount_0f7a4_2 (by decide) ?_
  refine hf_iushr gc dJ6_bitCount_0f7a4_3 ?_
  refine hf_ldcw (v := 1431655765) gc kC_RJ6_265 dJ6_bitCount_0f7a4_4 ?_
  refine hf_iand gc dJ6_bitCount_0f7a4_7 ?_
  refine hf_isub gc dJ6_bitCount_0f7a4_8 ?_
  refine hf_let (fun v1 => ?_)
  refine hf_istore_n (i := 0) (lv' := [(0, .int v1)]) gc dJ6_bitCount_0f7a4_9 rfl (by decide) rfl ?_
  refine hf_iload_n (i := 0) (q := 0) gc dJ6_bitCount_0f7a4_10 rfl rfl ?_
  refine hf_ldcw (v := 858993459) gc kC_RJ6_266 dJ6_bitCount_0f7a4_11 ?_
  refine hf_iand gc dJ6_bitCount_0f7a4_14 ?_
  refine hf_iload_n (i := 0) (q := 0) gc dJ6_bitCount_0f7a4_15 rfl rfl ?_
  refine hf_iconst (v := 2) gc dJ6_bitCount_0f7a4_16 (by decide) ?_
  refine hf_iushr gc dJ6_bitCount_0f7a4_17 ?_
  refine hf_ldcw (v := 858993459) gc kC_RJ6_266 dJ6_bitCount_0f7a4_18 ?_
  refine hf_iand gc dJ6_bitCount_0f7a4_21 ?_
  refine hf_iadd gc dJ6_bitCount_0f7a4_22 ?_
  refine hf_let (fun v2 => ?_)
  refine hf_istore_n (i := 0) (lv' := [(0, .int v2)]) gc dJ6_bitCount_0f7a4_23 rfl (by decide) rfl ?_
  refine hf_iload_n (i := 0) (q := 0) gc dJ6_bitCount_0f7a4_24 rfl rfl ?_
  refine hf_iload_n (i := 0) (q := 0) gc dJ6_bitCount_0f7a4_25 rfl rfl ?_
  refine hf_iconst (v := 4) gc dJ6_bitCount_0f7a4_26 (by decide) ?_
  refine hf_iushr gc dJ6_bitCount_0f7a4_27 ?_
  refine hf_iadd gc dJ6_bitCount_0f7a4_28 ?_
  refine hf_ldcw (v := 252645135) gc kC_RJ6_267 dJ6_bitCount_0f7a4_29 ?_
  refine hf_iand gc dJ6_bitCount_0f7a4_32 ?_
  refine hf_let (fun v3 => ?_)
  refine hf_istore_n (i := 0) (lv' := [(0, .int v3)]) gc dJ6_bitCount_0f7a4_33 rfl (by decide) rfl ?_
  refine hf_iload_n (i := 0) (q := 0) gc dJ6_bitCount_0f7a4_34 rfl rfl ?_
  refine hf_iload_n (i := 0) (q := 0) gc dJ6_bitCount_0f7a4_35 rfl rfl ?_
  refine hf_bipush (v := 8) gc dJ6_bitCount_0f7a4_36 (by decide) ?_
  refine hf_iushr gc dJ6_bitCount_0f7a4_38 ?_
  refine hf_iadd gc dJ6_bitCount_0f7a4_39 ?_
  refine hf_let (fun v4 => ?_)
  refine hf_istore_n (i := 0) (lv' := [(0, .int v4)]) gc dJ6_bitCount_0f7a4_40 rfl (by decide) rfl ?_
  refine hf_iload_n (i := 0) (q := 0) gc dJ6_bitCount_0f7a4_41 rfl rfl ?_
  refine hf_iload_n (i := 0) (q := 0) gc dJ6_bitCount_0f7a4_42 rfl rfl ?_
  refine hf_bipush (v := 16) gc dJ6_bitCount_0f7a4_43 (by decide) ?_
  refine hf_iushr gc dJ6_bitCount_0f7a4_45 ?_
  refine hf_iadd gc dJ6_bitCount_0f7a4_46 ?_
  refine hf_let (fun v5 => ?_)
  refine hf_istore_n (i := 0) (lv' := [(0, .int v5)]) gc dJ6_bitCount_0f7a4_47 rfl (by decide) rfl ?_
  refine hf_iload_n (i := 0) (q := 0) gc dJ6_bitCount_0f7a4_48 rfl rfl ?_
  refine hf_bipush (v := 63) gc dJ6_bitCount_0f7a4_49 (by decide) ?_
  refine hf_iand gc dJ6_bitCount_0f7a4_51 ?_
  exact hf_iret g dJ6_bitCount_0f7a4_52 rfl
theorem cc_J_bitCount {l0 : Launch} {D0 : va_G} {ad : Nat → Nat} {cA : Nat → ClassId} {E : State → Prop} {s : hf_St} {a1 : Int32} : hf_Ct l0 D0 hcT ad cA E 0 yJ6_bitCount_0f7a4 cJ6_bitCount_0f7a4 1 (some .int) [.int a1] s (Fc_J_bitCount s a1) (hf_rp s) := hf_met (by decide) (Nat.le_of_ble_eq_true rfl) (fun _ _ g => xc_J_bitCount g)
set_option maxHeartbeats 2000000 in
set_option maxRecDepth 20000 in
theorem xc_placer_searchWithHome_b139 {x : hf_Cx} {ad : Nat → Nat} {cA : Nat → ClassId} {E : State → Prop} {A : Nat → Prop} {l0 : Launch} {D0 : va_G} {d : Nat} {r_search : hf_St → Int32 → Int32 → Option hf_St} (g : hf_G x hcT ad cA E A l0 D0 cX5_searchWithHome 11 RX5 none (d + 2)) (hr_search : ∀ (s : hf_St) (a1 a2 : Int32), hf_Ct l0 D0 hcT ad cA E d yX5_search cX5_search 4 none [.ref (ad 12), .int a1, .int a2] s (r_search s a1 a2) hf_rv) (s : hf_St) (l1 : Int32) (l2 : Int32) (l3 : Int32) (l4 : Int32) (l6 : Int32) (l7 : Int32) (t0 : Int32) (t1 : Int32) : hf_X x A 11 (0, 0) (hf_Q x hcT ad cA A hf_rv) (Fc_placer_searchWithHome_b139 r_search s l1 l2 l3 l4 l6 l7 t0 t1) (hf_wd hcT ad cA s) 139 [(0, .ref (ad 12)), (1, .int l1), (2, .int l2), (3, .int l3), (4, .int l4), (6, .int l6), (7, .int l7)] [.int t0, .int t1] := by
  have gc := g.1
  unfold Fc_placer_searchWithHome_b139
  refine hf_iadd gc dX5_searchWithHome_139 ?_
  refine hf_let (fun v1 => ?_)
  refine hf_istore (i := 10) (lv' := [(10, .int v1), (0, .ref (ad 12)), (1, .int l1), (2, .int l2), (3, .int l3), (4, .int l4), (6, .int l6), (7, .int l7)]) gc dX5_searchWithHome_140 (by decide) rfl ?_
  refine hf_aload_n (i := 0) (q := 1) gc dX5_searchWithHome_142 rfl rfl ?_
  refine hf_iload_n (i := 1) (q := 2) gc dX5_searchWithHome_143 rfl rfl ?_
  refine hf_iconst (v := 1) gc dX5_searchWithHome_144 (by decide) ?_
  refine hf_iadd gc dX5_searchWithHome_145 ?_
  refine hf_iload_n (i := 3) (q := 4) gc dX5_searchWithHome_146 rfl rfl ?_
  refine hf_iload (i := 10) (q := 0) gc dX5_searchWithHome_147 rfl ?_
  refine hf_iadd gc dX5_searchWithHome_149 ?_
  refine hf_callV0 (j := 12) g (hr_search _ (l1 + ((1 : Int32))) (l3 + v1)) kV_RX5_109 (by omega) (by decide) rfl rfl rfl rfl (Nat.le_of_ble_eq_true rfl) dX5_searchWithHome_150 (fun s2 => ?_)
  refine hf_aload_n (i := 0) (q := 1) gc dX5_searchWithHome_153 rfl rfl ?_
  refine hf_getR (j := 12) (k := 10) (r := 51) g rfl rfl kF_RX5_32 dX5_searchWithHome_154 ?_
  refine hf_iload_n (i := 2) (q := 3) gc dX5_searchWithHome_157 rfl rfl ?_
  refine hf_iload (i := 4) (q := 5) gc dX5_searchWithHome_158 rfl ?_
  refine hf_iast (a := 38) (r := 51) (n := 5) g rfl rfl dX5_searchWithHome_160 (fun s3 => ?_)
  refine hf_aload_n (i := 0) (q := 1) gc dX5_searchWithHome_161 rfl rfl ?_
  refine hf_getR (j := 12) (k := 11) (r := 52) g rfl rfl kF_RX5_35 dX5_searchWithHome_162 ?_
  refine hf_iload (i := 6) (q := 6) gc dX5_searchWithHome_165 rfl ?_
  refine hf_iload (i := 7) (q := 7) gc dX5_searchWithHome_167 rfl ?_
  refine hf_iast (a := 39) (r := 52) (n := 4) g rfl rfl dX5_searchWithHome_169 (fun s4 => ?_)
  exact hf_vret g dX5_searchWithHome_170 rfl
set_option maxHeartbeats 2000000 in
set_option maxRecDepth 20000 in
theorem xc_placer_searchWithHome_b92 {x : hf_Cx} {ad : Nat → Nat} {cA : Nat → ClassId} {E : State → Prop} {A : Nat → Prop} {l0 : Launch} {D0 : va_G} {d : Nat} {r_search : hf_St → Int32 → Int32 → Option hf_St} (g : hf_G x hcT ad cA E A l0 D0 cX5_searchWithHome 11 RX5 none (d + 2)) (hr_search : ∀ (s : hf_St) (a1 a2 : Int32), hf_Ct l0 D0 hcT ad cA E d yX5_search cX5_search 4 none [.ref (ad 12), .int a1, .int a2] s (r_search s a1 a2) hf_rv) (s : hf_St) (l1 : Int32) (l2 : Int32) (l3 : Int32) (l4 : Int32) (l5 : Int32) (l6 : Int32) (l7 : Int32) (l8 : Int32) (t0 : Int32) : hf_X x A 11 (0, 0) (hf_Q x hcT ad cA A hf_rv) (Fc_placer_searchWithHome_b92 r_search s l1 l2 l3 l4 l5 l6 l7 l8 t0) (hf_wd hcT ad cA s) 92 [(0, .ref (ad 12)), (1, .int l1), (2, .int l2), (3, .int l3), (4, .int l4), (5, .int l5), (6, .int l6), (7, .int l7), (8, .int l8)] [.int t0] := by
  have gc := g.1
  unfold Fc_placer_searchWithHome_b92
  refine hf_istore (i := 9) (lv' := [(9, .int t0), (0, .ref (ad 12)), (1, .int l1), (2, .int l2), (3, .int l3), (4, .int l4), (5, .int l5), (6, .int l6), (7, .int l7), (8, .int l8)]) gc dX5_searchWithHome_92 (by decide) rfl ?_
  refine hf_aload_n (i := 0) (q := 1) gc dX5_searchWithHome_94 rfl rfl ?_
  refine hf_getR (j := 12) (k := 10) (r := 51) g rfl rfl kF_RX5_32 dX5_searchWithHome_95 ?_
  refine hf_iload_n (i := 2) (q := 3) gc dX5_searchWithHome_98 rfl rfl ?_
  refine hf_iload (i := 5) (q := 6) gc dX5_searchWithHome_99 rfl ?_
  refine hf_iast (a := 38) (r := 51) (n := 5) g rfl rfl dX5_searchWithHome_101 (fun s1 => ?_)
  refine hf_aload_n (i := 0) (q := 1) gc dX5_searchWithHome_102 rfl rfl ?_
  refine hf_getR (j := 12) (k := 11) (r := 52) g rfl rfl kF_RX5_35 dX5_searchWithHome_103 ?_
  refine hf_iload (i := 6) (q := 7) gc dX5_searchWithHome_106 rfl ?_
  refine hf_iload (i := 8) (q := 9) gc dX5_searchWithHome_108 rfl ?_
  refine hf_iast (a := 39) (r := 52) (n := 4) g rfl rfl dX5_searchWithHome_110 (fun s2 => ?_)
  refine hf_aload_n (i := 0) (q := 1) gc dX5_searchWithHome_111 rfl rfl ?_
  refine hf_getR (j := 12) (k := 12) (r := 53) g rfl rfl kF_RX5_38 dX5_searchWithHome_112 ?_
  refine hf_iload_n (i := 1) (q := 2) gc dX5_searchWithHome_115 rfl rfl ?_
  refine hf_iload_n (i := 2) (q := 3) gc dX5_searchWithHome_116 rfl rfl ?_
  refine hf_iast (a := 40) (r := 53) (n := 7) g rfl rfl dX5_searchWithHome_117 (fun s3 => ?_)
  refine hf_aload_n (i := 0) (q := 1) gc dX5_searchWithHome_118 rfl rfl ?_
  refine hf_getR (j := 12) (k := 5) (r := 46) g rfl rfl kF_RX5_17 dX5_searchWithHome_119 ?_
  refine hf_iload_n (i := 1) (q := 2) gc dX5_searchWithHome_122 rfl rfl ?_
  refine hf_iconst (v := 5) gc dX5_searchWithHome_123 (by decide) ?_
  refine hf_imul gc dX5_searchWithHome_124 ?_
  refine hf_iload_n (i := 2) (q := 3) gc dX5_searchWithHome_125 rfl rfl ?_
  refine hf_iadd gc dX5_searchWithHome_126 ?_
  refine hf_iald (a := 33) (r := 46) (n := 35) g rfl rfl dX5_searchWithHome_127 ?_
  refine hf_iload (i := 9) (q := 0) gc dX5_searchWithHome_128 rfl ?_
  refine hf_if_eq (tgt := 138) gc dX5_searchWithHome_130 (by decide) ?_ ?_
  · refine hf_iconst (v := 0) gc dX5_searchWithHome_138 (by decide) ?_
    refine hf_sub (lv' := [(0, .ref (ad 12)), (1, .int l1), (2, .int l2), (3, .int l3), (4, .int l4), (6, .int l6), (7, .int l7)]) [1, 2, 3, 4, 5, 7, 8] rfl ?_
    exact xc_placer_searchWithHome_b139 g hr_search _ _ _ _ _ _ _ _ _
  · refine hf_ldc (v := 131072) gc kC_RX5_148 dX5_searchWithHome_133 ?_
    refine hf_goto (tgt := 139) gc dX5_searchWithHome_135 (by decide) ?_
    refine hf_sub (lv' := [(0, .ref (ad 12)), (1, .int l1), (2, .int l2), (3, .int l3), (4, .int l4), (6, .int l6), (7, .int l7)]) [1, 2, 3, 4, 5, 7, 8] rfl ?_
    exact xc_placer_searchWithHome_b139 g hr_search _ _ _ _ _ _ _ _ _
set_option maxHeartbeats 2000000 in
set_option maxRecDepth 20000 in
theorem xc_placer_searchWithHome_b91 {x : hf_Cx} {ad : Nat → Nat} {cA : Nat → ClassId} {E : State → Prop} {A : Nat → Prop} {l0 : Launch} {D0 : va_G} {d : Nat} {r_search : hf_St → Int32 → Int32 → Option hf_St} (g : hf_G x hcT ad cA E A l0 D0 cX5_searchWithHome 11 RX5 none (d + 2)) (hr_search : ∀ (s : hf_St) (a1 a2 : Int32), hf_Ct l0 D0 hcT ad cA E d yX5_search cX5_search 4 none [.ref (ad 12), .int a1, .int a2] s (r_search s a1 a2) hf_rv) (s : hf_St) (l1 : Int32) (l2 : Int32) (l3 : Int32) (l4 : Int32) (l5 : Int32) (l6 : Int32) (l7 : Int32) (l8 : Int32) : hf_X x A 11 (0, 0) (hf_Q x hcT ad cA A hf_rv) (Fc_placer_searchWithHome_b91 r_search s l1 l2 l3 l4 l5 l6 l7 l8) (hf_wd hcT ad cA s) 91 [(0, .ref (ad 12)), (1, .int l1), (2, .int l2), (3, .int l3), (4, .int l4), (5, .int l5), (6, .int l6), (7, .int l7), (8, .int l8)] [] := by
  have gc := g.1
  unfold Fc_placer_searchWithHome_b91
  refine hf_iconst (v := 0) gc dX5_searchWithHome_91 (by decide) ?_
  exact xc_placer_searchWithHome_b92 g hr_search _ _ _ _ _ _ _ _ _ _
set_option maxHeartbeats 2000000 in
set_option maxRecDepth 20000 in
theorem xc_placer_searchWithHome_b69 {x : hf_Cx} {ad : Nat → Nat} {cA : Nat → ClassId} {E : State → Prop} {A : Nat → Prop} {l0 : Launch} {D0 : va_G} {d : Nat} {r_search : hf_St → Int32 → Int32 → Option hf_St} (g : hf_G x hcT ad cA E A l0 D0 cX5_searchWithHome 11 RX5 none (d + 2)) (hr_search : ∀ (s : hf_St) (a1 a2 : Int32), hf_Ct l0 D0 hcT ad cA E d yX5_search cX5_search 4 none [.ref (ad 12), .int a1, .int a2] s (r_search s a1 a2) hf_rv) (s : hf_St) (l1 : Int32) (l2 : Int32) (l3 : Int32) (l4 : Int32) (l5 : Int32) (l6 : Int32) (l7 : Int32) (t0 : Int32) : hf_X x A 11 (0, 0) (hf_Q x hcT ad cA A hf_rv) (Fc_placer_searchWithHome_b69 r_search s l1 l2 l3 l4 l5 l6 l7 t0) (hf_wd hcT ad cA s) 69 [(0, .ref (ad 12)), (1, .int l1), (2, .int l2), (3, .int l3), (4, .int l4), (5, .int l5), (6, .int l6), (7, .int l7)] [.int t0] := by
  have gc := g.1
  unfold Fc_placer_searchWithHome_b69
  refine hf_istore (i := 8) (lv' := [(8, .int t0), (0, .ref (ad 12)), (1, .int l1), (2, .int l2), (3, .int l3), (4, .int l4), (5, .int l5), (6, .int l6), (7, .int l7)]) gc dX5_searchWithHome_69 (by decide) rfl ?_
  refine hf_iload (i := 7) (q := 8) gc dX5_searchWithHome_71 rfl ?_
  refine hf_callS1 g (cc_J_bitCount (a1 := l7)) kS_RX5_126 (by omega) (by decide) rfl rfl (Nat.le_of_ble_eq_true rfl) dX5_searchWithHome_73 (fun v1 => ?_)
  refine hf_iconst (v := 1) gc dX5_searchWithHome_76 (by decide) ?_
  refine hf_icmp_ne (tgt := 91) gc dX5_searchWithHome_77 (by decide) ?_ ?_
  · refine hf_sub (lv' := [(0, .ref (ad 12)), (1, .int l1), (2, .int l2), (3, .int l3), (4, .int l4), (5, .int l5), (6, .int l6), (7, .int l7), (8, .int t0)]) [1, 2, 3, 4, 5, 6, 7, 8, 0] rfl ?_
    exact xc_placer_searchWithHome_b91 g hr_search _ _ _ _ _ _ _ _ _
  · refine hf_iload (i := 8) (q := 0) gc dX5_searchWithHome_80 rfl ?_
    refine hf_iload (i := 7) (q := 8) gc dX5_searchWithHome_82 rfl ?_
    refine hf_icmp_eq (tgt := 91) gc dX5_searchWithHome_84 (by decide) ?_ ?_
    · refine hf_sub (lv' := [(0, .ref (ad 12)), (1, .int l1), (2, .int l2), (3, .int l3), (4, .int l4), (5, .int l5), (6, .int l6), (7, .int l7), (8, .int t0)]) [1, 2, 3, 4, 5, 6, 7, 8, 0] rfl ?_
      exact xc_placer_searchWithHome_b91 g hr_search _ _ _ _ _ _ _ _ _
    · refine hf_iconst (v := 1) gc dX5_searchWithHome_87 (by decide) ?_
      refine hf_goto (tgt := 92) gc dX5_searchWithHome_88 (by decide) ?_
      refine hf_sub (lv' := [(0, .ref (ad 12)), (1, .int l1), (2, .int l2), (3, .int l3), (4, .int l4), (5, .int l5), (6, .int l6), (7, .int l7), (8, .int t0)]) [1, 2, 3, 4, 5, 6, 7, 8, 0] rfl ?_
      exact xc_placer_searchWithHome_b92 g hr_search _ _ _ _ _ _ _ _ _ _
set_option maxHeartbeats 2000000 in
set_option maxRecDepth 20000 in
theorem xc_placer_searchWithHome {x : hf_Cx} {ad : Nat → Nat} {cA : Nat → ClassId} {E : State → Prop} {A : Nat → Prop} {l0 : Launch} {D0 : va_G} {d : Nat} {r_search : hf_St → Int32 → Int32 → Option hf_St} (g : hf_G x hcT ad cA E A l0 D0 cX5_searchWithHome 11 RX5 none (d + 2)) (hr_search : ∀ (s : hf_St) (a1 a2 : Int32), hf_Ct l0 D0 hcT ad cA E d yX5_search cX5_search 4 none [.ref (ad 12), .int a1, .int a2] s (r_search s a1 a2) hf_rv) {s : hf_St} {a1 : Int32} {a2 : Int32} {a3 : Int32} : hf_X x A 11 (0, 0) (hf_Q x hcT ad cA A hf_rv) (Fc_placer_searchWithHome r_search s a1 a2 a3) (hf_wd hcT ad cA s) 0 [(0, .ref (ad 12)), (1, .int a1), (2, .int a2), (3, .int a3)] [] := by
  have gc := g.1
  unfold Fc_placer_searchWithHome
  refine hf_aload_n (i := 0) (q := 0) gc dX5_searchWithHome_0 rfl rfl ?_
  refine hf_getR (j := 12) (k := 10) (r := 51) g rfl rfl kF_RX5_32 dX5_searchWithHome_1 ?_
  refine hf_iload_n (i := 2) (q := 2) gc dX5_searchWithHome_4 rfl rfl ?_
  refine hf_iald (a := 38) (r := 51) (n := 5) g rfl rfl dX5_searchWithHome_5 ?_
  refine hf_let (fun v1 => ?_)
  refine hf_istore (i := 4) (lv' := [(4, .int v1), (0, .ref (ad 12)), (1, .int a1), (2, .int a2), (3, .int a3)]) gc dX5_searchWithHome_6 (by decide) rfl ?_
  refine hf_iload (i := 4) (q := 0) gc dX5_searchWithHome_8 rfl ?_
  refine hf_iconst (v := 1) gc dX5_searchWithHome_10 (by decide) ?_
  refine hf_iload_n (i := 1) (q := 2) gc dX5_searchWithHome_11 rfl rfl ?_
  refine hf_ishl gc dX5_searchWithHome_12 ?_
  refine hf_ior gc dX5_searchWithHome_13 ?_
  refine hf_let (fun v2 => ?_)
  refine hf_istore (i := 5) (lv' := [(5, .int v2), (4, .int v1), (0, .ref (ad 12)), (1, .int a1), (2, .int a2), (3, .int a3)]) gc dX5_searchWithHome_14 (by decide) rfl ?_
  refine hf_aload_n (i := 0) (q := 2) gc dX5_searchWithHome_16 rfl rfl ?_
  refine hf_getR (j := 12) (k := 9) (r := 50) g rfl rfl kF_RX5_29 dX5_searchWithHome_17 ?_
  refine hf_iload (i := 5) (q := 0) gc dX5_searchWithHome_20 rfl ?_
  refine hf_iald (a := 37) (r := 50) (n := 128) g rfl rfl dX5_searchWithHome_22 ?_
  refine hf_aload_n (i := 0) (q := 2) gc dX5_searchWithHome_23 rfl rfl ?_
  refine hf_getR (j := 12) (k := 1) (r := 2) g rfl rfl kF_RX5_48 dX5_searchWithHome_24 ?_
  refine hf_iload_n (i := 2) (q := 4) gc dX5_searchWithHome_27 rfl rfl ?_
  refine hf_callV1 (j := 2) g (cc_homes_bedsOf (a1 := a2)) kV_RX5_142 (by omega) (by decide) rfl rfl rfl rfl (Nat.le_of_ble_eq_true rfl) dX5_searchWithHome_28 (fun v3 => ?_)
  refine hf_icmp_le (tgt := 35) gc dX5_searchWithHome_31 (by decide) ?_ ?_
  · refine hf_aload_n (i := 0) (q := 2) gc dX5_searchWithHome_35 rfl rfl ?_
    refine hf_getR (j := 12) (k := 0) (r := 1) g rfl rfl kF_RX5_44 dX5_searchWithHome_36 ?_
    refine hf_iload_n (i := 1) (q := 3) gc dX5_searchWithHome_39 rfl rfl ?_
    refine hf_callV1 (j := 1) g (cc_children_groupOf (a1 := a1)) kV_RX5_145 (by omega) (by decide) rfl rfl rfl rfl (Nat.le_of_ble_eq_true rfl) dX5_searchWithHome_40 (fun v4 => ?_)
    refine hf_istore (i := 6) (lv' := [(6, .int v4), (5, .int v2), (4, .int v1), (0, .ref (ad 12)), (1, .int a1), (2, .int a2), (3, .int a3)]) gc dX5_searchWithHome_43 (by decide) rfl ?_
    refine hf_aload_n (i := 0) (q := 3) gc dX5_searchWithHome_45 rfl rfl ?_
    refine hf_getR (j := 12) (k := 11) (r := 52) g rfl rfl kF_RX5_35 dX5_searchWithHome_46 ?_
    refine hf_iload (i := 6) (q := 0) gc dX5_searchWithHome_49 rfl ?_
    refine hf_iald (a := 39) (r := 52) (n := 4) g rfl rfl dX5_searchWithHome_51 ?_
    refine hf_let (fun v5 => ?_)
    refine hf_istore (i := 7) (lv' := [(7, .int v5), (6, .int v4), (5, .int v2), (4, .int v1), (0, .ref (ad 12)), (1, .int a1), (2, .int a2), (3, .int a3)]) gc dX5_searchWithHome_52 (by decide) rfl ?_
    refine hf_iload (i := 6) (q := 1) gc dX5_searchWithHome_54 rfl ?_
    refine hf_if_ne (tgt := 63) gc dX5_searchWithHome_56 (by decide) ?_ ?_
    · refine hf_iload (i := 7) (q := 0) gc dX5_searchWithHome_63 rfl ?_
      refine hf_iconst (v := 1) gc dX5_searchWithHome_65 (by decide) ?_
      refine hf_iload_n (i := 2) (q := 6) gc dX5_searchWithHome_66 rfl rfl ?_
      refine hf_ishl gc dX5_searchWithHome_67 ?_
      refine hf_ior gc dX5_searchWithHome_68 ?_
      refine hf_sub (lv' := [(0, .ref (ad 12)), (1, .int a1), (2, .int a2), (3, .int a3), (4, .int v1), (5, .int v2), (6, .int v4), (7, .int v5)]) [4, 5, 6, 7, 3, 2, 1, 0] rfl ?_
      exact xc_placer_searchWithHome_b69 g hr_search _ _ _ _ _ _ _ _ _
    · refine hf_iconst (v := 0) gc dX5_searchWithHome_59 (by decide) ?_
      refine hf_goto (tgt := 69) gc dX5_searchWithHome_60 (by decide) ?_
      refine hf_sub (lv' := [(0, .ref (ad 12)), (1, .int a1), (2, .int a2), (3, .int a3), (4, .int v1), (5, .int v2), (6, .int v4), (7, .int v5)]) [4, 5, 6, 7, 3, 2, 1, 0] rfl ?_
      exact xc_placer_searchWithHome_b69 g hr_search _ _ _ _ _ _ _ _ _
  · exact hf_vret g dX5_searchWithHome_34 rfl
theorem cc_placer_searchWithHome {l0 : Launch} {D0 : va_G} {ad : Nat → Nat} {cA : Nat → ClassId} {E : State → Prop} {d : Nat} {r_search : hf_St → Int32 → Int32 → Option hf_St} (hr_search : ∀ (s : hf_St) (a1 a2 : Int32), hf_Ct l0 D0 hcT ad cA E d yX5_search cX5_search 4 none [.ref (ad 12), .int a1, .int a2] s (r_search s a1 a2) hf_rv) {s : hf_St} {a1 : Int32} {a2 : Int32} {a3 : Int32} : hf_Ct l0 D0 hcT ad cA E (d + 2) yX5_searchWithHome cX5_searchWithHome 11 none [.ref (ad 12), .int a1, .int a2, .int a3] s (Fc_placer_searchWithHome r_search s a1 a2 a3) hf_rv := hf_met (by decide) (Nat.le_of_ble_eq_true rfl) (fun _ _ g => xc_placer_searchWithHome g hr_search)
set_option maxHeartbeats 2000000 in
set_option maxRecDepth 20000 in
theorem xc_placer_search_l61 {x : hf_Cx} {ad : Nat → Nat} {cA : Nat → ClassId} {E : State → Prop} {A : Nat → Prop} {l0 : Launch} {D0 : va_G} {d : Nat} {r_search : hf_St → Int32 → Int32 → Option hf_St} (g : hf_G x hcT ad cA E A l0 D0 cX5_search 4 RX5 none (d + 3)) (hr_search : ∀ (s : hf_St) (a1 a2 : Int32), hf_Ct l0 D0 hcT ad cA E d yX5_search cX5_search 4 none [.ref (ad 12), .int a1, .int a2] s (r_search s a1 a2) hf_rv) : ∀ (n : Nat) (s : hf_St) (l1 : Int32) (l2 : Int32) (l3 : Int32), hf_X x A 4 (0, 0) (hf_Q x hcT ad cA A hf_rv) (Fc_placer_search_l61 r_search n s l1 l2 l3) (hf_wd hcT ad cA s) 61 [(0, .ref (ad 12)), (1, .int l1), (2, .int l2), (3, .int l3)] [] := by
  have gc := g.1
  intro n
  induction n with
  | zero => intro s l1 l2 l3; exact hf_none
  | succ n ih =>
    intro s l1 l2 l3
    rw [Fc_placer_search_l61]
    refine hf_iload_n (i := 3) (q := 3) gc dX5_search_61 rfl rfl ?_
    refine hf_aload_n (i := 0) (q := 0) gc dX5_search_62 rfl rfl ?_
    refine hf_getR (j := 12) (k := 1) (r := 2) g rfl rfl kF_RX5_48 dX5_search_63 ?_
    refine hf_callV1 (j := 2) g (cc_homes_size) kV_RX5_72 (by omega) (by decide) rfl rfl rfl rfl (Nat.le_of_ble_eq_true rfl) dX5_search_66 (fun v1 => ?_)
    refine hf_icmp_ge (tgt := 100) gc dX5_search_69 (by decide) ?_ ?_
    · refine hf_aload_n (i := 0) (q := 0) gc dX5_search_100 rfl rfl ?_
      refine hf_getR (j := 12) (k := 12) (r := 53) g rfl rfl kF_RX5_38 dX5_search_101 ?_
      refine hf_iload_n (i := 1) (q := 1) gc dX5_search_104 rfl rfl ?_
      refine hf_iconst (v := -1) gc dX5_search_105 (by decide) ?_
      refine hf_iast (a := 40) (r := 53) (n := 7) g rfl rfl dX5_search_106 (fun s2 => ?_)
      refine hf_aload_n (i := 0) (q := 0) gc dX5_search_107 rfl rfl ?_
      refine hf_iload_n (i := 1) (q := 1) gc dX5_search_108 rfl rfl ?_
      refine hf_iconst (v := 1) gc dX5_search_109 (by decide) ?_
      refine hf_iadd gc dX5_search_110 ?_
      refine hf_iload_n (i := 2) (q := 2) gc dX5_search_111 rfl rfl ?_
      refine hf_aload_n (i := 0) (q := 0) gc dX5_search_112 rfl rfl ?_
      refine hf_getR (j := 12) (k := 6) (r := 47) g rfl rfl kF_RX5_20 dX5_search_113 ?_
      refine hf_iload_n (i := 1) (q := 1) gc dX5_search_116 rfl rfl ?_
      refine hf_iald (a := 34) (r := 47) (n := 7) g rfl rfl dX5_search_117 ?_
      refine hf_iadd gc dX5_search_118 ?_
      refine hf_callV0 (j := 12) g (hr_search _ (l1 + ((1 : Int32))) (l2 + (s2.2 34 l1.toNatClampNeg))) kV_RX5_109 (by omega) (by decide) rfl rfl rfl rfl (Nat.le_of_ble_eq_true rfl) dX5_search_119 (fun s3 => ?_)
      exact hf_vret g dX5_search_122 rfl
    · refine hf_aload_n (i := 0) (q := 0) gc dX5_search_72 rfl rfl ?_
      refine hf_getR (j := 12) (k := 5) (r := 46) g rfl rfl kF_RX5_17 dX5_search_73 ?_
      refine hf_iload_n (i := 1) (q := 1) gc dX5_search_76 rfl rfl ?_
      refine hf_iconst (v := 5) gc dX5_search_77 (by decide) ?_
      refine hf_imul gc dX5_search_78 ?_
      refine hf_iload_n (i := 3) (q := 3) gc dX5_search_79 rfl rfl ?_
      refine hf_iadd gc dX5_search_80 ?_
      refine hf_iald (a := 33) (r := 46) (n := 35) g rfl rfl dX5_search_81 ?_
      refine hf_ldc (v := 2147483647) gc kC_RX5_84 dX5_search_82 ?_
      refine hf_icmp_eq (tgt := 94) gc dX5_search_84 (by decide) ?_ ?_
      · refine hf_iinc (q := 3) (v' := l3 + (1 : Int32)) (lv' := [(3, .int (l3 + (1 : Int32))), (0, .ref (ad 12)), (1, .int l1), (2, .int l2)]) gc dX5_search_94 rfl rfl (by decide) rfl ?_
        refine hf_goto (tgt := 61) gc dX5_search_97 (by decide) ?_
        refine hf_sub (lv' := [(0, .ref (ad 12)), (1, .int l1), (2, .int l2), (3, .int (l3 + (1 : Int32)))]) [1, 2, 3, 0] rfl ?_
        exact ih _ _ _ _
      · refine hf_aload_n (i := 0) (q := 0) gc dX5_search_87 rfl rfl ?_
        refine hf_iload_n (i := 1) (q := 1) gc dX5_search_88 rfl rfl ?_
        refine hf_iload_n (i := 3) (q := 3) gc dX5_search_89 rfl rfl ?_
        refine hf_iload_n (i := 2) (q := 2) gc dX5_search_90 rfl rfl ?_
        refine hf_callV0 (j := 12) g (cc_placer_searchWithHome hr_search (a1 := l1) (a2 := l3) (a3 := l2)) kV_RX5_138 (by omega) (by decide) rfl rfl rfl rfl (Nat.le_of_ble_eq_true rfl) dX5_search_91 (fun s4 => ?_)
        refine hf_iinc (q := 3) (v' := l3 + (1 : Int32)) (lv' := [(3, .int (l3 + (1 : Int32))), (0, .ref (ad 12)), (1, .int l1), (2, .int l2)]) gc dX5_search_94 rfl rfl (by decide) rfl ?_
        refine hf_goto (tgt := 61) gc dX5_search_97 (by decide) ?_
        refine hf_sub (lv' := [(0, .ref (ad 12)), (1, .int l1), (2, .int l2), (3, .int (l3 + (1 : Int32)))]) [1, 2, 3, 0] rfl ?_
        exact ih _ _ _ _
set_option maxHeartbeats 2000000 in
set_option maxRecDepth 20000 in
theorem xc_placer_search {x : hf_Cx} {ad : Nat → Nat} {cA : Nat → ClassId} {E : State → Prop} {A : Nat → Prop} {l0 : Launch} {D0 : va_G} {d : Nat} {r_search : hf_St → Int32 → Int32 → Option hf_St} (g : hf_G x hcT ad cA E A l0 D0 cX5_search 4 RX5 none (d + 3)) (hr_search : ∀ (s : hf_St) (a1 a2 : Int32), hf_Ct l0 D0 hcT ad cA E d yX5_search cX5_search 4 none [.ref (ad 12), .int a1, .int a2] s (r_search s a1 a2) hf_rv) {s : hf_St} {a1 : Int32} {a2 : Int32} : hf_X x A 4 (0, 0) (hf_Q x hcT ad cA A hf_rv) (Fc_placer_search r_search s a1 a2) (hf_wd hcT ad cA s) 0 [(0, .ref (ad 12)), (1, .int a1), (2, .int a2)] [] := by
  have gc := g.1
  unfold Fc_placer_search
  refine hf_iload_n (i := 1) (q := 1) gc dX5_search_0 rfl rfl ?_
  refine hf_aload_n (i := 0) (q := 0) gc dX5_search_1 rfl rfl ?_
  refine hf_getR (j := 12) (k := 0) (r := 1) g rfl rfl kF_RX5_44 dX5_search_2 ?_
  refine hf_callV1 (j := 1) g (cc_children_size) kV_RX5_60 (by omega) (by decide) rfl rfl rfl rfl (Nat.le_of_ble_eq_true rfl) dX5_search_5 (fun v1 => ?_)
  refine hf_icmp_gt (tgt := 26) gc dX5_search_8 (by decide) ?_ ?_
  · exact hf_vret g dX5_search_26 rfl
  · refine hf_iload_n (i := 2) (q := 2) gc dX5_search_11 rfl rfl ?_
    refine hf_aload_n (i := 0) (q := 0) gc dX5_search_12 rfl rfl ?_
    refine hf_getR (j := 12) (k := 7) (r := 48) g rfl rfl kF_RX5_23 dX5_search_13 ?_
    refine hf_iload_n (i := 1) (q := 1) gc dX5_search_16 rfl rfl ?_
    refine hf_iald (a := 35) (r := 48) (n := 8) g rfl rfl dX5_search_17 ?_
    refine hf_iadd gc dX5_search_18 ?_
    refine hf_aload_n (i := 0) (q := 0) gc dX5_search_19 rfl rfl ?_
    refine hf_getI (j := 12) (k := 14) g rfl rfl kF_RX5_105 dX5_search_20 ?_
    refine hf_icmp_lt (tgt := 27) gc dX5_search_23 (by decide) ?_ ?_
    · refine hf_iload_n (i := 1) (q := 1) gc dX5_search_27 rfl rfl ?_
      refine hf_aload_n (i := 0) (q := 0) gc dX5_search_28 rfl rfl ?_
      refine hf_getR (j := 12) (k := 0) (r := 1) g rfl rfl kF_RX5_44 dX5_search_29 ?_
      refine hf_callV1 (j := 1) g (cc_children_size) kV_RX5_60 (by omega) (by decide) rfl rfl rfl rfl (Nat.le_of_ble_eq_true rfl) dX5_search_32 (fun v2 => ?_)
      refine hf_icmp_ne (tgt := 59) gc dX5_search_35 (by decide) ?_ ?_
      · refine hf_iconst (v := 0) gc dX5_search_59 (by decide) ?_
        refine hf_istore_n (i := 3) (lv' := [(3, .int ((0 : Int32))), (0, .ref (ad 12)), (1, .int a1), (2, .int a2)]) gc dX5_search_60 rfl (by decide) rfl ?_
        refine hf_sub (lv' := [(0, .ref (ad 12)), (1, .int a1), (2, .int a2), (3, .int ((0 : Int32)))]) [1, 2, 3, 0] rfl ?_
        exact xc_placer_search_l61 g hr_search hf_fuel _ _ _ _
      · refine hf_aload_n (i := 0) (q := 0) gc dX5_search_38 rfl rfl ?_
        refine hf_iload_n (i := 2) (q := 2) gc dX5_search_39 rfl rfl ?_
        refine hf_putI (j := 12) (k := 14) g rfl rfl kP_RX5_105 rfl rfl dX5_search_40 (fun s3 => ?_)
        refine hf_aload_n (i := 0) (q := 0) gc dX5_search_43 rfl rfl ?_
        refine hf_getR (j := 12) (k := 12) (r := 53) g rfl rfl kF_RX5_38 dX5_search_44 ?_
        refine hf_iconst (v := 0) gc dX5_search_47 (by decide) ?_
        refine hf_aload_n (i := 0) (q := 0) gc dX5_search_48 rfl rfl ?_
        refine hf_getR (j := 12) (k := 13) (r := 54) g rfl rfl kF_RX5_41 dX5_search_49 ?_
        refine hf_iconst (v := 0) gc dX5_search_52 (by decide) ?_
        refine hf_bipush (v := 7) gc dX5_search_53 (by decide) ?_
        refine hf_copy (a0 := 40) (a1 := 41) (r0 := 53) (r1 := 54) (n0 := 7) (n1 := 7) g kA_RX5_132 rfl rfl rfl rfl (by decide) (by decide) (by decide) (by decide) (by decide) (by omega) (Nat.le_of_ble_eq_true rfl) dX5_search_55 (fun s4 => ?_)
        exact hf_vret g dX5_search_58 rfl
    · exact hf_vret g dX5_search_26 rfl
theorem cc_placer_search {l0 : Launch} {D0 : va_G} {ad : Nat → Nat} {cA : Nat → ClassId} {E : State → Prop} {d : Nat} {r_search : hf_St → Int32 → Int32 → Option hf_St} (hr_search : ∀ (s : hf_St) (a1 a2 : Int32), hf_Ct l0 D0 hcT ad cA E d yX5_search cX5_search 4 none [.ref (ad 12), .int a1, .int a2] s (r_search s a1 a2) hf_rv) {s : hf_St} {a1 : Int32} {a2 : Int32} : hf_Ct l0 D0 hcT ad cA E (d + 3) yX5_search cX5_search 4 none [.ref (ad 12), .int a1, .int a2] s (Fc_placer_search r_search s a1 a2) hf_rv := hf_met (by decide) (Nat.le_of_ble_eq_true rfl) (fun _ _ g => xc_placer_search g hr_search)
