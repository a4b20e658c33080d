set_option maxHeartbeats 2000000 in
set_option maxRecDepth 20000 in
theorem xc_placer_weigh_b158 {x : hf_Cx} {ad : Nat → Nat} {cA : Nat → ClassId} {E : State → Prop} {A : Nat → Prop} {l0 : Launch} {D0 : va_G} {k15 : hf_St → Int32 → Int32 → Int32 → Option hf_St} {k41 : hf_St → Int32 → Int32 → Int32 → Int32 → Int32 → Option hf_St} (g : hf_G x hcT ad cA E A l0 D0 cX5_weigh 10 RX5 none 5) (hk15 : ∀ (s : hf_St) (l2 : Int32) (l3 : Int32) (l4 : Int32), hf_X x A 10 (0, 0) (hf_Q x hcT ad cA A hf_rv) (k15 s l2 l3 l4) (hf_wd hcT ad cA s) 15 [(0, .ref (ad 12)), (2, .int l2), (3, .int l3), (4, .int l4)] []) (hk41 : ∀ (s : hf_St) (l2 : Int32) (l3 : Int32) (l4 : Int32) (l5 : Int32) (l6 : Int32), hf_X x A 10 (0, 0) (hf_Q x hcT ad cA A hf_rv) (k41 s l2 l3 l4 l5 l6) (hf_wd hcT ad cA s) 41 [(0, .ref (ad 12)), (2, .int l2), (3, .int l3), (4, .int l4), (5, .int l5), (6, .int l6)] []) (s : hf_St) (l2 : Int32) (l3 : Int32) (l4 : Int32) (l5 : Int32) (l6 : Int32) (t0 : Int32) (t1 : Int32) : hf_X x A 10 (0, 0) (hf_Q x hcT ad cA A hf_rv) (Fc_placer_weigh_b158 k15 k41 s l2 l3 l4 l5 l6 t0 t1) (hf_wd hcT ad cA s) 158 [(0, .ref (ad 12)), (2, .int l2), (3, .int l3), (4, .int l4), (5, .int l5), (6, .int l6)] [.int t0, .int t1, .ref (ad 46)] := by
  have gc := g.1
  unfold Fc_placer_weigh_b158
  refine hf_iast (a := 33) (r := 46) (n := 35) g rfl rfl dX5_weigh_158 (fun s1 => ?_)
  refine hf_iinc (q := 5) (v' := l6 + (1 : Int32)) (lv' := [(6, .int (l6 + (1 : Int32))), (0, .ref (ad 12)), (2, .int l2), (3, .int l3), (4, .int l4), (5, .int l5)]) gc dX5_weigh_159 rfl rfl (by decide) rfl ?_
  refine hf_goto (tgt := 41) gc dX5_weigh_162 (by decide) ?_
  refine hf_sub (lv' := [(0, .ref (ad 12)), (2, .int l2), (3, .int l3), (4, .int l4), (5, .int l5), (6, .int (l6 + (1 : Int32)))]) [1, 2, 3, 4, 5, 0] rfl ?_
  exact hk41 _ _ _ _ _ _
set_option maxHeartbeats 2000000 in
set_option maxRecDepth 20000 in
theorem xc_placer_weigh_b130 {x : hf_Cx} {ad : Nat → Nat} {cA : Nat → ClassId} {E : State → Prop} {A : Nat → Prop} {l0 : Launch} {D0 : va_G} {k15 : hf_St → Int32 → Int32 → Int32 → Option hf_St} {k41 : hf_St → Int32 → Int32 → Int32 → Int32 → Int32 → Option hf_St} (g : hf_G x hcT ad cA E A l0 D0 cX5_weigh 10 RX5 none 5) (hk15 : ∀ (s : hf_St) (l2 : Int32) (l3 : Int32) (l4 : Int32), hf_X x A 10 (0, 0) (hf_Q x hcT ad cA A hf_rv) (k15 s l2 l3 l4) (hf_wd hcT ad cA s) 15 [(0, .ref (ad 12)), (2, .int l2), (3, .int l3), (4, .int l4)] []) (hk41 : ∀ (s : hf_St) (l2 : Int32) (l3 : Int32) (l4 : Int32) (l5 : Int32) (l6 : Int32), hf_X x A 10 (0, 0) (hf_Q x hcT ad cA A hf_rv) (k41 s l2 l3 l4 l5 l6) (hf_wd hcT ad cA s) 41 [(0, .ref (ad 12)), (2, .int l2), (3, .int l3), (4, .int l4), (5, .int l5), (6, .int l6)] []) (s : hf_St) (l2 : Int32) (l3 : Int32) (l4 : Int32) (l5 : Int32) (l6 : Int32) (l7 : Int32) (l8 : Int32) (t0 : Int32) : hf_X x A 10 (0, 0) (hf_Q x hcT ad cA A hf_rv) (Fc_placer_weigh_b130 k15 k41 s l2 l3 l4 l5 l6 l7 l8 t0) (hf_wd hcT ad cA s) 130 [(0, .ref (ad 12)), (2, .int l2), (3, .int l3), (4, .int l4), (5, .int l5), (6, .int l6), (7, .int l7), (8, .int l8)] [.int t0] := by
  have gc := g.1
  unfold Fc_placer_weigh_b130
  refine hf_istore (i := 9) (lv' := [(9, .int t0), (0, .ref (ad 12)), (2, .int l2), (3, .int l3), (4, .int l4), (5, .int l5), (6, .int l6), (7, .int l7), (8, .int l8)]) gc dX5_weigh_130 (by decide) rfl ?_
  refine hf_aload_n (i := 0) (q := 1) gc dX5_weigh_132 rfl rfl ?_
  refine hf_getR (j := 12) (k := 5) (r := 46) g rfl rfl kF_RX5_17 dX5_weigh_133 ?_
  refine hf_iload (i := 7) (q := 7) gc dX5_weigh_136 rfl ?_
  refine hf_iload (i := 8) (q := 8) gc dX5_weigh_138 rfl ?_
  refine hf_if_eq (tgt := 156) gc dX5_weigh_140 (by decide) ?_ ?_
  · refine hf_ldc (v := 2147483647) gc kC_RX5_84 dX5_weigh_156 ?_
    refine hf_sub (lv' := [(0, .ref (ad 12)), (2, .int l2), (3, .int l3), (4, .int l4), (5, .int l5), (6, .int l6)]) [1, 2, 3, 4, 5, 6] rfl ?_
    exact xc_placer_weigh_b158 g hk15 hk41 _ _ _ _ _ _ _ _
  · refine hf_iload (i := 9) (q := 0) gc dX5_weigh_143 rfl ?_
    refine hf_aload_n (i := 0) (q := 1) gc dX5_weigh_145 rfl rfl ?_
    refine hf_getR (j := 12) (k := 4) (r := 45) g rfl rfl kF_RX5_13 dX5_weigh_146 ?_
    refine hf_iload (i := 7) (q := 7) gc dX5_weigh_149 rfl ?_
    refine hf_iald (a := 32) (r := 45) (n := 35) g rfl rfl dX5_weigh_151 ?_
    refine hf_isub gc dX5_weigh_152 ?_
    refine hf_goto (tgt := 158) gc dX5_weigh_153 (by decide) ?_
    refine hf_sub (lv' := [(0, .ref (ad 12)), (2, .int l2), (3, .int l3), (4, .int l4), (5, .int l5), (6, .int l6)]) [1, 2, 3, 4, 5, 6] rfl ?_
    exact xc_placer_weigh_b158 g hk15 hk41 _ _ _ _ _ _ _ _
set_option maxHeartbeats 2000000 in
set_option maxRecDepth 20000 in
theorem xc_placer_weigh_b129 {x : hf_Cx} {ad : Nat → Nat} {cA : Nat → ClassId} {E : State → Prop} {A : Nat → Prop} {l0 : Launch} {D0 : va_G} {k15 : hf_St → Int32 → Int32 → Int32 → Option hf_St} {k41 : hf_St → Int32 → Int32 → Int32 → Int32 → Int32 → Option hf_St} (g : hf_G x hcT ad cA E A l0 D0 cX5_weigh 10 RX5 none 5) (hk15 : ∀ (s : hf_St) (l2 : Int32) (l3 : Int32) (l4 : Int32), hf_X x A 10 (0, 0) (hf_Q x hcT ad cA A hf_rv) (k15 s l2 l3 l4) (hf_wd hcT ad cA s) 15 [(0, .ref (ad 12)), (2, .int l2), (3, .int l3), (4, .int l4)] []) (hk41 : ∀ (s : hf_St) (l2 : Int32) (l3 : Int32) (l4 : Int32) (l5 : Int32) (l6 : Int32), hf_X x A 10 (0, 0) (hf_Q x hcT ad cA A hf_rv) (k41 s l2 l3 l4 l5 l6) (hf_wd hcT ad cA s) 41 [(0, .ref (ad 12)), (2, .int l2), (3, .int l3), (4, .int l4), (5, .int l5), (6, .int l6)] []) (s : hf_St) (l2 : Int32) (l3 : Int32) (l4 : Int32) (l5 : Int32) (l6 : Int32) (l7 : Int32) (l8 : Int32) : hf_X x A 10 (0, 0) (hf_Q x hcT ad cA A hf_rv) (Fc_placer_weigh_b129 k15 k41 s l2 l3 l4 l5 l6 l7 l8) (hf_wd hcT ad cA s) 129 [(0, .ref (ad 12)), (2, .int l2), (3, .int l3), (4, .int l4), (5, .int l5), (6, .int l6), (7, .int l7), (8, .int l8)] [] := by
  have gc := g.1
  unfold Fc_placer_weigh_b129
  refine hf_iconst (v := 0) gc dX5_weigh_129 (by decide) ?_
  exact xc_placer_weigh_b130 g hk15 hk41 _ _ _ _ _ _ _ _ _
set_option maxHeartbeats 2000000 in
set_option maxRecDepth 20000 in
theorem xc_placer_weigh_b111 {x : hf_Cx} {ad : Nat → Nat} {cA : Nat → ClassId} {E : State → Prop} {A : Nat → Prop} {l0 : Launch} {D0 : va_G} {k15 : hf_St → Int32 → Int32 → Int32 → Option hf_St} {k41 : hf_St → Int32 → Int32 → Int32 → Int32 → Int32 → Option hf_St} (g : hf_G x hcT ad cA E A l0 D0 cX5_weigh 10 RX5 none 5) (hk15 : ∀ (s : hf_St) (l2 : Int32) (l3 : Int32) (l4 : Int32), hf_X x A 10 (0, 0) (hf_Q x hcT ad cA A hf_rv) (k15 s l2 l3 l4) (hf_wd hcT ad cA s) 15 [(0, .ref (ad 12)), (2, .int l2), (3, .int l3), (4, .int l4)] []) (hk41 : ∀ (s : hf_St) (l2 : Int32) (l3 : Int32) (l4 : Int32) (l5 : Int32) (l6 : Int32), hf_X x A 10 (0, 0) (hf_Q x hcT ad cA A hf_rv) (k41 s l2 l3 l4 l5 l6) (hf_wd hcT ad cA s) 41 [(0, .ref (ad 12)), (2, .int l2), (3, .int l3), (4, .int l4), (5, .int l5), (6, .int l6)] []) (s : hf_St) (l2 : Int32) (l3 : Int32) (l4 : Int32) (l5 : Int32) (l6 : Int32) (l7 : Int32) (l8 : Int32) (t0 : Int32) (t1 : Int32) : hf_X x A 10 (0, 0) (hf_Q x hcT ad cA A hf_rv) (Fc_placer_weigh_b111 k15 k41 s l2 l3 l4 l5 l6 l7 l8 t0 t1) (hf_wd hcT ad cA s) 111 [(0, .ref (ad 12)), (2, .int l2), (3, .int l3), (4, .int l4), (5, .int l5), (6, .int l6), (7, .int l7), (8, .int l8)] [.int t0, .int t1, .ref (ad 45)] := by
  have gc := g.1
  unfold Fc_placer_weigh_b111
  refine hf_iast (a := 32) (r := 45) (n := 35) g rfl rfl dX5_weigh_111 (fun s1 => ?_)
  refine hf_iload (i := 5) (q := 4) gc dX5_weigh_112 rfl ?_
  refine hf_iconst (v := -1) gc dX5_weigh_114 (by decide) ?_
  refine hf_icmp_eq (tgt := 129) gc dX5_weigh_115 (by decide) ?_ ?_
  · exact xc_placer_weigh_b129 g hk15 hk41 _ _ _ _ _ _ _ _
  · refine hf_iload (i := 5) (q := 4) gc dX5_weigh_118 rfl ?_
    refine hf_iload (i := 6) (q := 5) gc dX5_weigh_120 rfl ?_
    refine hf_icmp_eq (tgt := 129) gc dX5_weigh_122 (by decide) ?_ ?_
    · exact xc_placer_weigh_b129 g hk15 hk41 _ _ _ _ _ _ _ _
    · refine hf_iload_n (i := 3) (q := 2) gc dX5_weigh_125 rfl rfl ?_
      refine hf_goto (tgt := 130) gc dX5_weigh_126 (by decide) ?_
      exact xc_placer_weigh_b130 g hk15 hk41 _ _ _ _ _ _ _ _ _
set_option maxHeartbeats 2000000 in
set_option maxRecDepth 20000 in
theorem xc_placer_weigh_b82 {x : hf_Cx} {ad : Nat → Nat} {cA : Nat → ClassId} {E : State → Prop} {A : Nat → Prop} {l0 : Launch} {D0 : va_G} {k15 : hf_St → Int32 → Int32 → Int32 → Option hf_St} {k41 : hf_St → Int32 → Int32 → Int32 → Int32 → Int32 → Option hf_St} (g : hf_G x hcT ad cA E A l0 D0 cX5_weigh 10 RX5 none 5) (hk15 : ∀ (s : hf_St) (l2 : Int32) (l3 : Int32) (l4 : Int32), hf_X x A 10 (0, 0) (hf_Q x hcT ad cA A hf_rv) (k15 s l2 l3 l4) (hf_wd hcT ad cA s) 15 [(0, .ref (ad 12)), (2, .int l2), (3, .int l3), (4, .int l4)] []) (hk41 : ∀ (s : hf_St) (l2 : Int32) (l3 : Int32) (l4 : Int32) (l5 : Int32) (l6 : Int32), hf_X x A 10 (0, 0) (hf_Q x hcT ad cA A hf_rv) (k41 s l2 l3 l4 l5 l6) (hf_wd hcT ad cA s) 41 [(0, .ref (ad 12)), (2, .int l2), (3, .int l3), (4, .int l4), (5, .int l5), (6, .int l6)] []) (s : hf_St) (l2 : Int32) (l3 : Int32) (l4 : Int32) (l5 : Int32) (l6 : Int32) (l7 : Int32) (t0 : Int32) : hf_X x A 10 (0, 0) (hf_Q x hcT ad cA A hf_rv) (Fc_placer_weigh_b82 k15 k41 s l2 l3 l4 l5 l6 l7 t0) (hf_wd hcT ad cA s) 82 [(0, .ref (ad 12)), (2, .int l2), (3, .int l3), (4, .int l4), (5, .int l5), (6, .int l6), (7, .int l7)] [.int t0] := by
  have gc := g.1
  unfold Fc_placer_weigh_b82
  refine hf_istore (i := 8) (lv' := [(8, .int t0), (0, .ref (ad 12)), (2, .int l2), (3, .int l3), (4, .int l4), (5, .int l5), (6, .int l6), (7, .int l7)]) gc dX5_weigh_82 (by decide) rfl ?_
  refine hf_aload_n (i := 0) (q := 1) gc dX5_weigh_84 rfl rfl ?_
  refine hf_getR (j := 12) (k := 4) (r := 45) g rfl rfl kF_RX5_13 dX5_weigh_85 ?_
  refine hf_iload (i := 7) (q := 7) gc dX5_weigh_88 rfl ?_
  refine hf_iload (i := 8) (q := 0) gc dX5_weigh_90 rfl ?_
  refine hf_if_eq (tgt := 110) gc dX5_weigh_92 (by decide) ?_ ?_
  · refine hf_iconst (v := 0) gc dX5_weigh_110 (by decide) ?_
    refine hf_sub (lv' := [(0, .ref (ad 12)), (2, .int l2), (3, .int l3), (4, .int l4), (5, .int l5), (6, .int l6), (7, .int l7), (8, .int t0)]) [1, 2, 3, 4, 5, 6, 7, 0] rfl ?_
    exact xc_placer_weigh_b111 g hk15 hk41 _ _ _ _ _ _ _ _ _ _
  · refine hf_aload_n (i := 0) (q := 1) gc dX5_weigh_95 rfl rfl ?_
    refine hf_getR (j := 12) (k := 2) (r := 9) g rfl rfl kF_RX5_52 dX5_weigh_96 ?_
    refine hf_iload (i := 4) (q := 4) gc dX5_weigh_99 rfl ?_
    refine hf_iload (i := 6) (q := 6) gc dX5_weigh_101 rfl ?_
    refine hf_iload_n (i := 2) (q := 2) gc dX5_weigh_103 rfl rfl ?_
    refine hf_callV2 (j := 9) g (cc_judge_wishOf (a1 := l4) (a2 := l6) (a3 := l2)) kV_RX5_81 (by decide) (by decide) rfl rfl rfl rfl (Nat.le_of_ble_eq_true rfl) dX5_weigh_104 (fun v1 s2 => ?_)
    refine hf_goto (tgt := 111) gc dX5_weigh_107 (by decide) ?_
    refine hf_sub (lv' := [(0, .ref (ad 12)), (2, .int l2), (3, .int l3), (4, .int l4), (5, .int l5), (6, .int l6), (7, .int l7), (8, .int t0)]) [1, 2, 3, 4, 5, 6, 7, 0] rfl ?_
    exact xc_placer_weigh_b111 g hk15 hk41 _ _ _ _ _ _ _ _ _ _
set_option maxHeartbeats 2000000 in
set_option maxRecDepth 20000 in
theorem xc_placer_weigh_b205 {x : hf_Cx} {ad : Nat → Nat} {cA : Nat → ClassId} {E : State → Prop} {A : Nat → Prop} {l0 : Launch} {D0 : va_G} {k15 : hf_St → Int32 → Int32 → Int32 → Option hf_St} (g : hf_G x hcT ad cA E A l0 D0 cX5_weigh 10 RX5 none 5) (hk15 : ∀ (s : hf_St) (l2 : Int32) (l3 : Int32) (l4 : Int32), hf_X x A 10 (0, 0) (hf_Q x hcT ad cA A hf_rv) (k15 s l2 l3 l4) (hf_wd hcT ad cA s) 15 [(0, .ref (ad 12)), (2, .int l2), (3, .int l3), (4, .int l4)] []) (s : hf_St) (l2 : Int32) (l3 : Int32) (l4 : Int32) (t0 : Int32) (t1 : Int32) : hf_X x A 10 (0, 0) (hf_Q x hcT ad cA A hf_rv) (Fc_placer_weigh_b205 k15 s l2 l3 l4 t0 t1) (hf_wd hcT ad cA s) 205 [(0, .ref (ad 12)), (2, .int l2), (3, .int l3), (4, .int l4)] [.int t0, .int t1, .ref (ad 47)] := by
  have gc := g.1
  unfold Fc_placer_weigh_b205
  refine hf_iast (a := 34) (r := 47) (n := 7) g rfl rfl dX5_weigh_205 (fun s1 => ?_)
  refine hf_iinc (q := 3) (v' := l4 + (1 : Int32)) (lv' := [(4, .int (l4 + (1 : Int32))), (0, .ref (ad 12)), (2, .int l2), (3, .int l3)]) gc dX5_weigh_206 rfl rfl (by decide) rfl ?_
  refine hf_goto (tgt := 15) gc dX5_weigh_209 (by decide) ?_
  refine hf_sub (lv' := [(0, .ref (ad 12)), (2, .int l2), (3, .int l3), (4, .int (l4 + (1 : Int32)))]) [1, 2, 3, 0] rfl ?_
  exact hk15 _ _ _ _
set_option maxHeartbeats 2000000 in
set_option maxRecDepth 20000 in
theorem xc_placer_weigh_b178 {x : hf_Cx} {ad : Nat → Nat} {cA : Nat → ClassId} {E : State → Prop} {A : Nat → Prop} {l0 : Launch} {D0 : va_G} {k15 : hf_St → Int32 → Int32 → Int32 → Option hf_St} (g : hf_G x hcT ad cA E A l0 D0 cX5_weigh 10 RX5 none 5) (hk15 : ∀ (s : hf_St) (l2 : Int32) (l3 : Int32) (l4 : Int32), hf_X x A 10 (0, 0) (hf_Q x hcT ad cA A hf_rv) (k15 s l2 l3 l4) (hf_wd hcT ad cA s) 15 [(0, .ref (ad 12)), (2, .int l2), (3, .int l3), (4, .int l4)] []) (s : hf_St) (l2 : Int32) (l3 : Int32) (l4 : Int32) (t0 : Int32) (t1 : Int32) : hf_X x A 10 (0, 0) (hf_Q x hcT ad cA A hf_rv) (Fc_placer_weigh_b178 k15 s l2 l3 l4 t0 t1) (hf_wd hcT ad cA s) 178 [(0, .ref (ad 12)), (2, .int l2), (3, .int l3), (4, .int l4)] [.int t0, .int t1] := by
  have gc := g.1
  unfold Fc_placer_weigh_b178
  refine hf_iadd gc dX5_weigh_178 ?_
  refine hf_let (fun v1 => ?_)
  refine hf_istore (i := 6) (lv' := [(6, .int v1), (0, .ref (ad 12)), (2, .int l2), (3, .int l3), (4, .int l4)]) gc dX5_weigh_179 (by decide) rfl ?_
  refine hf_aload_n (i := 0) (q := 1) gc dX5_weigh_181 rfl rfl ?_
  refine hf_getR (j := 12) (k := 6) (r := 47) g rfl rfl kF_RX5_20 dX5_weigh_182 ?_
  refine hf_iload (i := 4) (q := 4) gc dX5_weigh_185 rfl ?_
  refine hf_aload_n (i := 0) (q := 1) gc dX5_weigh_187 rfl rfl ?_
  refine hf_getR (j := 12) (k := 0) (r := 1) g rfl rfl kF_RX5_44 dX5_weigh_188 ?_
  refine hf_iload (i := 4) (q := 4) gc dX5_weigh_191 rfl ?_
  refine hf_callV1 (j := 1) g (cc_children_hasNeed (a1 := l4)) kV_RX5_86 (by decide) (by decide) rfl rfl rfl rfl (Nat.le_of_ble_eq_true rfl) dX5_weigh_193 (fun v2 => ?_)
  refine hf_if_eq (tgt := 204) gc dX5_weigh_196 (by decide) ?_ ?_
  · refine hf_iconst (v := 0) gc dX5_weigh_204 (by decide) ?_
    refine hf_sub (lv' := [(0, .ref (ad 12)), (2, .int l2), (3, .int l3), (4, .int l4)]) [1, 2, 3, 4] rfl ?_
    exact xc_placer_weigh_b205 g hk15 _ _ _ _ _ _
  · refine hf_iload (i := 6) (q := 0) gc dX5_weigh_199 rfl ?_
    refine hf_goto (tgt := 205) gc dX5_weigh_201 (by decide) ?_
    refine hf_sub (lv' := [(0, .ref (ad 12)), (2, .int l2), (3, .int l3), (4, .int l4)]) [1, 2, 3, 4] rfl ?_
    exact xc_placer_weigh_b205 g hk15 _ _ _ _ _ _
set_option maxHeartbeats 2000000 in
set_option maxRecDepth 20000 in
theorem xc_placer_weigh_l41 {x : hf_Cx} {ad : Nat → Nat} {cA : Nat → ClassId} {E : State → Prop} {A : Nat → Prop} {l0 : Launch} {D0 : va_G} {k15 : hf_St → Int32 → Int32 → Int32 → Option hf_St} (g : hf_G x hcT ad cA E A l0 D0 cX5_weigh 10 RX5 none 5) (hk15 : ∀ (s : hf_St) (l2 : Int32) (l3 : Int32) (l4 : Int32), hf_X x A 10 (0, 0) (hf_Q x hcT ad cA A hf_rv) (k15 s l2 l3 l4) (hf_wd hcT ad cA s) 15 [(0, .ref (ad 12)), (2, .int l2), (3, .int l3), (4, .int l4)] []) : ∀ (n : Nat) (s : hf_St) (l2 : Int32) (l3 : Int32) (l4 : Int32) (l5 : Int32) (l6 : Int32), hf_X x A 10 (0, 0) (hf_Q x hcT ad cA A hf_rv) (Fc_placer_weigh_l41 k15 n s l2 l3 l4 l5 l6) (hf_wd hcT ad cA s) 41 [(0, .ref (ad 12)), (2, .int l2), (3, .int l3), (4, .int l4), (5, .int l5), (6, .int l6)] [] := by
  have gc := g.1
  intro n
  induction n with
  | zero => intro s l2 l3 l4 l5 l6; exact hf_none
  | succ n ih =>
    intro s l2 l3 l4 l5 l6
    rw [Fc_placer_weigh_l41]
    refine hf_iload (i := 6) (q := 5) gc dX5_weigh_41 rfl ?_
    refine hf_aload_n (i := 0) (q := 0) gc dX5_weigh_43 rfl rfl ?_
    refine hf_getR (j := 12) (k := 1) (r := 2) g rfl rfl kF_RX5_48 dX5_weigh_44 ?_
    refine hf_callV1 (j := 2) g (cc_homes_size) kV_RX5_72 (by decide) (by decide) rfl rfl rfl rfl (Nat.le_of_ble_eq_true rfl) dX5_weigh_47 (fun v1 => ?_)
    refine hf_icmp_ge (tgt := 165) gc dX5_weigh_50 (by decide) ?_ ?_
    · refine hf_ldc (v := 524288) gc kC_RX5_85 dX5_weigh_165 ?_
      refine hf_iload (i := 5) (q := 4) gc dX5_weigh_167 rfl ?_
      refine hf_iconst (v := -1) gc dX5_weigh_169 (by decide) ?_
      refine hf_icmp_eq (tgt := 177) gc dX5_weigh_170 (by decide) ?_ ?_
      · refine hf_iconst (v := 0) gc dX5_weigh_177 (by decide) ?_
        refine hf_sub (lv' := [(0, .ref (ad 12)), (2, .int l2), (3, .int l3), (4, .int l4)]) [0, 1, 2, 3] rfl ?_
        exact xc_placer_weigh_b178 g hk15 _ _ _ _ _ _
      · refine hf_iload_n (i := 3) (q := 2) gc dX5_weigh_173 rfl rfl ?_
        refine hf_goto (tgt := 178) gc dX5_weigh_174 (by decide) ?_
        refine hf_sub (lv' := [(0, .ref (ad 12)), (2, .int l2), (3, .int l3), (4, .int l4)]) [0, 1, 2, 3] rfl ?_
        exact xc_placer_weigh_b178 g hk15 _ _ _ _ _ _
    · refine hf_iload (i := 4) (q := 3) gc dX5_weigh_53 rfl ?_
      refine hf_iconst (v := 5) gc dX5_weigh_55 (by decide) ?_
      refine hf_imul gc dX5_weigh_56 ?_
      refine hf_iload (i := 6) (q := 5) gc dX5_weigh_57 rfl ?_
      refine hf_iadd gc dX5_weigh_59 ?_
      refine hf_let (fun v2 => ?_)
      refine hf_istore (i := 7) (lv' := [(7, .int v2), (0, .ref (ad 12)), (2, .int l2), (3, .int l3), (4, .int l4), (5, .int l5), (6, .int l6)]) gc dX5_weigh_60 (by decide) rfl ?_
      refine hf_aload_n (i := 0) (q := 1) gc dX5_weigh_62 rfl rfl ?_
      refine hf_getR (j := 12) (k := 2) (r := 9) g rfl rfl kF_RX5_52 dX5_weigh_63 ?_
      refine hf_iload (i := 4) (q := 4) gc dX5_weigh_66 rfl ?_
      refine hf_iload (i := 6) (q := 6) gc dX5_weigh_68 rfl ?_
      refine hf_iload_n (i := 2) (q := 2) gc dX5_weigh_70 rfl rfl ?_
      refine hf_callV2 (j := 9) g (cc_judge_findBar (a1 := l4) (a2 := l6) (a3 := l2)) kV_RX5_75 (by decide) (by decide) rfl rfl rfl rfl (Nat.le_of_ble_eq_true rfl) dX5_weigh_71 (fun v3 s4 => ?_)
      refine hf_if_ne (tgt := 81) gc dX5_weigh_74 (by decide) ?_ ?_
      · refine hf_iconst (v := 0) gc dX5_weigh_81 (by decide) ?_
        refine hf_sub (lv' := [(0, .ref (ad 12)), (2, .int l2), (3, .int l3), (4, .int l4), (5, .int l5), (6, .int l6), (7, .int v2)]) [1, 2, 3, 4, 5, 6, 0] rfl ?_
        exact xc_placer_weigh_b82 g hk15 (fun z0 z1 z2 z3 z4 z5 => ih z0 z1 z2 z3 z4 z5) _ _ _ _ _ _ _ _
      · refine hf_iconst (v := 1) gc dX5_weigh_77 (by decide) ?_
        refine hf_goto (tgt := 82) gc dX5_weigh_78 (by decide) ?_
        refine hf_sub (lv' := [(0, .ref (ad 12)), (2, .int l2), (3, .int l3), (4, .int l4), (5, .int l5), (6, .int l6), (7, .int v2)]) [1, 2, 3, 4, 5, 6, 0] rfl ?_
        exact xc_placer_weigh_b82 g hk15 (fun z0 z1 z2 z3 z4 z5 => ih z0 z1 z2 z3 z4 z5) _ _ _ _ _ _ _ _
set_option maxHeartbeats 2000000 in
set_option maxRecDepth 20000 in
theorem xc_placer_weigh_l15 {x : hf_Cx} {ad : Nat → Nat} {cA : Nat → ClassId} {E : State → Prop} {A : Nat → Prop} {l0 : Launch} {D0 : va_G} (g : hf_G x hcT ad cA E A l0 D0 cX5_weigh 10 RX5 none 5) : ∀ (n : Nat) (s : hf_St) (l2 : Int32) (l3 : Int32) (l4 : Int32), hf_X x A 10 (0, 0) (hf_Q x hcT ad cA A hf_rv) (Fc_placer_weigh_l15 n s l2 l3 l4) (hf_wd hcT ad cA s) 15 [(0, .ref (ad 12)), (2, .int l2), (3, .int l3), (4, .int l4)] [] := by
  have gc := g.1
  intro n
  induction n with
  | zero => intro s l2 l3 l4; exact hf_none
  | succ n ih =>
    intro s l2 l3 l4
    rw [Fc_placer_weigh_l15]
    refine hf_iload (i := 4) (q := 3) gc dX5_weigh_15 rfl ?_
    refine hf_aload_n (i := 0) (q := 0) gc dX5_weigh_17 rfl rfl ?_
    refine hf_getR (j := 12) (k := 0) (r := 1) g rfl rfl kF_RX5_44 dX5_weigh_18 ?_
    refine hf_callV1 (j := 1) g (cc_children_size) kV_RX5_60 (by decide) (by decide) rfl rfl rfl rfl (Nat.le_of_ble_eq_true rfl) dX5_weigh_21 (fun v1 => ?_)
    refine hf_icmp_ge (tgt := 212) gc dX5_weigh_24 (by decide) ?_ ?_
    · exact hf_vret g dX5_weigh_212 rfl
    · refine hf_aload_n (i := 0) (q := 0) gc dX5_weigh_27 rfl rfl ?_
      refine hf_getR (j := 12) (k := 3) (r := 11) g rfl rfl kF_RX5_56 dX5_weigh_28 ?_
      refine hf_iload (i := 4) (q := 3) gc dX5_weigh_31 rfl ?_
      refine hf_callV1 (j := 11) g (cc_latest_homeOf (a1 := l4)) kV_RX5_66 (by decide) (by decide) rfl rfl rfl rfl (Nat.le_of_ble_eq_true rfl) dX5_weigh_33 (fun v2 => ?_)
      refine hf_istore (i := 5) (lv' := [(5, .int v2), (0, .ref (ad 12)), (2, .int l2), (3, .int l3), (4, .int l4)]) gc dX5_weigh_36 (by decide) rfl ?_
      refine hf_iconst (v := 0) gc dX5_weigh_38 (by decide) ?_
      refine hf_istore (i := 6) (lv' := [(6, .int ((0 : Int32))), (5, .int v2), (0, .ref (ad 12)), (2, .int l2), (3, .int l3), (4, .int l4)]) gc dX5_weigh_39 (by decide) rfl ?_
      refine hf_sub (lv' := [(0, .ref (ad 12)), (2, .int l2), (3, .int l3), (4, .int l4), (5, .int v2), (6, .int ((0 : Int32)))]) [2, 3, 4, 5, 1, 0] rfl ?_
      exact xc_placer_weigh_l41 g (fun z0 z1 z2 z3 => ih z0 z1 z2 z3) hf_fuel _ _ _ _ _ _
set_option maxHeartbeats 2000000 in
set_option maxRecDepth 20000 in
theorem xc_placer_weigh {x : hf_Cx} {ad : Nat → Nat} {cA : Nat → ClassId} {E : State → Prop} {A : Nat → Prop} {l0 : Launch} {D0 : va_G} (g : hf_G x hcT ad cA E A l0 D0 cX5_weigh 10 RX5 none 5) {s : hf_St} {a1 : Int32} {a2 : Int32} : hf_X x A 10 (0, 0) (hf_Q x hcT ad cA A hf_rv) (Fc_placer_weigh s a1 a2) (hf_wd hcT ad cA s) 0 [(0, .ref (ad 12)), (1, .int a1), (2, .int a2)] [] := by
  have gc := g.1
  unfold Fc_placer_weigh
  refine hf_iload_n (i := 1) (q := 1) gc dX5_weigh_0 rfl rfl ?_
  refine hf_if_eq (tgt := 10) gc dX5_weigh_1 (by decide) ?_ ?_
  · refine hf_iconst (v := 0) gc dX5_weigh_10 (by decide) ?_
    refine hf_istore_n (i := 3) (lv' := [(3, .int ((0 : Int32))), (0, .ref (ad 12)), (1, .int a1), (2, .int a2)]) gc dX5_weigh_11 rfl (by decide) rfl ?_
    refine hf_iconst (v := 0) gc dX5_weigh_12 (by decide) ?_
    refine hf_istore (i := 4) (lv' := [(4, .int ((0 : Int32))), (3, .int ((0 : Int32))), (0, .ref (ad 12)), (1, .int a1), (2, .int a2)]) gc dX5_weigh_13 (by decide) rfl ?_
    refine hf_sub (lv' := [(0, .ref (ad 12)), (2, .int a2), (3, .int ((0 : Int32))), (4, .int ((0 : Int32)))]) [2, 4, 1, 0] rfl ?_
    exact xc_placer_weigh_l15 g hf_fuel _ _ _ _
  · refine hf_sipush (v := 16384) gc dX5_weigh_4 (by decide) ?_
    refine hf_goto (tgt := 11) gc dX5_weigh_7 (by decide) ?_
    refine hf_istore_n (i := 3) (lv' := [(3, .int ((16384 : Int32))), (0, .ref (ad 12)), (1, .int a1), (2, .int a2)]) gc dX5_weigh_11 rfl (by decide) rfl ?_
    refine hf_iconst (v := 0) gc dX5_weigh_12 (by decide) ?_
    refine hf_istore (i := 4) (lv' := [(4, .int ((0 : Int32))), (3, .int ((16384 : Int32))), (0, .ref (ad 12)), (1, .int a1), (2, .int a2)]) gc dX5_weigh_13 (by decide) rfl ?_
    refine hf_sub (lv' := [(0, .ref (ad 12)), (2, .int a2), (3, .int ((16384 : Int32))), (4, .int ((0 : Int32)))]) [2, 4, 1, 0] rfl ?_
    exact xc_placer_weigh_l15 g hf_fuel _ _ _ _
theorem cc_placer_weigh {l0 : Launch} {D0 : va_G} {ad : Nat → Nat} {cA : Nat → ClassId} {E : State → Prop} {s : hf_St} {a1 : Int32} {a2 : Int32} : hf_Ct l0 D0 hcT ad cA E 5 yX5_weigh cX5_weigh 10 none [.ref (ad 12), .int a1, .int a2] s (Fc_placer_weigh s a1 a2) hf_rv := hf_met (by decide) (Nat.le_of_ble_eq_true rfl) (fun _ _ g => xc_placer_weigh g)
set_option maxHeartbeats 2000000 in
set_option maxRecDepth 20000 in
theorem xc_placer_sumLeastPrices_l36 {x : hf_Cx} {ad : Nat → Nat} {cA : Nat → ClassId} {E : State → Prop} {A : Nat → Prop} {l0 : Launch} {D0 : va_G} {k23 : hf_St → Int32 → Option hf_St} (g : hf_G x hcT ad cA E A l0 D0 cX5_sumLeastPrices 4 RX5 none 1) (hk23 : ∀ (s : hf_St) (l1 : Int32), hf_X x A 4 (0, 0) (hf_Q x hcT ad cA A hf_rv) (k23 s l1) (hf_wd hcT ad cA s) 23 [(0, .ref (ad 12)), (1, .int l1)] []) : ∀ (n : Nat) (s : hf_St) (l1 : Int32) (l2 : Int32) (l3 : Int32), hf_X x A 4 (0, 0) (hf_Q x hcT ad cA A hf_rv) (Fc_placer_sumLeastPrices_l36 k23 n s l1 l2 l3) (hf_wd hcT ad cA s) 36 [(0, .ref (ad 12)), (1, .int l1), (2, .int l2), (3, .int l3)] [] := by
  have gc := g.1
  intro n
  induction n with
  | zero => intro s l1 l2 l3; exact hf_none
  | succ n ih =>
    intro s l1 l2 l3
    rw [Fc_placer_sumLeastPrices_l36]
    refine hf_iload_n (i := 3) (q := 3) gc dX5_sumLeastPrices_36 rfl rfl ?_
    refine hf_aload_n (i := 0) (q := 0) gc dX5_sumLeastPrices_37 rfl rfl ?_
    refine hf_getR (j := 12) (k := 1) (r := 2) g rfl rfl kF_RX5_48 dX5_sumLeastPrices_38 ?_
    refine hf_callV1 (j := 2) g (cc_homes_size) kV_RX5_72 (by decide) (by decide) rfl rfl rfl rfl (Nat.le_of_ble_eq_true rfl) dX5_sumLeastPrices_41 (fun v1 => ?_)
    refine hf_icmp_ge (tgt := 68) gc dX5_sumLeastPrices_44 (by decide) ?_ ?_
    · refine hf_aload_n (i := 0) (q := 0) gc dX5_sumLeastPrices_68 rfl rfl ?_
      refine hf_getR (j := 12) (k := 7) (r := 48) g rfl rfl kF_RX5_23 dX5_sumLeastPrices_69 ?_
      refine hf_iload_n (i := 1) (q := 1) gc dX5_sumLeastPrices_72 rfl rfl ?_
      refine hf_aload_n (i := 0) (q := 0) gc dX5_sumLeastPrices_73 rfl rfl ?_
      refine hf_getR (j := 12) (k := 7) (r := 48) g rfl rfl kF_RX5_23 dX5_sumLeastPrices_74 ?_
      refine hf_iload_n (i := 1) (q := 1) gc dX5_sumLeastPrices_77 rfl rfl ?_
      refine hf_iconst (v := 1) gc dX5_sumLeastPrices_78 (by decide) ?_
      refine hf_iadd gc dX5_sumLeastPrices_79 ?_
      refine hf_iald (a := 35) (r := 48) (n := 8) g rfl rfl dX5_sumLeastPrices_80 ?_
      refine hf_iload_n (i := 2) (q := 2) gc dX5_sumLeastPrices_81 rfl rfl ?_
      refine hf_iadd gc dX5_sumLeastPrices_82 ?_
      refine hf_iast (a := 35) (r := 48) (n := 8) g rfl rfl dX5_sumLeastPrices_83 (fun s2 => ?_)
      refine hf_iinc (q := 1) (v' := l1 + (-1 : Int32)) (lv' := [(1, .int (l1 + (-1 : Int32))), (0, .ref (ad 12)), (2, .int l2), (3, .int l3)]) gc dX5_sumLeastPrices_84 rfl rfl (by decide) rfl ?_
      refine hf_goto (tgt := 23) gc dX5_sumLeastPrices_87 (by decide) ?_
      refine hf_sub (lv' := [(0, .ref (ad 12)), (1, .int (l1 + (-1 : Int32)))]) [1, 0] rfl ?_
      exact hk23 _ _
    · refine hf_iload_n (i := 2) (q := 2) gc dX5_sumLeastPrices_47 rfl rfl ?_
      refine hf_aload_n (i := 0) (q := 0) gc dX5_sumLeastPrices_48 rfl rfl ?_
      refine hf_getR (j := 12) (k := 5) (r := 46) g rfl rfl kF_RX5_17 dX5_sumLeastPrices_49 ?_
      refine hf_iload_n (i := 1) (q := 1) gc dX5_sumLeastPrices_52 rfl rfl ?_
      refine hf_iconst (v := 5) gc dX5_sumLeastPrices_53 (by decide) ?_
      refine hf_imul gc dX5_sumLeastPrices_54 ?_
      refine hf_iload_n (i := 3) (q := 3) gc dX5_sumLeastPrices_55 rfl rfl ?_
      refine hf_iadd gc dX5_sumLeastPrices_56 ?_
      refine hf_iald (a := 33) (r := 46) (n := 35) g rfl rfl dX5_sumLeastPrices_57 ?_
      refine hf_mmin g kM_RX5_113 (by decide) (Nat.le_of_ble_eq_true rfl) dX5_sumLeastPrices_58 ?_
      refine hf_let (fun v3 => ?_)
      refine hf_istore_n (i := 2) (lv' := [(2, .int v3), (0, .ref (ad 12)), (1, .int l1), (3, .int l3)]) gc dX5_sumLeastPrices_61 rfl (by decide) rfl ?_
      refine hf_iinc (q := 3) (v' := l3 + (1 : Int32)) (lv' := [(3, .int (l3 + (1 : Int32))), (2, .int v3), (0, .ref (ad 12)), (1, .int l1)]) gc dX5_sumLeastPrices_62 rfl rfl (by decide) rfl ?_
      refine hf_goto (tgt := 36) gc dX5_sumLeastPrices_65 (by decide) ?_
      refine hf_sub (lv' := [(0, .ref (ad 12)), (1, .int l1), (2, .int v3), (3, .int (l3 + (1 : Int32)))]) [2, 3, 1, 0] rfl ?_
      exact ih _ _ _ _
set_option maxHeartbeats 2000000 in
set_option maxRecDepth 20000 in
theorem xc_placer_sumLeastPrices_l23 {x : hf_Cx} {ad : Nat → Nat} {cA : Nat → ClassId} {E : State → Prop} {A : Nat → Prop} {l0 : Launch} {D0 : va_G} (g : hf_G x hcT ad cA E A l0 D0 cX5_sumLeastPrices 4 RX5 none 1) : ∀ (n : Nat) (s : hf_St) (l1 : Int32), hf_X x A 4 (0, 0) (hf_Q x hcT ad cA A hf_rv) (Fc_placer_sumLeastPrices_l23 n s l1) (hf_wd hcT ad cA s) 23 [(0, .ref (ad 12)), (1, .int l1)] [] := by
  have gc := g.1
  intro n
  induction n with
  | zero => intro s l1; exact hf_none
  | succ n ih =>
    intro s l1
    rw [Fc_placer_sumLeastPrices_l23]
    refine hf_iload_n (i := 1) (q := 1) gc dX5_sumLeastPrices_23 rfl rfl ?_
    refine hf_if_lt (tgt := 90) gc dX5_sumLeastPrices_24 (by decide) ?_ ?_
    · exact hf_vret g dX5_sumLeastPrices_90 rfl
    · refine hf_aload_n (i := 0) (q := 0) gc dX5_sumLeastPrices_27 rfl rfl ?_
      refine hf_getR (j := 12) (k := 6) (r := 47) g rfl rfl kF_RX5_20 dX5_sumLeastPrices_28 ?_
      refine hf_iload_n (i := 1) (q := 1) gc dX5_sumLeastPrices_31 rfl rfl ?_
      refine hf_iald (a := 34) (r := 47) (n := 7) g rfl rfl dX5_sumLeastPrices_32 ?_
      refine hf_let (fun v1 => ?_)
      refine hf_istore_n (i := 2) (lv' := [(2, .int v1), (0, .ref (ad 12)), (1, .int l1)]) gc dX5_sumLeastPrices_33 rfl (by decide) rfl ?_
      refine hf_iconst (v := 0) gc dX5_sumLeastPrices_34 (by decide) ?_
      refine hf_istore_n (i := 3) (lv' := [(3, .int ((0 : Int32))), (2, .int v1), (0, .ref (ad 12)), (1, .int l1)]) gc dX5_sumLeastPrices_35 rfl (by decide) rfl ?_
      refine hf_sub (lv' := [(0, .ref (ad 12)), (1, .int l1), (2, .int v1), (3, .int ((0 : Int32)))]) [2, 3, 1, 0] rfl ?_
      exact xc_placer_sumLeastPrices_l36 g (fun z0 z1 => ih z0 z1) hf_fuel _ _ _ _
set_option maxHeartbeats 2000000 in
set_option maxRecDepth 20000 in
theorem xc_placer_sumLeastPrices {x : hf_Cx} {ad : Nat → Nat} {cA : Nat → ClassId} {E : State → Prop} {A : Nat → Prop} {l0 : Launch} {D0 : va_G} (g : hf_G x hcT ad cA E A l0 D0 cX5_sumLeastPrices 4 RX5 none 1) {s : hf_St} : hf_X x A 4 (0, 0) (hf_Q x hcT ad cA A hf_rv) (Fc_placer_sumLeastPrices s) (hf_wd hcT ad cA s) 0 [(0, .ref (ad 12))] [] := by
  have gc := g.1
  unfold Fc_placer_sumLeastPrices
  refine hf_aload_n (i := 0) (q := 0) gc dX5_sumLeastPrices_0 rfl rfl ?_
  refine hf_getR (j := 12) (k := 7) (r := 48) g rfl rfl kF_RX5_23 dX5_sumLeastPrices_1 ?_
  refine hf_aload_n (i := 0) (q := 0) gc dX5_sumLeastPrices_4 rfl rfl ?_
  refine hf_getR (j := 12) (k := 0) (r := 1) g rfl rfl kF_RX5_44 dX5_sumLeastPrices_5 ?_
  refine hf_callV1 (j := 1) g (cc_children_size) kV_RX5_60 (by decide) (by decide) rfl rfl rfl rfl (Nat.le_of_ble_eq_true rfl) dX5_sumLeastPrices_8 (fun v1 => ?_)
  refine hf_iconst (v := 0) gc dX5_sumLeastPrices_11 (by decide) ?_
  refine hf_iast (a := 35) (r := 48) (n := 8) g rfl rfl dX5_sumLeastPrices_12 (fun s2 => ?_)
  refine hf_aload_n (i := 0) (q := 0) gc dX5_sumLeastPrices_13 rfl rfl ?_
  refine hf_getR (j := 12) (k := 0) (r := 1) g rfl rfl kF_RX5_44 dX5_sumLeastPrices_14 ?_
  refine hf_callV1 (j := 1) g (cc_children_size) kV_RX5_60 (by decide) (by decide) rfl rfl rfl rfl (Nat.le_of_ble_eq_true rfl) dX5_sumLeastPrices_17 (fun v3 => ?_)
  refine hf_iconst (v := 1) gc dX5_sumLeastPrices_20 (by decide) ?_
  refine hf_isub gc dX5_sumLeastPrices_21 ?_
  refine hf_let (fun v4 => ?_)
  refine hf_istore_n (i := 1) (lv' := [(1, .int v4), (0, .ref (ad 12))]) gc dX5_sumLeastPrices_22 rfl (by decide) rfl ?_
  refine hf_sub (lv' := [(0, .ref (ad 12)), (1, .int v4)]) [1, 0] rfl ?_
  exact xc_placer_sumLeastPrices_l23 g hf_fuel _ _
theorem cc_placer_sumLeastPrices {l0 : Launch} {D0 : va_G} {ad : Nat → Nat} {cA : Nat → ClassId} {E : State → Prop} {s : hf_St} : hf_Ct l0 D0 hcT ad cA E 1 yX5_sumLeastPrices cX5_sumLeastPrices 4 none [.ref (ad 12)] s (Fc_placer_sumLeastPrices s) hf_rv := hf_met (by decide) (Nat.le_of_ble_eq_true rfl) (fun _ _ g => xc_placer_sumLeastPrices g)
set_option maxHeartbeats 2000000 in
set_option maxRecDepth 20000 in
theorem xc_placer_findTogether_l17 {x : hf_Cx} {ad : Nat → Nat} {cA : Nat → ClassId} {E : State → Prop} {A : Nat → Prop} {l0 : Launch} {D0 : va_G} {k2 : hf_St → Int32 → Option hf_St} (g : hf_G x hcT ad cA E A l0 D0 cX5_findTogether 4 RX5 none 3) (hk2 : ∀ (s : hf_St) (l1 : Int32), hf_X x A 4 (0, 0) (hf_Q x hcT ad cA A hf_rv) (k2 s l1) (hf_wd hcT ad cA s) 2 [(0, .ref (ad 12)), (1, .int l1)] []) : ∀ (n : Nat) (s : hf_St) (l1 : Int32) (l2 : Int32) (l3 : Int32), hf_X x A 4 (0, 0) (hf_Q x hcT ad cA A hf_rv) (Fc_placer_findTogether_l17 k2 n s l1 l2 l3) (hf_wd hcT ad cA s) 17 [(0, .ref (ad 12)), (1, .int l1), (2, .int l2), (3, .int l3)] [] := by
  have gc := g.1
  intro n
  induction n with
  | zero => intro s l1 l2 l3; exact hf_none
  | succ n ih =>
    intro s l1 l2 l3
    rw [Fc_placer_findTogether_l17]
    refine hf_iload_n (i := 3) (q := 3) gc dX5_findTogether_17 rfl rfl ?_
    refine hf_aload_n (i := 0) (q := 0) gc dX5_findTogether_18 rfl rfl ?_
    refine hf_getR (j := 12) (k := 0) (r := 1) g rfl rfl kF_RX5_44 dX5_findTogether_19 ?_
    refine hf_callV1 (j := 1) g (cc_children_size) kV_RX5_60 (by decide) (by decide) rfl rfl rfl rfl (Nat.le_of_ble_eq_true rfl) dX5_findTogether_22 (fun v1 => ?_)
    refine hf_icmp_ge (tgt := 59) gc dX5_findTogether_25 (by decide) ?_ ?_
    · refine hf_aload_n (i := 0) (q := 0) gc dX5_findTogether_59 rfl rfl ?_
      refine hf_getR (j := 12) (k := 8) (r := 49) g rfl rfl kF_RX5_26 dX5_findTogether_60 ?_
      refine hf_iload_n (i := 1) (q := 1) gc dX5_findTogether_63 rfl rfl ?_
      refine hf_iload_n (i := 2) (q := 2) gc dX5_findTogether_64 rfl rfl ?_
      refine hf_iast (a := 36) (r := 49) (n := 7) g rfl rfl dX5_findTogether_65 (fun s2 => ?_)
      refine hf_iinc (q := 1) (v' := l1 + (1 : Int32)) (lv' := [(1, .int (l1 + (1 : Int32))), (0, .ref (ad 12)), (2, .int l2), (3, .int l3)]) gc dX5_findTogether_66 rfl rfl (by decide) rfl ?_
      refine hf_goto (tgt := 2) gc dX5_findTogether_69 (by decide) ?_
      refine hf_sub (lv' := [(0, .ref (ad 12)), (1, .int (l1 + (1 : Int32)))]) [1, 0] rfl ?_
      exact hk2 _ _
    · refine hf_aload_n (i := 0) (q := 0) gc dX5_findTogether_28 rfl rfl ?_
      refine hf_getR (j := 12) (k := 0) (r := 1) g rfl rfl kF_RX5_44 dX5_findTogether_29 ?_
      refine hf_iload_n (i := 3) (q := 3) gc dX5_findTogether_32 rfl rfl ?_
      refine hf_aload_n (i := 0) (q := 0) gc dX5_findTogether_33 rfl rfl ?_
      refine hf_getR (j := 12) (k := 0) (r := 1) g rfl rfl kF_RX5_44 dX5_findTogether_34 ?_
      refine hf_iload_n (i := 1) (q := 1) gc dX5_findTogether_37 rfl rfl ?_
      refine hf_callV1 (j := 1) g (cc_children_firstDay (a1 := l1)) kV_RX5_119 (by decide) (by decide) rfl rfl rfl rfl (Nat.le_of_ble_eq_true rfl) dX5_findTogether_38 (fun v3 => ?_)
      refine hf_callV1 (j := 1) g (cc_children_needsOn (a1 := l3) (a2 := v3)) kV_RX5_122 (by decide) (by decide) rfl rfl rfl rfl (Nat.le_of_ble_eq_true rfl) dX5_findTogether_41 (fun v4 => ?_)
      refine hf_if_eq (tgt := 53) gc dX5_findTogether_44 (by decide) ?_ ?_
      · refine hf_iinc (q := 3) (v' := l3 + (1 : Int32)) (lv' := [(3, .int (l3 + (1 : Int32))), (0, .ref (ad 12)), (1, .int l1), (2, .int l2)]) gc dX5_findTogether_53 rfl rfl (by decide) rfl ?_
        refine hf_goto (tgt := 17) gc dX5_findTogether_56 (by decide) ?_
        refine hf_sub (lv' := [(0, .ref (ad 12)), (1, .int l1), (2, .int l2), (3, .int (l3 + (1 : Int32)))]) [1, 2, 3, 0] rfl ?_
        exact ih _ _ _ _
      · refine hf_iload_n (i := 2) (q := 2) gc dX5_findTogether_47 rfl rfl ?_
        refine hf_iconst (v := 1) gc dX5_findTogether_48 (by decide) ?_
        refine hf_iload_n (i := 3) (q := 3) gc dX5_findTogether_49 rfl rfl ?_
        refine hf_ishl gc dX5_findTogether_50 ?_
        refine hf_ior gc dX5_findTogether_51 ?_
        refine hf_let (fun v5 => ?_)
        refine hf_istore_n (i := 2) (lv' := [(2, .int v5), (0, .ref (ad 12)), (1, .int l1), (3, .int l3)]) gc dX5_findTogether_52 rfl (by decide) rfl ?_
        refine hf_iinc (q := 3) (v' := l3 + (1 : Int32)) (lv' := [(3, .int (l3 + (1 : Int32))), (2, .int v5), (0, .ref (ad 12)), (1, .int l1)]) gc dX5_findTogether_53 rfl rfl (by decide) rfl ?_
        refine hf_goto (tgt := 17) gc dX5_findTogether_56 (by decide) ?_
        refine hf_sub (lv' := [(0, .ref (ad 12)), (1, .int l1), (2, .int v5), (3, .int (l3 + (1 : Int32)))]) [2, 3, 1, 0] rfl ?_
        exact ih _ _ _ _
set_option maxHeartbeats 2000000 in
set_option maxRecDepth 20000 in
theorem xc_placer_findTogether_l2 {x : hf_Cx} {ad : Nat → Nat} {cA : Nat → ClassId} {E : State → Prop} {A : Nat → Prop} {l0 : Launch} {D0 : va_G} (g : hf_G x hcT ad cA E A l0 D0 cX5_findTogether 4 RX5 none 3) : ∀ (n : Nat) (s : hf_St) (l1 : Int32), hf_X x A 4 (0, 0) (hf_Q x hcT ad cA A hf_rv) (Fc_placer_findTogether_l2 n s l1) (hf_wd hcT ad cA s) 2 [(0, .ref (ad 12)), (1, .int l1)] [] := by
  have gc := g.1
  intro n
  induction n with
  | zero => intro s l1; exact hf_none
  | succ n ih =>
    intro s l1
    rw [Fc_placer_findTogether_l2]
    refine hf_iload_n (i := 1) (q := 1) gc dX5_findTogether_2 rfl rfl ?_
    refine hf_aload_n (i := 0) (q := 0) gc dX5_findTogether_3 rfl rfl ?_
    refine hf_getR (j := 12) (k := 0) (r := 1) g rfl rfl kF_RX5_44 dX5_findTogether_4 ?_
    refine hf_callV1 (j := 1) g (cc_children_size) kV_RX5_60 (by decide) (by decide) rfl rfl rfl rfl (Nat.le_of_ble_eq_true rfl) dX5_findTogether_7 (fun v1 => ?_)
    refine hf_icmp_ge (tgt := 72) gc dX5_findTogether_10 (by decide) ?_ ?_
    · exact hf_vret g dX5_findTogether_72 rfl
    · refine hf_iconst (v := 0) gc dX5_findTogether_13 (by decide) ?_
      refine hf_istore_n (i := 2) (lv' := [(2, .int ((0 : Int32))), (0, .ref (ad 12)), (1, .int l1)]) gc dX5_findTogether_14 rfl (by decide) rfl ?_
      refine hf_iconst (v := 0) gc dX5_findTogether_15 (by decide) ?_
      refine hf_istore_n (i := 3) (lv' := [(3, .int ((0 : Int32))), (2, .int ((0 : Int32))), (0, .ref (ad 12)), (1, .int l1)]) gc dX5_findTogether_16 rfl (by decide) rfl ?_
      refine hf_sub (lv' := [(0, .ref (ad 12)), (1, .int l1), (2, .int ((0 : Int32))), (3, .int ((0 : Int32)))]) [2, 3, 1, 0] rfl ?_
      exact xc_placer_findTogether_l17 g (fun z0 z1 => ih z0 z1) hf_fuel _ _ _ _
set_option maxHeartbeats 2000000 in
set_option maxRecDepth 20000 in
theorem xc_placer_findTogether {x : hf_Cx} {ad : Nat → Nat} {cA : Nat → ClassId} {E : State → Prop} {A : Nat → Prop} {l0 : Launch} {D0 : va_G} (g : hf_G x hcT ad cA E A l0 D0 cX5_findTogether 4 RX5 none 3) {s : hf_St} : hf_X x A 4 (0, 0) (hf_Q x hcT ad cA A hf_rv) (Fc_placer_findTogether s) (hf_wd hcT ad cA s) 0 [(0, .ref (ad 12))] [] := by
  have gc := g.1
  unfold Fc_placer_findTogether
  refine hf_iconst (v := 0) gc dX5_findTogether_0 (by decide) ?_
  refine hf_istore_n (i := 1) (lv' := [(1, .int ((0 : Int32))), (0, .ref (ad 12))]) gc dX5_findTogether_1 rfl (by decide) rfl ?_
  refine hf_sub (lv' := [(0, .ref (ad 12)), (1, .int ((0 : Int32)))]) [1, 0] rfl ?_
  exact xc_placer_findTogether_l2 g hf_fuel _ _
theorem cc_placer_findTogether {l0 : Launch} {D0 : va_G} {ad : Nat → Nat} {cA : Nat → ClassId} {E : State → Prop} {s : hf_St} : hf_Ct l0 D0 hcT ad cA E 3 yX5_findTogether cX5_findTogether 4 none [.ref (ad 12)] s (Fc_placer_findTogether s) hf_rv := hf_met (by decide) (Nat.le_of_ble_eq_true rfl) (fun _ _ g => xc_placer_findTogether g)
set_option maxHeartbeats 2000000 in
set_option maxRecDepth 20000 in
theorem xc_placer_findPeaks_l19 {x : hf_Cx} {ad : Nat → Nat} {cA : Nat → ClassId} {E : State → Prop} {A : Nat → Prop} {l0 : Launch} {D0 : va_G} {k2 : hf_St → Int32 → Option hf_St} (g : hf_G x hcT ad cA E A l0 D0 cX5_findPeaks 4 RX5 none 1) (hk2 : ∀ (s : hf_St) (l1 : Int32), hf_X x A 4 (0, 0) (hf_Q x hcT ad cA A hf_rv) (k2 s l1) (hf_wd hcT ad cA s) 2 [(0, .ref (ad 12)), (1, .int l1)] []) : ∀ (n : Nat) (s : hf_St) (l1 : Int32) (l2 : Int32) (l3 : Int32), hf_X x A 4 (0, 0) (hf_Q x hcT ad cA A hf_rv) (Fc_placer_findPeaks_l19 k2 n s l1 l2 l3) (hf_wd hcT ad cA s) 19 [(0, .ref (ad 12)), (1, .int l1), (2, .int l2), (3, .int l3)] [] := by
  have gc := g.1
  intro n
  induction n with
  | zero => intro s l1 l2 l3; exact hf_none
  | succ n ih =>
    intro s l1 l2 l3
    rw [Fc_placer_findPeaks_l19]
    refine hf_iload_n (i := 3) (q := 3) gc dX5_findPeaks_19 rfl rfl ?_
    refine hf_aload_n (i := 0) (q := 0) gc dX5_findPeaks_20 rfl rfl ?_
    refine hf_getR (j := 12) (k := 0) (r := 1) g rfl rfl kF_RX5_44 dX5_findPeaks_21 ?_
    refine hf_callV1 (j := 1) g (cc_children_size) kV_RX5_60 (by decide) (by decide) rfl rfl rfl rfl (Nat.le_of_ble_eq_true rfl) dX5_findPeaks_24 (fun v1 => ?_)
    refine hf_icmp_ge (tgt := 61) gc dX5_findPeaks_27 (by decide) ?_ ?_
    · refine hf_aload_n (i := 0) (q := 0) gc dX5_findPeaks_61 rfl rfl ?_
      refine hf_getR (j := 12) (k := 9) (r := 50) g rfl rfl kF_RX5_29 dX5_findPeaks_62 ?_
      refine hf_iload_n (i := 1) (q := 1) gc dX5_findPeaks_65 rfl rfl ?_
      refine hf_iload_n (i := 2) (q := 2) gc dX5_findPeaks_66 rfl rfl ?_
      refine hf_iast (a := 37) (r := 50) (n := 128) g rfl rfl dX5_findPeaks_67 (fun s2 => ?_)
      refine hf_iinc (q := 1) (v' := l1 + (1 : Int32)) (lv' := [(1, .int (l1 + (1 : Int32))), (0, .ref (ad 12)), (2, .int l2), (3, .int l3)]) gc dX5_findPeaks_68 rfl rfl (by decide) rfl ?_
      refine hf_goto (tgt := 2) gc dX5_findPeaks_71 (by decide) ?_
      refine hf_sub (lv' := [(0, .ref (ad 12)), (1, .int (l1 + (1 : Int32)))]) [1, 0] rfl ?_
      exact hk2 _ _
    · refine hf_iload_n (i := 1) (q := 1) gc dX5_findPeaks_30 rfl rfl ?_
      refine hf_iload_n (i := 3) (q := 3) gc dX5_findPeaks_31 rfl rfl ?_
      refine hf_ishr gc dX5_findPeaks_32 ?_
      refine hf_iconst (v := 1) gc dX5_findPeaks_33 (by decide) ?_
      refine hf_iand gc dX5_findPeaks_34 ?_
      refine hf_iconst (v := 1) gc dX5_findPeaks_35 (by decide) ?_
      refine hf_icmp_ne (tgt := 55) gc dX5_findPeaks_36 (by decide) ?_ ?_
      · refine hf_iinc (q := 3) (v' := l3 + (1 : Int32)) (lv' := [(3, .int (l3 + (1 : Int32))), (0, .ref (ad 12)), (1, .int l1), (2, .int l2)]) gc dX5_findPeaks_55 rfl rfl (by decide) rfl ?_
        refine hf_goto (tgt := 19) gc dX5_findPeaks_58 (by decide) ?_
        refine hf_sub (lv' := [(0, .ref (ad 12)), (1, .int l1), (2, .int l2), (3, .int (l3 + (1 : Int32)))]) [1, 2, 3, 0] rfl ?_
        exact ih _ _ _ _
      · refine hf_iload_n (i := 2) (q := 2) gc dX5_findPeaks_39 rfl rfl ?_
        refine hf_aload_n (i := 0) (q := 0) gc dX5_findPeaks_40 rfl rfl ?_
        refine hf_getR (j := 12) (k := 8) (r := 49) g rfl rfl kF_RX5_26 dX5_findPeaks_41 ?_
        refine hf_iload_n (i := 3) (q := 3) gc dX5_findPeaks_44 rfl rfl ?_
        refine hf_iald (a := 36) (r := 49) (n := 7) g rfl rfl dX5_findPeaks_45 ?_
        refine hf_iload_n (i := 1) (q := 1) gc dX5_findPeaks_46 rfl rfl ?_
        refine hf_iand gc dX5_findPeaks_47 ?_
        refine hf_callS1 g (cc_J_bitCount (a1 := (s.2 36 l3.toNatClampNeg) &&& l1)) kS_RX5_126 (by decide) (by decide) rfl rfl (Nat.le_of_ble_eq_true rfl) dX5_findPeaks_48 (fun v3 => ?_)
        refine hf_mmax g kM_RX5_129 (by decide) (Nat.le_of_ble_eq_true rfl) dX5_findPeaks_51 ?_
        refine hf_let (fun v4 => ?_)
        refine hf_istore_n (i := 2) (lv' := [(2, .int v4), (0, .ref (ad 12)), (1, .int l1), (3, .int l3)]) gc dX5_findPeaks_54 rfl (by decide) rfl ?_
        refine hf_iinc (q := 3) (v' := l3 + (1 : Int32)) (lv' := [(3, .int (l3 + (1 : Int32))), (2, .int v4), (0, .ref (ad 12)), (1, .int l1)]) gc dX5_findPeaks_55 rfl rfl (by decide) rfl ?_
        refine hf_goto (tgt := 19) gc dX5_findPeaks_58 (by decide) ?_
        refine hf_sub (lv' := [(0, .ref (ad 12)), (1, .int l1), (2, .int v4), (3, .int (l3 + (1 : Int32)))]) [2, 3, 1, 0] rfl ?_
        exact ih _ _ _ _
set_option maxHeartbeats 2000000 in
set_option maxRecDepth 20000 in
theorem xc_placer_findPeaks_l2 {x : hf_Cx} {ad : Nat → Nat} {cA : Nat → ClassId} {E : State → Prop} {A : Nat → Prop} {l0 : Launch} {D0 : va_G} (g : hf_G x hcT ad cA E A l0 D0 cX5_findPeaks 4 RX5 none 1) : ∀ (n : Nat) (s : hf_St) (l1 : Int32), hf_X x A 4 (0, 0) (hf_Q x hcT ad cA A hf_rv) (Fc_placer_findPeaks_l2 n s l1) (hf_wd hcT ad cA s) 2 [(0, .ref (ad 12)), (1, .int l1)] [] := by
  have gc := g.1
  intro n
  induction n with
  | zero => intro s l1; exact hf_none
  | succ n ih =>
    intro s l1
    rw [Fc_placer_findPeaks_l2]
    refine hf_iload_n (i := 1) (q := 1) gc dX5_findPeaks_2 rfl rfl ?_
    refine hf_iconst (v := 1) gc dX5_findPeaks_3 (by decide) ?_
    refine hf_aload_n (i := 0) (q := 0) gc dX5_findPeaks_4 rfl rfl ?_
    refine hf_getR (j := 12) (k := 0) (r := 1) g rfl rfl kF_RX5_44 dX5_findPeaks_5 ?_
    refine hf_callV1 (j := 1) g (cc_children_size) kV_RX5_60 (by decide) (by decide) rfl rfl rfl rfl (Nat.le_of_ble_eq_true rfl) dX5_findPeaks_8 (fun v1 => ?_)
    refine hf_ishl gc dX5_findPeaks_11 ?_
    refine hf_icmp_ge (tgt := 74) gc dX5_findPeaks_12 (by decide) ?_ ?_
    · exact hf_vret g dX5_findPeaks_74 rfl
    · refine hf_iconst (v := 0) gc dX5_findPeaks_15 (by decide) ?_
      refine hf_istore_n (i := 2) (lv' := [(2, .int ((0 : Int32))), (0, .ref (ad 12)), (1, .int l1)]) gc dX5_findPeaks_16 rfl (by decide) rfl ?_
      refine hf_iconst (v := 0) gc dX5_findPeaks_17 (by decide) ?_
      refine hf_istore_n (i := 3) (lv' := [(3, .int ((0 : Int32))), (2, .int ((0 : Int32))), (0, .ref (ad 12)), (1, .int l1)]) gc dX5_findPeaks_18 rfl (by decide) rfl ?_
      refine hf_sub (lv' := [(0, .ref (ad 12)), (1, .int l1), (2, .int ((0 : Int32))), (3, .int ((0 : Int32)))]) [2, 3, 1, 0] rfl ?_
      exact xc_placer_findPeaks_l19 g (fun z0 z1 => ih z0 z1) hf_fuel _ _ _ _
set_option maxHeartbeats 2000000 in
set_option maxRecDepth 20000 in
theorem xc_placer_findPeaks {x : hf_Cx} {ad : Nat → Nat} {cA : Nat → ClassId} {E : State → Prop} {A : Nat → Prop} {l0 : Launch} {D0 : va_G} (g : hf_G x hcT ad cA E A l0 D0 cX5_findPeaks 4 RX5 none 1) {s : hf_St} : hf_X x A 4 (0, 0) (hf_Q x hcT ad cA A hf_rv) (Fc_placer_findPeaks s) (hf_wd hcT ad cA s) 0 [(0, .ref (ad 12))] [] := by
  have gc := g.1
  unfold Fc_placer_findPeaks
  refine hf_iconst (v := 0) gc dX5_findPeaks_0 (by decide) ?_
  refine hf_istore_n (i := 1) (lv' := [(1, .int ((0 : Int32))), (0, .ref (ad 12))]) gc dX5_findPeaks_1 rfl (by decide) rfl ?_
  refine hf_sub (lv' := [(0, .ref (ad 12)), (1, .int ((0 : Int32)))]) [1, 0] rfl ?_
  exact xc_placer_findPeaks_l2 g hf_fuel _ _
theorem cc_placer_findPeaks {l0 : Launch} {D0 : va_G} {ad : Nat → Nat} {cA : Nat → ClassId} {E : State → Prop} {s : hf_St} : hf_Ct l0 D0 hcT ad cA E 1 yX5_findPeaks cX5_findPeaks 4 none [.ref (ad 12)] s (Fc_placer_findPeaks s) hf_rv := hf_met (by decide) (Nat.le_of_ble_eq_true rfl) (fun _ _ g => xc_placer_findPeaks g)
set_option maxHeartbeats 2000000 in
set_option maxRecDepth 20000 in
theorem xc_fill_placer_residents_l5 {x : hf_Cx} {ad : Nat → Nat} {cA : Nat → ClassId} {E : State → Prop} {A : Nat → Prop} {l0 : Launch} {D0 : va_G} (g : hf_G x hcT ad cA E A l0 D0 cJ7_fill_53178 4 RJ7 none 0) : ∀ (n : Nat) (s : hf_St) (l1 : Int32) (l2 : Int32) (l3 : Int32), hf_X x A 4 (0, 0) (hf_Q x hcT ad cA A hf_rv) (Fc_fill_placer_residents_l5 n s l1 l2 l3) (hf_wd hcT ad cA s) 5 [(0, .ref (ad 51)), (1, .int l1), (2, .int l2), (3, .int l3)] [] := by
  have gc := g.1
  intro n
  induction n with
  | zero => intro s l1 l2 l3; exact hf_none
  | succ n ih =>
    intro s l1 l2 l3
    rw [Fc_fill_placer_residents_l5]
    refine hf_iload_n (i := 2) (q := 2) gc dJ7_fill_53178_5 rfl rfl ?_
    refine hf_iload_n (i := 3) (q := 3) gc dJ7_fill_53178_6 rfl rfl ?_
    refine hf_icmp_ge (tgt := 20) gc dJ7_fill_53178_7 (by decide) ?_ ?_
    · exact hf_vret g dJ7_fill_53178_20 rfl
    · refine hf_aload_n (i := 0) (q := 0) gc dJ7_fill_53178_10 rfl rfl ?_
      refine hf_iload_n (i := 2) (q := 2) gc dJ7_fill_53178_11 rfl rfl ?_
      refine hf_iload_n (i := 1) (q := 1) gc dJ7_fill_53178_12 rfl rfl ?_
      refine hf_iast (a := 38) (r := 51) (n := 5) g rfl rfl dJ7_fill_53178_13 (fun s1 => ?_)
      refine hf_iinc (q := 2) (v' := l2 + (1 : Int32)) (lv' := [(2, .int (l2 + (1 : Int32))), (0, .ref (ad 51)), (1, .int l1), (3, .int l3)]) gc dJ7_fill_53178_14 rfl rfl (by decide) rfl ?_
      refine hf_goto (tgt := 5) gc dJ7_fill_53178_17 (by decide) ?_
      refine hf_sub (lv' := [(0, .ref (ad 51)), (1, .int l1), (2, .int (l2 + (1 : Int32))), (3, .int l3)]) [1, 2, 0, 3] rfl ?_
      exact ih _ _ _ _
set_option maxHeartbeats 2000000 in
set_option maxRecDepth 20000 in
theorem xc_fill_placer_residents {x : hf_Cx} {ad : Nat → Nat} {cA : Nat → ClassId} {E : State → Prop} {A : Nat → Prop} {l0 : Launch} {D0 : va_G} (g : hf_G x hcT ad cA E A l0 D0 cJ7_fill_53178 4 RJ7 none 0) {s : hf_St} {a1 : Int32} : hf_X x A 4 (0, 0) (hf_Q x hcT ad cA A hf_rv) (Fc_fill_placer_residents s a1) (hf_wd hcT ad cA s) 0 [(0, .ref (ad 51)), (1, .int a1)] [] := by
  have gc := g.1
  unfold Fc_fill_placer_residents
  refine hf_iconst (v := 0) gc dJ7_fill_53178_0 (by decide) ?_
  refine hf_istore_n (i := 2) (lv' := [(2, .int ((0 : Int32))), (0, .ref (ad 51)), (1, .int a1)]) gc dJ7_fill_53178_1 rfl (by decide) rfl ?_
  refine hf_aload_n (i := 0) (q := 1) gc dJ7_fill_53178_2 rfl rfl ?_
  refine hf_alen (a := 38) (r := 51) (n := 5) g rfl rfl dJ7_fill_53178_3 ?_
  refine hf_let (fun v1 => ?_)
  refine hf_istore_n (i := 3) (lv' := [(3, .int v1), (2, .int ((0 : Int32))), (0, .ref (ad 51)), (1, .int a1)]) gc dJ7_fill_53178_4 rfl (by decide) rfl ?_
  refine hf_sub (lv' := [(0, .ref (ad 51)), (1, .int a1), (2, .int ((0 : Int32))), (3, .int v1)]) [2, 3, 1, 0] rfl ?_
  exact xc_fill_placer_residents_l5 g hf_fuel _ _ _ _
theorem cc_fill_placer_residents {l0 : Launch} {D0 : va_G} {ad : Nat → Nat} {cA : Nat → ClassId} {E : State → Prop} {s : hf_St} {a1 : Int32} : hf_Ct l0 D0 hcT ad cA E 0 yJ7_fill_53178 cJ7_fill_53178 4 none [.ref (ad 51), .int a1] s (Fc_fill_placer_residents s a1) hf_rv := hf_met (by decide) (Nat.le_of_ble_eq_true rfl) (fun _ _ g => xc_fill_placer_residents g)
set_option maxHeartbeats 2000000 in
set_option maxRecDepth 20000 in
theorem xc_fill_placer_homesOfGroup_l5 {x : hf_Cx} {ad : Nat → Nat} {cA : Nat → ClassId} {E : State → Prop} {A : Nat → Prop} {l0 : Launch} {D0 : va_G} (g : hf_G x hcT ad cA E A l0 D0 cJ7_fill_53178 4 RJ7 none 0) : ∀ (n : Nat) (s : hf_St) (l1 : Int32) (l2 : Int32) (l3 : Int32), hf_X x A 4 (0, 0) (hf_Q x hcT ad cA A hf_rv) (Fc_fill_placer_homesOfGroup_l5 n s l1 l2 l3) (hf_wd hcT ad cA s) 5 [(0, .ref (ad 52)), (1, .int l1), (2, .int l2), (3, .int l3)] [] := by
  have gc := g.1
  intro n
  induction n with
  | zero => intro s l1 l2 l3; exact hf_none
  | succ n ih =>
    intro s l1 l2 l3
    rw [Fc_fill_placer_homesOfGroup_l5]
    refine hf_iload_n (i := 2) (q := 2) gc dJ7_fill_53178_5 rfl rfl ?_
    refine hf_iload_n (i := 3) (q := 3) gc dJ7_fill_53178_6 rfl rfl ?_
    refine hf_icmp_ge (tgt := 20) gc dJ7_fill_53178_7 (by decide) ?_ ?_
    · exact hf_vret g dJ7_fill_53178_20 rfl
    · refine hf_aload_n (i := 0) (q := 0) gc dJ7_fill_53178_10 rfl rfl ?_
      refine hf_iload_n (i := 2) (q := 2) gc dJ7_fill_53178_11 rfl rfl ?_
      refine hf_iload_n (i := 1) (q := 1) gc dJ7_fill_53178_12 rfl rfl ?_
      refine hf_iast (a := 39) (r := 52) (n := 4) g rfl rfl dJ7_fill_53178_13 (fun s1 => ?_)
      refine hf_iinc (q := 2) (v' := l2 + (1 : Int32)) (lv' := [(2, .int (l2 + (1 : Int32))), (0, .ref (ad 52)), (1, .int l1), (3, .int l3)]) gc dJ7_fill_53178_14 rfl rfl (by decide) rfl ?_
      refine hf_goto (tgt := 5) gc dJ7_fill_53178_17 (by decide) ?_
      refine hf_sub (lv' := [(0, .ref (ad 52)), (1, .int l1), (2, .int (l2 + (1 : Int32))), (3, .int l3)]) [1, 2, 0, 3] rfl ?_
      exact ih _ _ _ _
set_option maxHeartbeats 2000000 in
set_option maxRecDepth 20000 in
theorem xc_fill_placer_homesOfGroup {x : hf_Cx} {ad : Nat → Nat} {cA : Nat → ClassId} {E : State → Prop} {A : Nat → Prop} {l0 : Launch} {D0 : va_G} (g : hf_G x hcT ad cA E A l0 D0 cJ7_fill_53178 4 RJ7 none 0) {s : hf_St} {a1 : Int32} : hf_X x A 4 (0, 0) (hf_Q x hcT ad cA A hf_rv) (Fc_fill_placer_homesOfGroup s a1) (hf_wd hcT ad cA s) 0 [(0, .ref (ad 52)), (1, .int a1)] [] := by
  have gc := g.1
  unfold Fc_fill_placer_homesOfGroup
  refine hf_iconst (v := 0) gc dJ7_fill_53178_0 (by decide) ?_
  refine hf_istore_n (i := 2) (lv' := [(2, .int ((0 : Int32))), (0, .ref (ad 52)), (1, .int a1)]) gc dJ7_fill_53178_1 rfl (by decide) rfl ?_
  refine hf_aload_n (i := 0) (q := 1) gc dJ7_fill_53178_2 rfl rfl ?_
  refine hf_alen (a := 39) (r := 52) (n := 4) g rfl rfl dJ7_fill_53178_3 ?_
  refine hf_let (fun v1 => ?_)
  refine hf_istore_n (i := 3) (lv' := [(3, .int v1), (2, .int ((0 : Int32))), (0, .ref (ad 52)), (1, .int a1)]) gc dJ7_fill_53178_4 rfl (by decide) rfl ?_
  refine hf_sub (lv' := [(0, .ref (ad 52)), (1, .int a1), (2, .int ((0 : Int32))), (3, .int v1)]) [2, 3, 1, 0] rfl ?_
  exact xc_fill_placer_homesOfGroup_l5 g hf_fuel _ _ _ _
theorem cc_fill_placer_homesOfGroup {l0 : Launch} {D0 : va_G} {ad : Nat → Nat} {cA : Nat → ClassId} {E : State → Prop} {s : hf_St} {a1 : Int32} : hf_Ct l0 D0 hcT ad cA E 0 yJ7_fill_53178 cJ7_fill_53178 4 none [.ref (ad 52), .int a1] s (Fc_fill_placer_homesOfGroup s a1) hf_rv := hf_met (by decide) (Nat.le_of_ble_eq_true rfl) (fun _ _ g => xc_fill_placer_homesOfGroup g)
set_option maxHeartbeats 2000000 in
set_option maxRecDepth 20000 in
theorem xc_placer_findBest {x : hf_Cx} {ad : Nat → Nat} {cA : Nat → ClassId} {E : State → Prop} {A : Nat → Prop} {l0 : Launch} {D0 : va_G} (g : hf_G x hcT ad cA E A l0 D0 cX5_findBest 1 RX5 none 28) {s : hf_St} : hf_X x A 1 (0, 0) (hf_Q x hcT ad cA A hf_rv) (Fc_placer_findBest s) (hf_wd hcT ad cA s) 0 [(0, .ref (ad 12))] [] := by
  have gc := g.1
  unfold Fc_placer_findBest
  refine hf_aload_n (i := 0) (q := 0) gc dX5_findBest_0 rfl rfl ?_
  refine hf_callV0 (j := 12) g (cc_placer_sumLeastPrices) kV_RX5_90 (by decide) (by decide) rfl rfl rfl rfl (Nat.le_of_ble_eq_true rfl) dX5_findBest_1 (fun s1 => ?_)
  refine hf_aload_n (i := 0) (q := 0) gc dX5_findBest_4 rfl rfl ?_
  refine hf_callV0 (j := 12) g (cc_placer_findTogether) kV_RX5_93 (by decide) (by decide) rfl rfl rfl rfl (Nat.le_of_ble_eq_true rfl) dX5_findBest_5 (fun s2 => ?_)
  refine hf_aload_n (i := 0) (q := 0) gc dX5_findBest_8 rfl rfl ?_
  refine hf_callV0 (j := 12) g (cc_placer_findPeaks) kV_RX5_96 (by decide) (by decide) rfl rfl rfl rfl (Nat.le_of_ble_eq_true rfl) dX5_findBest_9 (fun s3 => ?_)
  refine hf_aload_n (i := 0) (q := 0) gc dX5_findBest_12 rfl rfl ?_
  refine hf_getR (j := 12) (k := 10) (r := 51) g rfl rfl kF_RX5_32 dX5_findBest_13 ?_
  refine hf_iconst (v := 0) gc dX5_findBest_16 (by decide) ?_
  refine hf_callS0 g (cc_fill_placer_residents (a1 := (0 : Int32))) kS_RX5_99 (by decide) (by decide) rfl rfl (Nat.le_of_ble_eq_true rfl) dX5_findBest_17 (fun s4 => ?_)
  refine hf_aload_n (i := 0) (q := 0) gc dX5_findBest_20 rfl rfl ?_
  refine hf_getR (j := 12) (k := 11) (r := 52) g rfl rfl kF_RX5_35 dX5_findBest_21 ?_
  refine hf_iconst (v := 0) gc dX5_findBest_24 (by decide) ?_
  refine hf_callS0 g (cc_fill_placer_homesOfGroup (a1 := (0 : Int32))) kS_RX5_99 (by decide) (by decide) rfl rfl (Nat.le_of_ble_eq_true rfl) dX5_findBest_25 (fun s5 => ?_)
  refine hf_aload_n (i := 0) (q := 0) gc dX5_findBest_28 rfl rfl ?_
  refine hf_ldc (v := 2147483647) gc kC_RX5_84 dX5_findBest_29 ?_
  refine hf_putI (j := 12) (k := 14) g rfl rfl kP_RX5_105 rfl rfl dX5_findBest_31 (fun s6 => ?_)
  refine hf_aload_n (i := 0) (q := 0) gc dX5_findBest_34 rfl rfl ?_
  refine hf_iconst (v := 0) gc dX5_findBest_35 (by decide) ?_
  refine hf_iconst (v := 0) gc dX5_findBest_36 (by decide) ?_
  refine hf_callV0 (j := 12) g (cc_search9 (a1 := (0 : Int32)) (a2 := (0 : Int32))) kV_RX5_109 (by decide) (by decide) rfl rfl rfl rfl (Nat.le_of_ble_eq_true rfl) dX5_findBest_37 (fun s7 => ?_)
  exact hf_vret g dX5_findBest_40 rfl
theorem cc_placer_findBest {l0 : Launch} {D0 : va_G} {ad : Nat → Nat} {cA : Nat → ClassId} {E : State → Prop} {s : hf_St} : hf_Ct l0 D0 hcT ad cA E 28 yX5_findBest cX5_findBest 1 none [.ref (ad 12)] s (Fc_placer_findBest s) hf_rv := hf_met (by decide) (Nat.le_of_ble_eq_true rfl) (fun _ _ g => xc_placer_findBest g)
set_option maxHeartbeats 2000000 in
set_option maxRecDepth 20000 in
theorem xc_fill_latest_figures_l5 {x : hf_Cx} {ad : Nat → Nat} {cA : Nat → ClassId} {E : State → Prop} {A : Nat → Prop} {l0 : Launch} {D0 : va_G} (g : hf_G x hcT ad cA E A l0 D0 cJ7_fill_53178 4 RJ7 none 0) : ∀ (n : Nat) (s : hf_St) (l1 : Int32) (l2 : Int32) (l3 : Int32), hf_X x A 4 (0, 0) (hf_Q x hcT ad cA A hf_rv) (Fc_fill_latest_figures_l5 n s l1 l2 l3) (hf_wd hcT ad cA s) 5 [(0, .ref (ad 44)), (1, .int l1), (2, .int l2), (3, .int l3)] [] := by
  have gc := g.1
  intro n
  induction n with
  | zero => intro s l1 l2 l3; exact hf_none
  | succ n ih =>
    intro s l1 l2 l3
    rw [Fc_fill_latest_figures_l5]
    refine hf_iload_n (i := 2) (q := 2) gc dJ7_fill_53178_5 rfl rfl ?_
    refine hf_iload_n (i := 3) (q := 3) gc dJ7_fill_53178_6 rfl rfl ?_
    refine hf_icmp_ge (tgt := 20) gc dJ7_fill_53178_7 (by decide) ?_ ?_
    · exact hf_vret g dJ7_fill_53178_20 rfl
    · refine hf_aload_n (i := 0) (q := 0) gc dJ7_fill_53178_10 rfl rfl ?_
      refine hf_iload_n (i := 2) (q := 2) gc dJ7_fill_53178_11 rfl rfl ?_
      refine hf_iload_n (i := 1) (q := 1) gc dJ7_fill_53178_12 rfl rfl ?_
      refine hf_iast (a := 31) (r := 44) (n := 5) g rfl rfl dJ7_fill_53178_13 (fun s1 => ?_)
      refine hf_iinc (q := 2) (v' := l2 + (1 : Int32)) (lv' := [(2, .int (l2 + (1 : Int32))), (0, .ref (ad 44)), (1, .int l1), (3, .int l3)]) gc dJ7_fill_53178_14 rfl rfl (by decide) rfl ?_
      refine hf_goto (tgt := 5) gc dJ7_fill_53178_17 (by decide) ?_
      refine hf_sub (lv' := [(0, .ref (ad 44)), (1, .int l1), (2, .int (l2 + (1 : Int32))), (3, .int l3)]) [1, 2, 0, 3] rfl ?_
      exact ih _ _ _ _
set_option maxHeartbeats 2000000 in
set_option maxRecDepth 20000 in
theorem xc_fill_latest_figures {x : hf_Cx} {ad : Nat → Nat} {cA : Nat → ClassId} {E : State → Prop} {A : Nat → Prop} {l0 : Launch} {D0 : va_G} (g : hf_G x hcT ad cA E A l0 D0 cJ7_fill_53178 4 RJ7 none 0) {s : hf_St} {a1 : Int32} : hf_X x A 4 (0, 0) (hf_Q x hcT ad cA A hf_rv) (Fc_fill_latest_figures s a1) (hf_wd hcT ad cA s) 0 [(0, .ref (ad 44)), (1, .int a1)] [] := by
  have gc := g.1
  unfold Fc_fill_latest_figures
  refine hf_iconst (v := 0) gc dJ7_fill_53178_0 (by decide) ?_
  refine hf_istore_n (i := 2) (lv' := [(2, .int ((0 : Int32))), (0, .ref (ad 44)), (1, .int a1)]) gc dJ7_fill_53178_1 rfl (by decide) rfl ?_
  refine hf_aload_n (i := 0) (q := 1) gc dJ7_fill_53178_2 rfl rfl ?_
  refine hf_alen (a := 31) (r := 44) (n := 5) g rfl rfl dJ7_fill_53178_3 ?_
  refine hf_let (fun v1 => ?_)
  refine hf_istore_n (i := 3) (lv' := [(3, .int v1), (2, .int ((0 : Int32))), (0, .ref (ad 44)), (1, .int a1)]) gc dJ7_fill_53178_4 rfl (by decide) rfl ?_
  refine hf_sub (lv' := [(0, .ref (ad 44)), (1, .int a1), (2, .int ((0 : Int32))), (3, .int v1)]) [2, 3, 1, 0] rfl ?_
  exact xc_fill_latest_figures_l5 g hf_fuel _ _ _ _
theorem cc_fill_latest_figures {l0 : Launch} {D0 : va_G} {ad : Nat → Nat} {cA : Nat → ClassId} {E : State → Prop} {s : hf_St} {a1 : Int32} : hf_Ct l0 D0 hcT ad cA E 0 yJ7_fill_53178 cJ7_fill_53178 4 none [.ref (ad 44), .int a1] s (Fc_fill_latest_figures s a1) hf_rv := hf_met (by decide) (Nat.le_of_ble_eq_true rfl) (fun _ _ g => xc_fill_latest_figures g)
set_option maxHeartbeats 2000000 in
set_option maxRecDepth 20000 in
theorem xc_latest_clearFigures {x : hf_Cx} {ad : Nat → Nat} {cA : Nat → ClassId} {E : State → Prop} {A : Nat → Prop} {l0 : Launch} {D0 : va_G} (g : hf_G x hcT ad cA E A l0 D0 cX6_clearFigures 1 RX6 none 1) {s : hf_St} : hf_X x A 1 (0, 0) (hf_Q x hcT ad cA A hf_rv) (Fc_latest_clearFigures s) (hf_wd hcT ad cA s) 0 [(0, .ref (ad 11))] [] := by
  have gc := g.1
  unfold Fc_latest_clearFigures
  refine hf_aload_n (i := 0) (q := 0) gc dX6_clearFigures_0 rfl rfl ?_
  refine hf_getR (j := 11) (k := 1) (r := 44) g rfl rfl kF_RX6_15 dX6_clearFigures_1 ?_
  refine hf_iconst (v := 0) gc dX6_clearFigures_4 (by decide) ?_
  refine hf_callS0 g (cc_fill_latest_figures (a1 := (0 : Int32))) kS_RX6_18 (by decide) (by decide) rfl rfl (Nat.le_of_ble_eq_true rfl) dX6_clearFigures_5 (fun s1 => ?_)
  exact hf_vret g dX6_clearFigures_8 rfl
theorem cc_latest_clearFigures {l0 : Launch} {D0 : va_G} {ad : Nat → Nat} {cA : Nat → ClassId} {E : State → Prop} {s : hf_St} : hf_Ct l0 D0 hcT ad cA E 1 yX6_clearFigures cX6_clearFigures 1 none [.ref (ad 11)] s (Fc_latest_clearFigures s) hf_rv := hf_met (by decide) (Nat.le_of_ble_eq_true rfl) (fun _ _ g => xc_latest_clearFigures g)
set_option maxHeartbeats 2000000 in
set_option maxRecDepth 20000 in
theorem xc_latest_raise {x : hf_Cx} {ad : Nat → Nat} {cA : Nat → ClassId} {E : State → Prop} {A : Nat → Prop} {l0 : Launch} {D0 : va_G} (g : hf_G x hcT ad cA E A l0 D0 cX6_raise 3 RX6 none 0) {s : hf_St} {a1 : Int32} {a2 : Int32} : hf_X x A 3 (0, 0) (hf_Q x hcT ad cA A hf_rv) (Fc_latest_raise s a1 a2) (hf_wd hcT ad cA s) 0 [(0, .ref (ad 11)), (1, .int a1), (2, .int a2)] [] := by
  have gc := g.1
  unfold Fc_latest_raise
  refine hf_iload_n (i := 1) (q := 1) gc dX6_raise_0 rfl rfl ?_
  refine hf_if_lt (tgt := 19) gc dX6_raise_1 (by decide) ?_ ?_
  · exact hf_vret g dX6_raise_19 rfl
  · refine hf_iload_n (i := 1) (q := 1) gc dX6_raise_4 rfl rfl ?_
    refine hf_iconst (v := 5) gc dX6_raise_5 (by decide) ?_
    refine hf_icmp_ge (tgt := 19) gc dX6_raise_6 (by decide) ?_ ?_
    · exact hf_vret g dX6_raise_19 rfl
    · refine hf_aload_n (i := 0) (q := 0) gc dX6_raise_9 rfl rfl ?_
      refine hf_getR (j := 11) (k := 1) (r := 44) g rfl rfl kF_RX6_15 dX6_raise_10 ?_
      refine hf_iload_n (i := 1) (q := 1) gc dX6_raise_13 rfl rfl ?_
      refine hf_dup2 gc dX6_raise_14 rfl rfl ?_
      refine hf_iald (a := 31) (r := 44) (n := 5) g rfl rfl dX6_raise_15 ?_
      refine hf_iload_n (i := 2) (q := 2) gc dX6_raise_16 rfl rfl ?_
      refine hf_iadd gc dX6_raise_17 ?_
      refine hf_iast (a := 31) (r := 44) (n := 5) g rfl rfl dX6_raise_18 (fun s1 => ?_)
      exact hf_vret g dX6_raise_19 rfl
theorem cc_latest_raise {l0 : Launch} {D0 : va_G} {ad : Nat → Nat} {cA : Nat → ClassId} {E : State → Prop} {s : hf_St} {a1 : Int32} {a2 : Int32} : hf_Ct l0 D0 hcT ad cA E 0 yX6_raise cX6_raise 3 none [.ref (ad 11), .int a1, .int a2] s (Fc_latest_raise s a1 a2) hf_rv := hf_met (by decide) (Nat.le_of_ble_eq_true rfl) (fun _ _ g => xc_latest_raise g)
set_option maxHeartbeats 2000000 in
set_option maxRecDepth 20000 in
theorem xc_placer_countChild_b28 {x : hf_Cx} {ad : Nat → Nat} {cA : Nat → ClassId} {E : State → Prop} {A : Nat → Prop} {l0 : Launch} {D0 : va_G} (g : hf_G x hcT ad cA E A l0 D0 cX5_countChild 4 RX5 none 2) (s : hf_St) (l1 : Int32) (l2 : Int32) : hf_X x A 4 (0, 0) (hf_Q x hcT ad cA A hf_rv) (Fc_placer_countChild_b28 s l1 l2) (hf_wd hcT ad cA s) 28 [(0, .ref (ad 12)), (1, .int l1), (2, .int l2)] [] := by
  have gc := g.1
  unfold Fc_placer_countChild_b28
  refine hf_iload_n (i := 2) (q := 2) gc dX5_countChild_28 rfl rfl ?_
  refine hf_iconst (v := -1) gc dX5_countChild_29 (by decide) ?_
  refine hf_icmp_ne (tgt := 45) gc dX5_countChild_30 (by decide) ?_ ?_
  · refine hf_aload_n (i := 0) (q := 0) gc dX5_countChild_45 rfl rfl ?_
    refine hf_getR (j := 12) (k := 11) (r := 52) g rfl rfl kF_RX5_35 dX5_countChild_46 ?_
    refine hf_aload_n (i := 0) (q := 0) gc dX5_countChild_49 rfl rfl ?_
    refine hf_getR (j := 12) (k := 0) (r := 1) g rfl rfl kF_RX5_44 dX5_countChild_50 ?_
    refine hf_iload_n (i := 1) (q := 1) gc dX5_countChild_53 rfl rfl ?_
    refine hf_callV1 (j := 1) g (cc_children_groupOf (a1 := l1)) kV_RX5_145 (by decide) (by decide) rfl rfl rfl rfl (Nat.le_of_ble_eq_true rfl) dX5_countChild_54 (fun v1 => ?_)
    refine hf_dup2 gc dX5_countChild_57 rfl rfl ?_
    refine hf_iald (a := 39) (r := 52) (n := 4) g rfl rfl dX5_countChild_58 ?_
    refine hf_iconst (v := 1) gc dX5_countChild_59 (by decide) ?_
    refine hf_iload_n (i := 2) (q := 2) gc dX5_countChild_60 rfl rfl ?_
    refine hf_ishl gc dX5_countChild_61 ?_
    refine hf_ior gc dX5_countChild_62 ?_
    refine hf_iast (a := 39) (r := 52) (n := 4) g rfl rfl dX5_countChild_63 (fun s2 => ?_)
    refine hf_aload_n (i := 0) (q := 0) gc dX5_countChild_64 rfl rfl ?_
    refine hf_getR (j := 12) (k := 3) (r := 11) g rfl rfl kF_RX5_56 dX5_countChild_65 ?_
    refine hf_iconst (v := 4) gc dX5_countChild_68 (by decide) ?_
    refine hf_aload_n (i := 0) (q := 0) gc dX5_countChild_69 rfl rfl ?_
    refine hf_getR (j := 12) (k := 4) (r := 45) g rfl rfl kF_RX5_13 dX5_countChild_70 ?_
    refine hf_iload_n (i := 1) (q := 1) gc dX5_countChild_73 rfl rfl ?_
    refine hf_iconst (v := 5) gc dX5_countChild_74 (by decide) ?_
    refine hf_imul gc dX5_countChild_75 ?_
    refine hf_iload_n (i := 2) (q := 2) gc dX5_countChild_76 rfl rfl ?_
    refine hf_iadd gc dX5_countChild_77 ?_
    refine hf_iald (a := 32) (r := 45) (n := 35) g rfl rfl dX5_countChild_78 ?_
    refine hf_callV0 (j := 11) g (cc_latest_raise (a1 := (4 : Int32)) (a2 := s2.2 32 ((l1 * ((5 : Int32))) + l2).toNatClampNeg)) kV_RX5_152 (by decide) (by decide) rfl rfl rfl rfl (Nat.le_of_ble_eq_true rfl) dX5_countChild_79 (fun s3 => ?_)
    exact hf_vret g dX5_countChild_82 rfl
  · refine hf_aload_n (i := 0) (q := 0) gc dX5_countChild_33 rfl rfl ?_
    refine hf_getR (j := 12) (k := 3) (r := 11) g rfl rfl kF_RX5_56 dX5_countChild_34 ?_
    refine hf_iconst (v := 1) gc dX5_countChild_37 (by decide) ?_
    refine hf_iconst (v := 1) gc dX5_countChild_38 (by decide) ?_
    refine hf_callV0 (j := 11) g (cc_latest_raise (a1 := (1 : Int32)) (a2 := (1 : Int32))) kV_RX5_152 (by decide) (by decide) rfl rfl rfl rfl (Nat.le_of_ble_eq_true rfl) dX5_countChild_39 (fun s4 => ?_)
    refine hf_goto (tgt := 82) gc dX5_countChild_42 (by decide) ?_
    exact hf_vret g dX5_countChild_82 rfl
set_option maxHeartbeats 2000000 in
set_option maxRecDepth 20000 in
theorem xc_placer_countChild {x : hf_Cx} {ad : Nat → Nat} {cA : Nat → ClassId} {E : State → Prop} {A : Nat → Prop} {l0 : Launch} {D0 : va_G} (g : hf_G x hcT ad cA E A l0 D0 cX5_countChild 4 RX5 none 2) {s : hf_St} {a1 : Int32} {a2 : Int32} : hf_X x A 4 (0, 0) (hf_Q x hcT ad cA A hf_rv) (Fc_placer_countChild s a1 a2) (hf_wd hcT ad cA s) 0 [(0, .ref (ad 12)), (1, .int a1), (2, .int a2)] [] := by
  have gc := g.1
  unfold Fc_placer_countChild
  refine hf_aload_n (i := 0) (q := 0) gc dX5_countChild_0 rfl rfl ?_
  refine hf_getR (j := 12) (k := 3) (r := 11) g rfl rfl kF_RX5_56 dX5_countChild_1 ?_
  refine hf_iload_n (i := 1) (q := 1) gc dX5_countChild_4 rfl rfl ?_
  refine hf_callV1 (j := 11) g (cc_latest_homeOf (a1 := a1)) kV_RX5_66 (by decide) (by decide) rfl rfl rfl rfl (Nat.le_of_ble_eq_true rfl) dX5_countChild_5 (fun v1 => ?_)
  refine hf_istore_n (i := 3) (lv' := [(3, .int v1), (0, .ref (ad 12)), (1, .int a1), (2, .int a2)]) gc dX5_countChild_8 rfl (by decide) rfl ?_
  refine hf_iload_n (i := 3) (q := 0) gc dX5_countChild_9 rfl rfl ?_
  refine hf_iconst (v := -1) gc dX5_countChild_10 (by decide) ?_
  refine hf_icmp_eq (tgt := 28) gc dX5_countChild_11 (by decide) ?_ ?_
  · refine hf_sub (lv' := [(0, .ref (ad 12)), (1, .int a1), (2, .int a2)]) [1, 2, 3] rfl ?_
    exact xc_placer_countChild_b28 g _ _ _
  · refine hf_iload_n (i := 3) (q := 0) gc dX5_countChild_14 rfl rfl ?_
    refine hf_iload_n (i := 2) (q := 3) gc dX5_countChild_15 rfl rfl ?_
    refine hf_icmp_eq (tgt := 28) gc dX5_countChild_16 (by decide) ?_ ?_
    · refine hf_sub (lv' := [(0, .ref (ad 12)), (1, .int a1), (2, .int a2)]) [1, 2, 3] rfl ?_
      exact xc_placer_countChild_b28 g _ _ _
    · refine hf_aload_n (i := 0) (q := 1) gc dX5_countChild_19 rfl rfl ?_
      refine hf_getR (j := 12) (k := 3) (r := 11) g rfl rfl kF_RX5_56 dX5_countChild_20 ?_
      refine hf_iconst (v := 3) gc dX5_countChild_23 (by decide) ?_
      refine hf_iconst (v := 1) gc dX5_countChild_24 (by decide) ?_
      refine hf_callV0 (j := 11) g (cc_latest_raise (a1 := (3 : Int32)) (a2 := (1 : Int32))) kV_RX5_152 (by decide) (by decide) rfl rfl rfl rfl (Nat.le_of_ble_eq_true rfl) dX5_countChild_25 (fun s2 => ?_)
      refine hf_sub (lv' := [(0, .ref (ad 12)), (1, .int a1), (2, .int a2)]) [1, 2, 3] rfl ?_
      exact xc_placer_countChild_b28 g _ _ _
theorem cc_placer_countChild {l0 : Launch} {D0 : va_G} {ad : Nat → Nat} {cA : Nat → ClassId} {E : State → Prop} {s : hf_St} {a1 : Int32} {a2 : Int32} : hf_Ct l0 D0 hcT ad cA E 2 yX5_countChild cX5_countChild 4 none [.ref (ad 12), .int a1, .int a2] s (Fc_placer_countChild s a1 a2) hf_rv := hf_met (by decide) (Nat.le_of_ble_eq_true rfl) (fun _ _ g => xc_placer_countChild g)
set_option maxHeartbeats 2000000 in
set_option maxRecDepth 20000 in
theorem xc_latest_setHome {x : hf_Cx} {ad : Nat → Nat} {cA : Nat → ClassId} {E : State → Prop} {A : Nat → Prop} {l0 : Launch} {D0 : va_G} (g : hf_G x hcT ad cA E A l0 D0 cX6_setHome 3 RX6 none 0) {s : hf_St} {a1 : Int32} {a2 : Int32} : hf_X x A 3 (0, 0) (hf_Q x hcT ad cA A hf_rv) (Fc_latest_setHome s a1 a2) (hf_wd hcT ad cA s) 0 [(0, .ref (ad 11)), (1, .int a1), (2, .int a2)] [] := by
  have gc := g.1
  unfold Fc_latest_setHome
  refine hf_iload_n (i := 1) (q := 1) gc dX6_setHome_0 rfl rfl ?_
  refine hf_if_lt (tgt := 17) gc dX6_setHome_1 (by decide) ?_ ?_
  · exact hf_vret g dX6_setHome_17 rfl
  · refine hf_iload_n (i := 1) (q := 1) gc dX6_setHome_4 rfl rfl ?_
    refine hf_bipush (v := 7) gc dX6_setHome_5 (by decide) ?_
    refine hf_icmp_ge (tgt := 17) gc dX6_setHome_7 (by decide) ?_ ?_
    · exact hf_vret g dX6_setHome_17 rfl
    · refine hf_aload_n (i := 0) (q := 0) gc dX6_setHome_10 rfl rfl ?_
      refine hf_getR (j := 11) (k := 0) (r := 43) g rfl rfl kF_RX6_9 dX6_setHome_11 ?_
      refine hf_iload_n (i := 1) (q := 1) gc dX6_setHome_14 rfl rfl ?_
      refine hf_iload_n (i := 2) (q := 2) gc dX6_setHome_15 rfl rfl ?_
      refine hf_iast (a := 30) (r := 43) (n := 7) g rfl rfl dX6_setHome_16 (fun s1 => ?_)
      exact hf_vret g dX6_setHome_17 rfl
theorem cc_latest_setHome {l0 : Launch} {D0 : va_G} {ad : Nat → Nat} {cA : Nat → ClassId} {E : State → Prop} {s : hf_St} {a1 : Int32} {a2 : Int32} : hf_Ct l0 D0 hcT ad cA E 0 yX6_setHome cX6_setHome 3 none [.ref (ad 11), .int a1, .int a2] s (Fc_latest_setHome s a1 a2) hf_rv := hf_met (by decide) (Nat.le_of_ble_eq_true rfl) (fun _ _ g => xc_latest_setHome g)
set_option maxHeartbeats 2000000 in
set_option maxRecDepth 20000 in
theorem xc_placer_settle_b59 {x : hf_Cx} {ad : Nat → Nat} {cA : Nat → ClassId} {E : State → Prop} {A : Nat → Prop} {l0 : Launch} {D0 : va_G} {k17 : hf_St → Int32 → Option hf_St} (g : hf_G x hcT ad cA E A l0 D0 cX5_settle 2 RX5 none 3) (hk17 : ∀ (s : hf_St) (l1 : Int32), hf_X x A 2 (0, 0) (hf_Q x hcT ad cA A hf_rv) (k17 s l1) (hf_wd hcT ad cA s) 17 [(0, .ref (ad 12)), (1, .int l1)] []) (s : hf_St) (l1 : Int32) : hf_X x A 2 (0, 0) (hf_Q x hcT ad cA A hf_rv) (Fc_placer_settle_b59 k17 s l1) (hf_wd hcT ad cA s) 59 [(0, .ref (ad 12)), (1, .int l1)] [] := by
  have gc := g.1
  unfold Fc_placer_settle_b59
  refine hf_aload_n (i := 0) (q := 0) gc dX5_settle_59 rfl rfl ?_
  refine hf_getR (j := 12) (k := 3) (r := 11) g rfl rfl kF_RX5_56 dX5_settle_60 ?_
  refine hf_iload_n (i := 1) (q := 1) gc dX5_settle_63 rfl rfl ?_
  refine hf_aload_n (i := 0) (q := 0) gc dX5_settle_64 rfl rfl ?_
  refine hf_getR (j := 12) (k := 13) (r := 54) g rfl rfl kF_RX5_41 dX5_settle_65 ?_
  refine hf_iload_n (i := 1) (q := 1) gc dX5_settle_68 rfl rfl ?_
  refine hf_iald (a := 41) (r := 54) (n := 7) g rfl rfl dX5_settle_69 ?_
  refine hf_callV0 (j := 11) g (cc_latest_setHome (a1 := l1) (a2 := s.2 41 l1.toNatClampNeg)) kV_RX5_158 (by decide) (by decide) rfl rfl rfl rfl (Nat.le_of_ble_eq_true rfl) dX5_settle_70 (fun s1 => ?_)
  refine hf_iinc (q := 1) (v' := l1 + (1 : Int32)) (lv' := [(1, .int (l1 + (1 : Int32))), (0, .ref (ad 12))]) gc dX5_settle_73 rfl rfl (by decide) rfl ?_
  refine hf_goto (tgt := 17) gc dX5_settle_76 (by decide) ?_
  refine hf_sub (lv' := [(0, .ref (ad 12)), (1, .int (l1 + (1 : Int32)))]) [1, 0] rfl ?_
  exact hk17 _ _
set_option maxHeartbeats 2000000 in
set_option maxRecDepth 20000 in
theorem xc_placer_settle_b109 {x : hf_Cx} {ad : Nat → Nat} {cA : Nat → ClassId} {E : State → Prop} {A : Nat → Prop} {l0 : Launch} {D0 : va_G} {k81 : hf_St → Int32 → Option hf_St} (g : hf_G x hcT ad cA E A l0 D0 cX5_settle 2 RX5 none 3) (hk81 : ∀ (s : hf_St) (l1 : Int32), hf_X x A 2 (0, 0) (hf_Q x hcT ad cA A hf_rv) (k81 s l1) (hf_wd hcT ad cA s) 81 [(0, .ref (ad 12)), (1, .int l1)] []) (s : hf_St) (l1 : Int32) (t0 : Int32) (t1 : Int32) : hf_X x A 2 (0, 0) (hf_Q x hcT ad cA A hf_rv) (Fc_placer_settle_b109 k81 s l1 t0 t1) (hf_wd hcT ad cA s) 109 [(0, .ref (ad 12)), (1, .int l1)] [.int t0, .int t1, .ref (ad 11)] := by
  have gc := g.1
  unfold Fc_placer_settle_b109
  refine hf_callV0 (j := 11) g (cc_latest_raise (a1 := t1) (a2 := t0)) kV_RX5_152 (by decide) (by decide) rfl rfl rfl rfl (Nat.le_of_ble_eq_true rfl) dX5_settle_109 (fun s1 => ?_)
  refine hf_iinc (q := 1) (v' := l1 + (1 : Int32)) (lv' := [(1, .int (l1 + (1 : Int32))), (0, .ref (ad 12))]) gc dX5_settle_112 rfl rfl (by decide) rfl ?_
  refine hf_goto (tgt := 81) gc dX5_settle_115 (by decide) ?_
  refine hf_sub (lv' := [(0, .ref (ad 12)), (1, .int (l1 + (1 : Int32)))]) [1, 0] rfl ?_
  exact hk81 _ _
set_option maxHeartbeats 2000000 in
set_option maxRecDepth 20000 in
theorem xc_placer_settle_l81 {x : hf_Cx} {ad : Nat → Nat} {cA : Nat → ClassId} {E : State → Prop} {A : Nat → Prop} {l0 : Launch} {D0 : va_G} (g : hf_G x hcT ad cA E A l0 D0 cX5_settle 2 RX5 none 3) : ∀ (n : Nat) (s : hf_St) (l1 : Int32), hf_X x A 2 (0, 0) (hf_Q x hcT ad cA A hf_rv) (Fc_placer_settle_l81 n s l1) (hf_wd hcT ad cA s) 81 [(0, .ref (ad 12)), (1, .int l1)] [] := by
  have gc := g.1
  intro n
  induction n with
  | zero => intro s l1; exact hf_none
  | succ n ih =>
    intro s l1
    rw [Fc_placer_settle_l81]
    refine hf_iload_n (i := 1) (q := 1) gc dX5_settle_81 rfl rfl ?_
    refine hf_iconst (v := 3) gc dX5_settle_82 (by decide) ?_
    refine hf_icmp_gt (tgt := 118) gc dX5_settle_83 (by decide) ?_ ?_
    · exact hf_vret g dX5_settle_118 rfl
    · refine hf_aload_n (i := 0) (q := 0) gc dX5_settle_86 rfl rfl ?_
      refine hf_getR (j := 12) (k := 3) (r := 11) g rfl rfl kF_RX5_56 dX5_settle_87 ?_
      refine hf_iconst (v := 2) gc dX5_settle_90 (by decide) ?_
      refine hf_aload_n (i := 0) (q := 0) gc dX5_settle_91 rfl rfl ?_
      refine hf_getR (j := 12) (k := 11) (r := 52) g rfl rfl kF_RX5_35 dX5_settle_92 ?_
      refine hf_iload_n (i := 1) (q := 1) gc dX5_settle_95 rfl rfl ?_
      refine hf_iald (a := 39) (r := 52) (n := 4) g rfl rfl dX5_settle_96 ?_
      refine hf_callS1 g (cc_J_bitCount (a1 := s.2 39 l1.toNatClampNeg)) kS_RX5_126 (by decide) (by decide) rfl rfl (Nat.le_of_ble_eq_true rfl) dX5_settle_97 (fun v1 => ?_)
      refine hf_iconst (v := 1) gc dX5_settle_100 (by decide) ?_
      refine hf_icmp_le (tgt := 108) gc dX5_settle_101 (by decide) ?_ ?_
      · refine hf_iconst (v := 0) gc dX5_settle_108 (by decide) ?_
        exact xc_placer_settle_b109 g (fun z0 z1 => ih z0 z1) _ _ _ _
      · refine hf_iconst (v := 1) gc dX5_settle_104 (by decide) ?_
        refine hf_goto (tgt := 109) gc dX5_settle_105 (by decide) ?_
        exact xc_placer_settle_b109 g (fun z0 z1 => ih z0 z1) _ _ _ _
set_option maxHeartbeats 2000000 in
set_option maxRecDepth 20000 in
theorem xc_placer_settle_l17 {x : hf_Cx} {ad : Nat → Nat} {cA : Nat → ClassId} {E : State → Prop} {A : Nat → Prop} {l0 : Launch} {D0 : va_G} (g : hf_G x hcT ad cA E A l0 D0 cX5_settle 2 RX5 none 3) : ∀ (n : Nat) (s : hf_St) (l1 : Int32), hf_X x A 2 (0, 0) (hf_Q x hcT ad cA A hf_rv) (Fc_placer_settle_l17 n s l1) (hf_wd hcT ad cA s) 17 [(0, .ref (ad 12)), (1, .int l1)] [] := by
  have gc := g.1
  intro n
  induction n with
  | zero => intro s l1; exact hf_none
  | succ n ih =>
    intro s l1
    rw [Fc_placer_settle_l17]
    refine hf_iload_n (i := 1) (q := 1) gc dX5_settle_17 rfl rfl ?_
    refine hf_aload_n (i := 0) (q := 0) gc dX5_settle_18 rfl rfl ?_
    refine hf_getR (j := 12) (k := 0) (r := 1) g rfl rfl kF_RX5_44 dX5_settle_19 ?_
    refine hf_callV1 (j := 1) g (cc_children_size) kV_RX5_60 (by decide) (by decide) rfl rfl rfl rfl (Nat.le_of_ble_eq_true rfl) dX5_settle_22 (fun v1 => ?_)
    refine hf_icmp_ge (tgt := 79) gc dX5_settle_25 (by decide) ?_ ?_
    · refine hf_iconst (v := 1) gc dX5_settle_79 (by decide) ?_
      refine hf_istore_n (i := 1) (lv' := [(1, .int ((1 : Int32))), (0, .ref (ad 12))]) gc dX5_settle_80 rfl (by decide) rfl ?_
      refine hf_sub (lv' := [(0, .ref (ad 12)), (1, .int ((1 : Int32)))]) [1, 0] rfl ?_
      exact xc_placer_settle_l81 g hf_fuel _ _
    · refine hf_aload_n (i := 0) (q := 0) gc dX5_settle_28 rfl rfl ?_
      refine hf_getR (j := 12) (k := 0) (r := 1) g rfl rfl kF_RX5_44 dX5_settle_29 ?_
      refine hf_iload_n (i := 1) (q := 1) gc dX5_settle_32 rfl rfl ?_
      refine hf_callV1 (j := 1) g (cc_children_hasNeed (a1 := l1)) kV_RX5_86 (by decide) (by decide) rfl rfl rfl rfl (Nat.le_of_ble_eq_true rfl) dX5_settle_33 (fun v2 => ?_)
      refine hf_if_eq (tgt := 59) gc dX5_settle_36 (by decide) ?_ ?_
      · exact xc_placer_settle_b59 g (fun z0 z1 => ih z0 z1) _ _
      · refine hf_aload_n (i := 0) (q := 0) gc dX5_settle_39 rfl rfl ?_
        refine hf_getR (j := 12) (k := 3) (r := 11) g rfl rfl kF_RX5_56 dX5_settle_40 ?_
        refine hf_iconst (v := 0) gc dX5_settle_43 (by decide) ?_
        refine hf_iconst (v := 1) gc dX5_settle_44 (by decide) ?_
        refine hf_callV0 (j := 11) g (cc_latest_raise (a1 := (0 : Int32)) (a2 := (1 : Int32))) kV_RX5_152 (by decide) (by decide) rfl rfl rfl rfl (Nat.le_of_ble_eq_true rfl) dX5_settle_45 (fun s3 => ?_)
        refine hf_aload_n (i := 0) (q := 0) gc dX5_settle_48 rfl rfl ?_
        refine hf_iload_n (i := 1) (q := 1) gc dX5_settle_49 rfl rfl ?_
        refine hf_aload_n (i := 0) (q := 0) gc dX5_settle_50 rfl rfl ?_
        refine hf_getR (j := 12) (k := 13) (r := 54) g rfl rfl kF_RX5_41 dX5_settle_51 ?_
        refine hf_iload_n (i := 1) (q := 1) gc dX5_settle_54 rfl rfl ?_
        refine hf_iald (a := 41) (r := 54) (n := 7) g rfl rfl dX5_settle_55 ?_
        refine hf_callV0 (j := 12) g (cc_placer_countChild (a1 := l1) (a2 := s3.2 41 l1.toNatClampNeg)) kV_RX5_155 (by decide) (by decide) rfl rfl rfl rfl (Nat.le_of_ble_eq_true rfl) dX5_settle_56 (fun s4 => ?_)
        exact xc_placer_settle_b59 g (fun z0 z1 => ih z0 z1) _ _
set_option maxHeartbeats 2000000 in
set_option maxRecDepth 20000 in
theorem xc_placer_settle {x : hf_Cx} {ad : Nat → Nat} {cA : Nat → ClassId} {E : State → Prop} {A : Nat → Prop} {l0 : Launch} {D0 : va_G} (g : hf_G x hcT ad cA E A l0 D0 cX5_settle 2 RX5 none 3) {s : hf_St} : hf_X x A 2 (0, 0) (hf_Q x hcT ad cA A hf_rv) (Fc_placer_settle s) (hf_wd hcT ad cA s) 0 [(0, .ref (ad 12))] [] := by
  have gc := g.1
  unfold Fc_placer_settle
  refine hf_aload_n (i := 0) (q := 0) gc dX5_settle_0 rfl rfl ?_
  refine hf_getR (j := 12) (k := 3) (r := 11) g rfl rfl kF_RX5_56 dX5_settle_1 ?_
  refine hf_callV0 (j := 11) g (cc_latest_clearFigures) kV_RX5_149 (by decide) (by decide) rfl rfl rfl rfl (Nat.le_of_ble_eq_true rfl) dX5_settle_4 (fun s1 => ?_)
  refine hf_aload_n (i := 0) (q := 0) gc dX5_settle_7 rfl rfl ?_
  refine hf_getR (j := 12) (k := 11) (r := 52) g rfl rfl kF_RX5_35 dX5_settle_8 ?_
  refine hf_iconst (v := 0) gc dX5_settle_11 (by decide) ?_
  refine hf_callS0 g (cc_fill_placer_homesOfGroup (a1 := (0 : Int32))) kS_RX5_99 (by decide) (by decide) rfl rfl (Nat.le_of_ble_eq_true rfl) dX5_settle_12 (fun s2 => ?_)
  refine hf_iconst (v := 0) gc dX5_settle_15 (by decide) ?_
  refine hf_istore_n (i := 1) (lv' := [(1, .int ((0 : Int32))), (0, .ref (ad 12))]) gc dX5_settle_16 rfl (by decide) rfl ?_
  refine hf_sub (lv' := [(0, .ref (ad 12)), (1, .int ((0 : Int32)))]) [1, 0] rfl ?_
  exact xc_placer_settle_l17 g hf_fuel _ _
theorem cc_placer_settle {l0 : Launch} {D0 : va_G} {ad : Nat → Nat} {cA : Nat → ClassId} {E : State → Prop} {s : hf_St} : hf_Ct l0 D0 hcT ad cA E 3 yX5_settle cX5_settle 2 none [.ref (ad 12)] s (Fc_placer_settle s) hf_rv := hf_met (by decide) (Nat.le_of_ble_eq_true rfl) (fun _ _ g => xc_placer_settle g)
set_option maxHeartbeats 2000000 in
set_option maxRecDepth 20000 in
theorem xc_hf_place {x : hf_Cx} {ad : Nat → Nat} {cA : Nat → ClassId} {E : State → Prop} {A : Nat → Prop} {l0 : Launch} {D0 : va_G} (g : hf_G x hcT ad cA E A l0 D0 cX11_place 2 RX11 (some .int) 29) {s : hf_St} {a1 : Int32} : hf_X x A 2 (0, 0) (hf_Q x hcT ad cA A hf_ri) (Fc_hf_place s a1) (hf_wd hcT ad cA s) 0 [(0, .ref (ad 0)), (1, .int a1)] [] := by
  have gc := g.1
  unfold Fc_hf_place
  refine hf_aload_n (i := 0) (q := 0) gc dX11_place_0 rfl rfl ?_
  refine hf_getR (j := 0) (k := 9) (r := 12) g rfl rfl kF_RX11_81 dX11_place_1 ?_
  refine hf_iload_n (i := 1) (q := 1) gc dX11_place_4 rfl rfl ?_
  refine hf_aload_n (i := 0) (q := 0) gc dX11_place_5 rfl rfl ?_
  refine hf_getI (j := 0) (k := 10) g rfl rfl kF_RX11_85 dX11_place_6 ?_
  refine hf_callV0 (j := 12) g (cc_placer_weigh (a1 := a1) (a2 := s.1 0 10)) kV_RX11_169 (by decide) (by decide) rfl rfl rfl rfl (Nat.le_of_ble_eq_true rfl) dX11_place_9 (fun s1 => ?_)
  refine hf_aload_n (i := 0) (q := 0) gc dX11_place_12 rfl rfl ?_
  refine hf_getR (j := 0) (k := 9) (r := 12) g rfl rfl kF_RX11_81 dX11_place_13 ?_
  refine hf_callV0 (j := 12) g (cc_placer_findBest) kV_RX11_173 (by decide) (by decide) rfl rfl rfl rfl (Nat.le_of_ble_eq_true rfl) dX11_place_16 (fun s2 => ?_)
  refine hf_aload_n (i := 0) (q := 0) gc dX11_place_19 rfl rfl ?_
  refine hf_getR (j := 0) (k := 9) (r := 12) g rfl rfl kF_RX11_81 dX11_place_20 ?_
  refine hf_callV0 (j := 12) g (cc_placer_settle) kV_RX11_176 (by decide) (by decide) rfl rfl rfl rfl (Nat.le_of_ble_eq_true rfl) dX11_place_23 (fun s3 => ?_)
  refine hf_aload_n (i := 0) (q := 0) gc dX11_place_26 rfl rfl ?_
  refine hf_getR (j := 0) (k := 8) (r := 11) g rfl rfl kF_RX11_72 dX11_place_27 ?_
  refine hf_iconst (v := 1) gc dX11_place_30 (by decide) ?_
  refine hf_callV1 (j := 11) g (cc_latest_figure (a1 := (1 : Int32))) kV_RX11_179 (by decide) (by decide) rfl rfl rfl rfl (Nat.le_of_ble_eq_true rfl) dX11_place_31 (fun v4 => ?_)
  exact hf_iret g dX11_place_34 rfl
theorem cc_hf_place {l0 : Launch} {D0 : va_G} {ad : Nat → Nat} {cA : Nat → ClassId} {E : State → Prop} {s : hf_St} {a1 : Int32} : hf_Ct l0 D0 hcT ad cA E 29 yX11_place cX11_place 2 (some .int) [.ref (ad 0), .int a1] s (Fc_hf_place s a1) hf_ri := hf_met (by decide) (Nat.le_of_ble_eq_true rfl) (fun _ _ g => xc_hf_place g)
