set_option maxHeartbeats 2000000 in
set_option maxRecDepth 20000 in
theorem xc_book_size {x : hf_Cx} {ad : Nat → Nat} {cA : Nat → ClassId} {E : State → Prop} {A : Nat → Prop} {l0 : Launch} {D0 : va_G} (g : hf_G x hcT ad cA E A l0 D0 cX7_size 1 RX7 (some .int) 0) {s : hf_St} : hf_X x A 1 (0, 0) (hf_Q x hcT ad cA A (hf_rp s)) (Fc_book_size s) (hf_wd hcT ad cA s) 0 [(0, .ref (ad 6))] [] := by
  have gc := g.1
  unfold Fc_book_size
  refine hf_aload_n (i := 0) (q := 0) gc dX7_size_0 rfl rfl ?_
  refine hf_getI (j := 6) (k := 6) g rfl rfl kF_RX7_30 dX7_size_1 ?_
  exact hf_iret g dX7_size_4 rfl
theorem cc_book_size {l0 : Launch} {D0 : va_G} {ad : Nat → Nat} {cA : Nat → ClassId} {E : State → Prop} {s : hf_St} : hf_Ct l0 D0 hcT ad cA E 0 yX7_size cX7_size 1 (some .int) [.ref (ad 6)] s (Fc_book_size s) (hf_rp s) := hf_met (by decide) (Nat.le_of_ble_eq_true rfl) (fun _ _ g => xc_book_size g)
set_option maxHeartbeats 2000000 in
set_option maxRecDepth 20000 in
theorem xc_papers_size {x : hf_Cx} {ad : Nat → Nat} {cA : Nat → ClassId} {E : State → Prop} {A : Nat → Prop} {l0 : Launch} {D0 : va_G} (g : hf_G x hcT ad cA E A l0 D0 cX4_size 1 RX4 (some .int) 0) {s : hf_St} : hf_X x A 1 (0, 0) (hf_Q x hcT ad cA A (hf_rp s)) (Fc_papers_size s) (hf_wd hcT ad cA s) 0 [(0, .ref (ad 3))] [] := by
  have gc := g.1
  unfold Fc_papers_size
  refine hf_aload_n (i := 0) (q := 0) gc dX4_size_0 rfl rfl ?_
  refine hf_getI (j := 3) (k := 3) g rfl rfl kF_RX4_21 dX4_size_1 ?_
  exact hf_iret g dX4_size_4 rfl
theorem cc_papers_size {l0 : Launch} {D0 : va_G} {ad : Nat → Nat} {cA : Nat → ClassId} {E : State → Prop} {s : hf_St} : hf_Ct l0 D0 hcT ad cA E 0 yX4_size cX4_size 1 (some .int) [.ref (ad 3)] s (Fc_papers_size s) (hf_rp s) := hf_met (by decide) (Nat.le_of_ble_eq_true rfl) (fun _ _ g => xc_papers_size g)
set_option maxHeartbeats 2000000 in
set_option maxRecDepth 20000 in
theorem xc_facts_size {x : hf_Cx} {ad : Nat → Nat} {cA : Nat → ClassId} {E : State → Prop} {A : Nat → Prop} {l0 : Launch} {D0 : va_G} (g : hf_G x hcT ad cA E A l0 D0 cX1_size 1 RX1 (some .int) 0) {s : hf_St} : hf_X x A 1 (0, 0) (hf_Q x hcT ad cA A (hf_rp s)) (Fc_facts_size s) (hf_wd hcT ad cA s) 0 [(0, .ref (ad 4))] [] := by
  have gc := g.1
  unfold Fc_facts_size
  refine hf_aload_n (i := 0) (q := 0) gc dX1_size_0 rfl rfl ?_
  refine hf_getI (j := 4) (k := 5) g rfl rfl kF_RX1_27 dX1_size_1 ?_
  exact hf_iret g dX1_size_4 rfl
theorem cc_facts_size {l0 : Launch} {D0 : va_G} {ad : Nat → Nat} {cA : Nat → ClassId} {E : State → Prop} {s : hf_St} : hf_Ct l0 D0 hcT ad cA E 0 yX1_size cX1_size 1 (some .int) [.ref (ad 4)] s (Fc_facts_size s) (hf_rp s) := hf_met (by decide) (Nat.le_of_ble_eq_true rfl) (fun _ _ g => xc_facts_size g)
set_option maxHeartbeats 2000000 in
set_option maxRecDepth 20000 in
theorem xc_homes_size {x : hf_Cx} {ad : Nat → Nat} {cA : Nat → ClassId} {E : State → Prop} {A : Nat → Prop} {l0 : Launch} {D0 : va_G} (g : hf_G x hcT ad cA E A l0 D0 cX2_size 1 RX2 (some .int) 0) {s : hf_St} : hf_X x A 1 (0, 0) (hf_Q x hcT ad cA A (hf_rp s)) (Fc_homes_size s) (hf_wd hcT ad cA s) 0 [(0, .ref (ad 2))] [] := by
  have gc := g.1
  unfold Fc_homes_size
  refine hf_aload_n (i := 0) (q := 0) gc dX2_size_0 rfl rfl ?_
  refine hf_getI (j := 2) (k := 2) g rfl rfl kF_RX2_18 dX2_size_1 ?_
  exact hf_iret g dX2_size_4 rfl
theorem cc_homes_size {l0 : Launch} {D0 : va_G} {ad : Nat → Nat} {cA : Nat → ClassId} {E : State → Prop} {s : hf_St} : hf_Ct l0 D0 hcT ad cA E 0 yX2_size cX2_size 1 (some .int) [.ref (ad 2)] s (Fc_homes_size s) (hf_rp s) := hf_met (by decide) (Nat.le_of_ble_eq_true rfl) (fun _ _ g => xc_homes_size g)
set_option maxHeartbeats 2000000 in
set_option maxRecDepth 20000 in
theorem xc_hf_count {x : hf_Cx} {ad : Nat → Nat} {cA : Nat → ClassId} {E : State → Prop} {A : Nat → Prop} {l0 : Launch} {D0 : va_G} (g : hf_G x hcT ad cA E A l0 D0 cX11_count 2 RX11 (some .int) 1) {s : hf_St} {a1 : Int32} : hf_X x A 2 (0, 0) (hf_Q x hcT ad cA A (hf_rp s)) (Fc_hf_count s a1) (hf_wd hcT ad cA s) 0 [(0, .ref (ad 0)), (1, .int a1)] [] := by
  have gc := g.1
  unfold Fc_hf_count
  refine hf_iload_n (i := 1) (q := 1) gc dX11_count_0 rfl rfl ?_
  refine hf_switch (lo := 0) gc [44, 52, 60, 68, 76, 84, 89] 97 dX11_count_1 (by decide) rfl (by decide) ⟨?_, ?_, ?_, ?_, ?_, ?_, ?_, trivial⟩ ?_
  · refine hf_aload_n (i := 0) (q := 0) gc dX11_count_44 rfl rfl ?_
    refine hf_getR (j := 0) (k := 0) (r := 1) g rfl rfl kF_RX11_10 dX11_count_45 ?_
    refine hf_callV1 (j := 1) g (cc_children_size) kV_RX11_185 (by decide) (by decide) rfl rfl rfl rfl (Nat.le_of_ble_eq_true rfl) dX11_count_48 (fun v1 => ?_)
    exact hf_iret g dX11_count_51 rfl
  · refine hf_aload_n (i := 0) (q := 0) gc dX11_count_52 rfl rfl ?_
    refine hf_getR (j := 0) (k := 1) (r := 2) g rfl rfl kF_RX11_19 dX11_count_53 ?_
    refine hf_callV1 (j := 2) g (cc_homes_size) kV_RX11_196 (by decide) (by decide) rfl rfl rfl rfl (Nat.le_of_ble_eq_true rfl) dX11_count_56 (fun v2 => ?_)
    exact hf_iret g dX11_count_59 rfl
  · refine hf_aload_n (i := 0) (q := 0) gc dX11_count_60 rfl rfl ?_
    refine hf_getR (j := 0) (k := 3) (r := 4) g rfl rfl kF_RX11_33 dX11_count_61 ?_
    refine hf_callV1 (j := 4) g (cc_facts_size) kV_RX11_197 (by decide) (by decide) rfl rfl rfl rfl (Nat.le_of_ble_eq_true rfl) dX11_count_64 (fun v3 => ?_)
    exact hf_iret g dX11_count_67 rfl
  · refine hf_aload_n (i := 0) (q := 0) gc dX11_count_68 rfl rfl ?_
    refine hf_getR (j := 0) (k := 2) (r := 3) g rfl rfl kF_RX11_26 dX11_count_69 ?_
    refine hf_callV1 (j := 3) g (cc_papers_size) kV_RX11_198 (by decide) (by decide) rfl rfl rfl rfl (Nat.le_of_ble_eq_true rfl) dX11_count_72 (fun v4 => ?_)
    exact hf_iret g dX11_count_75 rfl
  · refine hf_aload_n (i := 0) (q := 0) gc dX11_count_76 rfl rfl ?_
    refine hf_getR (j := 0) (k := 5) (r := 6) g rfl rfl kF_RX11_47 dX11_count_77 ?_
    refine hf_callV1 (j := 6) g (cc_book_size) kV_RX11_159 (by decide) (by decide) rfl rfl rfl rfl (Nat.le_of_ble_eq_true rfl) dX11_count_80 (fun v5 => ?_)
    exact hf_iret g dX11_count_83 rfl
  · refine hf_aload_n (i := 0) (q := 0) gc dX11_count_84 rfl rfl ?_
    refine hf_getI (j := 0) (k := 10) g rfl rfl kF_RX11_85 dX11_count_85 ?_
    exact hf_iret g dX11_count_88 rfl
  · refine hf_aload_n (i := 0) (q := 0) gc dX11_count_89 rfl rfl ?_
    refine hf_getR (j := 0) (k := 4) (r := 5) g rfl rfl kF_RX11_40 dX11_count_90 ?_
    refine hf_callV1 (j := 5) g (cc_tape_size) kV_RX11_138 (by decide) (by decide) rfl rfl rfl rfl (Nat.le_of_ble_eq_true rfl) dX11_count_93 (fun v6 => ?_)
    exact hf_iret g dX11_count_96 rfl
  · refine hf_iconst (v := -1) gc dX11_count_97 (by decide) ?_
    exact hf_iret g dX11_count_98 rfl
theorem cc_hf_count {l0 : Launch} {D0 : va_G} {ad : Nat → Nat} {cA : Nat → ClassId} {E : State → Prop} {s : hf_St} {a1 : Int32} : hf_Ct l0 D0 hcT ad cA E 1 yX11_count cX11_count 2 (some .int) [.ref (ad 0), .int a1] s (Fc_hf_count s a1) (hf_rp s) := hf_met (by decide) (Nat.le_of_ble_eq_true rfl) (fun _ _ g => xc_hf_count g)
