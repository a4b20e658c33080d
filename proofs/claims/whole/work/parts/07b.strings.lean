/-! The four texts of the class, and the JDK's own members over them. -/
def hs_len : List Nat := [4, 5, 4, 3]
def hs_byt : List (List Int32) := [[109, 117, 115, 116], [110, 105, 103, 104, 116], [119, 105, 115, 104], [97, 110, 100]]
def hs_ix : List Nat := [72, 78, 80, 91]
def hs_tx : List String := ["must", "night", "wish", "and"]
/-- what the class needs to know beside its world -/
def hc_need (E : State → Prop) (ad adK adV : Nat → Nat) : Prop := ∀ U : State, E U → va_Nw (.methodLinkNest RX8 106 yX11_isField "HomeFinder") U ∧ va_Nw (.methodLinkNest RX8 109 yX11_slotOf "HomeFinder") U ∧ (∀ i, i < 4 → vk_R RX8 (hs_ix.getD i 0) (hs_tx.getD i "") (adK i) U) ∧ vk_S 4 hs_len hs_byt adK adV (hf_A hcT ad U.heap.size) U U.heap ∧ va_Z "java/lang/String" "COMPACT_STRINGS" "Z" (.int 1) (hf_A hcT ad U.heap.size) U U.heap ∧ va_Zq "jdk/internal/util/Preconditions" "SIOOBE_FORMATTER" "Ljava/util/function/BiFunction;" (hf_A hcT ad U.heap.size) U U.heap
theorem hn_RX8_106 {E : State → Prop} {ad adK adV : Nat → Nat} (hq : hc_need E ad adK adV) (U : State) (h : E U) : va_Nw (.methodLinkNest RX8 106 yX11_isField "HomeFinder") U := (hq U h).1
theorem hn_RX8_109 {E : State → Prop} {ad adK adV : Nat → Nat} (hq : hc_need E ad adK adV) (U : State) (h : E U) : va_Nw (.methodLinkNest RX8 109 yX11_slotOf "HomeFinder") U := (hq U h).2.1
/-- a receiver's class, whatever the heap is now -/
def hf_rc (x : hf_Cx) (A : Nat → Prop) (b : Nat) (C : String) : Prop := match x with
  | (_, _, _, _, s, _, _, _, _, _, _) => ∀ (H : Heap) (locs : List Loc), va_S A s.heap H locs → ∃ cell : Cell, H[b]? = some cell ∧ cell.vm.isStatics = false ∧ s.vm.findClass C = some cell.cls
theorem hf_callVg {α : Type} {x : hf_Cx} {T : hf_Tb} {ad : Nat → Nat} {cA : Nat → ClassId} {E : State → Prop} {A : Nat → Prop} {l0 : Launch} {D0 : va_G} {nL : Nat} {z : Nat × Nat} {Q : α → State → Prop} {σ : hf_St} {pc : Nat} {lv : List (Nat × Value)} {st st0 : List Value} {cc : ByteArray} {own : String} {rt : Option FieldType} {d d' : Nat} {y : MethodName} {cc' : ByteArray} {nL' : Nat} {rt' : Option FieldType} {As : List Value} {idx n b : Nat} {C : String} {β : Type} {G' : Option β} {res' : β → Option Value × hf_St} {Kb : β → Option α} (g : hf_G x T ad cA E A l0 D0 cc nL own rt d)
    (hrc : hf_rc x A b C) (hc : hf_Ct l0 D0 T ad cA E d' y cc' nL' rt' (.ref b :: As) σ G' res') (kw : hf_kV own idx C y cc' nL' rt' n) (hdd : d' + 1 ≤ d) (hn' : nL' ≤ 21) (hn : As.length = n) (hst0 : st0 = As.reverse ++ .ref b :: st) (hcat : (st.map fun v => v.category).sum ≤ 8) (hd : decode cc pc = .ok (.invokevirtual idx, 3))
    (k : ∀ v, hf_X x A nL z Q (Kb v) (hf_wd T ad cA (res' v).2) (pc + 3) lv ((res' v).1.toList ++ st)) (hz : z.1 ≤ x.2.2.2.1.cells ∧ z.2 ≤ x.2.2.2.1.slots) : hf_X x A nL z Q (G'.bind Kb) (hf_wd T ad cA σ) pc lv st0 := by
  obtain ⟨p, l, e, R, s, m, args, below, meth, c, D⟩ := x
  obtain ⟨⟨hx, hb, hml, hown, hts⟩, hK, hinj, hA, hst, hE, hlk, hr, hR1, hR2, rfl, rfl⟩ := id g
  subst hA
  refine hf_back (av := .ref b :: As) (fun v hv H locs ls hP hS hl => ?_) k
  refine va_runV (Ts := hf_TB) (C := C) (own := own) (index := idx) ⟨hx, hb, hml, hown, hts⟩ (hc v hv H.size) (cwV n hts kw.1 rfl rfl rfl kw.2 ⟨?_, ?_⟩) ⟨hf_blind, hrc H locs hS, fun U hU hW => ⟨rfl, hf_pre (l := l) hK hinj hst hE hP hS U hU hW⟩⟩ rfl hn hl.1 hst0 (lv_room hcat) hd hz
  · exact Nat.le_trans hdd hR1
  · show 8 + (nL' + 11) + 40 * d' ≤ R.locals
    omega
section HfStr
variable {α : Type} {x : hf_Cx} {ad adK adV : Nat → Nat} {cA : Nat → ClassId} {E : State → Prop} {A : Nat → Prop} {l0 : Launch} {D0 : va_G} {nL : Nat} {z : Nat × Nat} {Q : α → State → Prop} {K : Option α} {σ : hf_St} {w : va_W} {pc : Nat} {lv lv' : List (Nat × Value)} {st st0 : List Value} {cc : ByteArray} {own : String} {rt : Option FieldType} {d d' : Nat} {y : MethodName} {cc' : ByteArray} {nL' : Nat} {rt' : Option FieldType} {As : List Value} {idx n : Nat}
theorem hf_ldcS (g : hf_G x hcT ad cA E A l0 D0 cc nL RX8 rt d) (hq : hc_need E ad adK adV) (i : Nat) (hi : i < 4) (hd : decode cc pc = .ok (.ldc (hs_ix.getD i 0), 2)) (k : hf_X x A nL z Q K w (pc + 2) lv (.ref (adK i) :: st)) : hf_X x A nL z Q K w pc lv st := by
  obtain ⟨p, l, e, R, s, m, args, below, meth, c, D⟩ := x
  obtain ⟨⟨hx, hb, hml, hown, hts⟩, hK, hinj, hA, hst, hE, -⟩ := id g
  intro u hu H locs ls hP hS hl
  exact va_ldcS hx hb hown ((hq s hE).2.2.1 i hi) hd (k u hu H locs ls hP hS hl)
theorem hs_getV (g : hf_G x hcT ad cA E A l0 D0 cc nL own rt d) (hq : hc_need E ad adK adV) {i : Nat} (hi : i < 4) (hf : Cond.fieldLink own idx "java/lang/String" "value" "[B" ∈ hf_TB) (hd : decode cc pc = .ok (.getfield idx, 3)) (k : hf_X x A nL z Q K w (pc + 3) lv (.ref (adV i) :: st)) : hf_X x A nL z Q K w pc lv (.ref (adK i) :: st) := by
  obtain ⟨p, l, e, R, s, m, args, below, meth, c, D⟩ := x
  obtain ⟨⟨hx, hb, hml, hown, hts⟩, hK, hinj, hA, hst, hE, -⟩ := id g
  subst hA
  intro u hu H locs ls hP hS hl
  exact vk_getf hx hb ((hq s hE).2.2.2.1.1 i hi).2.2.1 hS hown (hts _ hf) (fun _ h => h) hd (k u hu H locs ls hP hS hl)
theorem hs_getC (g : hf_G x hcT ad cA E A l0 D0 cc nL own rt d) (hq : hc_need E ad adK adV) {i : Nat} (hi : i < 4) (hf : Cond.fieldLink own idx "java/lang/String" "coder" "B" ∈ hf_TB) (hd : decode cc pc = .ok (.getfield idx, 3)) (k : hf_X x A nL z Q K w (pc + 3) lv (.int 0 :: st)) : hf_X x A nL z Q K w pc lv (.ref (adK i) :: st) := by
  obtain ⟨p, l, e, R, s, m, args, below, meth, c, D⟩ := x
  obtain ⟨⟨hx, hb, hml, hown, hts⟩, hK, hinj, hA, hst, hE, -⟩ := id g
  subst hA
  intro u hu H locs ls hP hS hl
  exact vk_getf hx hb ((hq s hE).2.2.2.1.1 i hi).2.1 hS hown (hts _ hf) (fun _ h => h) hd (k u hu H locs ls hP hS hl)
theorem hs_alen (g : hf_G x hcT ad cA E A l0 D0 cc nL own rt d) (hq : hc_need E ad adK adV) {i : Nat} (hi : i < 4) (hd : decode cc pc = .ok (.arraylength, 1)) (k : hf_X x A nL z Q K w (pc + 1) lv (.int (nI (hs_len.getD i 0)) :: st)) : hf_X x A nL z Q K w pc lv (.ref (adV i) :: st) := by
  obtain ⟨p, l, e, R, s, m, args, below, meth, c, D⟩ := x
  obtain ⟨⟨hx, hb, hml, hown, hts⟩, hK, hinj, hA, hst, hE, -⟩ := id g
  subst hA
  intro u hu H locs ls hP hS hl
  exact va_tlen hx hb ((hq s hE).2.2.2.1.1 i hi).2.2.2 hS rfl hd (k u hu H locs ls hP hS hl)
theorem hs_bald (g : hf_G x hcT ad cA E A l0 D0 cc nL own rt d) (hq : hc_need E ad adK adV) {i : Nat} {j : Int32} (hi : i < 4) (hd : decode cc pc = .ok (.baload, 1)) (k : hf_X x A nL z Q K w (pc + 1) lv (.int ((hs_byt.getD i []).getD j.toNatClampNeg 0) :: st)) : hf_X x A nL z Q (hf_gd (hf_ix j (hs_len.getD i 0)) K) w pc lv (.int j :: .ref (adV i) :: st) := by
  obtain ⟨p, l, e, R, s, m, args, below, meth, c, D⟩ := x
  obtain ⟨⟨hx, hb, hml, hown, hts⟩, hK, hinj, hA, hst, hE, -⟩ := id g
  subst hA
  intro u hu H locs ls hP hS hl
  by_cases hj : hf_ix j (hs_len.getD i 0)
  · rw [hf_gd, if_pos hj] at hu
    exact va_tb hx hb ((hq s hE).2.2.2.1.1 i hi).2.2.2 hS (vp_in_iff.mpr hj) rfl hd (k u hu H locs ls hP hS hl)
  · rw [hf_gd, if_neg hj] at hu
    cases hu
theorem hs_gets (g : hf_G x hcT ad cA E A l0 D0 cc nL own rt d) (hq : hc_need E ad adK adV) (hf : Cond.fieldLink own idx "java/lang/String" "COMPACT_STRINGS" "Z" ∈ hf_TB) (hd : decode cc pc = .ok (.getstatic idx, 3)) (k : hf_X x A nL z Q K w (pc + 3) lv (.int 1 :: st)) : hf_X x A nL z Q K w pc lv st := by
  obtain ⟨p, l, e, R, s, m, args, below, meth, c, D⟩ := x
  obtain ⟨⟨hx, hb, hml, hown, hts⟩, hK, hinj, hA, hst, hE, -⟩ := id g
  subst hA
  intro u hu H locs ls hP hS hl
  exact va_gets hx hb (hq s hE).2.2.2.2.1 hS hown (hts _ hf) (fun _ h => h) hd (k u hu H locs ls hP hS hl)
theorem hs_getq (g : hf_G x hcT ad cA E A l0 D0 cc nL own rt d) (hq : hc_need E ad adK adV) (hf : Cond.fieldLink own idx "jdk/internal/util/Preconditions" "SIOOBE_FORMATTER" "Ljava/util/function/BiFunction;" ∈ hf_TB) (hd : decode cc pc = .ok (.getstatic idx, 3)) (k : ∀ v3 : Value, (v3 = .null ∨ ∃ t, v3 = .ref t) → hf_X x A nL z Q K w (pc + 3) lv (v3 :: st)) : hf_X x A nL z Q K w pc lv st := by
  obtain ⟨p, l, e, R, s, m, args, below, meth, c, D⟩ := x
  obtain ⟨⟨hx, hb, hml, hown, hts⟩, hK, hinj, hA, hst, hE, -⟩ := id g
  subst hA
  intro u hu H locs ls hP hS hl
  rcases (hq s hE).2.2.2.2.2 with h | ⟨t, h⟩
  · exact va_gets hx hb h hS hown (hts _ hf) (fun _ h => h) hd (k .null (Or.inl rfl) u hu H locs ls hP hS hl)
  · exact va_gets hx hb h hS hown (hts _ hf) (fun _ h => h) hd (k (.ref t) (Or.inr ⟨t, rfl⟩) u hu H locs ls hP hS hl)
theorem hs_i2c (g : hf_C x cc nL own) {a : Int32} (hd : decode cc pc = .ok (.i2c, 1)) (kk : hf_X x A nL z Q K w (pc + 1) lv (.int (a.toUInt32 % 65536).toInt32 :: st)) : hf_X x A nL z Q K w pc lv (.int a :: st) := by
  obtain ⟨p, l, e, R, s, m, args, below, meth, c, D⟩ := x
  exact fun u hu H locs ls hP hS hl => lv_i2c g.1 g.2.1 hd rfl (kk u hu H locs ls hP hS hl)
theorem hs_if_eqF (g : hf_C x cc nL own) {a : Int32} {off : Int} {tgt : Nat} (h : ¬ a = 0) (hd : decode cc pc = .ok (.ifCond .eq off, 3)) (ht : (pc : Int) + off = (tgt : Int)) (kf : hf_X x A nL z Q K w (pc + 3) lv st) : hf_X x A nL z Q K w pc lv (.int a :: st) := by
  obtain ⟨p, l, e, R, s, m, args, below, meth, c, D⟩ := x
  exact fun u hu H locs ls hP hS hl => lv_if_eq g.1 g.2.1 hd ht (fun hc => absurd hc h) (fun _ => kf u hu H locs ls hP hS hl)
theorem hs_if_neF (g : hf_C x cc nL own) {a : Int32} {off : Int} {tgt : Nat} (h : a = 0) (hd : decode cc pc = .ok (.ifCond .ne off, 3)) (ht : (pc : Int) + off = (tgt : Int)) (kf : hf_X x A nL z Q K w (pc + 3) lv st) : hf_X x A nL z Q K w pc lv (.int a :: st) := by
  obtain ⟨p, l, e, R, s, m, args, below, meth, c, D⟩ := x
  exact fun u hu H locs ls hP hS hl => lv_if_ne g.1 g.2.1 hd ht (fun hc => absurd h hc) (fun _ => kf u hu H locs ls hP hS hl)
theorem hs_ret {res : α → Option Value × hf_St} {ty : FieldType} (g : hf_G x hcT ad cA E A l0 D0 cc nL own (some ty) d) {v : α} {r : Int32} (hn : narrow ty (.int r) = .int r) (hd : decode cc pc = .ok (.ireturn, 1)) (hv : res v = (some (.int r), σ)) : hf_X x A nL (0, 0) (hf_Q x hcT ad cA A res) (some v) (hf_wd hcT ad cA σ) pc lv [.int r] := by
  obtain ⟨p, l, e, R, s, m, args, below, meth, c, D⟩ := x
  obtain ⟨⟨hx, hb, hml, hown, hts⟩, hK, hinj, hA, hst, hE, hlk, hr, -⟩ := id g
  subst hA
  intro u hu H locs ls hP hS hl
  cases hu
  exact W.zret (v := r) (ty := ty) hx hb hr hn (fun t ht hW => ⟨by rw [hv], by rw [hv, ht]; exact hP, hS.F ht⟩) hS.2.2 hd hlk
theorem hs_cret {res : α → Option Value × hf_St} (g : hf_G x hcT ad cA E A l0 D0 cc nL own (some .char) d) {v : α} {r : Int32} (hd : decode cc pc = .ok (.ireturn, 1)) (hv : res v = (some (.int r), σ)) : hf_X x A nL (0, 0) (hf_Q x hcT ad cA A res) (hf_gd (hf_ix r 65536) (some v)) (hf_wd hcT ad cA σ) pc lv [.int r] := by
  by_cases hi : hf_ix r 65536
  · rw [hf_gd, if_pos hi]
    obtain ⟨j, hj, rfl⟩ := vp_in_of (vp_in_iff.mpr hi) (by decide)
    exact hs_ret g (pk_charN hj).1 hd hv
  · rw [hf_gd, if_neg hi]
    exact hf_none
theorem hs_rc (g : hf_G x hcT ad cA E A l0 D0 cc nL own rt d) (hq : hc_need E ad adK adV) {i : Nat} (hi : i < 4) : hf_rc x A (adK i) "java/lang/String" := by
  obtain ⟨p, l, e, R, s, m, args, below, meth, c, D⟩ := x
  obtain ⟨⟨hx, hb, hml, hown, hts⟩, hK, hinj, hA, hst, hE, -⟩ := id g
  subst hA
  exact fun H locs hS => vk_recv (hq s hE).2.2.2.1 hi hS
theorem hf_callVs1 (g : hf_G x hcT ad cA E A l0 D0 cc nL own rt d) (hq : hc_need E ad adK adV) {i : Nat} (hi : i < 4) {G' : Option Int32} {Kb : Int32 → Option α} (hc : hf_Ct l0 D0 hcT ad cA E d' y cc' nL' rt' (.ref (adK i) :: As) σ G' (hf_rp σ)) (kw : hf_kV own idx "java/lang/String" y cc' nL' rt' n) (hdd : d' + 1 ≤ d) (hn' : nL' ≤ 21) (hn : As.length = n) (hst0 : st0 = As.reverse ++ .ref (adK i) :: st) (hcat : (st.map fun v => v.category).sum ≤ 8) (hd : decode cc pc = .ok (.invokevirtual idx, 3))
    (k : ∀ v : Int32, hf_X x A nL (0, 0) Q (Kb v) (hf_wd hcT ad cA σ) (pc + 3) lv (.int v :: st)) : hf_X x A nL (0, 0) Q (hf_b1 G' Kb) (hf_wd hcT ad cA σ) pc lv st0 := hf_callVg g (hs_rc g hq hi) hc kw hdd hn' hn hst0 hcat hd (fun v => k v) ⟨Nat.zero_le _, Nat.zero_le _⟩
theorem hf_callSu (g : hf_G x hcT ad cA E A l0 D0 cc nL own rt d) {G' : Option Unit} (hc : hf_Ct l0 D0 hcT ad cA E d' y cc' nL' rt' As σ G' (fun _ => (none, σ))) (kw : hf_kS own idx y cc' nL' rt' n) (hdd : d' + 1 ≤ d) (hn' : nL' ≤ 21) (hn : As.length = n) (hst0 : st0 = As.reverse ++ st) (hcat : (st.map fun v => v.category).sum ≤ 8) (hd : decode cc pc = .ok (.invokestatic idx, 3))
    (k : hf_X x A nL (0, 0) Q K (hf_wd hcT ad cA σ) (pc + 3) lv st) : hf_X x A nL (0, 0) Q (G'.bind (fun _ => K)) (hf_wd hcT ad cA σ) pc lv st0 := hf_callS g hc kw hdd hn' hn hst0 hcat hd (fun _ => k) ⟨Nat.zero_le _, Nat.zero_le _⟩
theorem hf_callSN1 {T : hf_Tb} (g : hf_G x T ad cA E A l0 D0 cc nL own rt d) {G' : Option Int32} {Kb : Int32 → Option α} {host : String} (hc : hf_Ct l0 D0 T ad cA E d' y cc' nL' rt' As σ G' (hf_rp σ)) (hl : ∀ U, E U → va_Nw (.methodLinkNest own idx y host) U) (kc : Cond.code y cc' nL' rt' ∈ hf_TB) (ki : Cond.initialized y.cls ∈ hf_TB) (ks : Cond.static y ∈ hf_TB) (kw : y.cls ≠ "java/lang/invoke/MethodHandle" ∧ y.cls ≠ "java/lang/invoke/VarHandle" ∧ (parseMethodDescriptor y.desc).map (fun d => d.parameters.length) = some n) (hdd : d' + 1 ≤ d) (hn' : nL' ≤ 21) (hn : As.length = n) (hst0 : st0 = As.reverse ++ st) (hcat : (st.map fun v => v.category).sum ≤ 8) (hd : decode cc pc = .ok (.invokestatic idx, 3))
    (k : ∀ v : Int32, hf_X x A nL (0, 0) Q (Kb v) (hf_wd T ad cA σ) (pc + 3) lv (.int v :: st)) : hf_X x A nL (0, 0) Q (hf_b1 G' Kb) (hf_wd T ad cA σ) pc lv st0 := hf_callSN g hc hl kc ki ks kw hdd hn' hn hst0 hcat hd (fun v => k v) ⟨Nat.zero_le _, Nat.zero_le _⟩
end HfStr
/-! the links -/
theorem ks_c38 : Cond.fieldLink RJ0 38 "java/lang/String" "COMPACT_STRINGS" "Z" ∈ hf_TB := hf_tb (List.mem_of_getElem? (i := 552) (by decide +kernel)) rfl
theorem ks_c1053 : Cond.fieldLink RJ0 1053 "jdk/internal/util/Preconditions" "SIOOBE_FORMATTER" "Ljava/util/function/BiFunction;" ∈ hf_TB := hf_tb (List.mem_of_getElem? (i := 568) (by decide +kernel)) rfl
theorem ks_c9 : Cond.fieldLink RJ0 9 "java/lang/String" "value" "[B" ∈ hf_TB := hf_tb (List.mem_of_getElem? (i := 1265) (by decide +kernel)) rfl
theorem ks_c15 : Cond.fieldLink RJ0 15 "java/lang/String" "coder" "B" ∈ hf_TB := hf_tb (List.mem_of_getElem? (i := 1266) (by decide +kernel)) rfl
theorem kV_RJ0_335 : hf_kV RJ0 335 RJ0 yJ0_coder_7d493 cJ0_coder_7d493 1 (some .byte) 0 := hf_kV_of (List.mem_of_getElem? (i := 548) (by decide +kernel)) (List.mem_of_getElem? (i := 549) (by decide +kernel)) (List.mem_of_getElem? (i := 550) (by decide +kernel)) (List.mem_of_getElem? (i := 62) (by decide +kernel)) (List.mem_of_getElem? (i := 551) (by decide +kernel)) (by decide +kernel)
theorem kV_RJ0_492 : hf_kV RJ0 492 RJ0 yJ0_isLatin1_aae02 cJ0_isLatin1_aae02 1 (some .boolean) 0 := hf_kV_of (List.mem_of_getElem? (i := 558) (by decide +kernel)) (List.mem_of_getElem? (i := 559) (by decide +kernel)) (List.mem_of_getElem? (i := 560) (by decide +kernel)) (List.mem_of_getElem? (i := 62) (by decide +kernel)) (List.mem_of_getElem? (i := 561) (by decide +kernel)) (by decide +kernel)
theorem kS_RJ0_495 : hf_kS RJ0 495 yJ1_charAt_3b067 cJ1_charAt_3b067 2 (some .char) 2 := hf_kS_of (List.mem_of_getElem? (i := 562) (by decide +kernel)) (List.mem_of_getElem? (i := 563) (by decide +kernel)) (List.mem_of_getElem? (i := 63) (by decide +kernel)) (List.mem_of_getElem? (i := 564) (by decide +kernel)) (by decide +kernel)
theorem kS_RJ1_9 : hf_kS RJ1 9 yJ0_checkIndex_df160 cJ0_checkIndex_df160 2 none 2 := hf_kS_of (List.mem_of_getElem? (i := 565) (by decide +kernel)) (List.mem_of_getElem? (i := 566) (by decide +kernel)) (List.mem_of_getElem? (i := 62) (by decide +kernel)) (List.mem_of_getElem? (i := 567) (by decide +kernel)) (by decide +kernel)
theorem kS_RJ0_1059 : hf_kS RJ0 1059 yJ3_checkIndex_8e157 cJ3_checkIndex_8e157 3 (some .int) 3 := hf_kS_of (List.mem_of_getElem? (i := 570) (by decide +kernel)) (List.mem_of_getElem? (i := 571) (by decide +kernel)) (List.mem_of_getElem? (i := 64) (by decide +kernel)) (List.mem_of_getElem? (i := 572) (by decide +kernel)) (by decide +kernel)
/-! the members, leaves first -/
section HfStrC
variable {l0 : Launch} {D0 : va_G} {ad adK adV : Nat → Nat} {cA : Nat → ClassId} {E : State → Prop} {s : hf_St}
theorem cs_coder (hq : hc_need E ad adK adV) {w : Nat} (hw : w < 4) : hf_Ct l0 D0 hcT ad cA E 0 yJ0_coder_7d493 cJ0_coder_7d493 1 (some .byte) [.ref (adK w)] s (some (0 : Int32)) (hf_rp s) := hf_met (by decide) (Nat.le_of_ble_eq_true rfl) (fun x A g => by
  have gc := g.1
  refine hs_gets g hq ks_c38 dJ0_coder_7d493_0 ?_
  refine hs_if_eqF (tgt := 13) gc (by decide) dJ0_coder_7d493_3 (by decide) ?_
  refine hf_aload_n (i := 0) (q := 0) gc dJ0_coder_7d493_6 rfl rfl ?_
  refine hs_getC g hq hw ks_c15 dJ0_coder_7d493_7 ?_
  refine hf_goto (tgt := 14) gc dJ0_coder_7d493_10 (by decide) ?_
  exact hs_ret g rfl dJ0_coder_7d493_14 rfl)
theorem cs_isLatin1 (hq : hc_need E ad adK adV) {w : Nat} (hw : w < 4) : hf_Ct l0 D0 hcT ad cA E 0 yJ0_isLatin1_aae02 cJ0_isLatin1_aae02 1 (some .boolean) [.ref (adK w)] s (some (1 : Int32)) (hf_rp s) := hf_met (by decide) (Nat.le_of_ble_eq_true rfl) (fun x A g => by
  have gc := g.1
  refine hs_gets g hq ks_c38 dJ0_isLatin1_aae02_0 ?_
  refine hs_if_eqF (tgt := 17) gc (by decide) dJ0_isLatin1_aae02_3 (by decide) ?_
  refine hf_aload_n (i := 0) (q := 0) gc dJ0_isLatin1_aae02_6 rfl rfl ?_
  refine hs_getC g hq hw ks_c15 dJ0_isLatin1_aae02_7 ?_
  refine hs_if_neF (tgt := 17) gc rfl dJ0_isLatin1_aae02_10 (by decide) ?_
  refine hf_iconst (v := 1) gc dJ0_isLatin1_aae02_13 (by decide) ?_
  refine hf_goto (tgt := 18) gc dJ0_isLatin1_aae02_14 (by decide) ?_
  exact hs_ret g rfl dJ0_isLatin1_aae02_18 rfl)
def hs_length (w : Nat) : Option Int32 := some (nI (hs_len.getD w 0) >>> ((0 : Int32) &&& 31))
theorem cs_length (hq : hc_need E ad adK adV) {w : Nat} (hw : w < 4) : hf_Ct l0 D0 hcT ad cA E 1 yJ0_length_8abf5 cJ0_length_8abf5 1 (some .int) [.ref (adK w)] s (hf_b1 (some (0 : Int32)) (fun v => some (nI (hs_len.getD w 0) >>> (v &&& 31)))) (hf_rp s) := hf_met (by decide) (Nat.le_of_ble_eq_true rfl) (fun x A g => by
  have gc := g.1
  refine hf_aload_n (i := 0) (q := 0) gc dJ0_length_8abf5_0 rfl rfl ?_
  refine hs_getV g hq hw ks_c9 dJ0_length_8abf5_1 ?_
  refine hs_alen g hq hw dJ0_length_8abf5_4 ?_
  refine hf_aload_n (i := 0) (q := 0) gc dJ0_length_8abf5_5 rfl rfl ?_
  refine hf_callVs1 g hq hw (cs_coder hq hw) kV_RJ0_335 (by decide) (by decide) rfl rfl (Nat.le_of_ble_eq_true rfl) dJ0_length_8abf5_6 (fun v => ?_)
  refine hf_ishr gc dJ0_length_8abf5_9 ?_
  exact hf_iret g dJ0_length_8abf5_10 rfl)
def hs_chk (a1 a2 : Int32) : Option Int32 := if a1 < 0 then none else if a1 < a2 then some a1 else none
theorem cs_pcheck {a1 a2 : Int32} {v3 : Value} (h3 : v3 = .null ∨ ∃ t, v3 = .ref t) : hf_Ct l0 D0 hcT ad cA E 0 yJ3_checkIndex_8e157 cJ3_checkIndex_8e157 3 (some .int) [.int a1, .int a2, v3] s (hs_chk a1 a2) (hf_rp s) := by
  rcases h3 with rfl | ⟨t, rfl⟩ <;> exact hf_met (by decide) (Nat.le_of_ble_eq_true rfl) (fun x A g => by
    have gc := g.1
    unfold hs_chk
    refine hf_iload_n (i := 0) (q := 0) gc dJ3_checkIndex_8e157_0 rfl rfl ?_
    refine hf_if_lt (tgt := 9) gc dJ3_checkIndex_8e157_1 (by decide) ?_ ?_
    · exact hf_none
    · refine hf_iload_n (i := 0) (q := 0) gc dJ3_checkIndex_8e157_4 rfl rfl ?_
      refine hf_iload_n (i := 1) (q := 1) gc dJ3_checkIndex_8e157_5 rfl rfl ?_
      refine hf_icmp_lt (tgt := 16) gc dJ3_checkIndex_8e157_6 (by decide) ?_ ?_
      · refine hf_iload_n (i := 0) (q := 0) gc dJ3_checkIndex_8e157_16 rfl rfl ?_
        exact hf_iret g dJ3_checkIndex_8e157_17 rfl
      · exact hf_none)
theorem cs_scheck (hq : hc_need E ad adK adV) {a1 a2 : Int32} : hf_Ct l0 D0 hcT ad cA E 1 yJ0_checkIndex_df160 cJ0_checkIndex_df160 2 none [.int a1, .int a2] s (hf_b1 (hs_chk a1 a2) (fun _ => some ())) (fun _ : Unit => (none, s)) := hf_met (by decide) (Nat.le_of_ble_eq_true rfl) (fun x A g => by
  have gc := g.1
  refine hf_iload_n (i := 0) (q := 0) gc dJ0_checkIndex_df160_0 rfl rfl ?_
  refine hf_iload_n (i := 1) (q := 1) gc dJ0_checkIndex_df160_1 rfl rfl ?_
  refine hs_getq g hq ks_c1053 dJ0_checkIndex_df160_2 (fun v3 h3 => ?_)
  refine hf_callS1 (As := [.int a1, .int a2, v3]) g (cs_pcheck h3) kS_RJ0_1059 (by decide) (by decide) rfl rfl (Nat.le_of_ble_eq_true rfl) dJ0_checkIndex_df160_5 (fun v => ?_)
  refine hf_pop gc dJ0_checkIndex_df160_8 rfl ?_
  exact hf_vret g dJ0_checkIndex_df160_9 rfl)
def hs_lat (w : Nat) (k : Int32) : Option Int32 := (hf_b1 (hs_chk k (nI (hs_len.getD w 0))) (fun _ => some ())).bind (fun _ => hf_gd (hf_ix k (hs_len.getD w 0)) (hf_gd (hf_ix ((((hs_byt.getD w []).getD k.toNatClampNeg 0) &&& 255).toUInt32 % 65536).toInt32 65536) (some ((((hs_byt.getD w []).getD k.toNatClampNeg 0) &&& 255).toUInt32 % 65536).toInt32)))
theorem cs_lat (hq : hc_need E ad adK adV) {w : Nat} (hw : w < 4) {k : Int32} : hf_Ct l0 D0 hcT ad cA E 2 yJ1_charAt_3b067 cJ1_charAt_3b067 2 (some .char) [.ref (adV w), .int k] s (hs_lat w k) (hf_rp s) := hf_met (by decide) (Nat.le_of_ble_eq_true rfl) (fun x A g => by
  have gc := g.1
  unfold hs_lat
  refine hf_iload_n (i := 1) (q := 1) gc dJ1_charAt_3b067_0 rfl rfl ?_
  refine hf_aload_n (i := 0) (q := 0) gc dJ1_charAt_3b067_1 rfl rfl ?_
  refine hs_alen g hq hw dJ1_charAt_3b067_2 ?_
  refine hf_callSu (As := [.int k, .int (nI (hs_len.getD w 0))]) g (cs_scheck hq) kS_RJ1_9 (by decide) (by decide) rfl rfl (Nat.le_of_ble_eq_true rfl) dJ1_charAt_3b067_3 ?_
  refine hf_aload_n (i := 0) (q := 0) gc dJ1_charAt_3b067_6 rfl rfl ?_
  refine hf_iload_n (i := 1) (q := 1) gc dJ1_charAt_3b067_7 rfl rfl ?_
  refine hs_bald g hq hw dJ1_charAt_3b067_8 ?_
  refine hf_sipush (v := 255) gc dJ1_charAt_3b067_9 (by decide) ?_
  refine hf_iand gc dJ1_charAt_3b067_12 ?_
  refine hs_i2c gc dJ1_charAt_3b067_13 ?_
  exact hs_cret g dJ1_charAt_3b067_14 rfl)
def hs_charAt (w : Nat) (k : Int32) : Option Int32 := hf_b1 (hs_lat w k) (fun v => hf_gd (hf_ix v 65536) (some v))
theorem cs_charAt (hq : hc_need E ad adK adV) {w : Nat} (hw : w < 4) {k : Int32} : hf_Ct l0 D0 hcT ad cA E 3 yJ0_charAt_5068e cJ0_charAt_5068e 2 (some .char) [.ref (adK w), .int k] s (hf_b1 (some (1 : Int32)) (fun v => if v = 0 then none else hs_charAt w k)) (hf_rp s) := hf_met (by decide) (Nat.le_of_ble_eq_true rfl) (fun x A g => by
  have gc := g.1
  unfold hs_charAt
  refine hf_aload_n (i := 0) (q := 0) gc dJ0_charAt_5068e_0 rfl rfl ?_
  refine hf_callVs1 (As := []) g hq hw (cs_isLatin1 hq hw) kV_RJ0_492 (by decide) (by decide) rfl rfl (Nat.le_of_ble_eq_true rfl) dJ0_charAt_5068e_1 (fun v => ?_)
  refine hf_if_eq (tgt := 16) gc dJ0_charAt_5068e_4 (by decide) ?_ ?_
  · exact hf_none
  · refine hf_aload_n (i := 0) (q := 0) gc dJ0_charAt_5068e_7 rfl rfl ?_
    refine hs_getV g hq hw ks_c9 dJ0_charAt_5068e_8 ?_
    refine hf_iload_n (i := 1) (q := 1) gc dJ0_charAt_5068e_11 rfl rfl ?_
    refine hf_callS1 (As := [.ref (adV w), .int k]) g (cs_lat hq hw) kS_RJ0_495 (by decide) (by decide) rfl rfl (Nat.le_of_ble_eq_true rfl) dJ0_charAt_5068e_12 (fun v => ?_)
    exact hs_cret g dJ0_charAt_5068e_15 rfl)
theorem cs_length' (hq : hc_need E ad adK adV) {w : Nat} (hw : w < 4) : hf_Ct l0 D0 hcT ad cA E 1 yJ0_length_8abf5 cJ0_length_8abf5 1 (some .int) [.ref (adK w)] s (hs_length w) (hf_rp s) := cs_length hq hw
theorem cs_charAt' (hq : hc_need E ad adK adV) {w : Nat} (hw : w < 4) {k : Int32} : hf_Ct l0 D0 hcT ad cA E 3 yJ0_charAt_5068e cJ0_charAt_5068e 2 (some .char) [.ref (adK w), .int k] s (hs_charAt w k) (hf_rp s) := cs_charAt hq hw
end HfStrC
