/-! More of the law's rows. -/
theorem lw_eq {α : Type} {x : hf_Cx} {A : Nat → Prop} {nL : Nat} {z : Nat × Nat} {Q : α → State → Prop} {K : Option α} {w : va_W} {pc : Nat} {lv : List (Nat × Value)} {st : List Value} {cc : ByteArray} {own : String} (g : hf_C x cc nL own) {a : Int32} {off : Int} {tgt : Nat} (hd : decode cc pc = .ok (.if_icmp .eq off, 3)) (ht : (pc : Int) + off = (tgt : Int)) (k : hf_X x A nL z Q K w tgt lv st) : hf_X x A nL z Q K w pc lv (.int a :: .int a :: st) := by
  obtain ⟨p, l, e, R, s, m, args, below, meth, c, D⟩ := x
  exact fun u hu H locs ls hP hS hl => lv_icmp_eq g.1 g.2.1 hd ht (fun _ => k u hu H locs ls hP hS hl) (fun h => absurd rfl h)
theorem lw_gt {α : Type} {x : hf_Cx} {A : Nat → Prop} {nL : Nat} {z : Nat × Nat} {Q : α → State → Prop} {K : Option α} {w : va_W} {pc : Nat} {lv : List (Nat × Value)} {st : List Value} {cc : ByteArray} {own : String} (g : hf_C x cc nL own) {a b : Int32} {off : Int} {tgt : Nat} (hd : decode cc pc = .ok (.if_icmp .gt off, 3)) (ht : (pc : Int) + off = (tgt : Int)) (k1 : b < a → hf_X x A nL z Q K w tgt lv st) (k2 : ¬ b < a → hf_X x A nL z Q K w (pc + 3) lv st) : hf_X x A nL z Q K w pc lv (.int b :: .int a :: st) := by
  obtain ⟨p, l, e, R, s, m, args, below, meth, c, D⟩ := x
  exact fun u hu H locs ls hP hS hl => lv_icmp_gt g.1 g.2.1 hd ht (fun h => k1 h u hu H locs ls hP hS hl) (fun h => k2 h u hu H locs ls hP hS hl)
theorem lw_in {α : Type} {x : hf_Cx} {A : Nat → Prop} {nL : Nat} {z : Nat × Nat} {Q : α → State → Prop} {K : Option α} {w : va_W} {pc : Nat} {lv : List (Nat × Value)} {st : List Value} {cc : ByteArray} {own : String} (g : hf_C x cc nL own) {a : Int32} {dflt lo hi off : Int} {offs : Array Int} {len tgt : Nat} (hd : decode cc pc = .ok (.tableswitch dflt lo hi offs, len)) (h1 : ¬ a.toInt < lo) (h2 : ¬ hi < a.toInt) (ho : offs[(a.toInt - lo).toNat]? = some off) (ht : (pc : Int) + off = (tgt : Int)) (k : hf_X x A nL z Q K w tgt lv st) : hf_X x A nL z Q K w pc lv (.int a :: st) := by
  obtain ⟨p, l, e, R, s, m, args, below, meth, c, D⟩ := x
  exact fun u hu H locs ls hP hS hl => lv_tableIn g.1 g.2.1 hd h1 h2 ho ht (k u hu H locs ls hP hS hl)
theorem lw_out {α : Type} {x : hf_Cx} {A : Nat → Prop} {nL : Nat} {z : Nat × Nat} {Q : α → State → Prop} {K : Option α} {w : va_W} {pc : Nat} {lv : List (Nat × Value)} {st : List Value} {cc : ByteArray} {own : String} (g : hf_C x cc nL own) {a : Int32} {dflt lo hi : Int} {offs : Array Int} {len tgt : Nat} (hd : decode cc pc = .ok (.tableswitch dflt lo hi offs, len)) (h : a.toInt < lo ∨ hi < a.toInt) (ht : (pc : Int) + dflt = (tgt : Int)) (k : hf_X x A nL z Q K w tgt lv st) : hf_X x A nL z Q K w pc lv (.int a :: st) := by
  obtain ⟨p, l, e, R, s, m, args, below, meth, c, D⟩ := x
  exact fun u hu H locs ls hP hS hl => lv_tableOut g.1 g.2.1 hd h ht (k u hu H locs ls hP hS hl)
/-- the locals of the law -/
abbrev lw_lv (b : Nat) (adc adm : Nat → Nat) (i : Nat) : List (Nat × Value) := [(0, .ref b), (1, .ref (adc 0)), (2, .ref (adm 0)), (3, .int (nI i))]
/-- the number at i + j of the script: five instructions -/
theorem lw_arg {α : Type} {x : hf_Cx} {A : Nat → Prop} {E : State → Prop} {adc adm : Nat → Nat} {ca cm : Nat → ClassId} {l0 : Launch} {D0 : va_G} {z : Nat × Nat} {Q : α → State → Prop} {K : Option α} {w : va_W} {pc : Nat} {st : List Value} (g : lw_G x A E adc adm ca cm l0 D0) {b L : Nat} {xs : Nat → Int32} (hX : lw_X x b L xs) {i j : Nat} (hL : L ≤ 3072) (hin : i + j < L) (p1 p2 p3 p4 p5 : Nat) (h1 : p1 = pc + 1) (h2 : p2 = pc + 2) (h3 : p3 = pc + 3) (h4 : p4 = pc + 4) (h5 : p5 = pc + 5) (d0 : decode cL_law pc = .ok (.aload_n 0, 1)) (d1 : decode cL_law p1 = .ok (.iload_n 3, 1)) (d2 : decode cL_law p2 = .ok (.iconst (j : Int), 1)) (d3 : decode cL_law p3 = .ok (.iadd, 1)) (d4 : decode cL_law p4 = .ok (.iaload, 1)) (hj : Int32.ofInt (j : Int) = nI j) (k : hf_X x A 4 z Q K w p5 (lw_lv b adc adm i) (.int (xs (i + j)) :: st)) : hf_X x A 4 z Q K w pc (lw_lv b adc adm i) st := by
  subst h1; subst h2; subst h3; subst h4; subst h5
  have gc := g.1
  refine hf_aload_n (i := 0) (q := 0) gc d0 rfl rfl ?_
  refine hf_iload_n (i := 3) (q := 3) gc d1 rfl rfl ?_
  refine hf_iconst gc d2 hj ?_
  refine hf_iadd gc d3 ?_
  rw [nI_add]
  refine lw_sld g hX (vp_in_nI hin (by omega)) d4 ?_
  rw [hp_cl (by omega)]
  exact k
/-- the second number: with no iconst ahead the script's own i -/
theorem lw_arg0 {α : Type} {x : hf_Cx} {A : Nat → Prop} {E : State → Prop} {adc adm : Nat → Nat} {ca cm : Nat → ClassId} {l0 : Launch} {D0 : va_G} {z : Nat × Nat} {Q : α → State → Prop} {K : Option α} {w : va_W} {pc : Nat} {st : List Value} (g : lw_G x A E adc adm ca cm l0 D0) {b L : Nat} {xs : Nat → Int32} (hX : lw_X x b L xs) {i : Nat} (hL : L ≤ 3072) (hin : i < L) (p1 p2 p3 : Nat) (h1 : p1 = pc + 1) (h2 : p2 = pc + 2) (h3 : p3 = pc + 3) (d0 : decode cL_law pc = .ok (.aload_n 0, 1)) (d1 : decode cL_law p1 = .ok (.iload_n 3, 1)) (d2 : decode cL_law p2 = .ok (.iaload, 1)) (k : hf_X x A 4 z Q K w p3 (lw_lv b adc adm i) (.int (xs i) :: st)) : hf_X x A 4 z Q K w pc (lw_lv b adc adm i) st := by
  subst h1; subst h2; subst h3
  have gc := g.1
  refine hf_aload_n (i := 0) (q := 0) gc d0 rfl rfl ?_
  refine hf_iload_n (i := 3) (q := 3) gc d1 rfl rfl ?_
  refine lw_sld g hX (vp_in_nI hin (by omega)) d2 ?_
  rw [hp_cl (by omega)]
  exact k
theorem lw_b01 (a : Int32) : (if a = 0 then (0 : Int32) else 1) = 0 ∨ (if a = 0 then (0 : Int32) else 1) = 1 := by
  split
  · exact Or.inl rfl
  · exact Or.inr rfl
