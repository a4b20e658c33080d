/-! Constructors: a world that grows. -/
def hn_N (U : State) : Prop := va_Nw (.methodLinkNest RX11 9 yX0_init "HomeFinder") U ∧ va_Nw (.methodLinkNest RX11 18 yX2_init "HomeFinder") U ∧ va_Nw (.methodLinkNest RX11 25 yX4_init "HomeFinder") U ∧ va_Nw (.methodLinkNest RX11 32 yX1_init "HomeFinder") U ∧ va_Nw (.methodLinkNest RX11 39 yX10_init "HomeFinder") U ∧ va_Nw (.methodLinkNest RX11 46 yX7_init "HomeFinder") U ∧ va_Nw (.methodLinkNest RX3 11 yX9_init "HomeFinder") U ∧ va_Nw (.methodLinkNest RX8 11 yX7_init "HomeFinder") U
theorem hn_N.warm {s U : State} (h : s.WarmedH U.vm) (hn : hn_N s) : hn_N U := ⟨va_Nw.warmM h hn.1, va_Nw.warmM h hn.2.1, va_Nw.warmM h hn.2.2.1, va_Nw.warmM h hn.2.2.2.1, va_Nw.warmM h hn.2.2.2.2.1, va_Nw.warmM h hn.2.2.2.2.2.1, va_Nw.warmM h hn.2.2.2.2.2.2.1, va_Nw.warmM h hn.2.2.2.2.2.2.2⟩
theorem hn_N.same {s U : State} (h : s.vm = U.vm) (hn : hn_N s) : hn_N U := ⟨va_Nw.same rfl h hn.1, va_Nw.same rfl h hn.2.1, va_Nw.same rfl h hn.2.2.1, va_Nw.same rfl h hn.2.2.2.1, va_Nw.same rfl h hn.2.2.2.2.1, va_Nw.same rfl h hn.2.2.2.2.2.1, va_Nw.same rfl h hn.2.2.2.2.2.2.1, va_Nw.same rfl h hn.2.2.2.2.2.2.2⟩
abbrev hi_S : Type := (Nat → Nat) × (Nat → ClassId)
def hi_P (D : va_G) (av : List Value) (sz : Nat) (w0 : va_W) : Array Value → State → Prop := va_Pc av (fun U => U.heap.size = sz ∧ va_P D vwCl w0 U.heap ∧ va_K D vwCl [] U ∧ va_D (fun _ => True) w0 ∧ hn_N U)
def hi_Q (D : va_G) (w0 : va_W) (sz : Nat) (w1 : hi_S → va_W) (t1 : hi_S → List (ClassId × FieldType)) : Array Value → State → Outcome → State → Prop := va_Qv (fun _ : hi_S => True) (fun u t => va_P D vwCl (w1 u) t.heap ∧ va_K D vwCl (t1 u) t ∧ va_D (va_A w0 sz) (w1 u)) (va_A w0 sz)
def hi_rm (d mc ms : Nat) : Room := { frames := d, cells := mc, slots := ms, locals := 40 * d }
def hi_Ct (l : Launch) (D : va_G) (y : MethodName) (cc : ByteArray) (nL : Nat) (av : List Value) (w0 : va_W) (d mc ms : Nat) (w1 : hi_S → va_W) (t1 : hi_S → List (ClassId × FieldType)) : Prop := ∀ sz, Met l y (hf_ws y cc nL none) (hi_rm d mc ms) (hi_P D av sz w0) (hi_Q D w0 sz w1 t1) mc ms (va_A w0 sz)
theorem hi_blind {D : va_G} {av : List Value} {sz : Nat} {w0 : va_W} : FrameBlind (hi_P D av sz w0) := fun a U g mk q => by
  obtain ⟨q0, q1, q2, q3, q4, q5⟩ := q
  exact ⟨q0, q1, q2, va_K.moved (u := U) (U := U.calling g mk a) (Vm.Alike.refl U.vm) q3, q4, hn_N.same (s := U) rfl q5⟩
def hi_X (x : hf_Cx) (A : Nat → Prop) (nL : Nat) (Q : State → Prop) (z : Nat × Nat) (tys : List (ClassId × FieldType)) (w : va_W) (pc : Nat) (lv : List (Nat × Value)) (st : List Value) : Prop := match x with
  | (p, l, e, R, s, m, args, below, meth, c, D) => ∀ (H : Heap) (locs : List Loc) (ls : Array Slot), va_K D vwCl tys s → va_P D vwCl w H → va_D A w → va_S A s.heap H locs → lv_has ls nL lv → W p l e R s m args below meth c H locs z.1 z.2 Q (F0 m pc ls st)
def hi_B (x : hf_Cx) (A : Nat → Prop) (cc : ByteArray) (nL : Nat) (own : String) (d mc ms : Nat) : Prop := hf_C x cc nL own ∧ match x with
  | (_, _, _, R, s, _, _, _, _, _, _) => (∀ q, s.heap.size ≤ q → A q) ∧ hn_N s ∧ d ≤ R.frames ∧ 40 * d ≤ R.locals ∧ mc ≤ R.cells ∧ ms ≤ R.slots
def hi_I (x : hf_Cx) : Prop := match x with
  | (_, _, _, _, _, _, _, _, meth, _, _) => meth.name = "<init>" ∧ meth.sig.returnType = none ∧ meth.locks = false
def hi_l (x : hf_Cx) (l : Launch) (D : va_G) : Prop := match x with
  | (_, l', _, _, _, _, _, _, _, _, D') => l' = l ∧ D' = D
def hi_A (x : hf_Cx) (w0 : va_W) : Nat → Prop := match x with
  | (_, _, _, _, s, _, _, _, _, _, _) => va_A w0 s.heap.size
def hi_QQ (x : hf_Cx) (w0 : va_W) (mc ms : Nat) (w1 : hi_S → va_W) (t1 : hi_S → List (ClassId × FieldType)) : State → Prop := match x with
  | (_, _, _, _, s, _, args, below, _, _, D) => MQ below (hi_Q D w0 s.heap.size w1 t1) args s mc ms (va_A w0 s.heap.size)
theorem hi_met {l : Launch} {D : va_G} {y : MethodName} {cc : ByteArray} {nL : Nat} {av : List Value} {w0 : va_W} {d mc ms : Nat} {w1 : hi_S → va_W} {t1 : hi_S → List (ClassId × FieldType)} (hy : plainName y.cls = true) (hnm : y.name = "<init>") (hav : (lg_sl av).length ≤ nL)
    (h : ∀ x : hf_Cx, hi_l x l D → hi_B x (hi_A x w0) cc nL y.cls d mc ms → hi_I x → hi_X x (hi_A x w0) nL (hi_QQ x w0 mc ms w1 t1) (0, 0) [] w0 0 (lv_args 0 av) []) : hi_Ct l D y cc nL av w0 d mc ms w1 t1 := by
  intro sz
  refine Met.ofW (cc := cc) (maxL := nL) (ret := none) hy rfl ?_
  intro p e s m args below meth c s₁ B hml hpc
  obtain ⟨rfl, hsz, hP, hK, hD0, hN⟩ := hpc
  subst hsz
  have hts := atoms_spec (ws := hf_ws y cc nL none) B.pre
  have hown : s.vm.findClass y.cls = some m.cls := findClass_of_methodNamed B.named
  have hin : meth.name = "<init>" := (name_of_methodNamed B.named B.method).1.trans hnm
  have hl := lv_entry av (n := nL) hav
  rw [lg_entry_eq]
  exact h (p, l, e, hi_rm d mc ms, s, m, av.toArray, below, meth, c, D) ⟨rfl, rfl⟩ ⟨⟨B.exec, B.bytes, hml, hown, fun w hw => hts w (List.mem_cons_of_mem _ hw)⟩, fun q hq => Or.inr hq, hN, Nat.le_refl _, Nat.le_refl _, Nat.le_refl _, Nat.le_refl _⟩ ⟨hin, B.returns, B.notSynchronized⟩ s.heap [] _ hK hP hD0.self va_S.rf hl
section HiRows
variable {x : hf_Cx} {A : Nat → Prop} {nL : Nat} {Q : State → Prop} {z z' : Nat × Nat} {tys tys' : List (ClassId × FieldType)} {w w' : va_W} {pc : Nat} {lv lv' : List (Nat × Value)} {st st0 : List Value} {cc : ByteArray} {own : String} {d mc ms : Nat}
theorem hi_eq (hz : z = z') (ht : tys = tys') (hw : w = w') (k : hi_X x A nL Q z' tys' w' pc lv st) : hi_X x A nL Q z tys w pc lv st := by
  subst hz; subst ht; subst hw; exact k
theorem hi_aload_n (b : hi_B x A cc nL own d mc ms) {k : Fin 4} {i q : Nat} {v : Nat} (hd : decode cc pc = .ok (.aload_n k, 1)) (hi : (k : Nat) = i) (hq : lv[q]? = some (i, .ref v)) (kk : hi_X x A nL Q z tys w (pc + 1) lv (.ref v :: st)) : hi_X x A nL Q z tys w pc lv st := by
  obtain ⟨p, l, e, R, s, m, args, below, meth, c, D⟩ := x
  exact fun H locs ls hK hP hD hS hl => lv_aload_n b.1.1 b.1.2.1 hd hi (lv_at hl q hq) (kk H locs ls hK hP hD hS hl)
theorem hi_aload (b : hi_B x A cc nL own d mc ms) {i q : Nat} {v : Nat} (hd : decode cc pc = .ok (.aload i, 2)) (hq : lv[q]? = some (i, .ref v)) (kk : hi_X x A nL Q z tys w (pc + 2) lv (.ref v :: st)) : hi_X x A nL Q z tys w pc lv st := by
  obtain ⟨p, l, e, R, s, m, args, below, meth, c, D⟩ := x
  exact fun H locs ls hK hP hD hS hl => lv_aload b.1.1 b.1.2.1 hd (lv_at hl q hq) (kk H locs ls hK hP hD hS hl)
theorem hi_astore_n (b : hi_B x A cc nL own d mc ms) {k : Fin 4} {i : Nat} {v : Nat} (hd : decode cc pc = .ok (.astore_n k, 1)) (hi : (k : Nat) = i) (hn : i < nL) (h : (i, Value.ref v) :: lv.filter (fun q => !(q.1 == i) && !(q.1 + 1 == i && q.2.category == 2)) = lv') (kk : hi_X x A nL Q z tys w (pc + 1) lv' st) : hi_X x A nL Q z tys w pc lv (.ref v :: st) := by
  obtain ⟨p, l, e, R, s, m, args, below, meth, c, D⟩ := x
  exact fun H locs ls hK hP hD hS hl => lv_astore_n b.1.1 b.1.2.1 hd hi hl hn h (fun ls hl => kk H locs ls hK hP hD hS hl)
theorem hi_iconst (b : hi_B x A cc nL own d mc ms) {n : Int} {v : Int32} (hd : decode cc pc = .ok (.iconst n, 1)) (hv : Int32.ofInt n = v) (kk : hi_X x A nL Q z tys w (pc + 1) lv (.int v :: st)) : hi_X x A nL Q z tys w pc lv st := by
  obtain ⟨p, l, e, R, s, m, args, below, meth, c, D⟩ := x
  exact fun H locs ls hK hP hD hS hl => lv_iconst b.1.1 b.1.2.1 hd hv (kk H locs ls hK hP hD hS hl)
theorem hi_bipush (b : hi_B x A cc nL own d mc ms) {n : Int} {v : Int32} (hd : decode cc pc = .ok (.bipush n, 2)) (hv : (Int8.ofInt n).toInt32 = v) (kk : hi_X x A nL Q z tys w (pc + 2) lv (.int v :: st)) : hi_X x A nL Q z tys w pc lv st := by
  obtain ⟨p, l, e, R, s, m, args, below, meth, c, D⟩ := x
  exact fun H locs ls hK hP hD hS hl => lv_bipush b.1.1 b.1.2.1 hd hv (kk H locs ls hK hP hD hS hl)
theorem hi_sipush (b : hi_B x A cc nL own d mc ms) {n : Int} {v : Int32} (hd : decode cc pc = .ok (.sipush n, 3)) (hv : (Int16.ofInt n).toInt32 = v) (kk : hi_X x A nL Q z tys w (pc + 3) lv (.int v :: st)) : hi_X x A nL Q z tys w pc lv st := by
  obtain ⟨p, l, e, R, s, m, args, below, meth, c, D⟩ := x
  exact fun H locs ls hK hP hD hS hl => lv_sipush b.1.1 b.1.2.1 hd hv (kk H locs ls hK hP hD hS hl)
theorem hi_dup (b : hi_B x A cc nL own d mc ms) {a : Value} (hd : decode cc pc = .ok (.dup, 1)) (ha : a.category = 1) (kk : hi_X x A nL Q z tys w (pc + 1) lv (a :: a :: st)) : hi_X x A nL Q z tys w pc lv (a :: st) := by
  obtain ⟨p, l, e, R, s, m, args, below, meth, c, D⟩ := x
  exact fun H locs ls hK hP hD hS hl => lv_dup b.1.1 b.1.2.1 hd ha (kk H locs ls hK hP hD hS hl)
theorem hi_obj (b : hi_B x A cc nL own d mc ms) {idx a : Nat} (hlk : Cond.methodLink own idx Lib.objectInit ∈ hf_TB) (hin : Cond.instanceMethod Lib.objectInit ∈ hf_TB) (hco : Cond.code Lib.objectInit ⟨#[0xb1]⟩ 1 none ∈ hf_TB) (hd1 : 1 ≤ d) (hcat : (st.map fun v => v.category).sum ≤ 8) (hd : decode cc pc = .ok (.invokespecial idx, 3)) (kk : hi_X x A nL Q z tys w (pc + 3) lv st) : hi_X x A nL Q z tys w pc lv (.ref a :: st) := by
  obtain ⟨p, l, e, R, s, m, args, below, meth, c, D⟩ := x
  obtain ⟨⟨hx, hb, hml, hown, hts⟩, hA, hN, hR1, hR2, hR3, hR4⟩ := id b
  intro H locs ls hK hP hD hS hl
  refine W.objInit hx hb hown (hts _ hlk) (hts _ hin) (hts _ hco) rfl (by rw [hml]; exact hl.1) rfl hd (by omega) ?_ ?_
  · have := lv_room (m := m) (pc := pc) (ls := ls) (rest := .ref a :: st) hcat
    omega
  · exact W.eq (g2 := F0 m (pc + 3) ls st) rfl (kk H locs ls hK hP hD hS hl)
theorem hi_newa (b : hi_B x A cc nL own d mc ms) {atype : ArrayType} {ty : FieldType} (harr : Cond.arrayClass ty ∈ hf_TB) (hty : newarray.typeOf atype = ty) {n : Int32} {N' : Nat} (ha : ∀ cA : ClassId, vp_cell cA (N', .inl (fun _ => 0)) = arrV cA N' (fun _ => defaultValue ty)) (hn : ¬ n < 0) (hN : n.toNatClampNeg = N') (hbytes : N' * componentBytes ty ≤ 536870912) (hz : z.1 + 1 ≤ mc ∧ z.2 + N' ≤ ms) (hd : decode cc pc = .ok (.newarray atype, 2)) (kk : ∀ (q : Nat) (cA : ClassId), hi_X x A nL Q (z.1 + 1, z.2 + N') (tys ++ [(cA, ty)]) (w ++ [(q, .inl (cA, N', .inl (fun _ => 0)))]) (pc + 2) lv (.ref q :: st)) : hi_X x A nL Q z tys w pc lv (.int n :: st) := by
  obtain ⟨p, l, e, R, s, m, args, below, meth, c, D⟩ := x
  obtain ⟨⟨hx, hb, hml, hown, hts⟩, hA, hNn, hR1, hR2, hR3, hR4⟩ := id b
  intro H locs ls hK hP hD hS hl
  exact va_newa hx hb (by rw [hty]; exact hts _ harr) hty hK hP hD hS hA ha hn hN hbytes (Nat.le_trans hz.1 hR3) (Nat.le_trans hz.2 hR4) hd (fun q cA H1 hK1 hP1 hD1 hS1 => kk q cA H1 locs ls hK1 hP1 hD1 hS1 hl)
theorem hi_new (b : hi_B x A cc nL own d mc ms) {C : String} {T : u_T} {N ci idx : Nat} (hin : ∀ w ∈ u_ws C T N, w ∈ hf_TB) (ty : Nat → FieldType) (hty : ∀ k, k < N → parseFieldDescriptor (T k).2.2.1 = some (ty k)) (hcl : Cond.classLink own idx C ∈ hf_TB) (hinst : Cond.instantiable C N ∈ hf_TB) (hini : Cond.initialized C ∈ hf_TB) (hci : vwCl[ci]? = some (C, T, N)) {fs : List Value} (hfs : ∀ j, j < N → defaultValue (ty j) = vp_V fs j) (hz : z.1 + 1 ≤ mc ∧ z.2 + N ≤ ms) (hd : decode cc pc = .ok (.new idx, 3)) (kk : ∀ q : Nat, hi_X x A nL Q (z.1 + 1, z.2 + N) tys (w ++ [(q, .inr (ci, fs))]) (pc + 3) lv (.ref q :: st)) : hi_X x A nL Q z tys w pc lv st := by
  obtain ⟨p, l, e, R, s, m, args, below, meth, c, D⟩ := x
  obtain ⟨⟨hx, hb, hml, hown, hts⟩, hA, hNn, hR1, hR2, hR3, hR4⟩ := id b
  intro H locs ls hK hP hD hS hl
  exact va_new (ci := ci) (fs := fs) hx hb hts hin ty hty hown (hts _ hcl) (hts _ hinst) (hts _ hini) hK hP hD hS hA hci hfs (Nat.le_trans hz.1 hR3) (Nat.le_trans hz.2 hR4) hd (fun q H1 hP1 hD1 hS1 => kk q H1 locs ls hK hP1 hD1 hS1 hl)
theorem hi_putF (b : hi_B x A cc nL own d mc ms) (i : hi_I x) {C : String} {T : u_T} {N ci idx a : Nat} {fs : List Value} (q0 k : Nat) (hin : ∀ w ∈ u_ws C T N, w ∈ hf_TB) (ty0 : Nat → FieldType) (hty : ∀ k, k < N → parseFieldDescriptor (T k).2.2.1 = some (ty0 k)) (hnm : ∀ a, a < N → ∀ b, b < N → a ≠ b → (T a).2.1 ≠ (T b).2.1) (hci : vwCl[ci]? = some (C, T, N)) (he : w[q0]? = some (a, .inr (ci, fs))) (hk : k < N) (hlk : Cond.fieldLink own idx (T k).1 (T k).2.1 (T k).2.2.1 ∈ hf_TB) (hfin : (T k).2.2.2 = true) (hdecl : (T k).1 = own) {ty : FieldType} {v : Value} (hde : parseFieldDescriptor (T k).2.2.1 = some ty) (hn : narrow ty v = v) (hfit : fits ty v = true) (hl0 : k < fs.length) (hd : decode cc pc = .ok (.putfield idx, 3)) (hw : w.set q0 (a, .inr (ci, fs.set k v)) = w') (kk : hi_X x A nL Q z tys w' (pc + 3) lv st) : hi_X x A nL Q z tys w pc lv (v :: .ref a :: st) := by
  obtain ⟨p, l, e, R, s, m, args, below, meth, c, D⟩ := x
  obtain ⟨⟨hx, hb, hml, hown, hts⟩, hA, hNn, hR1, hR2, hR3, hR4⟩ := id b
  intro H locs ls hK hP hD hS hl
  subst hw
  exact va_putF (D := D) (ci := ci) (v := v) (ty := ty) hx hb hts hin ty0 hty hnm hown hK hP hD hS q0 he hci k hk (hts _ hlk) (fun _ h9 => h9) hfin i.1 hdecl hde hn hfit hl0 hd (fun H1 locs1 hP1 hD1 hS1 => kk H1 locs1 ls hK hP1 hD1 hS1 hl)
theorem hi_put (b : hi_B x A cc nL own d mc ms) {C : String} {T : u_T} {N ci idx a : Nat} {fs : List Value} (q0 k : Nat) (hin : ∀ w ∈ u_ws C T N, w ∈ hf_TB) (ty0 : Nat → FieldType) (hty : ∀ k, k < N → parseFieldDescriptor (T k).2.2.1 = some (ty0 k)) (hnm : ∀ a, a < N → ∀ b, b < N → a ≠ b → (T a).2.1 ≠ (T b).2.1) (hci : vwCl[ci]? = some (C, T, N)) (he : w[q0]? = some (a, .inr (ci, fs))) (hk : k < N) (hlk : Cond.fieldLink own idx (T k).1 (T k).2.1 (T k).2.2.1 ∈ hf_TB) (hfin : (T k).2.2.2 = false) {ty : FieldType} {v : Value} (hde : parseFieldDescriptor (T k).2.2.1 = some ty) (hn : narrow ty v = v) (hfit : fits ty v = true) (hl0 : k < fs.length) (hd : decode cc pc = .ok (.putfield idx, 3)) (hw : w.set q0 (a, .inr (ci, fs.set k v)) = w') (kk : hi_X x A nL Q z tys w' (pc + 3) lv st) : hi_X x A nL Q z tys w pc lv (v :: .ref a :: st) := by
  obtain ⟨p, l, e, R, s, m, args, below, meth, c, D⟩ := x
  obtain ⟨⟨hx, hb, hml, hown, hts⟩, hA, hNn, hR1, hR2, hR3, hR4⟩ := id b
  intro H locs ls hK hP hD hS hl
  subst hw
  exact va_put (D := D) (ci := ci) (v := v) (ty := ty) hx hb hts hin ty0 hty hnm hown hK hP hD hS q0 he hci k hk (hts _ hlk) (fun _ h9 => h9) hfin hde hn hfit hl0 hd (fun H1 locs1 hP1 hD1 hS1 => kk H1 locs1 ls hK hP1 hD1 hS1 hl)
theorem hi_get (b : hi_B x A cc nL own d mc ms) {C : String} {T : u_T} {N ci idx a : Nat} {fs : List Value} (q0 k : Nat) (hin : ∀ w ∈ u_ws C T N, w ∈ hf_TB) (hci : vwCl[ci]? = some (C, T, N)) (he : w[q0]? = some (a, .inr (ci, fs))) (hk : k < N) (hlk : Cond.fieldLink own idx (T k).1 (T k).2.1 (T k).2.2.1 ∈ hf_TB) {v : Value} (hv : fs[k]? = some v) (hd : decode cc pc = .ok (.getfield idx, 3)) (kk : hi_X x A nL Q z tys w (pc + 3) lv (v :: st)) : hi_X x A nL Q z tys w pc lv (.ref a :: st) := by
  obtain ⟨p, l, e, R, s, m, args, below, meth, c, D⟩ := x
  obtain ⟨⟨hx, hb, hml, hown, hts⟩, hA, hNn, hR1, hR2, hR3, hR4⟩ := id b
  intro H locs ls hK hP hD hS hl
  exact va_get (D := D) (ci := ci) (v := v) hx hb hts hin hown hK hP q0 he hci k hk (hts _ hlk) (fun _ h9 => h9) hv hd (kk H locs ls hK hP hD hS hl)
theorem hi_back {p : Program} {l : Launch} {e : Env} {R : Room} {s : State} {m : MethodId} {args : Array Value} {below : List Frame} {meth : Method} {c : Code} {D : va_G} {wc wr : va_W} {mc' ms' : Nat} {w1 : hi_S → va_W} {t1 : hi_S → List (ClassId × FieldType)} {av : List Value} (hA : ∀ q, s.heap.size ≤ q → A q) (isC isR : List Nat) (hC : isC.map (fun i => w[i]?) = wc.map some) (hR : isR.map (fun i => w[i]?) = wr.map some) (hnd : va_nd isR = true) (hdis : ∀ i ∈ isR, i ∉ isC)
    (run : ∀ (H : Heap) (locs : List Loc) (ls : Array Slot), va_K D vwCl tys s → va_P D vwCl w H → va_D A w → va_S A s.heap H locs → lv_has ls nL lv → va_Run p l e R s m args below meth c H locs z.1 z.2 mc' ms' (F0 m pc ls st0) st (hi_Q D wc H.size w1 t1 av.toArray) (va_A wc H.size))
    (k : ∀ u : hi_S, hi_X (p, l, e, R, s, m, args, below, meth, c, D) A nL Q (z.1 + mc', z.2 + ms') (tys ++ t1 u) (wr ++ w1 u) (pc + 3) lv st) : hi_X (p, l, e, R, s, m, args, below, meth, c, D) A nL Q z tys w pc lv st0 := by
  intro H locs ls hK hP hD hS hl
  have hFc := va_free (wc := wc) hD hS hA isC hC
  refine va_callv (run H locs ls hK hP hD hS hl) hS (fun q _ h => hFc q h) hFc (fun u t H1 locs1 ht hvm hw hB hz1 hk1 hS1 => ?_)
  obtain ⟨hP1, hK1, hD1⟩ := hB
  rw [ht] at hP1
  obtain ⟨hP', hD'⟩ := va_join (wr := wr) (w1 := w1 u) hP hD isC isR hC hR hnd hdis hk1 hFc hP1 hD1
  exact k u H1 locs1 ls (hK.app (va_K.moved hvm.symm hK1)) hP' hD' hS1 hl
theorem hi_wc {D : va_G} {H : Heap} {wc : va_W} (hP : va_P D vwCl w H) (isC : List Nat) (hC : isC.map (fun i => w[i]?) = wc.map some) : va_P D vwCl wc H := by
  intro k q hk
  have h1 : (isC.map (fun i => w[i]?))[k]? = some (some q) := by rw [hC, List.getElem?_map, hk]; rfl
  rw [List.getElem?_map] at h1
  cases hi : isC[k]? with
  | none => rw [hi] at h1; cases h1
  | some i => rw [hi] at h1; exact hP i q (Option.some.inj h1)
theorem hi_callN (b : hi_B x A cc nL own d mc ms) {l0 : Launch} {D0 : va_G} (hx0 : hi_l x l0 D0) {y : MethodName} {cc' : ByteArray} {nL' a d' mc' ms' idx n : Nat} {As : List Value} {wc wr : va_W} {w1 : hi_S → va_W} {t1 : hi_S → List (ClassId × FieldType)} {host : String} (hc : hi_Ct l0 D0 y cc' nL' (.ref a :: As) wc d' mc' ms' w1 t1) (hnl : ∀ U, hn_N U → va_Nw (.methodLinkNest own idx y host) U) (kc : Cond.code y cc' nL' none ∈ lw_tbl) (ki : Cond.initialized y.cls ∈ hf_TB) (km : Cond.instanceMethod y ∈ hf_TB) (kn : y.name = "<init>") (kd : y.cls ≠ "java/lang/invoke/MethodHandle" ∧ y.cls ≠ "java/lang/invoke/VarHandle" ∧ (parseMethodDescriptor y.desc).map (fun d => d.parameters.length) = some n) (hdd : d' + 1 ≤ d) (hn' : nL' ≤ 21) (hn : As.length = n) (hst0 : st0 = As.reverse ++ .ref a :: st) (hcat : (st.map fun v => v.category).sum ≤ 8) (hd : decode cc pc = .ok (.invokespecial idx, 3)) (hz : z.1 + mc' ≤ mc ∧ z.2 + ms' ≤ ms) (isC isR : List Nat) (hC : isC.map (fun i => w[i]?) = wc.map some) (hR : isR.map (fun i => w[i]?) = wr.map some) (hndC : va_nd isC = true) (hnd : va_nd isR = true) (hdis : ∀ i ∈ isR, i ∉ isC)
    (k : ∀ u : hi_S, hi_X x A nL Q (z.1 + mc', z.2 + ms') (tys ++ t1 u) (wr ++ w1 u) (pc + 3) lv st) : hi_X x A nL Q z tys w pc lv st0 := by
  obtain ⟨p, l, e, R, s, m, args, below, meth, c, D⟩ := x
  obtain ⟨rfl, rfl⟩ := hx0
  obtain ⟨⟨hx, hb, hml, hown, hts⟩, hA, hN, hR1, hR2, hR3, hR4⟩ := id b
  refine hi_back (av := .ref a :: As) hA isC isR hC hR hnd hdis (fun H locs ls hK hP hD hS hl => ?_) k
  refine va_runIN (Ts := hf_TB) (own := own) (host := host) (index := idx) ⟨hx, hb, hml, hown, hts⟩ (hc H.size) ⟨va_cnB n hts (hf_gw kc) rfl rfl rfl (hnl s hN) (hts _ ki) kd ⟨?_, ?_⟩, kn, hts _ km⟩ ⟨hi_blind, fun U hU hW => ⟨rfl, by rw [hU], by rw [hU]; exact hi_wc hP isC hC, va_K.moved hW.alike (hK.sub [] rfl), (hD.sub isC hndC hC).weaken (fun _ _ _ _ => trivial), hn_N.warm hW hN⟩⟩ rfl hn hl.1 hst0 (lv_room hcat) hd ⟨Nat.le_trans hz.1 hR3, Nat.le_trans hz.2 hR4⟩
  · exact Nat.le_trans hdd hR1
  · show 8 + (nL' + 11) + 40 * d' ≤ R.locals
    omega
theorem hi_callI (b : hi_B x A cc nL own d mc ms) {l0 : Launch} {D0 : va_G} (hx0 : hi_l x l0 D0) {y : MethodName} {cc' : ByteArray} {nL' a d' mc' ms' idx n : Nat} {As : List Value} {wc wr : va_W} {w1 : hi_S → va_W} {t1 : hi_S → List (ClassId × FieldType)} (hc : hi_Ct l0 D0 y cc' nL' (.ref a :: As) wc d' mc' ms' w1 t1) (hlk : Cond.methodLink own idx y ∈ hf_TB) (kc : Cond.code y cc' nL' none ∈ lw_tbl) (ki : Cond.initialized y.cls ∈ hf_TB) (km : Cond.instanceMethod y ∈ hf_TB) (kn : y.name = "<init>") (kd : y.cls ≠ "java/lang/invoke/MethodHandle" ∧ y.cls ≠ "java/lang/invoke/VarHandle" ∧ (parseMethodDescriptor y.desc).map (fun d => d.parameters.length) = some n) (hdd : d' + 1 ≤ d) (hn' : nL' ≤ 21) (hn : As.length = n) (hst0 : st0 = As.reverse ++ .ref a :: st) (hcat : (st.map fun v => v.category).sum ≤ 8) (hd : decode cc pc = .ok (.invokespecial idx, 3)) (hz : z.1 + mc' ≤ mc ∧ z.2 + ms' ≤ ms) (isC isR : List Nat) (hC : isC.map (fun i => w[i]?) = wc.map some) (hR : isR.map (fun i => w[i]?) = wr.map some) (hndC : va_nd isC = true) (hnd : va_nd isR = true) (hdis : ∀ i ∈ isR, i ∉ isC)
    (k : ∀ u : hi_S, hi_X x A nL Q (z.1 + mc', z.2 + ms') (tys ++ t1 u) (wr ++ w1 u) (pc + 3) lv st) : hi_X x A nL Q z tys w pc lv st0 := by
  obtain ⟨p, l, e, R, s, m, args, below, meth, c, D⟩ := x
  obtain ⟨rfl, rfl⟩ := hx0
  obtain ⟨⟨hx, hb, hml, hown, hts⟩, hA, hN, hR1, hR2, hR3, hR4⟩ := id b
  refine hi_back (av := .ref a :: As) hA isC isR hC hR hnd hdis (fun H locs ls hK hP hD hS hl => ?_) k
  refine va_runI (Ts := hf_TB) (own := own) (index := idx) ⟨hx, hb, hml, hown, hts⟩ (hc H.size) (cwI n hts (hf_gw kc) rfl rfl rfl (hts _ ki) (hts _ hlk) (hts _ km) kn kd ⟨?_, ?_⟩) ⟨hi_blind, fun U hU hW => ⟨rfl, by rw [hU], by rw [hU]; exact hi_wc hP isC hC, va_K.moved hW.alike (hK.sub [] rfl), (hD.sub isC hndC hC).weaken (fun _ _ _ _ => trivial), hn_N.warm hW hN⟩⟩ rfl hn hl.1 hst0 (lv_room hcat) hd ⟨Nat.le_trans hz.1 hR3, Nat.le_trans hz.2 hR4⟩
  · exact Nat.le_trans hdd hR1
  · show 8 + (nL' + 11) + 40 * d' ≤ R.locals
    omega
theorem hi_ret {w0 : va_W} {w1 : hi_S → va_W} {t1 : hi_S → List (ClassId × FieldType)} (b : hi_B x (hi_A x w0) cc nL own d mc ms) (i : hi_I x) (u : hi_S) (hz : z = (mc, ms)) (hw : w1 u = w) (ht : t1 u = tys) (hd : decode cc pc = .ok (.return_, 1)) : hi_X x (hi_A x w0) nL (hi_QQ x w0 mc ms w1 t1) z tys w pc lv [] := by
  obtain ⟨p, l, e, R, s, m, args, below, meth, c, D⟩ := x
  obtain ⟨⟨hx, hb, hml, hown, hts⟩, hA, hN, hR1, hR2, hR3, hR4⟩ := id b
  obtain ⟨hin, hr, hlk⟩ := i
  subst hz; subst hw; subst ht
  intro H locs ls hK hP hD hS hl
  exact W.vret hx hb hr (fun t ht hW => ⟨⟨u, rfl, trivial, by rw [ht]; exact hP, va_K.moved hW.alike hK, hD⟩, hS.F ht⟩) hS.2.2 hd hlk
end HiRows
