/-! The walk: X says that the machine, at this place with this world, comes to the end that K tells. -/
abbrev hf_Cx : Type := Program × Launch × Env × Room × State × MethodId × Array Value × List Frame × Method × Code × va_G
def hf_X {α : Type} (x : hf_Cx) (A : Nat → Prop) (nL : Nat) (z : Nat × Nat) (Q : α → State → Prop) (K : Option α) (w : va_W) (pc : Nat) (lv : List (Nat × Value)) (st : List Value) : Prop := match x with
  | (p, l, e, R, s, m, args, below, meth, c, D) => ∀ v, K = some v → ∀ (H : Heap) (locs : List Loc) (ls : Array Slot), va_P D vwCl w H → va_S A s.heap H locs → lv_has ls nL lv → W p l e R s m args below meth c H locs z.1 z.2 (Q v) (F0 m pc ls st)
def hf_C (x : hf_Cx) (cc : ByteArray) (nL : Nat) (own : String) : Prop := match x with
  | (p, _, _, _, s, m, args, _, _, c, _) => p.tables.exec = Jvm.exec ∧ c.code = cc ∧ c.maxLocals = nL ∧ s.vm.findClass own = some m.cls ∧ ∀ w ∈ hf_TB, w.before args s = true
def hf_stab (T : hf_Tb) (ad : Nat → Nat) (E : State → Prop) : Prop := ∀ s U : State, E s → (s.WarmedH U.vm ∨ s.vm = U.vm) → s.heap.size ≤ U.heap.size → (∀ q, q < s.heap.size → ¬ hf_A T ad s.heap.size q → U.heap[q]? = s.heap[q]?) → E U
def hf_G (x : hf_Cx) (T : hf_Tb) (ad : Nat → Nat) (cA : Nat → ClassId) (E : State → Prop) (A : Nat → Prop) (l0 : Launch) (D0 : va_G) (cc : ByteArray) (nL : Nat) (own : String) (rt : Option FieldType) (d : Nat) : Prop := hf_C x cc nL own ∧ match x with
  | (_, l, _, R, s, _, _, _, meth, _, D) => va_K D vwCl (hf_ty T cA) s ∧ hf_inj T ad ∧ A = hf_A T ad s.heap.size ∧ hf_stab T ad E ∧ E s ∧ meth.locks = false ∧ meth.sig.returnType = rt ∧ d ≤ R.frames ∧ 40 * d ≤ R.locals ∧ l = l0 ∧ D = D0
def hf_rm (d : Nat) : Room := { frames := d, cells := 0, slots := 0, locals := 40 * d }
def hf_Pw (T : hf_Tb) (D : va_G) (ad : Nat → Nat) (cA : Nat → ClassId) (E : State → Prop) (σ : hf_St) (sz : Nat) : State → Prop := fun U => U.heap.size = sz ∧ va_P D vwCl (hf_wd T ad cA σ) U.heap ∧ va_K D vwCl (hf_ty T cA) U ∧ hf_inj T ad ∧ hf_stab T ad E ∧ E U
def hf_Qc (T : hf_Tb) (D : va_G) (ad : Nat → Nat) (cA : Nat → ClassId) (sz : Nat) (r : Option Value × hf_St) : Array Value → State → Outcome → State → Prop := fun _ st oc t => oc = .returned r.1 ∧ va_P D vwCl (hf_wd T ad cA r.2) t.heap ∧ va_F (hf_A T ad sz) st t
def hf_Ct {α : Type} (l : Launch) (D : va_G) (T : hf_Tb) (ad : Nat → Nat) (cA : Nat → ClassId) (E : State → Prop) (d : Nat) (y : MethodName) (cc : ByteArray) (nL : Nat) (rt : Option FieldType) (av : List Value) (σ : hf_St) (G : Option α) (res : α → Option Value × hf_St) : Prop :=
  ∀ v, G = some v → ∀ sz, Met l y (hf_ws y cc nL rt) (hf_rm d) (va_Pc av (hf_Pw T D ad cA E σ sz)) (hf_Qc T D ad cA sz (res v)) 0 0 (hf_A T ad sz)
def hf_Q {α : Type} (x : hf_Cx) (T : hf_Tb) (ad : Nat → Nat) (cA : Nat → ClassId) (A : Nat → Prop) (res : α → Option Value × hf_St) : α → State → Prop := match x with
  | (_, _, _, _, s, _, args, below, _, _, D) => fun v => MQ below (hf_Qc T D ad cA s.heap.size (res v)) args s 0 0 A
/-- a contract out of a walk from the entry -/
theorem hf_met {α : Type} {l : Launch} {D : va_G} {T : hf_Tb} {ad : Nat → Nat} {cA : Nat → ClassId} {E : State → Prop} {d : Nat} {y : MethodName} {cc : ByteArray} {nL : Nat} {rt : Option FieldType} {av : List Value} {σ : hf_St} {G : Option α} {res : α → Option Value × hf_St}
    (hy : plainName y.cls = true) (hav : (lg_sl av).length ≤ nL)
    (h : ∀ (x : hf_Cx) (A : Nat → Prop), hf_G x T ad cA E A l D cc nL y.cls rt d → hf_X x A nL (0, 0) (hf_Q x T ad cA A res) G (hf_wd T ad cA σ) 0 (lv_args 0 av) []) :
    hf_Ct l D T ad cA E d y cc nL rt av σ G res := by
  intro v hv sz
  refine Met.ofW (cc := cc) (maxL := nL) (ret := rt) hy rfl ?_
  intro p e s m args below meth c s₁ B hml hpc
  obtain ⟨rfl, hsz, hP, hK, hinj, hst, hE⟩ := hpc
  subst hsz
  have hts := atoms_spec (ws := hf_ws y cc nL rt) B.pre
  have hown : s.vm.findClass y.cls = some m.cls := findClass_of_methodNamed B.named
  have hl := lv_entry av (n := nL) hav
  rw [lg_entry_eq]
  exact h (p, l, e, hf_rm d, s, m, av.toArray, below, meth, c, D) (hf_A T ad s.heap.size) ⟨⟨B.exec, B.bytes, hml, hown, fun w hw => hts w (List.mem_cons_of_mem _ hw)⟩, hK, hinj, rfl, hst, hE, B.notSynchronized, B.returns, Nat.le_refl _, Nat.le_refl _, rfl, rfl⟩ v hv s.heap [] _ hP va_S.rf hl
/-! How a value is named, a guard, a call's answer. -/
def hf_lt {β : Sort _} {γ : Sort _} (v : β) (K : β → γ) : γ := K v
def hf_gd {α : Type} (c : Prop) [Decidable c] (K : Option α) : Option α := if c then K else none
abbrev hf_ix (i : Int32) (n : Nat) : Prop := 0 ≤ i.toInt ∧ i.toInt < (n : Int)
abbrev hf_z (v : Int32) : Prop := v = 0 ∨ v = 1
section HfRows
variable {α : Type} {x : hf_Cx} {A : Nat → Prop} {nL : Nat} {z : Nat × Nat} {Q : α → State → Prop} {K : Option α} {w : va_W} {pc : Nat} {lv lv' : List (Nat × Value)} {st : List Value} {cc : ByteArray} {own : String}
theorem hf_none {Q : α → State → Prop} : hf_X x A nL z Q none w pc lv st := by
  obtain ⟨p, l, e, R, s, m, args, below, meth, c, D⟩ := x
  intro v hv
  cases hv
theorem hf_let {v : Int32} {K : Int32 → Option α} (k : ∀ y : Int32, hf_X x A nL z Q (K y) w pc lv (.int y :: st)) : hf_X x A nL z Q (hf_lt v K) w pc lv (.int v :: st) := k v
theorem hf_sub (ks : List Nat) (h : lv_pick lv ks = lv') (k : hf_X x A nL z Q K w pc lv' st) : hf_X x A nL z Q K w pc lv st := by
  obtain ⟨p, l, e, R, s, m, args, below, meth, c, D⟩ := x
  exact fun v hv H locs ls hP hS hl => k v hv H locs ls hP hS (lv_sub hl ks h)
theorem hf_iconst (g : hf_C x cc nL own) {n : Int} {v : Int32} (hd : decode cc pc = .ok (.iconst n, 1)) (hv : Int32.ofInt n = v) (k : hf_X x A nL z Q K w (pc + 1) lv (.int v :: st)) : hf_X x A nL z Q K w pc lv st := by
  obtain ⟨p, l, e, R, s, m, args, below, meth, c, D⟩ := x
  exact fun u hu H locs ls hP hS hl => lv_iconst g.1 g.2.1 hd hv (k u hu H locs ls hP hS hl)
theorem hf_bipush (g : hf_C x cc nL own) {n : Int} {v : Int32} (hd : decode cc pc = .ok (.bipush n, 2)) (hv : (Int8.ofInt n).toInt32 = v) (k : hf_X x A nL z Q K w (pc + 2) lv (.int v :: st)) : hf_X x A nL z Q K w pc lv st := by
  obtain ⟨p, l, e, R, s, m, args, below, meth, c, D⟩ := x
  exact fun u hu H locs ls hP hS hl => lv_bipush g.1 g.2.1 hd hv (k u hu H locs ls hP hS hl)
theorem hf_sipush (g : hf_C x cc nL own) {n : Int} {v : Int32} (hd : decode cc pc = .ok (.sipush n, 3)) (hv : (Int16.ofInt n).toInt32 = v) (k : hf_X x A nL z Q K w (pc + 3) lv (.int v :: st)) : hf_X x A nL z Q K w pc lv st := by
  obtain ⟨p, l, e, R, s, m, args, below, meth, c, D⟩ := x
  exact fun u hu H locs ls hP hS hl => lv_sipush g.1 g.2.1 hd hv (k u hu H locs ls hP hS hl)
theorem hf_ldc (g : hf_C x cc nL own) {index : Nat} {v : Int32} (hc : Cond.constant own index v ∈ hf_TB) (hd : decode cc pc = .ok (.ldc index, 2)) (k : hf_X x A nL z Q K w (pc + 2) lv (.int v :: st)) : hf_X x A nL z Q K w pc lv st := by
  obtain ⟨p, l, e, R, s, m, args, below, meth, c, D⟩ := x
  exact fun u hu H locs ls hP hS hl => lv_ldc g.1 g.2.1 g.2.2.2.1 (g.2.2.2.2 _ hc) hd (k u hu H locs ls hP hS hl)
theorem hf_ldcw (g : hf_C x cc nL own) {index : Nat} {v : Int32} (hc : Cond.constant own index v ∈ hf_TB) (hd : decode cc pc = .ok (.ldc_w index, 3)) (k : hf_X x A nL z Q K w (pc + 3) lv (.int v :: st)) : hf_X x A nL z Q K w pc lv st := by
  obtain ⟨p, l, e, R, s, m, args, below, meth, c, D⟩ := x
  exact fun u hu H locs ls hP hS hl => lv_ldcw g.1 g.2.1 g.2.2.2.1 (g.2.2.2.2 _ hc) hd (k u hu H locs ls hP hS hl)
theorem hf_iload_n (g : hf_C x cc nL own) {k : Fin 4} {i q : Nat} {v : Int32} (hd : decode cc pc = .ok (.iload_n k, 1)) (hi : (k : Nat) = i) (hq : lv[q]? = some (i, .int v)) (kk : hf_X x A nL z Q K w (pc + 1) lv (.int v :: st)) : hf_X x A nL z Q K w pc lv st := by
  obtain ⟨p, l, e, R, s, m, args, below, meth, c, D⟩ := x
  exact fun u hu H locs ls hP hS hl => lv_iload_n g.1 g.2.1 hd hi (lv_at hl q hq) (kk u hu H locs ls hP hS hl)
theorem hf_iload (g : hf_C x cc nL own) {i q : Nat} {v : Int32} (hd : decode cc pc = .ok (.iload i, 2)) (hq : lv[q]? = some (i, .int v)) (kk : hf_X x A nL z Q K w (pc + 2) lv (.int v :: st)) : hf_X x A nL z Q K w pc lv st := by
  obtain ⟨p, l, e, R, s, m, args, below, meth, c, D⟩ := x
  exact fun u hu H locs ls hP hS hl => lv_iload g.1 g.2.1 hd (lv_at hl q hq) (kk u hu H locs ls hP hS hl)
theorem hf_aload_n (g : hf_C x cc nL own) {k : Fin 4} {i q : Nat} {v : Nat} (hd : decode cc pc = .ok (.aload_n k, 1)) (hi : (k : Nat) = i) (hq : lv[q]? = some (i, .ref v)) (kk : hf_X x A nL z Q K w (pc + 1) lv (.ref v :: st)) : hf_X x A nL z Q K w pc lv st := by
  obtain ⟨p, l, e, R, s, m, args, below, meth, c, D⟩ := x
  exact fun u hu H locs ls hP hS hl => lv_aload_n g.1 g.2.1 hd hi (lv_at hl q hq) (kk u hu H locs ls hP hS hl)
theorem hf_aload (g : hf_C x cc nL own) {i q : Nat} {v : Nat} (hd : decode cc pc = .ok (.aload i, 2)) (hq : lv[q]? = some (i, .ref v)) (kk : hf_X x A nL z Q K w (pc + 2) lv (.ref v :: st)) : hf_X x A nL z Q K w pc lv st := by
  obtain ⟨p, l, e, R, s, m, args, below, meth, c, D⟩ := x
  exact fun u hu H locs ls hP hS hl => lv_aload g.1 g.2.1 hd (lv_at hl q hq) (kk u hu H locs ls hP hS hl)
theorem hf_istore_n (g : hf_C x cc nL own) {k : Fin 4} {i : Nat} {v : Int32} (hd : decode cc pc = .ok (.istore_n k, 1)) (hi : (k : Nat) = i) (hn : i < nL) (h : (i, Value.int v) :: lv.filter (fun q => !(q.1 == i) && !(q.1 + 1 == i && q.2.category == 2)) = lv') (kk : hf_X x A nL z Q K w (pc + 1) lv' st) : hf_X x A nL z Q K w pc lv (.int v :: st) := by
  obtain ⟨p, l, e, R, s, m, args, below, meth, c, D⟩ := x
  exact fun u hu H locs ls hP hS hl => lv_istore_n g.1 g.2.1 hd hi hl hn h (fun ls hl => kk u hu H locs ls hP hS hl)
theorem hf_istore (g : hf_C x cc nL own) {i : Nat} {v : Int32} (hd : decode cc pc = .ok (.istore i, 2)) (hn : i < nL) (h : (i, Value.int v) :: lv.filter (fun q => !(q.1 == i) && !(q.1 + 1 == i && q.2.category == 2)) = lv') (kk : hf_X x A nL z Q K w (pc + 2) lv' st) : hf_X x A nL z Q K w pc lv (.int v :: st) := by
  obtain ⟨p, l, e, R, s, m, args, below, meth, c, D⟩ := x
  exact fun u hu H locs ls hP hS hl => lv_istore g.1 g.2.1 hd hl hn h (fun ls hl => kk u hu H locs ls hP hS hl)
theorem hf_astore_n (g : hf_C x cc nL own) {k : Fin 4} {i : Nat} {v : Nat} (hd : decode cc pc = .ok (.astore_n k, 1)) (hi : (k : Nat) = i) (hn : i < nL) (h : (i, Value.ref v) :: lv.filter (fun q => !(q.1 == i) && !(q.1 + 1 == i && q.2.category == 2)) = lv') (kk : hf_X x A nL z Q K w (pc + 1) lv' st) : hf_X x A nL z Q K w pc lv (.ref v :: st) := by
  obtain ⟨p, l, e, R, s, m, args, below, meth, c, D⟩ := x
  exact fun u hu H locs ls hP hS hl => lv_astore_n g.1 g.2.1 hd hi hl hn h (fun ls hl => kk u hu H locs ls hP hS hl)
theorem hf_iinc (g : hf_C x cc nL own) {i q : Nat} {n : Int} {v v' : Int32} (hd : decode cc pc = .ok (.iinc i n, 3)) (hq : lv[q]? = some (i, .int v)) (hv : v + Int32.ofInt n = v') (hn : i < nL) (h : (i, Value.int v') :: lv.filter (fun q => !(q.1 == i) && !(q.1 + 1 == i && q.2.category == 2)) = lv') (kk : hf_X x A nL z Q K w (pc + 3) lv' st) : hf_X x A nL z Q K w pc lv st := by
  obtain ⟨p, l, e, R, s, m, args, below, meth, c, D⟩ := x
  exact fun u hu H locs ls hP hS hl => lv_iinc g.1 g.2.1 hd hl hq hv hn h (fun ls hl => kk u hu H locs ls hP hS hl)
theorem hf_iadd (g : hf_C x cc nL own) {a b : Int32} (hd : decode cc pc = .ok (.iadd, 1)) (kk : hf_X x A nL z Q K w (pc + 1) lv (.int (a + b) :: st)) : hf_X x A nL z Q K w pc lv (.int b :: .int a :: st) := by
  obtain ⟨p, l, e, R, s, m, args, below, meth, c, D⟩ := x
  exact fun u hu H locs ls hP hS hl => lv_iadd g.1 g.2.1 hd (kk u hu H locs ls hP hS hl)
theorem hf_isub (g : hf_C x cc nL own) {a b : Int32} (hd : decode cc pc = .ok (.isub, 1)) (kk : hf_X x A nL z Q K w (pc + 1) lv (.int (a - b) :: st)) : hf_X x A nL z Q K w pc lv (.int b :: .int a :: st) := by
  obtain ⟨p, l, e, R, s, m, args, below, meth, c, D⟩ := x
  exact fun u hu H locs ls hP hS hl => lv_isub g.1 g.2.1 hd (kk u hu H locs ls hP hS hl)
theorem hf_imul (g : hf_C x cc nL own) {a b : Int32} (hd : decode cc pc = .ok (.imul, 1)) (kk : hf_X x A nL z Q K w (pc + 1) lv (.int (a * b) :: st)) : hf_X x A nL z Q K w pc lv (.int b :: .int a :: st) := by
  obtain ⟨p, l, e, R, s, m, args, below, meth, c, D⟩ := x
  exact fun u hu H locs ls hP hS hl => lv_imul g.1 g.2.1 hd (kk u hu H locs ls hP hS hl)
theorem hf_iand (g : hf_C x cc nL own) {a b : Int32} (hd : decode cc pc = .ok (.iand, 1)) (kk : hf_X x A nL z Q K w (pc + 1) lv (.int (a &&& b) :: st)) : hf_X x A nL z Q K w pc lv (.int b :: .int a :: st) := by
  obtain ⟨p, l, e, R, s, m, args, below, meth, c, D⟩ := x
  exact fun u hu H locs ls hP hS hl => lv_iand g.1 g.2.1 hd (kk u hu H locs ls hP hS hl)
theorem hf_ior (g : hf_C x cc nL own) {a b : Int32} (hd : decode cc pc = .ok (.ior, 1)) (kk : hf_X x A nL z Q K w (pc + 1) lv (.int (a ||| b) :: st)) : hf_X x A nL z Q K w pc lv (.int b :: .int a :: st) := by
  obtain ⟨p, l, e, R, s, m, args, below, meth, c, D⟩ := x
  exact fun u hu H locs ls hP hS hl => lv_ior g.1 g.2.1 hd (kk u hu H locs ls hP hS hl)
theorem hf_ishl (g : hf_C x cc nL own) {a b : Int32} (hd : decode cc pc = .ok (.ishl, 1)) (kk : hf_X x A nL z Q K w (pc + 1) lv (.int (a <<< (b &&& 31)) :: st)) : hf_X x A nL z Q K w pc lv (.int b :: .int a :: st) := by
  obtain ⟨p, l, e, R, s, m, args, below, meth, c, D⟩ := x
  exact fun u hu H locs ls hP hS hl => lv_ishl g.1 g.2.1 hd (kk u hu H locs ls hP hS hl)
theorem hf_ishr (g : hf_C x cc nL own) {a b : Int32} (hd : decode cc pc = .ok (.ishr, 1)) (kk : hf_X x A nL z Q K w (pc + 1) lv (.int (a >>> (b &&& 31)) :: st)) : hf_X x A nL z Q K w pc lv (.int b :: .int a :: st) := by
  obtain ⟨p, l, e, R, s, m, args, below, meth, c, D⟩ := x
  exact fun u hu H locs ls hP hS hl => lv_ishr g.1 g.2.1 hd (kk u hu H locs ls hP hS hl)
/-- the shift that brings zeros -/
def hf_ush (a b : Int32) : Int32 := (a.toUInt32 >>> (b.toUInt32 &&& Int32.toUInt32 31)).toInt32
theorem hf_iushr (g : hf_C x cc nL own) {a b : Int32} (hd : decode cc pc = .ok (.iushr, 1)) (kk : hf_X x A nL z Q K w (pc + 1) lv (.int (hf_ush a b) :: st)) : hf_X x A nL z Q K w pc lv (.int b :: .int a :: st) := by
  obtain ⟨p, l, e, R, s, m, args, below, meth, c, D⟩ := x
  exact fun u hu H locs ls hP hS hl => lv_iushr g.1 g.2.1 hd rfl (kk u hu H locs ls hP hS hl)
theorem hf_i2b (g : hf_C x cc nL own) {a : Int32} (hd : decode cc pc = .ok (.i2b, 1)) (kk : hf_X x A nL z Q K w (pc + 1) lv (.int a.toInt8.toInt32 :: st)) : hf_X x A nL z Q K w pc lv (.int a :: st) := by
  obtain ⟨p, l, e, R, s, m, args, below, meth, c, D⟩ := x
  exact fun u hu H locs ls hP hS hl => lv_i2b g.1 g.2.1 hd rfl (kk u hu H locs ls hP hS hl)
theorem hf_dup (g : hf_C x cc nL own) {a : Value} (hd : decode cc pc = .ok (.dup, 1)) (ha : a.category = 1) (kk : hf_X x A nL z Q K w (pc + 1) lv (a :: a :: st)) : hf_X x A nL z Q K w pc lv (a :: st) := by
  obtain ⟨p, l, e, R, s, m, args, below, meth, c, D⟩ := x
  exact fun u hu H locs ls hP hS hl => lv_dup g.1 g.2.1 hd ha (kk u hu H locs ls hP hS hl)
theorem hf_dup2 (g : hf_C x cc nL own) {a b : Value} (hd : decode cc pc = .ok (.dup2, 1)) (ha : a.category = 1) (hb : b.category = 1) (kk : hf_X x A nL z Q K w (pc + 1) lv (a :: b :: a :: b :: st)) : hf_X x A nL z Q K w pc lv (a :: b :: st) := by
  obtain ⟨p, l, e, R, s, m, args, below, meth, c, D⟩ := x
  exact fun u hu H locs ls hP hS hl => lv_dup2_11 g.1 g.2.1 hd ha hb (kk u hu H locs ls hP hS hl)
theorem hf_pop (g : hf_C x cc nL own) {a : Value} (hd : decode cc pc = .ok (.pop, 1)) (ha : a.category = 1) (kk : hf_X x A nL z Q K w (pc + 1) lv st) : hf_X x A nL z Q K w pc lv (a :: st) := by
  obtain ⟨p, l, e, R, s, m, args, below, meth, c, D⟩ := x
  exact fun u hu H locs ls hP hS hl => lv_pop g.1 g.2.1 hd ha (kk u hu H locs ls hP hS hl)
theorem hf_goto (g : hf_C x cc nL own) {off : Int} {tgt : Nat} (hd : decode cc pc = .ok (.goto off, 3)) (ht : (pc : Int) + off = (tgt : Int)) (kk : hf_X x A nL z Q K w tgt lv st) : hf_X x A nL z Q K w pc lv st := by
  obtain ⟨p, l, e, R, s, m, args, below, meth, c, D⟩ := x
  exact fun u hu H locs ls hP hS hl => lv_goto g.1 g.2.1 hd ht (kk u hu H locs ls hP hS hl)
theorem hf_if_eq (g : hf_C x cc nL own) {a : Int32} {off : Int} {tgt : Nat} {Kt Kf : Option α} (hd : decode cc pc = .ok (.ifCond .eq off, 3)) (ht : (pc : Int) + off = (tgt : Int)) (kt : hf_X x A nL z Q Kt w tgt lv st) (kf : hf_X x A nL z Q Kf w (pc + 3) lv st) : hf_X x A nL z Q (if a = 0 then Kt else Kf) w pc lv (.int a :: st) := by
  obtain ⟨p, l, e, R, s, m, args, below, meth, c, D⟩ := x
  exact fun u hu H locs ls hP hS hl => lv_if_eq g.1 g.2.1 hd ht (fun hc => (kt u (by rw [if_pos hc] at hu; exact hu) H locs ls hP hS hl)) (fun hc => (kf u (by rw [if_neg hc] at hu; exact hu) H locs ls hP hS hl))
theorem hf_icmp_eq (g : hf_C x cc nL own) {a b : Int32} {off : Int} {tgt : Nat} {Kt Kf : Option α} (hd : decode cc pc = .ok (.if_icmp .eq off, 3)) (ht : (pc : Int) + off = (tgt : Int)) (kt : hf_X x A nL z Q Kt w tgt lv st) (kf : hf_X x A nL z Q Kf w (pc + 3) lv st) : hf_X x A nL z Q (if a = b then Kt else Kf) w pc lv (.int b :: .int a :: st) := by
  obtain ⟨p, l, e, R, s, m, args, below, meth, c, D⟩ := x
  exact fun u hu H locs ls hP hS hl => lv_icmp_eq g.1 g.2.1 hd ht (fun hc => (kt u (by rw [if_pos hc] at hu; exact hu) H locs ls hP hS hl)) (fun hc => (kf u (by rw [if_neg hc] at hu; exact hu) H locs ls hP hS hl))
theorem hf_if_ne (g : hf_C x cc nL own) {a : Int32} {off : Int} {tgt : Nat} {Kt Kf : Option α} (hd : decode cc pc = .ok (.ifCond .ne off, 3)) (ht : (pc : Int) + off = (tgt : Int)) (kt : hf_X x A nL z Q Kt w tgt lv st) (kf : hf_X x A nL z Q Kf w (pc + 3) lv st) : hf_X x A nL z Q (if a = 0 then Kf else Kt) w pc lv (.int a :: st) := by
  obtain ⟨p, l, e, R, s, m, args, below, meth, c, D⟩ := x
  exact fun u hu H locs ls hP hS hl => lv_if_ne g.1 g.2.1 hd ht (fun hc => (kt u (by rw [if_neg hc] at hu; exact hu) H locs ls hP hS hl)) (fun hc => (kf u (by rw [if_pos hc] at hu; exact hu) H locs ls hP hS hl))
theorem hf_icmp_ne (g : hf_C x cc nL own) {a b : Int32} {off : Int} {tgt : Nat} {Kt Kf : Option α} (hd : decode cc pc = .ok (.if_icmp .ne off, 3)) (ht : (pc : Int) + off = (tgt : Int)) (kt : hf_X x A nL z Q Kt w tgt lv st) (kf : hf_X x A nL z Q Kf w (pc + 3) lv st) : hf_X x A nL z Q (if a = b then Kf else Kt) w pc lv (.int b :: .int a :: st) := by
  obtain ⟨p, l, e, R, s, m, args, below, meth, c, D⟩ := x
  exact fun u hu H locs ls hP hS hl => lv_icmp_ne g.1 g.2.1 hd ht (fun hc => (kt u (by rw [if_neg hc] at hu; exact hu) H locs ls hP hS hl)) (fun hc => (kf u (by rw [if_pos hc] at hu; exact hu) H locs ls hP hS hl))
theorem hf_if_lt (g : hf_C x cc nL own) {a : Int32} {off : Int} {tgt : Nat} {Kt Kf : Option α} (hd : decode cc pc = .ok (.ifCond .lt off, 3)) (ht : (pc : Int) + off = (tgt : Int)) (kt : hf_X x A nL z Q Kt w tgt lv st) (kf : hf_X x A nL z Q Kf w (pc + 3) lv st) : hf_X x A nL z Q (if a < 0 then Kt else Kf) w pc lv (.int a :: st) := by
  obtain ⟨p, l, e, R, s, m, args, below, meth, c, D⟩ := x
  exact fun u hu H locs ls hP hS hl => lv_if_lt g.1 g.2.1 hd ht (fun hc => (kt u (by rw [if_pos hc] at hu; exact hu) H locs ls hP hS hl)) (fun hc => (kf u (by rw [if_neg hc] at hu; exact hu) H locs ls hP hS hl))
theorem hf_icmp_lt (g : hf_C x cc nL own) {a b : Int32} {off : Int} {tgt : Nat} {Kt Kf : Option α} (hd : decode cc pc = .ok (.if_icmp .lt off, 3)) (ht : (pc : Int) + off = (tgt : Int)) (kt : hf_X x A nL z Q Kt w tgt lv st) (kf : hf_X x A nL z Q Kf w (pc + 3) lv st) : hf_X x A nL z Q (if a < b then Kt else Kf) w pc lv (.int b :: .int a :: st) := by
  obtain ⟨p, l, e, R, s, m, args, below, meth, c, D⟩ := x
  exact fun u hu H locs ls hP hS hl => lv_icmp_lt g.1 g.2.1 hd ht (fun hc => (kt u (by rw [if_pos hc] at hu; exact hu) H locs ls hP hS hl)) (fun hc => (kf u (by rw [if_neg hc] at hu; exact hu) H locs ls hP hS hl))
theorem hf_if_ge (g : hf_C x cc nL own) {a : Int32} {off : Int} {tgt : Nat} {Kt Kf : Option α} (hd : decode cc pc = .ok (.ifCond .ge off, 3)) (ht : (pc : Int) + off = (tgt : Int)) (kt : hf_X x A nL z Q Kt w tgt lv st) (kf : hf_X x A nL z Q Kf w (pc + 3) lv st) : hf_X x A nL z Q (if 0 ≤ a then Kt else Kf) w pc lv (.int a :: st) := by
  obtain ⟨p, l, e, R, s, m, args, below, meth, c, D⟩ := x
  exact fun u hu H locs ls hP hS hl => lv_if_ge g.1 g.2.1 hd ht (fun hc => (kt u (by rw [if_pos hc] at hu; exact hu) H locs ls hP hS hl)) (fun hc => (kf u (by rw [if_neg hc] at hu; exact hu) H locs ls hP hS hl))
theorem hf_icmp_ge (g : hf_C x cc nL own) {a b : Int32} {off : Int} {tgt : Nat} {Kt Kf : Option α} (hd : decode cc pc = .ok (.if_icmp .ge off, 3)) (ht : (pc : Int) + off = (tgt : Int)) (kt : hf_X x A nL z Q Kt w tgt lv st) (kf : hf_X x A nL z Q Kf w (pc + 3) lv st) : hf_X x A nL z Q (if b ≤ a then Kt else Kf) w pc lv (.int b :: .int a :: st) := by
  obtain ⟨p, l, e, R, s, m, args, below, meth, c, D⟩ := x
  exact fun u hu H locs ls hP hS hl => lv_icmp_ge g.1 g.2.1 hd ht (fun hc => (kt u (by rw [if_pos hc] at hu; exact hu) H locs ls hP hS hl)) (fun hc => (kf u (by rw [if_neg hc] at hu; exact hu) H locs ls hP hS hl))
theorem hf_if_gt (g : hf_C x cc nL own) {a : Int32} {off : Int} {tgt : Nat} {Kt Kf : Option α} (hd : decode cc pc = .ok (.ifCond .gt off, 3)) (ht : (pc : Int) + off = (tgt : Int)) (kt : hf_X x A nL z Q Kt w tgt lv st) (kf : hf_X x A nL z Q Kf w (pc + 3) lv st) : hf_X x A nL z Q (if 0 < a then Kt else Kf) w pc lv (.int a :: st) := by
  obtain ⟨p, l, e, R, s, m, args, below, meth, c, D⟩ := x
  exact fun u hu H locs ls hP hS hl => lv_if_gt g.1 g.2.1 hd ht (fun hc => (kt u (by rw [if_pos hc] at hu; exact hu) H locs ls hP hS hl)) (fun hc => (kf u (by rw [if_neg hc] at hu; exact hu) H locs ls hP hS hl))
theorem hf_icmp_gt (g : hf_C x cc nL own) {a b : Int32} {off : Int} {tgt : Nat} {Kt Kf : Option α} (hd : decode cc pc = .ok (.if_icmp .gt off, 3)) (ht : (pc : Int) + off = (tgt : Int)) (kt : hf_X x A nL z Q Kt w tgt lv st) (kf : hf_X x A nL z Q Kf w (pc + 3) lv st) : hf_X x A nL z Q (if b < a then Kt else Kf) w pc lv (.int b :: .int a :: st) := by
  obtain ⟨p, l, e, R, s, m, args, below, meth, c, D⟩ := x
  exact fun u hu H locs ls hP hS hl => lv_icmp_gt g.1 g.2.1 hd ht (fun hc => (kt u (by rw [if_pos hc] at hu; exact hu) H locs ls hP hS hl)) (fun hc => (kf u (by rw [if_neg hc] at hu; exact hu) H locs ls hP hS hl))
theorem hf_if_le (g : hf_C x cc nL own) {a : Int32} {off : Int} {tgt : Nat} {Kt Kf : Option α} (hd : decode cc pc = .ok (.ifCond .le off, 3)) (ht : (pc : Int) + off = (tgt : Int)) (kt : hf_X x A nL z Q Kt w tgt lv st) (kf : hf_X x A nL z Q Kf w (pc + 3) lv st) : hf_X x A nL z Q (if a ≤ 0 then Kt else Kf) w pc lv (.int a :: st) := by
  obtain ⟨p, l, e, R, s, m, args, below, meth, c, D⟩ := x
  exact fun u hu H locs ls hP hS hl => lv_if_le g.1 g.2.1 hd ht (fun hc => (kt u (by rw [if_pos hc] at hu; exact hu) H locs ls hP hS hl)) (fun hc => (kf u (by rw [if_neg hc] at hu; exact hu) H locs ls hP hS hl))
theorem hf_icmp_le (g : hf_C x cc nL own) {a b : Int32} {off : Int} {tgt : Nat} {Kt Kf : Option α} (hd : decode cc pc = .ok (.if_icmp .le off, 3)) (ht : (pc : Int) + off = (tgt : Int)) (kt : hf_X x A nL z Q Kt w tgt lv st) (kf : hf_X x A nL z Q Kf w (pc + 3) lv st) : hf_X x A nL z Q (if a ≤ b then Kt else Kf) w pc lv (.int b :: .int a :: st) := by
  obtain ⟨p, l, e, R, s, m, args, below, meth, c, D⟩ := x
  exact fun u hu H locs ls hP hS hl => lv_icmp_le g.1 g.2.1 hd ht (fun hc => (kt u (by rw [if_pos hc] at hu; exact hu) H locs ls hP hS hl)) (fun hc => (kf u (by rw [if_neg hc] at hu; exact hu) H locs ls hP hS hl))
/-- a switch over a table: the ends by their places, else the last -/
def hf_sw (a : Int32) (lo : Int) : List (Option α) → Option α → Option α
  | [], Kd => Kd
  | Kx :: Ks, Kd => if a.toInt = lo then Kx else hf_sw a (lo + 1) Ks Kd
def hf_all2 {β γ : Type} (P : β → γ → Prop) : List β → List γ → Prop
  | [], [] => True
  | b :: bs, c :: cs => P b c ∧ hf_all2 P bs cs
  | _, _ => False
theorem hf_all2_at {β γ : Type} {P : β → γ → Prop} : ∀ {bs : List β} {cs : List γ}, hf_all2 P bs cs → ∀ {i : Nat} {b : β}, bs[i]? = some b → ∃ c, cs[i]? = some c ∧ P b c
  | [], [], _, i, b, h => by simp at h
  | b :: bs, c :: cs, hp, 0, b', h => by simp at h; exact ⟨c, rfl, h ▸ hp.1⟩
  | b :: bs, c :: cs, hp, i + 1, b', h => by simpa using hf_all2_at hp.2 (i := i) (by simpa using h)
  | [], _ :: _, hp, _, _, _ => absurd hp (by simp [hf_all2])
  | _ :: _, [], hp, _, _, _ => absurd hp (by simp [hf_all2])
theorem hf_all2_len {β γ : Type} {P : β → γ → Prop} : ∀ {bs : List β} {cs : List γ}, hf_all2 P bs cs → bs.length = cs.length
  | [], [], _ => rfl
  | b :: bs, c :: cs, hp => by simp [hf_all2_len hp.2]
  | [], _ :: _, hp => absurd hp (by simp [hf_all2])
  | _ :: _, [], hp => absurd hp (by simp [hf_all2])
theorem hf_sw_in {a : Int32} : ∀ {Ks : List (Option α)} {lo : Int} {Kd : Option α}, lo ≤ a.toInt → a.toInt < lo + Ks.length → Ks[(a.toInt - lo).toNat]? = some (hf_sw a lo Ks Kd)
  | [], lo, Kd, h1, h2 => by simp at h2; omega
  | Kx :: Ks, lo, Kd, h1, h2 => by
    by_cases h : a.toInt = lo
    · have e : (a.toInt - lo).toNat = 0 := by omega
      rw [e]
      simp [hf_sw, h]
    · have e : (a.toInt - lo).toNat = (a.toInt - (lo + 1)).toNat + 1 := by omega
      have := hf_sw_in (a := a) (Ks := Ks) (lo := lo + 1) (Kd := Kd) (by omega) (by simp at h2; omega)
      rw [e, List.getElem?_cons_succ, this]
      simp [hf_sw, h]
theorem hf_sw_out {a : Int32} : ∀ {Ks : List (Option α)} {lo : Int} {Kd : Option α}, (a.toInt < lo ∨ lo + Ks.length ≤ a.toInt) → hf_sw a lo Ks Kd = Kd
  | [], lo, Kd, h => rfl
  | Kx :: Ks, lo, Kd, h => by
    have hne : ¬ a.toInt = lo := by simp at h; omega
    rw [hf_sw, if_neg hne]
    exact hf_sw_out (by simp at h ⊢; omega)
theorem hf_switch (g : hf_C x cc nL own) {a : Int32} {dflt lo hi : Int} {offs : Array Int} {len : Nat} {Ks : List (Option α)} {Kd : Option α} (tgs : List Nat) (td : Nat) (hd : decode cc pc = .ok (.tableswitch dflt lo hi offs, len)) (ht : offs.toList.map (fun o => (pc : Int) + o) = tgs.map (fun t : Nat => (t : Int))) (hlen : lo + (Ks.length : Int) = hi + 1) (htd : (pc : Int) + dflt = (td : Int))
    (k : hf_all2 (fun Kx t => hf_X x A nL z Q Kx w t lv st) Ks tgs) (kd : hf_X x A nL z Q Kd w td lv st) : hf_X x A nL z Q (hf_sw a lo Ks Kd) w pc lv (.int a :: st) := by
  obtain ⟨p, l, e, R, s, m, args, below, meth, c, D⟩ := x
  intro u hu H locs ls hP hS hl
  by_cases hin : lo ≤ a.toInt ∧ a.toInt < lo + Ks.length
  · have h1 := hf_sw_in (Kd := Kd) hin.1 hin.2
    obtain ⟨t, ht1, ht2⟩ := hf_all2_at k h1
    have h3 : (offs.toList.map (fun o => (pc : Int) + o))[(a.toInt - lo).toNat]? = some (t : Int) := by rw [ht, List.getElem?_map, ht1]; rfl
    rw [List.getElem?_map] at h3
    cases ho : offs.toList[(a.toInt - lo).toNat]? with
    | none => rw [ho] at h3; cases h3
    | some o =>
      rw [ho] at h3
      have h4 : (pc : Int) + o = (t : Int) := by simpa using h3
      exact lv_tableIn g.1 g.2.1 hd (by omega) (by omega) (by rw [← Array.getElem?_toList]; exact ho) h4 (ht2 u hu H locs ls hP hS hl)
  · have hout : a.toInt < lo ∨ lo + (Ks.length : Int) ≤ a.toInt := by omega
    rw [hf_sw_out hout] at hu
    exact lv_tableOut g.1 g.2.1 hd (by omega) htd (kd u hu H locs ls hP hS hl)
end HfRows
