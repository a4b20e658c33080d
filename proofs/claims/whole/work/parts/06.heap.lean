/-! Rows over the world: fields, rows of numbers, returns, calls. -/
/-- the words of a field's link: own's entry idx is field k of the objects of kind ci -/
def hf_kF (own : String) (idx ci k : Nat) : Prop := ∃ (C : String) (F : u_T) (N : Nat), vwCl[ci]? = some (C, F, N) ∧ k < N ∧ (∀ w ∈ u_ws C F N, w ∈ hf_TB) ∧ Cond.fieldLink own idx (F k).1 (F k).2.1 (F k).2.2.1 ∈ hf_TB
/-- for a write -/
def hf_kP (own : String) (idx ci k : Nat) (ty : FieldType) : Prop := ∃ (C : String) (F : u_T) (N : Nat) (ty0 : Nat → FieldType), vwCl[ci]? = some (C, F, N) ∧ k < N ∧ (∀ w ∈ u_ws C F N, w ∈ hf_TB) ∧ Cond.fieldLink own idx (F k).1 (F k).2.1 (F k).2.2.1 ∈ hf_TB ∧ (∀ k, k < N → parseFieldDescriptor (F k).2.2.1 = some (ty0 k)) ∧ (∀ a, a < N → ∀ b, b < N → a ≠ b → (F a).2.1 ≠ (F b).2.1) ∧ (F k).2.2.2 = false ∧ ty0 k = ty
section HfHeap
variable {α : Type} {x : hf_Cx} {T : hf_Tb} {ad : Nat → Nat} {cA : Nat → ClassId} {E : State → Prop} {A : Nat → Prop} {l0 : Launch} {D0 : va_G} {nL : Nat} {z : Nat × Nat} {Q : α → State → Prop} {K : Option α} {σ : hf_St} {pc : Nat} {lv lv' : List (Nat × Value)} {st : List Value} {cc : ByteArray} {own : String} {rt : Option FieldType} {d : Nat}
theorem hf_getI (g : hf_G x T ad cA E A l0 D0 cc nL own rt d) {j k ci idx : Nat} {fl : List (Option Nat)} (hj : T.1[j]? = some (ci, fl)) (hk : fl[k]? = some none) (hf : hf_kF own idx ci k) (hd : decode cc pc = .ok (.getfield idx, 3)) (kk : hf_X x A nL z Q K (hf_wd T ad cA σ) (pc + 3) lv (.int (σ.1 j k) :: st)) : hf_X x A nL z Q K (hf_wd T ad cA σ) pc lv (.ref (ad j) :: st) := by
  obtain ⟨p, l, e, R, s, m, args, below, meth, c, D⟩ := x
  obtain ⟨C, F, N, hci, hkN, hin, hfl⟩ := hf
  obtain ⟨⟨hx, hb, hml, hown, hts⟩, hK, -⟩ := id g
  intro u hu H locs ls hP hS hl
  exact va_get (D := D) (ci := ci) (v := .int (σ.1 j k)) hx hb hts hin hown hK hP j (hf_obj hj) hci k hkN (hts _ hfl) (fun _ h9 => h9) (by rw [List.getElem?_mapIdx, hk]; rfl) hd (kk u hu H locs ls hP hS hl)
theorem hf_getR (g : hf_G x T ad cA E A l0 D0 cc nL own rt d) {j k ci idx r : Nat} {fl : List (Option Nat)} (hj : T.1[j]? = some (ci, fl)) (hk : fl[k]? = some (some r)) (hf : hf_kF own idx ci k) (hd : decode cc pc = .ok (.getfield idx, 3)) (kk : hf_X x A nL z Q K (hf_wd T ad cA σ) (pc + 3) lv (.ref (ad r) :: st)) : hf_X x A nL z Q K (hf_wd T ad cA σ) pc lv (.ref (ad j) :: st) := by
  obtain ⟨p, l, e, R, s, m, args, below, meth, c, D⟩ := x
  obtain ⟨C, F, N, hci, hkN, hin, hfl⟩ := hf
  obtain ⟨⟨hx, hb, hml, hown, hts⟩, hK, -⟩ := id g
  intro u hu H locs ls hP hS hl
  exact va_get (D := D) (ci := ci) (v := .ref (ad r)) hx hb hts hin hown hK hP j (hf_obj hj) hci k hkN (hts _ hfl) (fun _ h9 => h9) (by rw [List.getElem?_mapIdx, hk]; rfl) hd (kk u hu H locs ls hP hS hl)
theorem hf_putI (g : hf_G x T ad cA E A l0 D0 cc nL own rt d) {j k ci idx : Nat} {fl : List (Option Nat)} {ty : FieldType} {v : Int32} {K : hf_St → Option α} (hj : T.1[j]? = some (ci, fl)) (hk : fl[k]? = some none) (hf : hf_kP own idx ci k ty) (hn : narrow ty (.int v) = .int v) (hfit : fits ty (.int v) = true) (hd : decode cc pc = .ok (.putfield idx, 3)) (kk : ∀ σ', hf_X x A nL z Q (K σ') (hf_wd T ad cA σ') (pc + 3) lv st) : hf_X x A nL z Q (hf_lt (hf_pI σ j k v) K) (hf_wd T ad cA σ) pc lv (.int v :: .ref (ad j) :: st) := by
  obtain ⟨p, l, e, R, s, m, args, below, meth, c, D⟩ := x
  obtain ⟨C, F, N, ty0, hci, hkN, hin, hfl, hty, hnm, hfin, hty0⟩ := hf
  obtain ⟨⟨hx, hb, hml, hown, hts⟩, hK, hinj, hA, -⟩ := id g
  intro u hu H locs ls hP hS hl
  refine va_put (D := D) (ci := ci) (v := .int v) (ty := ty) hx hb hts hin ty0 hty hnm hown hK hP (by rw [hA]; exact hf_dis hinj σ) hS j (hf_obj hj) hci k hkN (hts _ hfl) (fun _ h9 => h9) hfin (by rw [hty k hkN, hty0]) hn hfit (by simpa using (List.getElem?_eq_some_iff.mp hk).1) hd (fun H1 locs1 hP1 hD1 hS1 => ?_)
  rw [hf_setI hj hk] at hP1
  exact kk _ u hu H1 locs1 ls hP1 hS1 hl
theorem hf_iald (g : hf_G x T ad cA E A l0 D0 cc nL own rt d) {a r n : Nat} {i : Int32} (ha : T.2[a]? = some (n, .int)) (hr : T.1.length + a = r) (hd : decode cc pc = .ok (.iaload, 1)) (kk : hf_X x A nL z Q K (hf_wd T ad cA σ) (pc + 1) lv (.int (σ.2 a i.toNatClampNeg) :: st)) : hf_X x A nL z Q (hf_gd (hf_ix i n) K) (hf_wd T ad cA σ) pc lv (.int i :: .ref (ad r) :: st) := by
  obtain ⟨p, l, e, R, s, m, args, below, meth, c, D⟩ := x
  subst hr
  obtain ⟨⟨hx, hb, hml, hown, hts⟩, hK, -⟩ := id g
  intro u hu H locs ls hP hS hl
  by_cases hi : hf_ix i n
  · rw [hf_gd, if_pos hi] at hu
    exact va_iald hx hb hK hP (T.1.length + a) a (hf_arr ha) (hf_tyAt ha) (vp_in_iff.mpr hi) hd (kk u hu H locs ls hP hS hl)
  · rw [hf_gd, if_neg hi] at hu
    cases hu
theorem hf_zald (g : hf_G x T ad cA E A l0 D0 cc nL own rt d) {a r n : Nat} {i : Int32} (ha : T.2[a]? = some (n, .boolean)) (hr : T.1.length + a = r) (hd : decode cc pc = .ok (.baload, 1)) (kk : hf_X x A nL z Q K (hf_wd T ad cA σ) (pc + 1) lv (.int (σ.2 a i.toNatClampNeg) :: st)) : hf_X x A nL z Q (hf_gd (hf_ix i n) K) (hf_wd T ad cA σ) pc lv (.int i :: .ref (ad r) :: st) := by
  obtain ⟨p, l, e, R, s, m, args, below, meth, c, D⟩ := x
  subst hr
  obtain ⟨⟨hx, hb, hml, hown, hts⟩, hK, -⟩ := id g
  intro u hu H locs ls hP hS hl
  by_cases hi : hf_ix i n
  · rw [hf_gd, if_pos hi] at hu
    exact va_zald hx hb hK hP (T.1.length + a) a (hf_arr ha) (hf_tyAt ha) (vp_in_iff.mpr hi) hd (kk u hu H locs ls hP hS hl)
  · rw [hf_gd, if_neg hi] at hu
    cases hu
theorem hf_bald (g : hf_G x T ad cA E A l0 D0 cc nL own rt d) {a r n : Nat} {i : Int32} (ha : T.2[a]? = some (n, .byte)) (hr : T.1.length + a = r) (hd : decode cc pc = .ok (.baload, 1)) (kk : hf_X x A nL z Q K (hf_wd T ad cA σ) (pc + 1) lv (.int (σ.2 a i.toNatClampNeg) :: st)) : hf_X x A nL z Q (hf_gd (hf_ix i n) K) (hf_wd T ad cA σ) pc lv (.int i :: .ref (ad r) :: st) := by
  obtain ⟨p, l, e, R, s, m, args, below, meth, c, D⟩ := x
  subst hr
  obtain ⟨⟨hx, hb, hml, hown, hts⟩, hK, -⟩ := id g
  intro u hu H locs ls hP hS hl
  by_cases hi : hf_ix i n
  · rw [hf_gd, if_pos hi] at hu
    exact va_bald hx hb hK hP (T.1.length + a) a (hf_arr ha) (hf_tyAt ha) (vp_in_iff.mpr hi) hd (kk u hu H locs ls hP hS hl)
  · rw [hf_gd, if_neg hi] at hu
    cases hu
theorem hf_iast (g : hf_G x T ad cA E A l0 D0 cc nL own rt d) {a r n : Nat} {i v : Int32} {K : hf_St → Option α} (ha : T.2[a]? = some (n, .int)) (hr : T.1.length + a = r) (hd : decode cc pc = .ok (.iastore, 1)) (kk : ∀ σ', hf_X x A nL z Q (K σ') (hf_wd T ad cA σ') (pc + 1) lv st) : hf_X x A nL z Q (hf_gd (hf_ix i n) (hf_lt (hf_pA σ a (upd (σ.2 a) i.toNatClampNeg v)) K)) (hf_wd T ad cA σ) pc lv (.int v :: .int i :: .ref (ad r) :: st) := by
  obtain ⟨p, l, e, R, s, m, args, below, meth, c, D⟩ := x
  subst hr
  obtain ⟨⟨hx, hb, hml, hown, hts⟩, hK, hinj, hA, -⟩ := id g
  intro u hu H locs ls hP hS hl
  by_cases hi : hf_ix i n
  · rw [hf_gd, if_pos hi] at hu
    refine va_iast hx hb hK hP (by rw [hA]; exact hf_dis hinj σ) hS (T.1.length + a) a (hf_arr ha) (hf_tyAt ha) (vp_in_iff.mpr hi) hd (fun H1 locs1 hP1 hD1 hS1 => ?_)
    rw [hf_setA ha] at hP1
    exact kk _ u hu H1 locs1 ls hP1 hS1 hl
  · rw [hf_gd, if_neg hi] at hu
    cases hu
theorem hf_zast (g : hf_G x T ad cA E A l0 D0 cc nL own rt d) {a r n : Nat} {i v : Int32} {K : hf_St → Option α} (ha : T.2[a]? = some (n, .boolean)) (hr : T.1.length + a = r) (hd : decode cc pc = .ok (.bastore, 1)) (kk : ∀ σ', hf_X x A nL z Q (K σ') (hf_wd T ad cA σ') (pc + 1) lv st) : hf_X x A nL z Q (hf_gd (hf_ix i n) (hf_lt (hf_pA σ a (upd (σ.2 a) i.toNatClampNeg (vp_nar .boolean v))) K)) (hf_wd T ad cA σ) pc lv (.int v :: .int i :: .ref (ad r) :: st) := by
  obtain ⟨p, l, e, R, s, m, args, below, meth, c, D⟩ := x
  subst hr
  obtain ⟨⟨hx, hb, hml, hown, hts⟩, hK, hinj, hA, -⟩ := id g
  intro u hu H locs ls hP hS hl
  by_cases hi : hf_ix i n
  · rw [hf_gd, if_pos hi] at hu
    refine va_zast hx hb hK hP (by rw [hA]; exact hf_dis hinj σ) hS (T.1.length + a) a (hf_arr ha) (hf_tyAt ha) (vp_in_iff.mpr hi) hd (fun H1 locs1 hP1 hD1 hS1 => ?_)
    rw [hf_setA ha] at hP1
    exact kk _ u hu H1 locs1 ls hP1 hS1 hl
  · rw [hf_gd, if_neg hi] at hu
    cases hu
theorem hf_bast (g : hf_G x T ad cA E A l0 D0 cc nL own rt d) {a r n : Nat} {i v : Int32} {K : hf_St → Option α} (ha : T.2[a]? = some (n, .byte)) (hr : T.1.length + a = r) (hd : decode cc pc = .ok (.bastore, 1)) (kk : ∀ σ', hf_X x A nL z Q (K σ') (hf_wd T ad cA σ') (pc + 1) lv st) : hf_X x A nL z Q (hf_gd (hf_ix i n) (hf_lt (hf_pA σ a (upd (σ.2 a) i.toNatClampNeg (vp_nar .byte v))) K)) (hf_wd T ad cA σ) pc lv (.int v :: .int i :: .ref (ad r) :: st) := by
  obtain ⟨p, l, e, R, s, m, args, below, meth, c, D⟩ := x
  subst hr
  obtain ⟨⟨hx, hb, hml, hown, hts⟩, hK, hinj, hA, -⟩ := id g
  intro u hu H locs ls hP hS hl
  by_cases hi : hf_ix i n
  · rw [hf_gd, if_pos hi] at hu
    refine va_bast hx hb hK hP (by rw [hA]; exact hf_dis hinj σ) hS (T.1.length + a) a (hf_arr ha) (hf_tyAt ha) (vp_in_iff.mpr hi) hd (fun H1 locs1 hP1 hD1 hS1 => ?_)
    rw [hf_setA ha] at hP1
    exact kk _ u hu H1 locs1 ls hP1 hS1 hl
  · rw [hf_gd, if_neg hi] at hu
    cases hu
theorem hf_alen (g : hf_G x T ad cA E A l0 D0 cc nL own rt d) {a r n : Nat} {t : FieldType} (ha : T.2[a]? = some (n, t)) (hr : T.1.length + a = r) (hd : decode cc pc = .ok (.arraylength, 1)) (kk : hf_X x A nL z Q K (hf_wd T ad cA σ) (pc + 1) lv (.int (nI n) :: st)) : hf_X x A nL z Q K (hf_wd T ad cA σ) pc lv (.ref (ad r) :: st) := by
  obtain ⟨p, l, e, R, s, m, args, below, meth, c, D⟩ := x
  subst hr
  obtain ⟨⟨hx, hb, hml, hown, hts⟩, hK, -⟩ := id g
  intro u hu H locs ls hP hS hl
  exact va_alen hx hb hK hP (T.1.length + a) a (hf_arr ha) (hf_tyAt ha) rfl hd (kk u hu H locs ls hP hS hl)
/-! returns -/
theorem hf_iret {res : α → Option Value × hf_St} (g : hf_G x T ad cA E A l0 D0 cc nL own (some .int) d) {v : α} {r : Int32} (hd : decode cc pc = .ok (.ireturn, 1)) (hv : res v = (some (.int r), σ)) : hf_X x A nL (0, 0) (hf_Q x T ad cA A res) (some v) (hf_wd T ad cA σ) pc lv [.int r] := by
  obtain ⟨p, l, e, R, s, m, args, below, meth, c, D⟩ := x
  obtain ⟨⟨hx, hb, hml, hown, hts⟩, hK, hinj, hA, hst, hE, hlk, hr, -⟩ := id g
  subst hA
  intro u hu H locs ls hP hS hl
  cases hu
  exact W.iret (v := r) hx hb hr (fun t ht hW => ⟨by rw [hv], by rw [hv, ht]; exact hP, hS.F ht⟩) hS.2.2 hd hlk
theorem hf_zret {res : α → Option Value × hf_St} (g : hf_G x T ad cA E A l0 D0 cc nL own (some .boolean) d) {v : α} {r : Int32} (hd : decode cc pc = .ok (.ireturn, 1)) (hv : res v = (some (.int r), σ)) : hf_X x A nL (0, 0) (hf_Q x T ad cA A res) (hf_gd (hf_z r) (some v)) (hf_wd T ad cA σ) pc lv [.int r] := by
  obtain ⟨p, l, e, R, s, m, args, below, meth, c, D⟩ := x
  obtain ⟨⟨hx, hb, hml, hown, hts⟩, hK, hinj, hA, hst, hE, hlk, hr, -⟩ := id g
  subst hA
  intro u hu H locs ls hP hS hl
  by_cases hz : hf_z r
  · rw [hf_gd, if_pos hz] at hu
    cases hu
    exact W.zret (v := r) (ty := .boolean) hx hb hr (by rcases hz with rfl | rfl <;> rfl) (fun t ht hW => ⟨by rw [hv], by rw [hv, ht]; exact hP, hS.F ht⟩) hS.2.2 hd hlk
  · rw [hf_gd, if_neg hz] at hu
    cases hu
theorem hf_vret {res : α → Option Value × hf_St} (g : hf_G x T ad cA E A l0 D0 cc nL own none d) {v : α} (hd : decode cc pc = .ok (.return_, 1)) (hv : res v = (none, σ)) : hf_X x A nL (0, 0) (hf_Q x T ad cA A res) (some v) (hf_wd T ad cA σ) pc lv [] := by
  obtain ⟨p, l, e, R, s, m, args, below, meth, c, D⟩ := x
  obtain ⟨⟨hx, hb, hml, hown, hts⟩, hK, hinj, hA, hst, hE, hlk, hr, -⟩ := id g
  subst hA
  intro u hu H locs ls hP hS hl
  cases hu
  exact W.vret hx hb hr (fun t ht hW => ⟨by rw [hv], by rw [hv, ht]; exact hP, hS.F ht⟩) hS.2.2 hd hlk
theorem hf_aret {res : α → Option Value × hf_St} {ty : FieldType} (g : hf_G x T ad cA E A l0 D0 cc nL own (some ty) d) {v : α} {q : Nat} (hty : (∃ n, ty = .object n) ∨ ∃ t, ty = .array t) (hd : decode cc pc = .ok (.areturn, 1)) (hv : res v = (some (.ref q), σ)) : hf_X x A nL (0, 0) (hf_Q x T ad cA A res) (some v) (hf_wd T ad cA σ) pc lv [.ref q] := by
  obtain ⟨p, l, e, R, s, m, args, below, meth, c, D⟩ := x
  obtain ⟨⟨hx, hb, hml, hown, hts⟩, hK, hinj, hA, hst, hE, hlk, hr, -⟩ := id g
  subst hA
  intro u hu H locs ls hP hS hl
  cases hu
  exact W.aret (v := .ref q) hx hb hr hty (Or.inr ⟨q, rfl⟩) (fun t ht hW => ⟨by rw [hv], by rw [hv, ht]; exact hP, hS.F ht⟩) hS.2.2 hd hlk
/-! calls -/
theorem hf_A_mono {T : hf_Tb} {ad : Nat → Nat} {a b : Nat} (h : a ≤ b) : ∀ q, hf_A T ad b q → hf_A T ad a q := fun _ hq => hq.elim Or.inl (fun h2 => Or.inr (Nat.le_trans h h2))
/-- what the callee finds -/
theorem hf_pre {l : Launch} {D : va_G} {s : State} {H : Heap} {locs : List Loc} (hK : va_K D vwCl (hf_ty T cA) s) (hinj : hf_inj T ad) (hst : hf_stab T ad E) (hE : E s) (hP : va_P D vwCl (hf_wd T ad cA σ) H) (hS : va_S (hf_A T ad s.heap.size) s.heap H locs) : ∀ U : State, U.heap = H → s.WarmedH U.vm → hf_Pw T D ad cA E σ H.size U :=
  fun U hU hW => ⟨by rw [hU], by rw [hU]; exact hP, va_K.moved hW.alike hK, hinj, hst, hst s U hE (Or.inl hW) (by rw [hU]; exact hS.1) (fun q h1 h2 => by rw [hU]; exact hS.2.1 q h1 h2)⟩
theorem hf_blind {D : va_G} {av : List Value} {sz : Nat} : FrameBlind (va_Pc av (hf_Pw T D ad cA E σ sz)) :=
  fun a U g mk q => by
    obtain ⟨q0, q1, q2, q3, q4, q5, q6⟩ := q
    exact ⟨q0, q1, q2, va_K.moved (u := U) (U := U.calling g mk a) (Vm.Alike.refl U.vm) q3, q4, q5, q5 U (U.calling g mk a) q6 (Or.inr rfl) (Nat.le_refl _) (fun _ _ _ => rfl)⟩
theorem hf_back {p : Program} {l : Launch} {e : Env} {R : Room} {s : State} {m : MethodId} {args : Array Value} {below : List Frame} {meth : Method} {c : Code} {D : va_G} {β : Type} {av : List Value} {G' : Option β} {res' : β → Option Value × hf_St} {Kb : β → Option α} {st0 : List Value}
    (run : ∀ (v : β), G' = some v → ∀ (H : Heap) (locs : List Loc) (ls : Array Slot), va_P D vwCl (hf_wd T ad cA σ) H → va_S (hf_A T ad s.heap.size) s.heap H locs → lv_has ls nL lv → va_Run p l e R s m args below meth c H locs z.1 z.2 0 0 (F0 m pc ls st0) st (hf_Qc T D ad cA H.size (res' v) av.toArray) (hf_A T ad H.size))
    (k : ∀ v, hf_X (p, l, e, R, s, m, args, below, meth, c, D) (hf_A T ad s.heap.size) nL z Q (Kb v) (hf_wd T ad cA (res' v).2) (pc + 3) lv ((res' v).1.toList ++ st)) : hf_X (p, l, e, R, s, m, args, below, meth, c, D) (hf_A T ad s.heap.size) nL z Q (G'.bind Kb) (hf_wd T ad cA σ) pc lv st0 := by
  intro u hu H locs ls hP hS hl T0 hT0 X0
  cases hG : G' with
  | none => rw [hG] at hu; cases hu
  | some v =>
    rw [hG] at hu
    obtain ⟨rv, st₀, t, T', L, h0, X', hL, e1, e2, ⟨hq1, hq2, hq3, hq4⟩, hst⟩ := run v hG H locs ls hP hS hl T0 hT0 X0
    cases hq1
    rw [h0] at hq3 hq4
    have hS' : va_S (hf_A T ad s.heap.size) s.heap T'.heap (locs ++ L) := by
      refine ⟨Nat.le_trans hS.1 (by rw [e1]; exact hq3), fun q h1 h2 => ?_, fun q hq => ?_⟩
      · rw [e1, hq4 q (Nat.lt_of_lt_of_le h1 hS.1) (fun z => h2 (hf_A_mono hS.1 q z))]
        exact hS.2.1 q h1 h2
      · rcases List.mem_append.mp hq with h | h
        · exact hS.2.2 q h
        · exact hf_A_mono hS.1 _ (hL q h)
    obtain ⟨t2, a1, b1⟩ := k v u hu T'.heap (locs ++ L) ls (by rw [e1]; exact hq2) hS' hl T' rfl X'
    exact ⟨t2, hst t2 a1, b1⟩
/-- the words of a call of a method of the own objects -/
def hf_kV (own : String) (idx : Nat) (C : String) (y : MethodName) (cc : ByteArray) (nL : Nat) (rt : Option FieldType) (n : Nat) : Prop := GoodIn hf_TB (wsV own idx C y (hf_ws y cc nL rt)) ∧ y.cls = C ∧ y.cls ≠ "java/lang/invoke/MethodHandle" ∧ y.cls ≠ "java/lang/invoke/VarHandle" ∧ (parseMethodDescriptor y.desc).map (fun d => d.parameters.length) = some n
def hf_kS (own : String) (idx : Nat) (y : MethodName) (cc : ByteArray) (nL : Nat) (rt : Option FieldType) (n : Nat) : Prop := GoodIn hf_TB (va_wsS own idx y (hf_ws y cc nL rt)) ∧ y.cls ≠ "java/lang/invoke/MethodHandle" ∧ y.cls ≠ "java/lang/invoke/VarHandle" ∧ (parseMethodDescriptor y.desc).map (fun d => d.parameters.length) = some n
theorem hf_callV (g : hf_G x T ad cA E A l0 D0 cc nL own rt d) {β : Type} {d' : Nat} {y : MethodName} {cc' : ByteArray} {nL' : Nat} {rt' : Option FieldType} {As : List Value} {G' : Option β} {res' : β → Option Value × hf_St} {Kb : β → Option α} {st0 : List Value} {C : String} {idx n j ci : Nat} {fl : List (Option Nat)} {F : u_T} {N : Nat}
    (hc : hf_Ct l0 D0 T ad cA E d' y cc' nL' rt' (.ref (ad j) :: As) σ G' res') (kw : hf_kV own idx C y cc' nL' rt' n) (hdd : d' + 1 ≤ d) (hn' : nL' ≤ 21) (hj : T.1[j]? = some (ci, fl)) (hci : vwCl[ci]? = some (C, F, N)) (hn : As.length = n) (hst0 : st0 = As.reverse ++ .ref (ad j) :: st) (hcat : (st.map fun v => v.category).sum ≤ 8) (hd : decode cc pc = .ok (.invokevirtual idx, 3))
    (k : ∀ v, hf_X x A nL z Q (Kb v) (hf_wd T ad cA (res' v).2) (pc + 3) lv ((res' v).1.toList ++ st)) (hz : z.1 ≤ x.2.2.2.1.cells ∧ z.2 ≤ x.2.2.2.1.slots) : hf_X x A nL z Q (G'.bind Kb) (hf_wd T ad cA σ) pc lv st0 := by
  obtain ⟨p, l, e, R, s, m, args, below, meth, c, D⟩ := x
  obtain ⟨⟨hx, hb, hml, hown, hts⟩, hK, hinj, hA, hst, hE, hlk, hr, hR1, hR2, rfl, rfl⟩ := id g
  subst hA
  refine hf_back (av := .ref (ad j) :: As) (fun v hv H locs ls hP hS hl => ?_) k
  refine va_runV (Ts := hf_TB) (C := C) (own := own) (index := idx) ⟨hx, hb, hml, hown, hts⟩ (hc v hv H.size) (cwV n hts kw.1 rfl rfl rfl kw.2 ⟨?_, ?_⟩) ⟨hf_blind, va_recv (q := (C, F, N)) hK hP hci (hf_obj hj), fun U hU hW => ⟨rfl, hf_pre (l := l) hK hinj hst hE hP hS U hU hW⟩⟩ rfl hn hl.1 hst0 (lv_room hcat) hd hz
  · exact Nat.le_trans hdd hR1
  · show 8 + (nL' + 11) + 40 * d' ≤ R.locals
    omega
theorem hf_callS (g : hf_G x T ad cA E A l0 D0 cc nL own rt d) {β : Type} {d' : Nat} {y : MethodName} {cc' : ByteArray} {nL' : Nat} {rt' : Option FieldType} {As : List Value} {G' : Option β} {res' : β → Option Value × hf_St} {Kb : β → Option α} {st0 : List Value} {idx n : Nat}
    (hc : hf_Ct l0 D0 T ad cA E d' y cc' nL' rt' As σ G' res') (kw : hf_kS own idx y cc' nL' rt' n) (hdd : d' + 1 ≤ d) (hn' : nL' ≤ 21) (hn : As.length = n) (hst0 : st0 = As.reverse ++ st) (hcat : (st.map fun v => v.category).sum ≤ 8) (hd : decode cc pc = .ok (.invokestatic idx, 3))
    (k : ∀ v, hf_X x A nL z Q (Kb v) (hf_wd T ad cA (res' v).2) (pc + 3) lv ((res' v).1.toList ++ st)) (hz : z.1 ≤ x.2.2.2.1.cells ∧ z.2 ≤ x.2.2.2.1.slots) : hf_X x A nL z Q (G'.bind Kb) (hf_wd T ad cA σ) pc lv st0 := by
  obtain ⟨p, l, e, R, s, m, args, below, meth, c, D⟩ := x
  obtain ⟨⟨hx, hb, hml, hown, hts⟩, hK, hinj, hA, hst, hE, hlk, hr, hR1, hR2, rfl, rfl⟩ := id g
  subst hA
  refine hf_back (av := As) (fun v hv H locs ls hP hS hl => ?_) k
  refine va_runS (Ts := hf_TB) (own := own) (index := idx) ⟨hx, hb, hml, hown, hts⟩ (hc v hv H.size) (va_cwS n hts kw.1 rfl rfl rfl kw.2 ⟨?_, ?_⟩) ⟨hf_blind, fun U hU hW => ⟨rfl, hf_pre (l := l) hK hinj hst hE hP hS U hU hW⟩⟩ rfl hn hl.1 hst0 (lv_room hcat) hd hz
  · exact Nat.le_trans hdd hR1
  · show 8 + (nL' + 11) + 40 * d' ≤ R.locals
    omega
theorem hf_callSN (g : hf_G x T ad cA E A l0 D0 cc nL own rt d) {β : Type} {d' : Nat} {y : MethodName} {cc' : ByteArray} {nL' : Nat} {rt' : Option FieldType} {As : List Value} {G' : Option β} {res' : β → Option Value × hf_St} {Kb : β → Option α} {st0 : List Value} {idx n : Nat} {host : String}
    (hc : hf_Ct l0 D0 T ad cA E d' y cc' nL' rt' As σ G' res') (hl : ∀ U, E U → va_Nw (.methodLinkNest own idx y host) U) (kc : Cond.code y cc' nL' rt' ∈ hf_TB) (ki : Cond.initialized y.cls ∈ hf_TB) (ks : Cond.static y ∈ hf_TB) (kw : y.cls ≠ "java/lang/invoke/MethodHandle" ∧ y.cls ≠ "java/lang/invoke/VarHandle" ∧ (parseMethodDescriptor y.desc).map (fun d => d.parameters.length) = some n) (hdd : d' + 1 ≤ d) (hn' : nL' ≤ 21) (hn : As.length = n) (hst0 : st0 = As.reverse ++ st) (hcat : (st.map fun v => v.category).sum ≤ 8) (hd : decode cc pc = .ok (.invokestatic idx, 3))
    (k : ∀ v, hf_X x A nL z Q (Kb v) (hf_wd T ad cA (res' v).2) (pc + 3) lv ((res' v).1.toList ++ st)) (hz : z.1 ≤ x.2.2.2.1.cells ∧ z.2 ≤ x.2.2.2.1.slots) : hf_X x A nL z Q (G'.bind Kb) (hf_wd T ad cA σ) pc lv st0 := by
  obtain ⟨p, l, e, R, s, m, args, below, meth, c, D⟩ := x
  obtain ⟨⟨hx, hb, hml, hown, hts⟩, hK, hinj, hA, hst, hE, hlk, hr, hR1, hR2, rfl, rfl⟩ := id g
  subst hA
  refine hf_back (av := As) (fun v hv H locs ls hP hS hl2 => ?_) k
  have hG : GoodIn hf_TB (hf_ws y cc' nL' rt') := fun w hw => by
    rcases List.mem_cons.mp hw with rfl | h
    · exact ⟨kc, good_of_word (hf_tbG _ kc)⟩
    · exact ⟨h, good_of_word (hf_tbG _ h)⟩
  refine va_runSN (Ts := hf_TB) (own := own) (index := idx) ⟨hx, hb, hml, hown, hts⟩ (hc v hv H.size) ⟨va_cnB n hts hG rfl rfl rfl (hl s hE) (hts _ ki) kw ⟨?_, ?_⟩, hts _ ks, trivial⟩ ⟨hf_blind, fun U hU hW => ⟨rfl, hf_pre (l := l) hK hinj hst hE hP hS U hU hW⟩⟩ rfl hn hl2.1 hst0 (lv_room hcat) hd hz
  · exact Nat.le_trans hdd hR1
  · show 8 + (nL' + 11) + 40 * d' ≤ R.locals
    omega
end HfHeap
