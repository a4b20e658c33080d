/-! THE CLAIM OUT OF ONE WALK OF THE LAW'S BODY. Your part is whole_start (and what it stands on); all else here is the same for every law, but numbers. -/
def R_law : String := "HomeFinderLaw"
def lw_P (b : Addr) (xs : List Int32) (args : Array Value) (s : State) : Prop := args = #[.ref b] ∧ s.IntsAt b xs ∧ xs.length ≤ 3072 ∧ (Jvm.Cond.and given_1 narrow_1).before args s = true
def lw_Q (_ : Array Value) (s : State) (o : Outcome) (t : State) : Prop := o = .returned (some (.int 1)) ∧ Framed s o t [] 600000 7302250
def lw_Z (below : List Frame) (a : Array Value) (s : State) : State → Prop := fun t => ∃ o, t.status = .running ∧ Ended t below o ∧ lw_Q a s o t
/-- the law's own end, with 1 on the stack, nothing written that was there before, its room as the claim has it -/
theorem lw_ret {p : Program} {l : Launch} {e : Env} {s : State} {m : MethodId} {below : List Frame} {meth : Method} {c : Code} {b : Nat} (hx : p.tables.exec = Jvm.exec) (hb : c.code = code) (hr : meth.sig.returnType = ret) (hlocks : meth.locks = false) {pc : Nat} {H : Heap} {ls : Array Slot} (hdg : decode code pc = .ok (.ireturn, 1)) : W p l e room_1 s m #[Value.ref b] below meth c H [] 600000 7302250 (lw_Z below #[Value.ref b] s) (F0 m pc ls [.int 1]) := by
  intro T hT X
  obtain ⟨fs, hret, hrun, hended, hW, hframe⟩ := X.leave (v := some (.int 1)) (hlocks := hlocks) (fun h => by rw [hr] at h; cases h)
  have hmeth' : T.vm.method? m = some meth := X.method'
  refine ⟨T.setFrames fs, ?_, .returned (some (.int 1)), hrun, hended, rfl, ⟨_, rfl⟩, hW, hframe⟩
  jvm_step X.here [X.here.top, hx, hb, hdg, hmeth', hr, ret, narrow_b1]
  (try refine ⟨rfl, ?_⟩); (try refine ⟨rfl, ?_⟩)
  first | (intro acts; rw [hret _ acts rfl rfl rfl]) | rw [hret _ _ rfl rfl rfl]
  exact Steps.refl _
/-- what holds at the law's entry: the machine, the code, the tables' words (any of lw_tbl by 'hts w (by decide +kernel)'), the script of L ints xs at the cell b, what the Statement gives of the start (any of its parts by flat_of_before) -/
def lw_At (p : Program) (s : State) (m : MethodId) (meth : Method) (c : Code) (b L : Nat) (xs : Nat → Int32) : Prop :=
  p.tables.exec = Jvm.exec ∧ c.code = code ∧ meth.sig.returnType = ret ∧ c.maxLocals = 4 ∧ s.vm.findClass R_law = some m.cls ∧ (∀ w ∈ lw_tbl, w.before #[Value.ref b] s = true) ∧ va_X b L xs s s.heap ∧ b < s.heap.size ∧ meth.locks = false ∧ (Jvm.Cond.and given_1 narrow_1).before #[Value.ref b] s = true
/-! The start: the two objects, their worlds by the tables. -/
def lw_s0c : hf_St := (fun j k => if j = 9 ∧ k = 6 then -1 else 0, fun a => if a = 30 then (fun i => if i < 7 then (-1) else (fun _ => 0) i) else if a = 31 then (fun i => if i < 5 then (-1) else (fun _ => 0) i) else fun _ => 0)
def lw_s0m : hf_St := (fun _ _ => 0, fun _ _ => 0)
theorem lw_hr0 : hr lw_s0c lw_s0m := by
  refine ⟨0, 0, 0, 0, 0, 0, 0, ⟨rfl, rfl, by omega⟩, ⟨rfl, rfl, by omega, rfl, rfl, rfl, rfl, rfl, fun i hi => by omega, fun i _ => ⟨rfl, rfl⟩⟩, ⟨rfl, rfl, by omega, rfl, rfl, fun h hh => by omega⟩, ⟨rfl, rfl, by omega, rfl, rfl, rfl, fun i hi => by omega⟩, ⟨rfl, rfl, by omega, rfl, rfl, rfl, fun i hi => by omega⟩, ⟨rfl, rfl, by omega, fun i hi => by omega⟩, ⟨rfl, rfl, by omega, fun k hk => by omega⟩, ⟨fun i hi => ?_, fun i hi => by omega, Or.inl ⟨rfl, fun k hk => ?_⟩⟩⟩
  · show (if i < 7 then (-1 : Int32) else 0) = if i < 0 then _ else -1
    rw [if_pos hi, if_neg (by omega)]
  · show (if k < 5 then (-1 : Int32) else 0) = -1
    rw [if_pos hk]
/-- the cells of a table's world, one by one -/
theorem lw_cell {T : hf_Tb} {ad : Nat → Nat} {cA : Nat → ClassId} {σ : hf_St} {i : Nat} (hi : i < hf_N T) : ∃ q, (hf_wd T ad cA σ)[i]? = some q ∧ q.1 = ad i := by
  have hl : i < (hf_wd T ad cA σ).length := by rw [hf_len]; exact hi
  exact ⟨_, List.getElem?_eq_getElem hl, (hf_adr (List.getElem?_eq_getElem hl)).1⟩
theorem lw_inj {A : Nat → Prop} {T : hf_Tb} {ad : Nat → Nat} {cA : Nat → ClassId} {σ : hf_St} (h : va_D A (hf_wd T ad cA σ)) : hf_inj T ad ∧ ∀ i, i < hf_N T → A (ad i) := by
  refine ⟨fun i j hi hj e => ?_, fun i hi => ?_⟩
  · obtain ⟨p, a1, a2⟩ := lw_cell (ad := ad) (cA := cA) (σ := σ) hi
    obtain ⟨q, b1, b2⟩ := lw_cell (ad := ad) (cA := cA) (σ := σ) hj
    exact h.1 i j p q a1 b1 (by rw [a2, b2]; exact e)
  · obtain ⟨p, a1, a2⟩ := lw_cell (ad := ad) (cA := cA) (σ := σ) hi
    rw [← a2]; exact h.2 i p a1
theorem lw_at {ws w : va_W} {is : List Nat} (h : is.map (fun i => w[i]?) = ws.map some) {k : Nat} {q : Nat × va_E} (hk : ws[k]? = some q) : ∃ i, is[k]? = some i ∧ w[i]? = some q := by
  have h1 : (is.map (fun i => w[i]?))[k]? = some (some q) := by rw [h, List.getElem?_map, hk]; rfl
  rw [List.getElem?_map] at h1
  cases hi : is[k]? with
  | none => rw [hi] at h1; cases h1
  | some i => rw [hi] at h1; exact ⟨i, rfl, Option.some.inj h1⟩
theorem lw_apart {A : Nat → Prop} {w : va_W} {T1 T2 : hf_Tb} {ad1 ad2 : Nat → Nat} {c1 c2 : Nat → ClassId} {σ1 σ2 : hf_St} (hD : va_D A w) (n : Nat) (is1 is2 : List Nat) (h1 : is1.map (fun i => w[i]?) = (hf_wd T1 ad1 c1 σ1).map some) (h2 : is2.map (fun i => w[i]?) = (hf_wd T2 ad2 c2 σ2).map some) (b1 : ∀ i ∈ is1, i < n) (b2 : ∀ i ∈ is2, n ≤ i) : ∀ i j, i < hf_N T1 → j < hf_N T2 → ad1 i ≠ ad2 j := by
  intro i j hi hj e
  obtain ⟨p, a1, a2⟩ := lw_cell (ad := ad1) (cA := c1) (σ := σ1) hi
  obtain ⟨q, d1, d2⟩ := lw_cell (ad := ad2) (cA := c2) (σ := σ2) hj
  obtain ⟨k1, e1, e2⟩ := lw_at h1 a1
  obtain ⟨k2, f1, f2⟩ := lw_at h2 d1
  have := hD.1 k1 k2 p q e2 f2 (by rw [a2, d2]; exact e)
  have x1 := b1 k1 (List.mem_of_getElem? e1)
  have x2 := b2 k2 (List.mem_of_getElem? f1)
  omega
/-! A table's world, by plain recursion. -/
def hf_mi {α β : Type} (f : Nat → α → β) : Nat → List α → List β
  | _, [] => []
  | n, a :: l => f n a :: hf_mi f (n + 1) l
theorem hf_mi_eq {α β : Type} (f : Nat → α → β) : ∀ (l : List α) (n : Nat), l.mapIdx (fun i a => f (n + i) a) = hf_mi f n l := by
  intro l
  induction l with
  | nil => intro n; rfl
  | cons a l ih =>
    intro n
    rw [List.mapIdx_cons, hf_mi, ← ih (n + 1)]
    congr 1
    congr 1
    funext i a
    rw [Nat.add_assoc, Nat.add_comm 1 i]
theorem hf_mi_0 {α β : Type} (f : Nat → α → β) (l : List α) : l.mapIdx f = hf_mi f 0 l := by
  rw [← hf_mi_eq f l 0]
  congr 1
  funext i a
  rw [Nat.zero_add]
def hf_wo' (ad : Nat → Nat) (σ : hf_St) (j : Nat) (o : Nat × List (Option Nat)) : Nat × va_E := (ad j, .inr (o.1, hf_mi (fun k f => hf_fv ad σ j k f) 0 o.2))
def hf_wd' (T : hf_Tb) (ad : Nat → Nat) (cA : Nat → ClassId) (σ : hf_St) : va_W := hf_mi (hf_wo' ad σ) 0 T.1 ++ hf_mi (hf_wa ad cA σ T.1.length) 0 T.2
theorem hf_wd_mi (T : hf_Tb) (ad : Nat → Nat) (cA : Nat → ClassId) (σ : hf_St) : hf_wd T ad cA σ = hf_wd' T ad cA σ := by
  unfold hf_wd hf_wd'
  rw [hf_mi_0, hf_mi_0]
  congr 1
  congr 1
  funext j o
  unfold hf_wo hf_wo'
  rw [hf_mi_0]
theorem hf_ty_mi (T : hf_Tb) (cA : Nat → ClassId) : hf_ty T cA = hf_mi (fun a x => (cA a, x.2)) 0 T.2 := by
  unfold hf_ty
  rw [hf_mi_0]
