/-! The law's own rows: two worlds side by side, the script, a call of either side. -/
def lw_G (x : hf_Cx) (A : Nat → Prop) (E : State → Prop) (adc adm : Nat → Nat) (ca cm : Nat → ClassId) (l0 : Launch) (D0 : va_G) : Prop := hf_C x cL_law 4 RL ∧ match x with
  | (_, l, _, R, s, _, _, _, _, _, D) => R = room_1 ∧ l = l0 ∧ D = D0 ∧ A = (fun q => s.heap.size ≤ q) ∧ va_K D vwCl (hf_ty hcT ca) s ∧ va_K D vwCl (hf_ty hmT cm) s ∧ hf_inj hcT adc ∧ hf_inj hmT adm ∧ (∀ i j, i < hf_N hcT → j < hf_N hmT → adc i ≠ adm j) ∧ (∀ i, i < hf_N hcT → s.heap.size ≤ adc i) ∧ (∀ i, i < hf_N hmT → s.heap.size ≤ adm i) ∧ hf_stab hcT adc E ∧ E s
section LwRows
variable {α : Type} {x : hf_Cx} {A : Nat → Prop} {E : State → Prop} {adc adm : Nat → Nat} {ca cm : Nat → ClassId} {l0 : Launch} {D0 : va_G} {z : Nat × Nat} {Q : α → State → Prop} {K : Option α} {w : va_W} {pc : Nat} {lv : List (Nat × Value)} {st st0 : List Value}
theorem lw_left {D : va_G} {cl : List vw_C} {w1 w2 : va_W} {H : Heap} (h : va_P D cl (w1 ++ w2) H) : va_P D cl w1 H := fun k q hk => h k q (by
  have hl := (List.getElem?_eq_some_iff.mp hk).1
  rw [List.getElem?_append_left hl]; exact hk)
theorem lw_right {D : va_G} {cl : List vw_C} {w1 w2 : va_W} {H : Heap} (h : va_P D cl (w1 ++ w2) H) : va_P D cl w2 H := fun k q hk => h (w1.length + k) q (by
  rw [List.getElem?_append_right (Nat.le_add_right _ _), Nat.add_sub_cancel_left]; exact hk)
/-- a world whose cells lie apart from those of T stays -/
theorem lw_keep {D : va_G} {T T2 : hf_Tb} {ad ad2 : Nat → Nat} {c2 : Nat → ClassId} {σ2 : hf_St} {H H1 : Heap} (hd : ∀ i j, i < hf_N T → j < hf_N T2 → ad i ≠ ad2 j) (h : va_P D vwCl (hf_wd T2 ad2 c2 σ2) H) (hk : ∀ q, q < H.size → ¬ hf_A T ad H.size q → H1[q]? = H[q]?) : va_P D vwCl (hf_wd T2 ad2 c2 σ2) H1 := by
  refine h.kept (fun k q hq => ?_)
  have ha := hf_adr hq
  have hlt := (h k q hq).lt
  refine hk _ hlt (fun hA => ?_)
  rcases hA with ⟨j, hj, e⟩ | e
  · exact hd j k hj ha.2 (by rw [← e, ha.1])
  · omega
theorem lw_call {p : Program} {l : Launch} {e : Env} {s : State} {m : MethodId} {args : Array Value} {below : List Frame} {meth : Method} {c : Code} {D : va_G} {T : hf_Tb} {ad : Nat → Nat} {cA : Nat → ClassId} {E : State → Prop} {β : Type} {d' : Nat} {y : MethodName} {cc' : ByteArray} {nL' : Nat} {rt' : Option FieldType} {As : List Value} {σ : hf_St} {G' : Option β} {res' : β → Option Value × hf_St} {v : β} {C : String} {idx n ci : Nat} {fl : List (Option Nat)} {F : u_T} {N : Nat} {w w' : va_W}
    (hC : hf_C (p, l, e, room_1, s, m, args, below, meth, c, D) cL_law 4 RL) (hK : va_K D vwCl (hf_ty T cA) s) (hinj : hf_inj T ad) (hlo : ∀ i, i < hf_N T → s.heap.size ≤ ad i) (hst : hf_stab T ad E) (hE : E s)
    (hw : ∀ H, va_P D vwCl w H → va_P D vwCl (hf_wd T ad cA σ) H) (hw' : ∀ H H1, va_P D vwCl w H → va_P D vwCl (hf_wd T ad cA (res' v).2) H1 → (∀ q, q < H.size → ¬ hf_A T ad H.size q → H1[q]? = H[q]?) → va_P D vwCl w' H1)
    (hv : G' = some v) (hc : hf_Ct l D T ad cA E d' y cc' nL' rt' (.ref (ad 0) :: As) σ G' res') (kw : hf_kV RL idx C y cc' nL' rt' n) (hdd : d' ≤ 2000) (hn' : nL' ≤ 21) (hj : T.1[0]? = some (ci, fl)) (hci : vwCl[ci]? = some (C, F, N)) (hn : As.length = n) (hst0 : st0 = As.reverse ++ .ref (ad 0) :: st) (hcat : (st.map fun v => v.category).sum ≤ 8) (hd : decode cL_law pc = .ok (.invokevirtual idx, 3)) (hz : z.1 ≤ 600000 ∧ z.2 ≤ 7302250)
    (k : hf_X (p, l, e, room_1, s, m, args, below, meth, c, D) (fun q => s.heap.size ≤ q) 4 z Q K w' (pc + 3) lv ((res' v).1.toList ++ st)) : hf_X (p, l, e, room_1, s, m, args, below, meth, c, D) (fun q => s.heap.size ≤ q) 4 z Q K w pc lv st0 := by
  obtain ⟨hx, hb, hml, hown, hts⟩ := id hC
  intro u hu H locs ls hP hS hl T0 hT0 X0
  have hP1 := hw H hP
  have run : va_Run p l e room_1 s m args below meth c H locs z.1 z.2 0 0 (F0 m pc ls st0) st (hf_Qc T D ad cA H.size (res' v) (Value.ref (ad 0) :: As).toArray) (hf_A T ad H.size) := by
    refine va_runV (Ts := hf_TB) (C := C) (own := RL) (index := idx) ⟨hx, hb, hml, hown, hts⟩ (hc v hv H.size) (cwV n hts kw.1 rfl rfl rfl kw.2 ⟨?_, ?_⟩) ⟨hf_blind, va_recv (q := (C, F, N)) hK hP1 hci (hf_obj hj), fun U hU hW => ⟨rfl, by rw [hU], by rw [hU]; exact hP1, va_K.moved hW.alike hK, hinj, hst, hst s U hE (Or.inl hW) (by rw [hU]; exact hS.1) (fun q h1 _ => by rw [hU]; exact hS.2.1 q h1 (Nat.not_le.mpr h1))⟩⟩ rfl hn hl.1 hst0 (lv_room hcat) hd ⟨?_, ?_⟩
    · show d' + 1 ≤ 2048
      omega
    · show 8 + (nL' + 11) + 40 * d' ≤ 84000
      omega
    · exact hz.1
    · exact hz.2
  obtain ⟨rv, st₀, t, T', L, h0, X', hL, e1, e2, ⟨hq1, hq2, hq3, hq4⟩, hstp⟩ := run T0 hT0 X0
  cases hq1
  rw [h0] at hq3 hq4
  have hS' : va_S (fun q => s.heap.size ≤ q) s.heap T'.heap (locs ++ L) := by
    refine ⟨Nat.le_trans hS.1 (by rw [e1]; exact hq3), fun q h1 h2 => ?_, fun q hq => ?_⟩
    · rw [e1, hq4 q (Nat.lt_of_lt_of_le h1 hS.1) (fun hA => ?_)]
      · exact hS.2.1 q h1 h2
      · rcases hA with ⟨j, hj2, e⟩ | h
        · have := hlo j hj2
          omega
        · have := hS.1
          omega
    · rcases List.mem_append.mp hq with h | h
      · exact hS.2.2 q h
      · rcases hL q h with ⟨j, hj2, e⟩ | h
        · have := hlo j hj2
          show s.heap.size ≤ q.base
          omega
        · exact Nat.le_trans hS.1 h
  obtain ⟨t2, a1, b1⟩ := k u hu T'.heap (locs ++ L) ls (by rw [e1]; exact hw' H t.heap hP hq2 hq4) hS' hl T' rfl X'
  exact ⟨t2, hstp t2 a1, b1⟩
theorem lw_callL (g : lw_G x A E adc adm ca cm l0 D0) {β : Type} {d' : Nat} {y : MethodName} {cc' : ByteArray} {nL' : Nat} {rt' : Option FieldType} {As : List Value} {σ σm : hf_St} {G' : Option β} {res' : β → Option Value × hf_St} {v : β} {idx n : Nat}
    (hv : G' = some v) (hc : hf_Ct l0 D0 hcT adc ca E d' y cc' nL' rt' (.ref (adc 0) :: As) σ G' res') (kw : hf_kV RL idx RX11 y cc' nL' rt' n) (hdd : d' ≤ 2000) (hn' : nL' ≤ 21) (hn : As.length = n) (hst0 : st0 = As.reverse ++ .ref (adc 0) :: st) (hcat : (st.map fun v => v.category).sum ≤ 8) (hd : decode cL_law pc = .ok (.invokevirtual idx, 3)) (hz : z.1 ≤ 600000 ∧ z.2 ≤ 7302250)
    (k : hf_X x A 4 z Q K (hf_wd hcT adc ca (res' v).2 ++ hf_wd hmT adm cm σm) (pc + 3) lv ((res' v).1.toList ++ st)) : hf_X x A 4 z Q K (hf_wd hcT adc ca σ ++ hf_wd hmT adm cm σm) pc lv st0 := by
  obtain ⟨p, l, e, R, s, m, args, below, meth, c, D⟩ := x
  obtain ⟨hC, rfl, rfl, rfl, rfl, hKc, hKm, hic, him, hdis, hlc, hlm, hst, hE⟩ := g
  exact lw_call hC hKc hic hlc hst hE (fun H hP => lw_left hP) (fun H H1 hP hP1 hk => hP1.app (lw_keep hdis (lw_right hP) hk)) hv hc kw hdd hn' rfl rfl hn hst0 hcat hd hz k
theorem lw_callR (g : lw_G x A E adc adm ca cm l0 D0) {β : Type} {d' : Nat} {y : MethodName} {cc' : ByteArray} {nL' : Nat} {rt' : Option FieldType} {As : List Value} {σ σc : hf_St} {G' : Option β} {res' : β → Option Value × hf_St} {v : β} {idx n : Nat}
    (hv : G' = some v) (hc : hf_Ct l0 D0 hmT adm cm (fun _ => True) d' y cc' nL' rt' (.ref (adm 0) :: As) σ G' res') (kw : hf_kV RL idx RX12 y cc' nL' rt' n) (hdd : d' ≤ 2000) (hn' : nL' ≤ 21) (hn : As.length = n) (hst0 : st0 = As.reverse ++ .ref (adm 0) :: st) (hcat : (st.map fun v => v.category).sum ≤ 8) (hd : decode cL_law pc = .ok (.invokevirtual idx, 3)) (hz : z.1 ≤ 600000 ∧ z.2 ≤ 7302250)
    (k : hf_X x A 4 z Q K (hf_wd hcT adc ca σc ++ hf_wd hmT adm cm (res' v).2) (pc + 3) lv ((res' v).1.toList ++ st)) : hf_X x A 4 z Q K (hf_wd hcT adc ca σc ++ hf_wd hmT adm cm σ) pc lv st0 := by
  obtain ⟨p, l, e, R, s, m, args, below, meth, c, D⟩ := x
  obtain ⟨hC, rfl, rfl, rfl, rfl, hKc, hKm, hic, him, hdis, hlc, hlm, hst, hE⟩ := g
  exact lw_call (E := fun _ => True) hC hKm him hlm (fun _ _ _ _ _ _ => trivial) trivial (fun H hP => lw_right hP) (fun H H1 hP hP1 hk => (lw_keep (fun i j hi hj e => hdis j i hj hi e.symm) (lw_left hP) hk).app hP1) hv hc kw hdd hn' rfl rfl hn hst0 hcat hd hz k
/-- the script's cell -/
def lw_X (x : hf_Cx) (b L : Nat) (xs : Nat → Int32) : Prop := match x with
  | (_, _, _, _, s, _, _, _, _, _, _) => va_X b L xs s s.heap ∧ b < s.heap.size
theorem lw_sld (g : lw_G x A E adc adm ca cm l0 D0) {b L : Nat} {xs : Nat → Int32} (hX : lw_X x b L xs) {i : Int32} (hin : vp_in i L) (hd : decode cL_law pc = .ok (.iaload, 1)) (k : hf_X x A 4 z Q K w (pc + 1) lv (.int (xs i.toNatClampNeg) :: st)) : hf_X x A 4 z Q K w pc lv (.int i :: .ref b :: st) := by
  obtain ⟨p, l, e, R, s, m, args, below, meth, c, D⟩ := x
  obtain ⟨⟨hx, hb, -⟩, -, -, -, rfl, -⟩ := id g
  exact fun u hu H locs ls hP hS hl => va_sld hx hb hX.1 hX.2 (Nat.not_le.mpr hX.2) hS hin hd (k u hu H locs ls hP hS hl)
theorem lw_slen (g : lw_G x A E adc adm ca cm l0 D0) {b L : Nat} {xs : Nat → Int32} (hX : lw_X x b L xs) (hd : decode cL_law pc = .ok (.arraylength, 1)) (k : hf_X x A 4 z Q K w (pc + 1) lv (.int (nI L) :: st)) : hf_X x A 4 z Q K w pc lv (.ref b :: st) := by
  obtain ⟨p, l, e, R, s, m, args, below, meth, c, D⟩ := x
  obtain ⟨⟨hx, hb, -⟩, -, -, -, rfl, -⟩ := id g
  exact fun u hu H locs ls hP hS hl => va_slen hx hb hX.1 hX.2 (Nat.not_le.mpr hX.2) hS hd (k u hu H locs ls hP hS hl)
/-- a number asked whether it is 0: four instructions -/
theorem lw_bool {cc : ByteArray} {nL : Nat} {own : String} (g : hf_C x cc nL own) {a : Int32} {pc1 pc2 pc3 pc4 : Nat} (h1 : pc1 = pc + 3) (h2 : pc2 = pc + 4) (h3 : pc3 = pc + 7) (h4 : pc4 = pc + 8) (hd0 : decode cc pc = .ok (.ifCond .eq 7, 3)) (hd1 : decode cc pc1 = .ok (.iconst 1, 1)) (hd2 : decode cc pc2 = .ok (.goto 4, 3)) (hd3 : decode cc pc3 = .ok (.iconst 0, 1)) (k : hf_X x A nL z Q K w pc4 lv (.int (if a = 0 then 0 else 1) :: st)) : hf_X x A nL z Q K w pc lv (.int a :: st) := by
  subst h1; subst h2; subst h3; subst h4
  obtain ⟨p, l, e, R, s, m, args, below, meth, c, D⟩ := x
  intro u hu H locs ls hP hS hl
  refine lv_if_eq g.1 g.2.1 (tgt := pc + 7) hd0 (by omega) (fun hc => ?_) (fun hc => ?_)
  · rw [if_pos hc] at k
    exact hf_iconst (v := 0) g hd3 (by decide) k u hu H locs ls hP hS hl
  · rw [if_neg hc] at k
    exact hf_iconst (v := 1) g hd1 (by decide) (hf_goto (tgt := pc + 8) g hd2 (by omega) k) u hu H locs ls hP hS hl
end LwRows
