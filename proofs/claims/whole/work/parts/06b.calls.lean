/-! Answers by their kinds: a number and the same state; a number and a state; a state alone. -/
abbrev hf_rp (σ : hf_St) : Int32 → Option Value × hf_St := fun r => (some (.int r), σ)
abbrev hf_ri : Int32 × hf_St → Option Value × hf_St := fun v => (some (.int v.1), v.2)
abbrev hf_rv : hf_St → Option Value × hf_St := fun σ => (none, σ)
def hf_b1 {α : Type} (G : Option Int32) (K : Int32 → Option α) : Option α := G.bind K
def hf_b2 {α : Type} (G : Option (Int32 × hf_St)) (K : Int32 → hf_St → Option α) : Option α := G.bind (fun v => K v.1 v.2)
def hf_b0 {α : Type} (G : Option hf_St) (K : hf_St → Option α) : Option α := G.bind K
def hf_max (a b : Int32) : Int32 := if a < b then b else a
def hf_min (a b : Int32) : Int32 := if b < a then b else a
def hf_fuel : Nat := 1000000
theorem hf_kF_of {own C : String} {F : u_T} {N idx ci k : Nat} (h1 : vwCl[ci]? = some (C, F, N)) (h2 : k < N) (h3 : ∀ w ∈ u_ws C F N, w ∈ hf_TB) (h4 : Cond.fieldLink own idx (F k).1 (F k).2.1 (F k).2.2.1 ∈ lw_tbl) : hf_kF own idx ci k := ⟨C, F, N, h1, h2, h3, hf_tb h4 rfl⟩
theorem hf_kP_of {own C : String} {F : u_T} {N idx ci k : Nat} {ty0 : Nat → FieldType} {ty : FieldType} (h1 : vwCl[ci]? = some (C, F, N)) (h2 : k < N) (h3 : ∀ w ∈ u_ws C F N, w ∈ hf_TB) (h4 : Cond.fieldLink own idx (F k).1 (F k).2.1 (F k).2.2.1 ∈ lw_tbl) (h5 : ∀ k, k < N → parseFieldDescriptor (F k).2.2.1 = some (ty0 k)) (h6 : ∀ a, a < N → ∀ b, b < N → a ≠ b → (F a).2.1 ≠ (F b).2.1) (h7 : (F k).2.2.2 = false) (h8 : ty0 k = ty) : hf_kP own idx ci k ty := ⟨C, F, N, ty0, h1, h2, h3, hf_tb h4 rfl, h5, h6, h7, h8⟩
theorem hf_gw {y : MethodName} {cc : ByteArray} {nL : Nat} {rt : Option FieldType} (h : Cond.code y cc nL rt ∈ lw_tbl) : GoodIn hf_TB (hf_ws y cc nL rt) := fun w hw => by
  rcases List.mem_cons.mp hw with rfl | h2
  · exact ⟨hf_tb h rfl, good_of_word rfl⟩
  · exact ⟨h2, good_of_word (hf_tbG _ h2)⟩
theorem hf_kV_of {own C : String} {idx n nL : Nat} {y : MethodName} {cc : ByteArray} {rt : Option FieldType} (h1 : Cond.methodLink own idx y ∈ lw_tbl) (h2 : Cond.instanceMethod y ∈ lw_tbl) (h3 : Cond.selects C y y ∈ lw_tbl) (h4 : Cond.initialized C ∈ lw_tbl) (h5 : Cond.code y cc nL rt ∈ lw_tbl) (hd : y.cls = C ∧ y.cls ≠ "java/lang/invoke/MethodHandle" ∧ y.cls ≠ "java/lang/invoke/VarHandle" ∧ (parseMethodDescriptor y.desc).map (fun d => d.parameters.length) = some n) : hf_kV own idx C y cc nL rt n := by
  refine ⟨fun w hw => ?_, hd⟩
  rcases List.mem_append.mp hw with h | h
  · simp only [List.mem_cons, List.not_mem_nil, or_false] at h
    rcases h with rfl | rfl | rfl | rfl
    · exact ⟨hf_tb h1 rfl, good_of_word rfl⟩
    · exact ⟨hf_tb h2 rfl, good_of_word rfl⟩
    · exact ⟨hf_tb h3 rfl, good_of_word rfl⟩
    · exact ⟨hf_tb h4 rfl, good_of_word rfl⟩
  · exact hf_gw h5 w h
theorem hf_kS_of {own : String} {idx n nL : Nat} {y : MethodName} {cc : ByteArray} {rt : Option FieldType} (h1 : Cond.methodLink own idx y ∈ lw_tbl) (h2 : Cond.static y ∈ lw_tbl) (h4 : Cond.initialized y.cls ∈ lw_tbl) (h5 : Cond.code y cc nL rt ∈ lw_tbl) (hd : y.cls ≠ "java/lang/invoke/MethodHandle" ∧ y.cls ≠ "java/lang/invoke/VarHandle" ∧ (parseMethodDescriptor y.desc).map (fun d => d.parameters.length) = some n) : hf_kS own idx y cc nL rt n := by
  refine ⟨fun w hw => ?_, hd⟩
  rcases List.mem_append.mp hw with h | h
  · simp only [List.mem_cons, List.not_mem_nil, or_false] at h
    rcases h with rfl | rfl | rfl
    · exact ⟨hf_tb h1 rfl, good_of_word rfl⟩
    · exact ⟨hf_tb h2 rfl, good_of_word rfl⟩
    · exact ⟨hf_tb h4 rfl, good_of_word rfl⟩
  · exact hf_gw h5 w h
section HfCalls
variable {α : Type} {x : hf_Cx} {T : hf_Tb} {ad : Nat → Nat} {cA : Nat → ClassId} {E : State → Prop} {A : Nat → Prop} {l0 : Launch} {D0 : va_G} {nL : Nat} {Q : α → State → Prop} {K : Option α} {σ : hf_St} {pc : Nat} {lv : List (Nat × Value)} {st st0 : List Value} {cc : ByteArray} {own : String} {rt : Option FieldType} {d d' : Nat} {y : MethodName} {cc' : ByteArray} {nL' : Nat} {rt' : Option FieldType} {As : List Value} {C : String} {idx n j ci : Nat} {fl : List (Option Nat)} {F : u_T} {N : Nat}
theorem hf_callV1 (g : hf_G x T ad cA E A l0 D0 cc nL own rt d) {G' : Option Int32} {Kb : Int32 → Option α} (hc : hf_Ct l0 D0 T ad cA E d' y cc' nL' rt' (.ref (ad j) :: As) σ G' (hf_rp σ)) (kw : hf_kV own idx C y cc' nL' rt' n) (hdd : d' + 1 ≤ d) (hn' : nL' ≤ 21) (hj : T.1[j]? = some (ci, fl)) (hci : vwCl[ci]? = some (C, F, N)) (hn : As.length = n) (hst0 : st0 = As.reverse ++ .ref (ad j) :: st) (hcat : (st.map fun v => v.category).sum ≤ 8) (hd : decode cc pc = .ok (.invokevirtual idx, 3))
    (k : ∀ v : Int32, hf_X x A nL (0, 0) Q (Kb v) (hf_wd T ad cA σ) (pc + 3) lv (.int v :: st)) : hf_X x A nL (0, 0) Q (hf_b1 G' Kb) (hf_wd T ad cA σ) pc lv st0 := hf_callV g hc kw hdd hn' hj hci hn hst0 hcat hd (fun v => k v) ⟨Nat.zero_le _, Nat.zero_le _⟩
theorem hf_callV2 (g : hf_G x T ad cA E A l0 D0 cc nL own rt d) {G' : Option (Int32 × hf_St)} {Kb : Int32 → hf_St → Option α} (hc : hf_Ct l0 D0 T ad cA E d' y cc' nL' rt' (.ref (ad j) :: As) σ G' hf_ri) (kw : hf_kV own idx C y cc' nL' rt' n) (hdd : d' + 1 ≤ d) (hn' : nL' ≤ 21) (hj : T.1[j]? = some (ci, fl)) (hci : vwCl[ci]? = some (C, F, N)) (hn : As.length = n) (hst0 : st0 = As.reverse ++ .ref (ad j) :: st) (hcat : (st.map fun v => v.category).sum ≤ 8) (hd : decode cc pc = .ok (.invokevirtual idx, 3))
    (k : ∀ (v : Int32) (σ' : hf_St), hf_X x A nL (0, 0) Q (Kb v σ') (hf_wd T ad cA σ') (pc + 3) lv (.int v :: st)) : hf_X x A nL (0, 0) Q (hf_b2 G' Kb) (hf_wd T ad cA σ) pc lv st0 := hf_callV g hc kw hdd hn' hj hci hn hst0 hcat hd (fun v => k v.1 v.2) ⟨Nat.zero_le _, Nat.zero_le _⟩
theorem hf_callV0 (g : hf_G x T ad cA E A l0 D0 cc nL own rt d) {G' : Option hf_St} {Kb : hf_St → Option α} (hc : hf_Ct l0 D0 T ad cA E d' y cc' nL' rt' (.ref (ad j) :: As) σ G' hf_rv) (kw : hf_kV own idx C y cc' nL' rt' n) (hdd : d' + 1 ≤ d) (hn' : nL' ≤ 21) (hj : T.1[j]? = some (ci, fl)) (hci : vwCl[ci]? = some (C, F, N)) (hn : As.length = n) (hst0 : st0 = As.reverse ++ .ref (ad j) :: st) (hcat : (st.map fun v => v.category).sum ≤ 8) (hd : decode cc pc = .ok (.invokevirtual idx, 3))
    (k : ∀ σ' : hf_St, hf_X x A nL (0, 0) Q (Kb σ') (hf_wd T ad cA σ') (pc + 3) lv st) : hf_X x A nL (0, 0) Q (hf_b0 G' Kb) (hf_wd T ad cA σ) pc lv st0 := hf_callV g hc kw hdd hn' hj hci hn hst0 hcat hd (fun v => k v) ⟨Nat.zero_le _, Nat.zero_le _⟩
theorem hf_callVr (g : hf_G x T ad cA E A l0 D0 cc nL own rt d) {q : Nat} (hc : hf_Ct l0 D0 T ad cA E d' y cc' nL' rt' (.ref (ad j) :: As) σ (some ()) (fun _ : Unit => (some (.ref q), σ))) (kw : hf_kV own idx C y cc' nL' rt' n) (hdd : d' + 1 ≤ d) (hn' : nL' ≤ 21) (hj : T.1[j]? = some (ci, fl)) (hci : vwCl[ci]? = some (C, F, N)) (hn : As.length = n) (hst0 : st0 = As.reverse ++ .ref (ad j) :: st) (hcat : (st.map fun v => v.category).sum ≤ 8) (hd : decode cc pc = .ok (.invokevirtual idx, 3))
    (k : hf_X x A nL (0, 0) Q K (hf_wd T ad cA σ) (pc + 3) lv (.ref q :: st)) : hf_X x A nL (0, 0) Q K (hf_wd T ad cA σ) pc lv st0 := hf_callV (Kb := fun _ => K) g hc kw hdd hn' hj hci hn hst0 hcat hd (fun _ => k) ⟨Nat.zero_le _, Nat.zero_le _⟩
theorem hf_callS1 (g : hf_G x T ad cA E A l0 D0 cc nL own rt d) {G' : Option Int32} {Kb : Int32 → Option α} (hc : hf_Ct l0 D0 T ad cA E d' y cc' nL' rt' As σ G' (hf_rp σ)) (kw : hf_kS own idx y cc' nL' rt' n) (hdd : d' + 1 ≤ d) (hn' : nL' ≤ 21) (hn : As.length = n) (hst0 : st0 = As.reverse ++ st) (hcat : (st.map fun v => v.category).sum ≤ 8) (hd : decode cc pc = .ok (.invokestatic idx, 3))
    (k : ∀ v : Int32, hf_X x A nL (0, 0) Q (Kb v) (hf_wd T ad cA σ) (pc + 3) lv (.int v :: st)) : hf_X x A nL (0, 0) Q (hf_b1 G' Kb) (hf_wd T ad cA σ) pc lv st0 := hf_callS g hc kw hdd hn' hn hst0 hcat hd (fun v => k v) ⟨Nat.zero_le _, Nat.zero_le _⟩
theorem hf_callS0 (g : hf_G x T ad cA E A l0 D0 cc nL own rt d) {G' : Option hf_St} {Kb : hf_St → Option α} (hc : hf_Ct l0 D0 T ad cA E d' y cc' nL' rt' As σ G' hf_rv) (kw : hf_kS own idx y cc' nL' rt' n) (hdd : d' + 1 ≤ d) (hn' : nL' ≤ 21) (hn : As.length = n) (hst0 : st0 = As.reverse ++ st) (hcat : (st.map fun v => v.category).sum ≤ 8) (hd : decode cc pc = .ok (.invokestatic idx, 3))
    (k : ∀ σ' : hf_St, hf_X x A nL (0, 0) Q (Kb σ') (hf_wd T ad cA σ') (pc + 3) lv st) : hf_X x A nL (0, 0) Q (hf_b0 G' Kb) (hf_wd T ad cA σ) pc lv st0 := hf_callS g hc kw hdd hn' hn hst0 hcat hd (fun v => k v) ⟨Nat.zero_le _, Nat.zero_le _⟩
/-- the words of a call of Math.max or Math.min -/
def hf_kM (own : String) (idx : Nat) (y : MethodName) (cc : ByteArray) : Prop := Cond.methodLink own idx y ∈ hf_TB ∧ Cond.static y ∈ hf_TB ∧ Cond.initialized "java/lang/Math" ∈ hf_TB ∧ Cond.code y cc 2 (some .int) ∈ hf_TB
theorem hf_mmax (g : hf_G x T ad cA E A l0 D0 cc nL own rt d) {w : va_W} {a b : Int32} (kw : hf_kM own idx Lib.Math.max.name Lib.Math.max.code) (hd1 : 1 ≤ d) (hcat : (st.map fun v => v.category).sum ≤ 8) (hd : decode cc pc = .ok (.invokestatic idx, 3)) (k : hf_X x A nL (0, 0) Q K w (pc + 3) lv (.int (hf_max a b) :: st)) : hf_X x A nL (0, 0) Q K w pc lv (.int b :: .int a :: st) := by
  obtain ⟨p, l, e, R, s, m, args, below, meth, c, D⟩ := x
  obtain ⟨⟨hx, hb, hml, hown, hts⟩, hK, hinj, hA, hst, hE, hlk, hr, hR1, hR2, -⟩ := id g
  intro u hu H locs ls hP hS hl
  exact va_mmax hx hb (by rw [hml, hl.1]) hown (hts _ kw.1) (hts _ kw.2.1) (hts _ kw.2.2.1) (hts _ kw.2.2.2) (by omega) (by omega) (Nat.zero_le _) (Nat.zero_le _) hd (k u hu H locs ls hP hS hl)
theorem hf_mmin (g : hf_G x T ad cA E A l0 D0 cc nL own rt d) {w : va_W} {a b : Int32} (kw : hf_kM own idx Lib.Math.min.name Lib.Math.min.code) (hd1 : 1 ≤ d) (hcat : (st.map fun v => v.category).sum ≤ 8) (hd : decode cc pc = .ok (.invokestatic idx, 3)) (k : hf_X x A nL (0, 0) Q K w (pc + 3) lv (.int (hf_min a b) :: st)) : hf_X x A nL (0, 0) Q K w pc lv (.int b :: .int a :: st) := by
  obtain ⟨p, l, e, R, s, m, args, below, meth, c, D⟩ := x
  obtain ⟨⟨hx, hb, hml, hown, hts⟩, hK, hinj, hA, hst, hE, hlk, hr, hR1, hR2, -⟩ := id g
  intro u hu H locs ls hP hS hl
  exact va_mmin hx hb (by rw [hml, hl.1]) hown (hts _ kw.1) (hts _ kw.2.1) (hts _ kw.2.2.1) (hts _ kw.2.2.2) (by omega) (by omega) (Nat.zero_le _) (Nat.zero_le _) hd (k u hu H locs ls hP hS hl)
/-- the words of a call of System.arraycopy -/
def hf_kA (own : String) (idx : Nat) : Prop := Cond.methodLink own idx arraycopyName ∈ hf_TB ∧ Cond.native arraycopyName ∈ hf_TB ∧ Cond.static arraycopyName ∈ hf_TB ∧ Cond.initialized "java/lang/System" ∈ hf_TB
theorem hf_copy (g : hf_G x T ad cA E A l0 D0 cc nL own rt d) {K : hf_St → Option α} {a0 a1 r0 r1 n0 n1 : Nat} {sp dp n : Int32} (kw : hf_kA own idx) (ha0 : T.2[a0]? = some (n0, .int)) (ha1 : T.2[a1]? = some (n1, .int)) (hr0 : T.1.length + a0 = r0) (hr1 : T.1.length + a1 = r1) (h1 : ¬ sp < 0) (h2 : ¬ dp < 0) (h3 : ¬ n < 0) (h4 : sp.toNatClampNeg + n.toNatClampNeg ≤ n0) (h5 : dp.toNatClampNeg + n.toNatClampNeg ≤ n1) (hd1 : 1 ≤ d) (hcat : (st.map fun v => v.category).sum ≤ 8) (hd : decode cc pc = .ok (.invokestatic idx, 3)) (k : ∀ σ', hf_X x A nL (0, 0) Q (K σ') (hf_wd T ad cA σ') (pc + 3) lv st) : hf_X x A nL (0, 0) Q (hf_lt (hf_pA σ a1 (va_cpy (σ.2 a0) (σ.2 a1) sp.toNatClampNeg dp.toNatClampNeg n.toNatClampNeg)) K) (hf_wd T ad cA σ) pc lv (.int n :: .int dp :: .ref (ad r1) :: .int sp :: .ref (ad r0) :: st) := by
  obtain ⟨p, l, e, R, s, m, args, below, meth, c, D⟩ := x
  subst hr0; subst hr1
  obtain ⟨⟨hx, hb, hml, hown, hts⟩, hK, hinj, hA, hst, hE, hlk, hr, hR1, hR2, -⟩ := id g
  intro u hu H locs ls hP hS hl
  refine va_copyi hx hb (by rw [hml, hl.1]) hown (hts _ kw.1) (hts _ kw.2.1) (hts _ kw.2.2.1) (hts _ kw.2.2.2) hK hP (by rw [hA]; exact hf_dis hinj σ) hS (T.1.length + a0) (T.1.length + a1) a0 a1 (hf_arr ha0) (hf_arr ha1) (hf_tyAt ha0) (hf_tyAt ha1) rfl h1 h2 h3 h4 h5 (fun _ _ => rfl) (by omega) ?_ hd (fun H1 locs1 hP1 hD1 hS1 => ?_)
  · have : nativeFrameWords "java/lang/System" "arraycopy" 5 ≤ 20 := by decide
    omega
  · rw [hf_setA ha1] at hP1
    exact k _ u hu H1 locs1 ls hP1 hS1 hl
end HfCalls
