/-! Arrays.fill over one row. -/
def h1T (N : Nat) : hf_Tb := ([], [(N, .int)])
def Fg_fill_l5 (N : Nat) : Nat → hf_St → Int32 → Int32 → Int32 → Option hf_St
  | 0, _, _, _, _ => none
  | n + 1, s, l1, l2, l3 => (if l3 ≤ l2 then some s else hf_gd (hf_ix l2 N) (hf_lt (hf_pA s 0 (upd (s.2 0) l2.toNatClampNeg l1)) (fun s1 => Fg_fill_l5 N n s1 l1 (l2 + (1 : Int32)) l3)))
def Fg_fill (N : Nat) (s : hf_St) (a1 : Int32) : Option hf_St := hf_lt (nI N) (fun v1 => Fg_fill_l5 N hf_fuel s a1 ((0 : Int32)) v1)
set_option maxHeartbeats 2000000 in
set_option maxRecDepth 20000 in
theorem xg_fill_l5 {N : Nat} {x : hf_Cx} {ad : Nat → Nat} {cA : Nat → ClassId} {E : State → Prop} {A : Nat → Prop} {l0 : Launch} {D0 : va_G} (g : hf_G x (h1T N) ad cA E A l0 D0 cJ7_fill_53178 4 RJ7 none 0) : ∀ (n : Nat) (s : hf_St) (l1 : Int32) (l2 : Int32) (l3 : Int32), hf_X x A 4 (0, 0) (hf_Q x (h1T N) ad cA A hf_rv) (Fg_fill_l5 N n s l1 l2 l3) (hf_wd (h1T N) ad cA s) 5 [(0, .ref (ad 0)), (1, .int l1), (2, .int l2), (3, .int l3)] [] := by
  have gc := g.1
  intro n
  induction n with
  | zero => intro s l1 l2 l3; exact hf_none
  | succ n ih =>
    intro s l1 l2 l3
    rw [Fg_fill_l5]
    refine hf_iload_n (i := 2) (q := 2) gc dJ7_fill_53178_5 rfl rfl ?_
    refine hf_iload_n (i := 3) (q := 3) gc dJ7_fill_53178_6 rfl rfl ?_
    refine hf_icmp_ge (tgt := 20) gc dJ7_fill_53178_7 (by decide) ?_ ?_
    · exact hf_vret g dJ7_fill_53178_20 rfl
    · refine hf_aload_n (i := 0) (q := 0) gc dJ7_fill_53178_10 rfl rfl ?_
      refine hf_iload_n (i := 2) (q := 2) gc dJ7_fill_53178_11 rfl rfl ?_
      refine hf_iload_n (i := 1) (q := 1) gc dJ7_fill_53178_12 rfl rfl ?_
      refine hf_iast (a := 0) (r := 0) (n := N) g rfl rfl dJ7_fill_53178_13 (fun s1 => ?_)
      refine hf_iinc (q := 2) (v' := l2 + (1 : Int32)) (lv' := [(2, .int (l2 + (1 : Int32))), (0, .ref (ad 0)), (1, .int l1), (3, .int l3)]) gc dJ7_fill_53178_14 rfl rfl (by decide) rfl ?_
      refine hf_goto (tgt := 5) gc dJ7_fill_53178_17 (by decide) ?_
      refine hf_sub (lv' := [(0, .ref (ad 0)), (1, .int l1), (2, .int (l2 + (1 : Int32))), (3, .int l3)]) [1, 2, 0, 3] rfl ?_
      exact ih _ _ _ _
set_option maxHeartbeats 2000000 in
set_option maxRecDepth 20000 in
theorem xg_fill {N : Nat} {x : hf_Cx} {ad : Nat → Nat} {cA : Nat → ClassId} {E : State → Prop} {A : Nat → Prop} {l0 : Launch} {D0 : va_G} (g : hf_G x (h1T N) ad cA E A l0 D0 cJ7_fill_53178 4 RJ7 none 0) {s : hf_St} {a1 : Int32} : hf_X x A 4 (0, 0) (hf_Q x (h1T N) ad cA A hf_rv) (Fg_fill N s a1) (hf_wd (h1T N) ad cA s) 0 [(0, .ref (ad 0)), (1, .int a1)] [] := by
  have gc := g.1
  unfold Fg_fill
  refine hf_iconst (v := 0) gc dJ7_fill_53178_0 (by decide) ?_
  refine hf_istore_n (i := 2) (lv' := [(2, .int ((0 : Int32))), (0, .ref (ad 0)), (1, .int a1)]) gc dJ7_fill_53178_1 rfl (by decide) rfl ?_
  refine hf_aload_n (i := 0) (q := 1) gc dJ7_fill_53178_2 rfl rfl ?_
  refine hf_alen (a := 0) (r := 0) (n := N) g rfl rfl dJ7_fill_53178_3 ?_
  refine hf_let (fun v1 => ?_)
  refine hf_istore_n (i := 3) (lv' := [(3, .int v1), (2, .int ((0 : Int32))), (0, .ref (ad 0)), (1, .int a1)]) gc dJ7_fill_53178_4 rfl (by decide) rfl ?_
  refine hf_sub (lv' := [(0, .ref (ad 0)), (1, .int a1), (2, .int ((0 : Int32))), (3, .int v1)]) [2, 3, 1, 0] rfl ?_
  exact xg_fill_l5 g hf_fuel _ _ _ _
theorem cg_fill {N : Nat} {l0 : Launch} {D0 : va_G} {ad : Nat → Nat} {cA : Nat → ClassId} {E : State → Prop} {s : hf_St} {a1 : Int32} : hf_Ct l0 D0 (h1T N) ad cA E 0 yJ7_fill_53178 cJ7_fill_53178 4 none [.ref (ad 0), .int a1] s (Fg_fill N s a1) hf_rv := hf_met (by decide) (Nat.le_of_ble_eq_true rfl) (fun _ _ g => xg_fill g)
theorem Fg_fill_is {N : Nat} (hN : N ≤ 1000) (v : Int32) : ∀ m k (s : hf_St) f, k + m = N → m < f → ∃ s', Fg_fill_l5 N f s v (nI k) (nI N) = some s' ∧ s'.2 0 = fun i => if k ≤ i ∧ i < N then v else s.2 0 i := by
  intro m
  induction m with
  | zero =>
    intro k s f hk hf
    obtain ⟨n, rfl⟩ : ∃ n, f = n + 1 := ⟨f - 1, by omega⟩
    refine ⟨s, ?_, ?_⟩
    · rw [Fg_fill_l5, if_pos (by rw [hp_le, hp_nI (by omega), hp_nI (by omega)]; omega)]
    · funext i; rw [if_neg (by omega)]
  | succ m ih =>
    intro k s f hk hf
    obtain ⟨n, rfl⟩ : ∃ n, f = n + 1 := ⟨f - 1, by omega⟩
    obtain ⟨s', e1, e2⟩ := ih (k + 1) (hf_pA s 0 (upd (s.2 0) k v)) n (by omega) (by omega)
    refine ⟨s', ?_, ?_⟩
    · rw [Fg_fill_l5, if_neg (hp_nle (by omega) (by omega)), hp_gd (hp_ix (by omega) (by omega)), hp_let, hp_cl (by omega), hp_succ, e1]
    · rw [e2]
      funext i
      show (if k + 1 ≤ i ∧ i < N then v else upd (s.2 0) k v i) = _
      rw [hp_upd]
      by_cases e : i = k
      · rw [if_neg (by omega), if_pos e, if_pos (by omega)]
      · rw [if_neg e]
        by_cases e3 : k ≤ i ∧ i < N
        · rw [if_pos (by omega), if_pos e3]
        · rw [if_neg (by omega), if_neg e3]
theorem hi_fill {x : hf_Cx} {A : Nat → Prop} {nL : Nat} {Q : State → Prop} {z : Nat × Nat} {tys : List (ClassId × FieldType)} {w w' : va_W} {pc : Nat} {lv : List (Nat × Value)} {st : List Value} {cc : ByteArray} {own : String} {d mc ms : Nat} (b : hi_B x A cc nL own d mc ms) {a n idx : Nat} {v : Int32} {c0 : ClassId} {f : Nat → Int32} (q0 t0 : Nat) (he : w[q0]? = some (a, .inl (c0, n, .inl f))) (ht : tys[t0]? = some (c0, .int)) (kw : hf_kS own idx yJ7_fill_53178 cJ7_fill_53178 4 none 2) (hn : n ≤ 1000) (hdd : 1 ≤ d) (hz : z.1 ≤ mc ∧ z.2 ≤ ms) (hcat : (st.map fun v => v.category).sum ≤ 8) (hd : decode cc pc = .ok (.invokestatic idx, 3)) (hw : w.set q0 (a, .inl (c0, n, .inl (fun i => if i < n then v else f i))) = w') (kk : hi_X x A nL Q z tys w' (pc + 3) lv st) : hi_X x A nL Q z tys w pc lv (.int v :: .ref a :: st) := by
  obtain ⟨p, l, e, R, s, m, args, below, meth, c, D⟩ := x
  obtain ⟨⟨hx, hb, hml, hown, hts⟩, hA, hN, hR1, hR2, hR3, hR4⟩ := id b
  subst hw
  obtain ⟨s0, hs0⟩ : ∃ s0 : hf_St, s0.2 0 = f := ⟨(fun _ _ => 0, fun _ => f), rfl⟩
  obtain ⟨σ', g1, g2⟩ := Fg_fill_is hn v n 0 s0 hf_fuel (by omega) (by unfold hf_fuel; omega)
  have g1' : Fg_fill n s0 v = some σ' := by
    unfold Fg_fill
    rw [hp_let, show (0 : Int32) = nI 0 from rfl]
    exact g1
  rw [hs0] at g2
  have g2' : σ'.2 0 = fun i => if i < n then v else f i := by
    rw [g2]
    funext i
    by_cases e : i < n
    · rw [if_pos ⟨Nat.zero_le _, e⟩, if_pos e]
    · rw [if_neg (fun h => e h.2), if_neg e]
  intro H locs ls hK hP hD hS hl T0 hT0 X0
  have hP1 : va_P D vwCl (hf_wd (h1T n) (fun _ => a) (fun _ => c0) s0) H := by
    intro k q hk
    have : hf_wd (h1T n) (fun _ => a) (fun _ => c0) s0 = [(a, .inl (c0, n, .inl f))] := by rw [← hs0]; rfl
    rw [this] at hk
    have hk0 : k = 0 := by
      have := (List.getElem?_eq_some_iff.mp hk).1
      simpa using this
    subst hk0
    have hq : q = (a, .inl (c0, n, .inl f)) := (Option.some.inj hk).symm
    rw [hq]; exact hP q0 _ he
  have hK1 : va_K D vwCl (hf_ty (h1T n) (fun _ => c0)) s := by
    refine ⟨hK.1, fun k q hk => ?_⟩
    have : hf_ty (h1T n) (fun _ => c0) = [(c0, .int)] := rfl
    rw [this] at hk
    have hk0 : k = 0 := by
      have := (List.getElem?_eq_some_iff.mp hk).1
      simpa using this
    subst hk0
    have hq : q = (c0, .int) := (Option.some.inj hk).symm
    rw [hq]; exact hK.2 t0 _ ht
  have hinj : hf_inj (h1T n) (fun _ => a) := by
    intro i j hi hj _
    have hi' : i < 1 := hi
    have hj' : j < 1 := hj
    omega
  have hadr := hD.2 q0 _ he
  have run : va_Run p l e R s m args below meth c H locs z.1 z.2 0 0 (F0 m pc ls (.int v :: .ref a :: st)) st (hf_Qc (h1T n) D (fun _ => a) (fun _ => c0) H.size (none, σ') ([Value.ref a, .int v] : List Value).toArray) (hf_A (h1T n) (fun _ => a) H.size) := by
    refine va_runS (Ts := hf_TB) (own := own) (index := idx) ⟨hx, hb, hml, hown, hts⟩ (cg_fill (E := fun _ => True) (ad := fun _ => a) (cA := fun _ => c0) (s := s0) (a1 := v) σ' g1' H.size) (va_cwS 2 hts kw.1 rfl rfl rfl kw.2 ⟨?_, ?_⟩) ⟨hf_blind, fun U hU hW => ⟨rfl, by rw [hU], by rw [hU]; exact hP1, va_K.moved hW.alike hK1, hinj, fun _ _ _ _ _ _ => trivial, trivial⟩⟩ rfl rfl hl.1 rfl (lv_room hcat) hd ⟨Nat.le_trans hz.1 hR3, Nat.le_trans hz.2 hR4⟩
    · show 0 + 1 ≤ R.frames
      omega
    · show 8 + (4 + 11) + 40 * 0 ≤ R.locals
      omega
  obtain ⟨rv, st₀, t, T', L, h0, X', hL, e1, e2, ⟨hq1, hq2, hq3, hq4⟩, hstp⟩ := run T0 hT0 X0
  cases hq1
  rw [h0] at hq3 hq4
  have free : ∀ q, hf_A (h1T n) (fun _ => a) H.size q → A q := by
    rintro q (⟨j, _, rfl⟩ | h)
    · exact hadr
    · exact hA q (Nat.le_trans hS.1 h)
  have hPn : va_P D vwCl (w.set q0 (a, .inl (c0, n, .inl (fun i => if i < n then v else f i)))) t.heap := by
    intro k q hk
    rw [List.getElem?_set] at hk
    by_cases e : q0 = k
    · rw [if_pos e] at hk
      split at hk
      · have hq : q = (a, .inl (c0, n, .inl (fun i => if i < n then v else f i))) := (Option.some.inj hk).symm
        rw [hq, ← g2']
        exact hq2 0 (a, .inl (c0, n, .inl (σ'.2 0))) rfl
      · cases hk
    · rw [if_neg e] at hk
      have hin := hP k q hk
      have hlt := hin.lt
      have hne : q.1 ≠ a := fun h => e (hD.1 q0 k _ _ he hk h.symm)
      have keep : t.heap[q.1]? = H[q.1]? := hq4 q.1 hlt (by
        rintro (⟨j, _, h⟩ | h)
        · exact hne h
        · omega)
      have := (fun (ws : va_W) (hp : va_P D vwCl ws H) => hp.kept (H1 := t.heap)) [q] (fun k' q' hk' => by
        have hk0 : k' = 0 := by
          have := (List.getElem?_eq_some_iff.mp hk').1
          simpa using this
        subst hk0
        have hq : q' = q := (Option.some.inj hk').symm
        rw [hq]; exact hin) (fun k' q' hk' => by
        have hk0 : k' = 0 := by
          have := (List.getElem?_eq_some_iff.mp hk').1
          simpa using this
        subst hk0
        have hq : q' = q := (Option.some.inj hk').symm
        rw [hq]; exact keep)
      exact this 0 q rfl
  have hDn : va_D A (w.set q0 (a, .inl (c0, n, .inl (fun i => if i < n then v else f i)))) := by
    have at' : ∀ (k : Nat) (q : Nat × va_E), (w.set q0 (a, .inl (c0, n, .inl (fun i => if i < n then v else f i))))[k]? = some q → ∃ q', w[k]? = some q' ∧ q'.1 = q.1 := by
      intro k q hk
      rw [List.getElem?_set] at hk
      by_cases e : q0 = k
      · rw [if_pos e] at hk
        split at hk
        · refine ⟨_, by rw [← e]; exact he, ?_⟩
          have hq : q = (a, .inl (c0, n, .inl (fun i => if i < n then v else f i))) := (Option.some.inj hk).symm
          rw [hq]
        · cases hk
      · rw [if_neg e] at hk
        exact ⟨q, hk, rfl⟩
    refine ⟨fun i j p q hi hj e => ?_, fun k q hk => ?_⟩
    · obtain ⟨p', a1, a2⟩ := at' i p hi
      obtain ⟨q', b1, b2⟩ := at' j q hj
      exact hD.1 i j p' q' a1 b1 (by rw [a2, b2]; exact e)
    · obtain ⟨q', b1, b2⟩ := at' k q hk
      rw [← b2]; exact hD.2 k q' b1
  have hS' : va_S A s.heap T'.heap (locs ++ L) := by
    refine ⟨Nat.le_trans hS.1 (by rw [e1]; exact hq3), fun q h1 h2 => ?_, fun q hq => ?_⟩
    · rw [e1, hq4 q (Nat.lt_of_lt_of_le h1 hS.1) (fun hA' => h2 (free q hA'))]
      exact hS.2.1 q h1 h2
    · rcases List.mem_append.mp hq with h | h
      · exact hS.2.2 q h
      · exact free _ (hL q h)
  obtain ⟨t2, a1, b1⟩ := kk T'.heap (locs ++ L) ls hK (by rw [e1]; exact hPn) hDn hS' hl T' rfl X'
  exact ⟨t2, hstp t2 a1, b1⟩
theorem hi_av_int (N : Nat) (cA : ClassId) : vp_cell cA (N, .inl (fun _ => 0)) = arrV cA N (fun _ => defaultValue .int) := rfl
theorem hi_av_boolean (N : Nat) (cA : ClassId) : vp_cell cA (N, .inl (fun _ => 0)) = arrV cA N (fun _ => defaultValue .boolean) := rfl
theorem hi_av_byte (N : Nat) (cA : ClassId) : vp_cell cA (N, .inl (fun _ => 0)) = arrV cA N (fun _ => defaultValue .byte) := rfl
