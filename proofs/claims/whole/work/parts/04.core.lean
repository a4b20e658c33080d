/-! The words that every method takes: those of the tables that keep. -/
def hf_TB : List Cond := lw_tbl.filter goodWord
theorem hf_tb {w : Cond} (h : w ∈ lw_tbl) (g : goodWord w = true) : w ∈ hf_TB := List.mem_filter.mpr ⟨h, g⟩
theorem hf_tbG : ∀ w ∈ hf_TB, goodWord w = true := fun _ h => (List.mem_filter.mp h).2
theorem hf_tbL : ∀ w ∈ hf_TB, w ∈ lw_tbl := fun _ h => (List.mem_filter.mp h).1
/-- a method's words -/
abbrev hf_ws (y : MethodName) (cc : ByteArray) (nL : Nat) (rt : Option FieldType) : List Cond := Cond.code y cc nL rt :: hf_TB
/-! A state: whole numbers of objects by object and place; rows by their number and place. -/
abbrev hf_St : Type := (Nat → Nat → Int32) × (Nat → Nat → Int32)
abbrev hf_Tb : Type := List (Nat × List (Option Nat)) × List (Nat × FieldType)
def hf_fv (ad : Nat → Nat) (σ : hf_St) (j k : Nat) (f : Option Nat) : Value := match f with
  | none => .int (σ.1 j k)
  | some r => .ref (ad r)
def hf_wo (ad : Nat → Nat) (σ : hf_St) (j : Nat) (o : Nat × List (Option Nat)) : Nat × va_E := (ad j, .inr (o.1, o.2.mapIdx (fun k f => hf_fv ad σ j k f)))
def hf_wa (ad : Nat → Nat) (cA : Nat → ClassId) (σ : hf_St) (n0 a : Nat) (x : Nat × FieldType) : Nat × va_E := (ad (n0 + a), .inl (cA a, x.1, .inl (σ.2 a)))
def hf_wd (T : hf_Tb) (ad : Nat → Nat) (cA : Nat → ClassId) (σ : hf_St) : va_W := T.1.mapIdx (hf_wo ad σ) ++ T.2.mapIdx (hf_wa ad cA σ T.1.length)
def hf_ty (T : hf_Tb) (cA : Nat → ClassId) : List (ClassId × FieldType) := T.2.mapIdx (fun a x => (cA a, x.2))
def hf_N (T : hf_Tb) : Nat := T.1.length + T.2.length
def hf_A (T : hf_Tb) (ad : Nat → Nat) (sz : Nat) : Nat → Prop := fun q => (∃ j, j < hf_N T ∧ q = ad j) ∨ sz ≤ q
def hf_inj (T : hf_Tb) (ad : Nat → Nat) : Prop := ∀ i j, i < hf_N T → j < hf_N T → ad i = ad j → i = j
def hf_pI (σ : hf_St) (j k : Nat) (v : Int32) : hf_St := (fun j' k' => if j' = j ∧ k' = k then v else σ.1 j' k', σ.2)
def hf_pA (σ : hf_St) (a : Nat) (f : Nat → Int32) : hf_St := (σ.1, fun a' => if a' = a then f else σ.2 a')
theorem hf_pI_1 (σ : hf_St) (j k : Nat) (v : Int32) (j' k' : Nat) : (hf_pI σ j k v).1 j' k' = if j' = j ∧ k' = k then v else σ.1 j' k' := rfl
theorem hf_pI_2 (σ : hf_St) (j k : Nat) (v : Int32) : (hf_pI σ j k v).2 = σ.2 := rfl
theorem hf_pA_1 (σ : hf_St) (a : Nat) (f : Nat → Int32) : (hf_pA σ a f).1 = σ.1 := rfl
theorem hf_pA_2 (σ : hf_St) (a : Nat) (f : Nat → Int32) (a' : Nat) : (hf_pA σ a f).2 a' = if a' = a then f else σ.2 a' := rfl
theorem hf_obj {T : hf_Tb} {ad : Nat → Nat} {cA : Nat → ClassId} {σ : hf_St} {j ci : Nat} {fl : List (Option Nat)} (h : T.1[j]? = some (ci, fl)) : (hf_wd T ad cA σ)[j]? = some (ad j, .inr (ci, fl.mapIdx (fun k f => hf_fv ad σ j k f))) := by
  have hl : j < T.1.length := (List.getElem?_eq_some_iff.mp h).1
  unfold hf_wd
  rw [List.getElem?_append_left (by simpa using hl), List.getElem?_mapIdx, h]
  rfl
theorem hf_arr {T : hf_Tb} {ad : Nat → Nat} {cA : Nat → ClassId} {σ : hf_St} {a n : Nat} {t : FieldType} (h : T.2[a]? = some (n, t)) : (hf_wd T ad cA σ)[T.1.length + a]? = some (ad (T.1.length + a), .inl (cA a, n, .inl (σ.2 a))) := by
  unfold hf_wd
  rw [List.getElem?_append_right (by simp), List.length_mapIdx, Nat.add_sub_cancel_left, List.getElem?_mapIdx, h]
  rfl
theorem hf_tyAt {T : hf_Tb} {cA : Nat → ClassId} {a n : Nat} {t : FieldType} (h : T.2[a]? = some (n, t)) : (hf_ty T cA)[a]? = some (cA a, t) := by
  unfold hf_ty
  rw [List.getElem?_mapIdx, h]
  rfl
theorem hf_len (T : hf_Tb) (ad : Nat → Nat) (cA : Nat → ClassId) (σ : hf_St) : (hf_wd T ad cA σ).length = hf_N T := by
  simp [hf_wd, hf_N]
theorem hf_adr {T : hf_Tb} {ad : Nat → Nat} {cA : Nat → ClassId} {σ : hf_St} {k : Nat} {q : Nat × va_E} (h : (hf_wd T ad cA σ)[k]? = some q) : q.1 = ad k ∧ k < hf_N T := by
  have hk : k < hf_N T := by
    have := (List.getElem?_eq_some_iff.mp h).1
    rwa [hf_len] at this
  refine ⟨?_, hk⟩
  unfold hf_wd at h
  by_cases hl : k < T.1.length
  · rw [List.getElem?_append_left (by simpa using hl), List.getElem?_mapIdx] at h
    cases hx : T.1[k]? with
    | none => simp [hx] at h
    | some x => rw [hx] at h; simp at h; rw [← h]; rfl
  · rw [List.getElem?_append_right (by simpa using Nat.le_of_not_lt hl), List.length_mapIdx, List.getElem?_mapIdx] at h
    cases hx : T.2[k - T.1.length]? with
    | none => simp [hx] at h
    | some x =>
      rw [hx] at h; simp at h; rw [← h]
      show ad (T.1.length + (k - T.1.length)) = ad k
      rw [Nat.add_sub_cancel' (Nat.le_of_not_lt hl)]
theorem hf_dis {T : hf_Tb} {ad : Nat → Nat} {cA : Nat → ClassId} {sz : Nat} (hi : hf_inj T ad) (σ : hf_St) : va_D (hf_A T ad sz) (hf_wd T ad cA σ) := by
  refine ⟨fun i j p q h1 h2 e => ?_, fun k q h => ?_⟩
  · have a1 := hf_adr h1
    have a2 := hf_adr h2
    exact hi i j a1.2 a2.2 (by rw [← a1.1, ← a2.1]; exact e)
  · exact Or.inl ⟨k, (hf_adr h).2, (hf_adr h).1⟩
theorem hf_setI {T : hf_Tb} {ad : Nat → Nat} {cA : Nat → ClassId} {σ : hf_St} {j ci k : Nat} {fl : List (Option Nat)} {v : Int32} (h : T.1[j]? = some (ci, fl)) (hk : fl[k]? = some none) : (hf_wd T ad cA σ).set j (ad j, .inr (ci, (fl.mapIdx (fun k f => hf_fv ad σ j k f)).set k (.int v))) = hf_wd T ad cA (hf_pI σ j k v) := by
  have hl : j < T.1.length := (List.getElem?_eq_some_iff.mp h).1
  have hkl : k < fl.length := (List.getElem?_eq_some_iff.mp hk).1
  refine List.ext_getElem? fun i => ?_
  rw [List.getElem?_set]
  by_cases hij : j = i
  · subst hij
    have hN : j < (hf_wd T ad cA σ).length := by rw [hf_len]; unfold hf_N; omega
    rw [if_pos rfl, if_pos hN, hf_obj h]
    refine congrArg some (Prod.ext rfl (congrArg Sum.inr (Prod.ext rfl ?_)))
    refine List.ext_getElem? fun i => ?_
    rw [List.getElem?_set, List.getElem?_mapIdx, List.getElem?_mapIdx]
    by_cases hik : k = i
    · subst hik
      rw [if_pos rfl, if_pos (by simpa using hkl), hk]
      simp [hf_fv, hf_pI]
    · rw [if_neg hik]
      cases hx : fl[i]? with
      | none => rfl
      | some f =>
        cases f with
        | none => simp [hf_fv, hf_pI, Ne.symm hik]
        | some r => simp [hf_fv]
  · rw [if_neg hij]
    unfold hf_wd
    by_cases hil : i < T.1.length
    · rw [List.getElem?_append_left (by simpa using hil), List.getElem?_append_left (by simpa using hil), List.getElem?_mapIdx, List.getElem?_mapIdx]
      cases hx : T.1[i]? with
      | none => rfl
      | some o =>
        refine congrArg some (Prod.ext rfl (congrArg Sum.inr (Prod.ext rfl ?_)))
        refine List.ext_getElem? fun z => ?_
        show (o.2.mapIdx _)[z]? = (o.2.mapIdx _)[z]?
        rw [List.getElem?_mapIdx, List.getElem?_mapIdx]
        cases hy : o.2[z]? with
        | none => rfl
        | some f =>
          cases f with
          | none => simp [hf_fv, hf_pI, Ne.symm hij]
          | some r => simp [hf_fv]
    · rw [List.getElem?_append_right (by simpa using Nat.le_of_not_lt hil), List.getElem?_append_right (by simpa using Nat.le_of_not_lt hil)]
      simp only [List.length_mapIdx]
      rfl
theorem hf_setA {T : hf_Tb} {ad : Nat → Nat} {cA : Nat → ClassId} {σ : hf_St} {a n : Nat} {t : FieldType} {f : Nat → Int32} (h : T.2[a]? = some (n, t)) : (hf_wd T ad cA σ).set (T.1.length + a) (ad (T.1.length + a), .inl (cA a, n, .inl f)) = hf_wd T ad cA (hf_pA σ a f) := by
  have hl : a < T.2.length := (List.getElem?_eq_some_iff.mp h).1
  refine List.ext_getElem? fun i => ?_
  rw [List.getElem?_set]
  by_cases hij : T.1.length + a = i
  · subst hij
    have hN : T.1.length + a < (hf_wd T ad cA σ).length := by rw [hf_len]; unfold hf_N; omega
    rw [if_pos rfl, if_pos hN, hf_arr h]
    simp [hf_pA]
  · rw [if_neg hij]
    unfold hf_wd
    by_cases hil : i < T.1.length
    · rw [List.getElem?_append_left (by simpa using hil), List.getElem?_append_left (by simpa using hil)]
      rfl
    · rw [List.getElem?_append_right (by simpa using Nat.le_of_not_lt hil), List.getElem?_append_right (by simpa using Nat.le_of_not_lt hil)]
      simp only [List.length_mapIdx, List.getElem?_mapIdx]
      cases hx : T.2[i - T.1.length]? with
      | none => rfl
      | some x =>
        have hne : i - T.1.length ≠ a := fun e => hij (by omega)
        simp [hf_wa, hf_pA, hne]
