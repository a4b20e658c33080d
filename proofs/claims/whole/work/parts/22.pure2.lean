theorem hp_fuel (k : Nat) (h : k ≤ 1000000) : ∃ n, hf_fuel = n + k := ⟨1000000 - k, by unfold hf_fuel; omega⟩
theorem hp_nle {a b : Nat} (h : a < b) (hb : b < 2147483648) : ¬ nI b ≤ nI a := by
  rw [hp_le, hp_nI hb, hp_nI (by omega)]; omega
theorem hp_ix {a n : Nat} (h : a < n) (hn : n < 2147483648) : hf_ix (nI a) n := by
  show 0 ≤ (nI a).toInt ∧ (nI a).toInt < (n : Int)
  rw [hp_nI (by omega)]; omega
/-! The field of a child or home: the fact that counts. -/
abbrev hv_hit (σ : hf_St) (who fld day known : Int32) (k : Nat) : Prop := σ.2 10 k = who ∧ σ.2 11 k = fld ∧ ¬ day < σ.2 13 k ∧ σ.2 14 k ≤ known
def hv_best (σ : hf_St) (who fld day known : Int32) : Nat → Option Nat
  | 0 => none
  | k + 1 => if hv_hit σ who fld day known k then (match hv_best σ who fld day known k with | none => some k | some j => if σ.2 13 k < σ.2 13 j then some j else some k) else hv_best σ who fld day known k
def hv_enc : Option Nat → Int32
  | none => -1
  | some j => nI j
def hv (σ : hf_St) (nf : Nat) (who fld day known : Int32) : Int32 := match hv_best σ who fld day known nf with
  | none => 0
  | some j => σ.2 12 j
theorem hv_lt (σ : hf_St) (who fld day known : Int32) : ∀ k j, hv_best σ who fld day known k = some j → j < k := by
  intro k
  induction k with
  | zero => intro j h; cases h
  | succ k ih =>
    intro j h
    rw [hv_best] at h
    split at h
    · split at h
      · cases h; omega
      · rename_i j' hj'
        split at h
        · cases h; have := ih _ hj'; omega
        · cases h; omega
    · have := ih j h; omega
theorem hv_hitOf (σ : hf_St) (who fld day known : Int32) : ∀ k j, hv_best σ who fld day known k = some j → hv_hit σ who fld day known j := by
  intro k
  induction k with
  | zero => intro j h; cases h
  | succ k ih =>
    intro j h
    rw [hv_best] at h
    split at h
    · rename_i hh
      split at h
      · cases h; exact hh
      · rename_i j' hj'
        split at h
        · cases h; exact ih _ hj'
        · cases h; exact hh
    · exact ih j h
theorem fm_valueOf_l {σ : hf_St} {nf : Nat} (hn : σ.1 0 14 = nI nf) (hf : nf ≤ 100) (who fld day known : Int32) : ∀ m k fuel, k + m = nf → m < fuel → Fm_md_valueOf_l6 σ fuel who fld day known (hv_enc (hv_best σ who fld day known k)) (nI k) = some (hv σ nf who fld day known) := by
  intro m
  induction m with
  | zero =>
    intro k fuel hk hfu
    obtain ⟨n, rfl⟩ : ∃ n, fuel = n + 1 := ⟨fuel - 1, by omega⟩
    have e : k = nf := by omega
    subst e
    rw [Fm_md_valueOf_l6, hn, if_pos (by rw [hp_le]; omega)]
    unfold hv
    cases hb : hv_best σ who fld day known k with
    | none => rfl
    | some j =>
      have hj := hv_lt σ who fld day known k j hb
      show (if 0 ≤ nI j then hf_gd (hf_ix (nI j) 100) (some (σ.2 12 (nI j).toNatClampNeg)) else some 0) = some (σ.2 12 j)
      rw [if_pos (by rw [hp_le, hp_nI (by omega), hp_0]; omega), hp_gd (hp_ix (by omega) (by omega)), hp_cl (by omega)]
  | succ m ih =>
    intro k fuel hk hfu
    obtain ⟨n, rfl⟩ : ∃ n, fuel = n + 1 := ⟨fuel - 1, by omega⟩
    have ix : hf_ix (nI k) 100 := hp_ix (by omega) (by omega)
    rw [Fm_md_valueOf_l6, hn, if_neg (hp_nle (by omega) (by omega))]
    have IH := ih (k + 1) n (by omega) (by omega)
    simp only [hp_gd ix, hp_cl (show k < 2147483648 by omega), hp_succ]
    rw [hv_best] at IH
    by_cases hh : hv_hit σ who fld day known k
    · rw [if_pos hh] at IH
      rw [if_pos hh.1, if_pos hh.2.1, if_neg hh.2.2.1, if_pos hh.2.2.2]
      cases hb : hv_best σ who fld day known k with
      | none =>
        rw [hb] at IH
        rw [if_pos (by decide)]
        exact IH
      | some j =>
        have hj := hv_lt σ who fld day known k j hb
        rw [hb] at IH
        show (if nI j < 0 then _ else hf_gd (hf_ix (nI j) 100) (if σ.2 13 k < σ.2 13 (nI j).toNatClampNeg then _ else _)) = _
        rw [if_neg (by rw [hp_lt, hp_nI (by omega), hp_0]; omega), hp_gd (hp_ix (by omega) (by omega)), hp_cl (by omega)]
        by_cases hd : σ.2 13 k < σ.2 13 j
        · rw [if_pos hd]
          simp only [if_pos hd] at IH
          exact IH
        · rw [if_neg hd]
          simp only [if_neg hd] at IH
          exact IH
    · rw [if_neg hh] at IH
      by_cases c1 : σ.2 10 k = who
      · rw [if_pos c1]
        by_cases c2 : σ.2 11 k = fld
        · rw [if_pos c2]
          by_cases c3 : day < σ.2 13 k
          · rw [if_pos c3]; exact IH
          · rw [if_neg c3, if_neg (fun c4 => hh ⟨c1, c2, c3, c4⟩)]; exact IH
        · rw [if_neg c2]; exact IH
      · rw [if_neg c1]; exact IH
theorem fm_valueOf {σ : hf_St} {nf : Nat} (hn : σ.1 0 14 = nI nf) (hf : nf ≤ 100) (who fld day known : Int32) : Fm_md_valueOf σ who fld day known = some (hv σ nf who fld day known) :=
  fm_valueOf_l hn hf who fld day known nf 0 hf_fuel (by omega) (by unfold hf_fuel; omega)
/-- the class's slot and owner name the same facts -/
def hv_same (σc σm : hf_St) (nf : Nat) (slot owner who fld : Int32) : Prop := ∀ i, i < nf → ((σc.2 10 i = slot ∧ σc.2 11 i = owner) ↔ (σm.2 10 i = who ∧ σm.2 11 i = fld))
/-- number and first day, as the class keeps them along the way -/
def hv_num (σ : hf_St) : Option Nat → Int32
  | none => 0
  | some j => σ.2 12 j
def hv_day (σ : hf_St) : Option Nat → Int32
  | none => -1
  | some j => σ.2 13 j
theorem fc_numberOn_l {σc σm : hf_St} {nf : Nat} (hfa : hr_fac nf σc σm) {slot owner who fld : Int32} (hs : hv_same σc σm nf slot owner who fld) (day known : Int32) : ∀ m k fuel, k + m = nf → m < fuel → Fc_facts_numberOn_l9 σc fuel slot owner day known (hv_num σm (hv_best σm who fld day known k)) (hv_day σm (hv_best σm who fld day known k)) (nI k) = some (hv σm nf who fld day known) := by
  obtain ⟨h1, h2, h3, g0, g1, g2, g3⟩ := hfa
  intro m
  induction m with
  | zero =>
    intro k fuel hk hfu
    obtain ⟨n, rfl⟩ : ∃ n, fuel = n + 1 := ⟨fuel - 1, by omega⟩
    have e : k = nf := by omega
    subst e
    rw [Fc_facts_numberOn_l9, h1, if_pos (by rw [hp_le]; omega)]
    unfold hv hv_num
    cases hv_best σm who fld day known k <;> rfl
  | succ m ih =>
    intro k fuel hk hfu
    obtain ⟨n, rfl⟩ : ∃ n, fuel = n + 1 := ⟨fuel - 1, by omega⟩
    have ix : hf_ix (nI k) 100 := hp_ix (by omega) (by omega)
    rw [Fc_facts_numberOn_l9, h1, if_neg (hp_nle (by omega) (by omega))]
    have IH := ih (k + 1) n (by omega) (by omega)
    unfold Fc_facts_numberOn_b56 Fc_facts_numberOn_b57
    simp only [hp_gd ix, hp_cl (show k < 2147483648 by omega), hp_succ, g0, g1, g2, hp_let]
    rw [hv_best] at IH
    have hsk := hs k (by omega)
    by_cases hh : hv_hit σm who fld day known k
    · have hcc := hsk.mpr ⟨hh.1, hh.2.1⟩
      rw [if_pos hh] at IH
      rw [if_pos hcc.1, if_pos hcc.2, if_neg (by have := hh.2.2.2; rw [hp_le] at this; rw [hp_lt]; omega), if_neg (by decide), if_neg hh.2.2.1]
      cases hb : hv_best σm who fld day known k with
      | none =>
        rw [hb] at IH
        obtain ⟨o, sl, -, -, -, -, -, -, hd, -⟩ := g3 k (by omega)
        rw [if_neg (by show ¬ σm.2 13 k < -1; rw [hp_lt, hp_m1]; omega)]
        exact IH
      | some j =>
        rw [hb] at IH
        show (if σm.2 13 k < σm.2 13 j then _ else _) = _
        by_cases hd : σm.2 13 k < σm.2 13 j
        · rw [if_pos hd]
          simp only [if_pos hd] at IH
          exact IH
        · rw [if_neg hd]
          simp only [if_neg hd] at IH
          exact IH
    · rw [if_neg hh] at IH
      by_cases c1 : σc.2 10 k = slot
      · rw [if_pos c1]
        by_cases c2 : σc.2 11 k = owner
        · rw [if_pos c2]
          have hm := hsk.mp ⟨c1, c2⟩
          by_cases c4 : known < σm.2 14 k
          · rw [if_pos c4, if_pos trivial]; exact IH
          · rw [if_neg c4, if_neg (by decide)]
            by_cases c3 : day < σm.2 13 k
            · rw [if_pos c3]; exact IH
            · exact absurd ⟨hm.1, hm.2, c3, by rw [hp_lt] at c4; rw [hp_le]; omega⟩ hh
        · rw [if_neg c2, if_pos trivial]; exact IH
      · rw [if_neg c1, if_pos trivial]; exact IH
theorem fc_numberOn {σc σm : hf_St} {nf : Nat} (hfa : hr_fac nf σc σm) {slot owner who fld : Int32} (hs : hv_same σc σm nf slot owner who fld) (day known : Int32) : Fc_facts_numberOn σc slot owner day known = some (hv σm nf who fld day known) :=
  fc_numberOn_l hfa hs day known nf 0 hf_fuel (by omega) (by unfold hf_fuel; have := hfa.2.2.1; omega)
/-- the names of either side: object o (a child, or a home), field f -/
theorem hv_same_of {σc σm : hf_St} {nf : Nat} (hfa : hr_fac nf σc σm) (o sl : Nat) (ho : o < 7) (hsl : sl < 16) : hv_same σc σm nf (nI sl) (nI o) (nI (if sl < 8 then o else o + 100)) (nI (if sl < 8 then sl else sl - 8)) := by
  intro i hi
  obtain ⟨o', sl', ho', hsl', e1, e2, e3, e4, -⟩ := hfa.2.2.2.2.2.2 i hi
  rw [e1, e2, e3, e4]
  rw [nI_eq (by omega) (by omega), nI_eq (by omega) (by omega), nI_eq (by split <;> omega) (by split <;> omega), nI_eq (by split <;> omega) (by split <;> omega)]
  constructor
  · rintro ⟨rfl, rfl⟩; exact ⟨rfl, rfl⟩
  · intro h
    by_cases a : sl < 8 <;> by_cases b : sl' < 8 <;> simp only [a, b, if_true, if_false] at h <;> omega
theorem hp_boolI {a : Int32} (h : a = 0 ∨ a = 1) : (a = 0 ∧ ¬ a = 1) ∨ (a = 1 ∧ ¬ a = 0) := by rcases h with rfl | rfl <;> decide
/-- a fact's place on either side -/
theorem hv_slot {σc σm : hf_St} {nc nh : Nat} (hch : hr_chl nc σc σm) (hho : hr_hom nh σc σm) {q a f : Int32} (hq : q = 0 ∨ q = 1) :
    Fc_hf_isThere σc q a = some (hp_t (0 ≤ a.toInt ∧ a.toInt < if q = 0 then (nc : Int) else nh)) := by
  unfold Fc_hf_isThere
  simp only [fc_has_c hch.1 hch.2.2.1, fc_has_h hho.1 hho.2.2.1, hp_b1, hp_tz]
  rcases hq with rfl | rfl
  · rw [if_pos rfl, if_pos rfl]
  · rw [if_neg (by decide), if_neg (by decide)]
theorem hr_value {σc σm : hf_St} (h : hr σc σm) (q a f d k : Int32) (hq : q = 0 ∨ q = 1) : ∃ r, Fc_hf_value σc q a f d k = some r ∧ Fm_md_value σm q a f d k = some r := by
  obtain ⟨t, nc, nh, np, nf, nt, nr, hcl, hch, hho, hpa, hfa, hta, hru, hpl⟩ := id h
  unfold Fc_hf_value Fm_md_value Fm_md_value_b23 Fm_md_value_b65
  simp only [hv_slot (f := f) hch hho hq, fm_isChild hch.2.1 hch.2.2.1, fm_isHome hho.2.1 hho.2.2.1, fc_isField, fc_isDay, fm_in, fm_isDay, hp_b1, hp_t0, hp_0, hp_7]
  by_cases ha : 0 ≤ a.toInt ∧ a.toInt < if q = 0 then (nc : Int) else nh
  · by_cases hf : 0 ≤ f.toInt ∧ f.toInt < 8
    · by_cases hd : 0 ≤ d.toInt ∧ d.toInt ≤ 999
      · by_cases hk : 0 ≤ k.toInt ∧ k.toInt ≤ 999
        · obtain ⟨o, ho, rfl, ho2⟩ := hp_of (x := a) (by omega)
          obtain ⟨fn, hfn, rfl, hfn2⟩ := hp_of (x := f) (by omega)
          have hc7 := hch.2.2.1
          have hh5 := hho.2.2.1
          rcases hq with rfl | rfl
          · rw [if_pos rfl] at ha
            refine ⟨hv σm nf (nI o) (nI fn) d k, ?_, ?_⟩
            · rw [if_neg (by simpa using ha), if_neg (by omega), if_neg (by omega), if_neg (by omega)]
              unfold Fc_hf_slotOf
              rw [if_pos rfl, hp_b1]
              have hs := hv_same_of hfa o fn (by omega) (by omega)
              rw [if_pos (by omega), if_pos (by omega)] at hs
              rw [fc_numberOn hfa hs, hp_b1]
            · rw [if_pos rfl, if_neg (by omega), if_neg (by omega), if_neg (by omega), if_neg (by omega), if_pos rfl]
              rw [show nI o + 0 = nI o from by rw [← nI_0, nI_add, Nat.add_zero], fm_valueOf hfa.2.1 hfa.2.2.1, hp_b1]
          · rw [if_neg (by decide)] at ha
            refine ⟨hv σm nf (nI (o + 100)) (nI fn) d k, ?_, ?_⟩
            · rw [if_neg (by simpa using ha), if_neg (by omega), if_neg (by omega), if_neg (by omega)]
              unfold Fc_hf_slotOf
              rw [if_neg (by decide), hp_b1]
              have hs := hv_same_of hfa o (8 + fn) (by omega) (by omega)
              rw [if_neg (by omega), if_neg (by omega), Nat.add_sub_cancel_left] at hs
              rw [show (8 : Int32) + nI fn = nI (8 + fn) from by rw [← nI_add]; rfl, fc_numberOn hfa hs, hp_b1]
            · rw [if_neg (by decide), if_neg (by omega), if_neg (by omega), if_neg (by omega), if_neg (by omega), if_neg (by decide)]
              rw [show nI o + 100 = nI (o + 100) from by rw [← nI_add]; rfl, fm_valueOf hfa.2.1 hfa.2.2.1, hp_b1]
        · refine ⟨-1000, ?_, ?_⟩
          · rw [if_neg (by simpa using ha), if_neg (by omega), if_neg (by omega), if_pos (by omega)]
          · rcases hq with rfl | rfl
            · rw [if_pos rfl] at ha
              rw [if_pos rfl, if_neg (by omega), if_neg (by omega), if_neg (by omega), if_pos (by omega)]
            · rw [if_neg (by decide)] at ha
              rw [if_neg (by decide), if_neg (by omega), if_neg (by omega), if_neg (by omega), if_pos (by omega)]
      · refine ⟨-1000, ?_, ?_⟩
        · rw [if_neg (by simpa using ha), if_neg (by omega), if_pos (by omega)]
        · rcases hq with rfl | rfl
          · rw [if_pos rfl] at ha
            rw [if_pos rfl, if_neg (by omega), if_neg (by omega), if_pos (by omega)]
          · rw [if_neg (by decide)] at ha
            rw [if_neg (by decide), if_neg (by omega), if_neg (by omega), if_pos (by omega)]
    · refine ⟨-1000, ?_, ?_⟩
      · rw [if_neg (by simpa using ha), if_pos (by omega)]
      · rcases hq with rfl | rfl
        · rw [if_pos rfl] at ha
          rw [if_pos rfl, if_neg (by omega), if_pos (by omega)]
        · rw [if_neg (by decide)] at ha
          rw [if_neg (by decide), if_neg (by omega), if_pos (by omega)]
  · refine ⟨-1000, ?_, ?_⟩
    · rw [if_pos ha]
    · rcases hq with rfl | rfl
      · rw [if_pos rfl] at ha
        rw [if_pos rfl, if_pos (by omega)]
      · rw [if_neg (by decide)] at ha
        rw [if_neg (by decide), if_pos (by omega)]
