/-- the next token of the class, from the place p behind the one that it looked at -/
theorem fc_next {bs : Nat → Nat} {n q : Nat} {s : hf_St} (hc : pz_c bs n s) (ht : pz_tk bs n q s) : ∃ s', Fc_reader_step s = some s' ∧ pz_fr s s' ∧ pz_tk bs n (pz_sk bs (n - pz_te bs n q) (pz_te bs n q)) s' := by
  have hin := pz_te_in bs ht.1
  obtain ⟨s', a, b, c, d⟩ := fc_step hc hin.2 ht.2.2
  have := pz_sk_in bs (n - pz_te bs n q) (pz_te bs n q)
  exact ⟨s', a, b, by omega, c, d⟩
/-- only next, from, length, sideIs, sideNumber, fault have changed -/
def pz_fs (s s' : hf_St) : Prop := s'.2 = s.2 ∧ ∀ k, ¬ (k = 22 ∨ k = 23 ∨ k = 41 ∨ k = 42 ∨ k = 43 ∨ k = 44) → s'.1 0 k = s.1 0 k
theorem pz_fst {a b c : hf_St} (h : pz_fs a b) (g : pz_fs b c) : pz_fs a c := ⟨by rw [g.1, h.1], fun k q => by rw [g.2 k q, h.2 k q]⟩
theorem pz_fsm {a b : hf_St} (h : pz_fm a b) : pz_fs a b := ⟨h.1, fun k q => h.2 k (by omega)⟩
theorem pz_fsI {s : hf_St} {k : Nat} {v : Int32} (hk : k = 22 ∨ k = 23 ∨ k = 41 ∨ k = 42 ∨ k = 43 ∨ k = 44) : pz_fs s (hf_pI s 0 k v) := ⟨rfl, fun k' q => by rw [hf_pI_1, if_neg (show ¬ (0 = 0 ∧ k' = k) by omega)]⟩
theorem pz_mfs {bs : Nat → Nat} {n : Nat} {s s' : hf_St} (h : pz_m bs n s) (g : pz_fs s s') : pz_m bs n s' := ⟨by rw [g.2 21 (by omega)]; exact h.1, h.2.1, fun i hi => by rw [g.1]; exact h.2.2 i hi⟩
/-- a fault's number -/
def pz_flt (q kind : Nat) : Int32 := nI (1 + 8 * q + kind)
theorem fc_refuse {s : hf_St} {q : Nat} (h2 : s.1 7 2 = nI q) (kind : Nat) : Fc_reader_refuse s (nI kind) = some (0, hf_pI s 7 4 (pz_flt q kind)) := by
  unfold Fc_reader_refuse pz_flt
  rw [hp_let, hp_z0, h2, show (8 : Int32) = nI 8 from rfl, pk_mul, show (1 : Int32) = nI 1 from rfl, nI_add, nI_add]
theorem fm_fails {s : hf_St} (h0 : s.1 0 23 = 0) (q kind : Nat) : Fm_md_fails s (nI kind) (nI q) = some (0, hf_pI s 0 23 (pz_flt q kind)) := by
  unfold Fm_md_fails pz_flt
  rw [if_pos h0, hp_let, hp_z0, show (8 : Int32) = nI 8 from rfl, pk_mul, show (1 : Int32) = nI 1 from rfl, nI_add, nI_add]
/-- what a side at q comes to: a fault's kind, or none -/
def pz_sf (bs : Nat → Nat) (n q : Nat) (many : Prop) [Decidable many] : Option Nat := if pz_fld bs n q then (if many then some 2 else none) else if pz_num bs n q then (if pz_we bs (n - q) q - q ≤ 4 then (if many then some 2 else none) else some 1) else some 0
theorem pz_fld_num {bs : Nat → Nat} {n q : Nat} (h : pz_fld bs n q) : ¬ pz_num bs n q := by
  intro hn
  have := hn.2 0 (by have := h.1; omega)
  have h2 := h.2.1
  rw [Nat.add_zero] at this
  rcases h2 with e | e <;> omega
theorem fc_readSide {bs : Nat → Nat} {n q : Nat} {s : hf_St} (hc : pz_c bs n s) (ht : pz_tk bs n q s) (l : Int32) : (∀ kd, pz_sf bs n q (¬ l = 0) = some kd → ∃ s', Fc_reader_readSide s l = some (-1, s') ∧ s' = hf_pI s 7 4 (pz_flt q kd)) ∧ (pz_sf bs n q (¬ l = 0) = none → ∃ v s', Fc_reader_readSide s l = some (v, s') ∧ ¬ v = -1 ∧ pz_fr s s' ∧ pz_tk bs n (pz_sk bs (n - pz_te bs n q) (pz_te bs n q)) s' ∧ v = if pz_fld bs n q then nI (10000 + pz_slot bs q) else nI (pz_val bs q (pz_we bs (n - q) q - q))) := by
  obtain ⟨st, e1, e2, e3⟩ := fc_next hc ht
  have h2 := ht.2.1
  have sl16 : pz_fld bs n q → pz_slot bs q < 16 := fun h => by unfold pz_slot; have := h.2.2; split <;> omega
  -- the branch behind the number's or slot's own
  have b51 : ∀ t0 : Int32, ¬ t0 = -1 → Fc_reader_readSide_b51 s l t0 = if l = 0 then some (t0, st) else some (-1, hf_pI s 7 4 (pz_flt q 2)) := by
    intro t0 hn
    unfold Fc_reader_readSide_b51 Fc_reader_readSide_b63 Fc_reader_readSide_b75
    rw [if_neg hn, if_neg hn, e1, hp_b0, show (2 : Int32) = nI 2 from rfl, fc_refuse h2 2, hp_b2]
  have b51n : Fc_reader_readSide_b51 s l (-1) = some (-1, hf_pI s 7 4 (pz_flt q 1)) := by
    unfold Fc_reader_readSide_b51 Fc_reader_readSide_b63 Fc_reader_readSide_b75
    rw [if_pos rfl, if_pos rfl, show (1 : Int32) = nI 1 from rfl, fc_refuse h2 1, hp_b2]
  have main : Fc_reader_readSide s l = if pz_fld bs n q then Fc_reader_readSide_b51 s l (nI (10000 + pz_slot bs q)) else if pz_num bs n q then Fc_reader_readSide_b51 s l (if pz_we bs (n - q) q - q ≤ 4 then nI (pz_val bs q (pz_we bs (n - q) q - q)) else -1) else some (-1, hf_pI s 7 4 (pz_flt q 0)) := by
    unfold Fc_reader_readSide Fc_reader_readSide_b17 Fc_reader_readSide_b35
    rw [fc_isNumber hc ht, hp_b1]
    by_cases hn : pz_num bs n q
    · rw [hp_tpos hn, if_neg (by decide), if_neg (by decide), if_neg (by decide), fc_numberOf hc ht hn, hp_b1, if_neg (fun h => pz_fld_num h hn), if_pos hn]
    · rw [hp_tneg hn, if_pos rfl, fc_slotOfWord hc ht, hp_b1, if_pos rfl, if_pos rfl, if_neg hn]
      by_cases hf : pz_fld bs n q
      · have := sl16 hf
        rw [if_pos hf, if_pos hf, if_neg (by rw [hp_eq, hp_nI (by omega), hp_m1]; omega), show (10000 : Int32) = nI 10000 from rfl, nI_add]
      · rw [if_neg hf, if_neg hf, if_pos rfl, show (0 : Int32) = nI 0 from rfl, fc_refuse h2 0, hp_b2]
  rw [main]
  unfold pz_sf
  by_cases hf : pz_fld bs n q
  · have := sl16 hf
    rw [if_pos hf, if_pos hf, if_pos hf, b51 _ (by rw [hp_eq, hp_nI (by omega), hp_m1]; omega)]
    by_cases hl : l = 0
    · rw [if_neg (fun h => h hl), if_pos hl]
      exact ⟨fun kd h => (by cases h), fun _ => ⟨_, st, rfl, by rw [hp_eq, hp_nI (by omega), hp_m1]; omega, e2, e3, rfl⟩⟩
    · rw [if_pos hl, if_neg hl]
      exact ⟨fun kd h => by cases h; exact ⟨_, rfl, rfl⟩, fun h => (by cases h)⟩
  · rw [if_neg hf, if_neg hf, if_neg hf]
    by_cases hn : pz_num bs n q
    · rw [if_pos hn, if_pos hn]
      by_cases h4 : pz_we bs (n - q) q - q ≤ 4
      · have h9 := pz_val_4 h4 hn.2
        rw [if_pos h4, if_pos h4, b51 _ (by rw [hp_eq, hp_nI (by omega), hp_m1]; omega)]
        by_cases hl : l = 0
        · rw [if_neg (fun h => h hl), if_pos hl]
          exact ⟨fun kd h => (by cases h), fun _ => ⟨_, st, rfl, by rw [hp_eq, hp_nI (by omega), hp_m1]; omega, e2, e3, rfl⟩⟩
        · rw [if_pos hl, if_neg hl]
          exact ⟨fun kd h => by cases h; exact ⟨_, rfl, rfl⟩, fun h => (by cases h)⟩
      · rw [if_neg h4, if_neg h4, b51n]
        exact ⟨fun kd h => by cases h; exact ⟨_, rfl, rfl⟩, fun h => (by cases h)⟩
    · rw [if_neg hn, if_neg hn]
      exact ⟨fun kd h => by cases h; exact ⟨_, rfl, rfl⟩, fun h => (by cases h)⟩
