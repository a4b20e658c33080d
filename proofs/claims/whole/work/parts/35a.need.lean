/-! What the class needs to know beside its world, from the start on. -/
def hc_E (ad adK adV : Nat → Nat) (U : State) : Prop := va_Nw (.methodLinkNest RX8 106 yX11_isField "HomeFinder") U ∧ va_Nw (.methodLinkNest RX8 109 yX11_slotOf "HomeFinder") U ∧ (∀ i, i < 4 → vk_R RX8 (hs_ix.getD i 0) (hs_tx.getD i "") (adK i) U) ∧ vk_S 4 hs_len hs_byt adK adV (hf_A hcT ad U.heap.size) U U.heap ∧ va_Z "java/lang/String" "COMPACT_STRINGS" "Z" (.int 1) (hf_A hcT ad U.heap.size) U U.heap ∧ va_Zq "jdk/internal/util/Preconditions" "SIOOBE_FORMATTER" "Ljava/util/function/BiFunction;" (hf_A hcT ad U.heap.size) U U.heap
theorem hc_E_need (ad adK adV : Nat → Nat) : hc_need (hc_E ad adK adV) ad adK adV := fun _ h => h
theorem hc_E_stab (ad adK adV : Nat → Nat) : hf_stab hcT ad (hc_E ad adK adV) := by
  intro s U h hv hsz hk
  obtain ⟨h1, h2, h3, h4, h5, h6⟩ := h
  have al : s.vm.Alike U.vm := by
    rcases hv with h | h
    · exact h.alike
    · rw [h]; exact Vm.Alike.refl _
  have nar : ∀ q, hf_A hcT ad U.heap.size q → hf_A hcT ad s.heap.size q := by
    rintro q (h | h)
    · exact Or.inl h
    · exact Or.inr (by omega)
  refine ⟨?_, ?_, fun i hi => ?_, (vk_S.moved al (h4.kept hk)).narrow nar, (va_Z.moved al (h5.kept hk)).narrow nar, (va_Zq.moved al (h6.kept hk)).narrow nar⟩
  · rcases hv with h | h
    · exact va_Nw.warmM h h1
    · exact va_Nw.same rfl h h1
  · rcases hv with h | h
    · exact va_Nw.warmM h h2
    · exact va_Nw.same rfl h h2
  · rcases hv with h | h
    · exact vk_R.warm h (h3 i hi)
    · exact vk_R.same h.symm (h3 i hi)
set_option maxRecDepth 20000 in
theorem hc_start {args : Array Value} {s : State} (hts : ∀ w ∈ lw_tbl, w.before args s = true) (hgv : (Jvm.Cond.and given_1 narrow_1).before args s = true) : ∃ adK adV : Nat → Nat, va_Nw (.methodLinkNest RX8 106 yX11_isField "HomeFinder") s ∧ va_Nw (.methodLinkNest RX8 109 yX11_slotOf "HomeFinder") s ∧ (∀ i, i < 4 → vk_R RX8 (hs_ix.getD i 0) (hs_tx.getD i "") (adK i) s) ∧ vk_S 4 hs_len hs_byt adK adV (fun q => s.heap.size ≤ q) s s.heap ∧ va_Z "java/lang/String" "COMPACT_STRINGS" "Z" (.int 1) (fun q => s.heap.size ≤ q) s s.heap ∧ va_Zq "jdk/internal/util/Preconditions" "SIOOBE_FORMATTER" "Ljava/util/function/BiFunction;" (fun q => s.heap.size ≤ q) s s.heap := by
  have hs := flat_of_before _ hgv
  have hA : ∀ a : Nat, a < s.heap.size → ¬ (fun q => s.heap.size ≤ q) a := fun a h => Nat.not_le.mpr h
  have hex : ∀ i : Nat, i < 4 → (Cond.exactly (Term.string RX8 (hs_ix.getD i 0)) "java/lang/String").before args s = true := by
    intro i hi
    rcases (show i = 0 ∨ i = 1 ∨ i = 2 ∨ i = 3 by omega) with rfl | rfl | rfl | rfl <;> exact hs _ (by decide +kernel)
  have hco : ∀ i : Nat, i < 4 → (Cond.eq (.field (Term.string RX8 (hs_ix.getD i 0)) "java/lang/String" "coder" "B") (.int 0)).before args s = true := by
    intro i hi
    rcases (show i = 0 ∨ i = 1 ∨ i = 2 ∨ i = 3 by omega) with rfl | rfl | rfl | rfl <;> exact hs _ (by decide +kernel)
  have har : ∀ i : Nat, i < 4 → (Cond.arrayOf (.field (Term.string RX8 (hs_ix.getD i 0)) "java/lang/String" "value" "[B") .byte).before args s = true := by
    intro i hi
    rcases (show i = 0 ∨ i = 1 ∨ i = 2 ∨ i = 3 by omega) with rfl | rfl | rfl | rfl <;> exact hs _ (by decide +kernel)
  have hle : ∀ i : Nat, i < 4 → (Cond.eq (.length (.field (Term.string RX8 (hs_ix.getD i 0)) "java/lang/String" "value" "[B")) (.int (Int32.ofNat (hs_len.getD i 0)))).before args s = true := by
    intro i hi
    rcases (show i = 0 ∨ i = 1 ∨ i = 2 ∨ i = 3 by omega) with rfl | rfl | rfl | rfl <;> exact hs _ (by decide +kernel)
  have hel : ∀ i : Nat, i < 4 → ∀ j : Nat, j < hs_len.getD i 0 → (Cond.eq (.elem (.field (Term.string RX8 (hs_ix.getD i 0)) "java/lang/String" "value" "[B") (.int (Int32.ofNat j))) (.int ((hs_byt.getD i []).getD j 0))).before args s = true := by
    intro i hi j hj
    rcases (show i = 0 ∨ i = 1 ∨ i = 2 ∨ i = 3 by omega) with rfl | rfl | rfl | rfl
    · have hj' : j < 4 := hj
      rcases (show j = 0 ∨ j = 1 ∨ j = 2 ∨ j = 3 by omega) with rfl | rfl | rfl | rfl <;> exact hs _ (by decide +kernel)
    · have hj' : j < 5 := hj
      rcases (show j = 0 ∨ j = 1 ∨ j = 2 ∨ j = 3 ∨ j = 4 by omega) with rfl | rfl | rfl | rfl | rfl <;> exact hs _ (by decide +kernel)
    · have hj' : j < 4 := hj
      rcases (show j = 0 ∨ j = 1 ∨ j = 2 ∨ j = 3 by omega) with rfl | rfl | rfl | rfl <;> exact hs _ (by decide +kernel)
    · have hj' : j < 3 := hj
      rcases (show j = 0 ∨ j = 1 ∨ j = 2 by omega) with rfl | rfl | rfl <;> exact hs _ (by decide +kernel)
  have hne : ∀ i j : Nat, i < 4 → j < 4 → i ≠ j → (Cond.not (Cond.eq (Term.string RX8 (hs_ix.getD i 0)) (Term.string RX8 (hs_ix.getD j 0)))).before args s = true ∨ (Cond.not (Cond.eq (Term.string RX8 (hs_ix.getD j 0)) (Term.string RX8 (hs_ix.getD i 0)))).before args s = true := by
    intro i j hi hj hij
    rcases (show (i = 0 ∧ j = 1) ∨ (i = 0 ∧ j = 2) ∨ (i = 0 ∧ j = 3) ∨ (i = 1 ∧ j = 2) ∨ (i = 1 ∧ j = 3) ∨ (i = 2 ∧ j = 3) ∨ (i = 1 ∧ j = 0) ∨ (i = 2 ∧ j = 0) ∨ (i = 3 ∧ j = 0) ∨ (i = 2 ∧ j = 1) ∨ (i = 3 ∧ j = 1) ∨ (i = 3 ∧ j = 2) by omega) with h | h | h | h | h | h | h | h | h | h | h | h <;> obtain ⟨rfl, rfl⟩ := h
    · exact Or.inl (hs _ (by decide +kernel))
    · exact Or.inl (hs _ (by decide +kernel))
    · exact Or.inl (hs _ (by decide +kernel))
    · exact Or.inl (hs _ (by decide +kernel))
    · exact Or.inl (hs _ (by decide +kernel))
    · exact Or.inl (hs _ (by decide +kernel))
    · exact Or.inr (hs _ (by decide +kernel))
    · exact Or.inr (hs _ (by decide +kernel))
    · exact Or.inr (hs _ (by decide +kernel))
    · exact Or.inr (hs _ (by decide +kernel))
    · exact Or.inr (hs _ (by decide +kernel))
    · exact Or.inr (hs _ (by decide +kernel))
  obtain ⟨adK, adV, hS, hev⟩ := vk_Sof (N := 4) (tm := fun i => Term.string RX8 (hs_ix.getD i 0)) (len := hs_len) (byt := hs_byt) (A := fun q => s.heap.size ≤ q) (by decide) hex hco har hle hel hne hA
  refine ⟨adK, adV, va_Nw.of rfl (hts _ (List.mem_of_getElem? (i := 633) (by decide +kernel))), va_Nw.of rfl (hts _ (List.mem_of_getElem? (i := 634) (by decide +kernel))), fun i hi => vk_R.of ?_ (hev i hi), hS, va_Zof (hts _ (List.mem_of_getElem? (i := 553) (by decide +kernel))) (hts _ (List.mem_of_getElem? (i := 62) (by decide +kernel))) (va_eqi (hs _ (by decide +kernel))) hA, va_Zqof (hts _ (List.mem_of_getElem? (i := 569) (by decide +kernel))) (hts _ (List.mem_of_getElem? (i := 64) (by decide +kernel))) (hs _ (by decide +kernel)) hA⟩
  rcases (show i = 0 ∨ i = 1 ∨ i = 2 ∨ i = 3 by omega) with rfl | rfl | rfl | rfl
  · exact hts _ (List.mem_of_getElem? (i := 539) (by decide +kernel))
  · exact hts _ (List.mem_of_getElem? (i := 592) (by decide +kernel))
  · exact hts _ (List.mem_of_getElem? (i := 593) (by decide +kernel))
  · exact hts _ (List.mem_of_getElem? (i := 639) (by decide +kernel))
