/-! bits (of the kit's BITS family) -/
def bt (x : Int32) (i : Nat) : Bool := x.toBitVec.getLsbD i
theorem b_ext {x y : Int32} (h : ∀ i, i < 32 → bt x i = bt y i) : x = y := Int32.toBitVec_inj.mp (BitVec.eq_of_getLsbD_eq (fun i hi => h i hi))
theorem b_and (x y : Int32) (i : Nat) : bt (x &&& y) i = (bt x i && bt y i) := by unfold bt; rw [Int32.toBitVec_and, BitVec.getLsbD_and]
theorem b_big {x : Int32} {i : Nat} (h : 32 ≤ i) : bt x i = false := BitVec.getLsbD_of_ge _ _ h
theorem b_255 (i : Nat) : bt 255 i = decide (i < 8) := by
  rcases Nat.lt_or_ge i 32 with h | h
  · exact (by decide +kernel : ∀ i, i < 32 → bt 255 i = decide (i < 8)) i h
  · rw [b_big h, decide_eq_false (by omega)]
theorem s_l : ∀ n, n < 32 → ((nI n &&& 31).toBitVec.smod 32).toNat = n := by decide +kernel
theorem s_u : ∀ n, n < 32 → (((nI n).toUInt32 &&& Int32.toUInt32 31).toBitVec % 32).toNat = n := by decide +kernel
theorem b_shl (n : Nat) (hn : n < 32) (x : Int32) {i : Nat} (hi : i < 32) : bt (x <<< (nI n &&& 31)) i = (decide (n ≤ i) && bt x (i - n)) := by
  unfold bt
  rw [Int32.toBitVec_shiftLeft]
  show (x.toBitVec <<< ((nI n &&& 31).toBitVec.smod 32).toNat).getLsbD i = _
  rw [s_l n hn, BitVec.getLsbD_shiftLeft]
  rcases Nat.lt_or_ge i n with h | h
  · simp [h, Nat.not_le.mpr h]
  · simp [hi, h, Nat.not_lt.mpr h]
theorem b_ushr (n : Nat) (hn : n < 32) (x : Int32) (i : Nat) : bt ((x.toUInt32 >>> ((nI n).toUInt32 &&& Int32.toUInt32 31)).toInt32) i = bt x (n + i) := by
  show (x.toUInt32 >>> ((nI n).toUInt32 &&& Int32.toUInt32 31)).toBitVec.getLsbD i = x.toUInt32.toBitVec.getLsbD (n + i)
  rw [UInt32.toBitVec_shiftRight]
  show (x.toUInt32.toBitVec >>> (((nI n).toUInt32 &&& Int32.toUInt32 31).toBitVec % 32).toNat).getLsbD i = _
  rw [s_u n hn, BitVec.getLsbD_ushiftRight]
theorem b_sshr (n : Nat) (hn : n < 32) (x : Int32) {i : Nat} (hi : i < 32) : bt (x >>> (nI n &&& 31)) i = if n + i < 32 then bt x (n + i) else bt x 31 := by
  unfold bt
  rw [Int32.toBitVec_shiftRight]
  show (x.toBitVec.sshiftRight ((nI n &&& 31).toBitVec.smod 32).toNat).getLsbD i = _
  rw [s_l n hn, BitVec.getLsbD_sshiftRight, BitVec.msb_eq_getLsbD_last]
  simp [hi]
theorem hp_low8 {x y : Int32} (h : ∀ i, i < 8 → bt x i = bt y i) : x.toInt8 = y.toInt8 := by
  apply Int8.toBitVec_inj.1
  apply BitVec.eq_of_getLsbD_eq
  intro i hi
  have h4 : x.toBitVec.getLsbD i = y.toBitVec.getLsbD i := h i hi
  first
    | (show (x.toBitVec.signExtend 8).getLsbD i = (y.toBitVec.signExtend 8).getLsbD i; rw [BitVec.getLsbD_signExtend, BitVec.getLsbD_signExtend, if_pos (by omega), if_pos (by omega), h4])
    | (show (x.toBitVec.setWidth 8).getLsbD i = (y.toBitVec.setWidth 8).getLsbD i; rw [BitVec.getLsbD_setWidth, BitVec.getLsbD_setWidth, h4])
theorem hp_byte (x : Int32) (c : Nat) (hc : c ≤ 24) : ∃ b : Nat, b < 256 ∧ hf_ush x (nI c) &&& 255 = nI b ∧ vp_nar .byte (x >>> (nI c &&& 31)).toInt8.toInt32 = (nI b).toInt8.toInt32 := by
  obtain ⟨b, hb, e⟩ := pk_andE (hf_ush x (nI c)) (m := 255) 8 (by decide)
  refine ⟨b, hb, e, ?_⟩
  rw [pk_vb]
  refine congrArg Int8.toInt32 (hp_low8 (fun i hi => ?_))
  rw [b_sshr c (by omega) x (by omega), if_pos (by omega), ← e, b_and, b_255, decide_eq_true hi, Bool.and_true]
  exact (b_ushr c (by omega) x i).symm
/-- one byte more on either tape -/
theorem hr_byte {t nc nh np nf nt nr : Nat} {σc σm : hf_St} (h : hr_n t nc nh np nf nt nr σc σm) (hlt : nt < 500) {vc vm : Int32} (hb : ∃ b : Nat, b < 256 ∧ vc = nI b ∧ vm = (nI b).toInt8.toInt32) : hr_n t nc nh np nf (nt + 1) nr (hf_pI (hf_pA σc 15 (upd (σc.2 15) nt vc)) 5 1 (nI (nt + 1))) (hf_pI (hf_pA σm 15 (upd (σm.2 15) nt vm)) 0 21 (nI (nt + 1))) := by
  obtain ⟨hcl, hch, hho, hpa, hfa, ⟨h1, h2, h3, g0⟩, hru, hpl⟩ := h
  refine ⟨hcl, hch, hho, hpa, hfa, ⟨rfl, rfl, by omega, fun i hi => ?_⟩, hru, hpl⟩
  show ∃ b : Nat, b < 256 ∧ upd (σc.2 15) nt vc i = nI b ∧ upd (σm.2 15) nt vm i = (nI b).toInt8.toInt32
  rw [hp_upd, hp_upd]
  by_cases hi2 : i = nt
  · rw [if_pos hi2, if_pos hi2]; exact hb
  · rw [if_neg hi2, if_neg hi2]; exact g0 i (by omega)
theorem fc_add1 {s : hf_St} {nt : Nat} (h : s.1 5 1 = nI nt) (hlt : nt < 500) (n : Nat) (x c : Int32) (hc : ¬ c < 0) : Fc_tape_add_l16 (n + 1) s x c = Fc_tape_add_l16 n (hf_pI (hf_pA s 15 (upd (s.2 15) nt (hf_ush x c &&& 255))) 5 1 (nI (nt + 1))) x (c + -8) := by
  rw [Fc_tape_add_l16, if_neg hc]
  simp only [hp_let, hf_pA_1, h, hp_gd (hp_ix hlt (by omega)), hp_cl (show nt < 2147483648 by omega), hp_succ]
theorem fm_add1 {s : hf_St} {nt : Nat} (h : s.1 0 21 = nI nt) (hlt : nt < 500) (n : Nat) (x c : Int32) (hc : ¬ c < 0) : Fm_md_four_l3 (n + 1) s x c = Fm_md_four_l3 n (hf_pI (hf_pA s 15 (upd (s.2 15) nt (vp_nar .byte (x >>> (c &&& 31)).toInt8.toInt32))) 0 21 (nI (nt + 1))) x (c + -8) := by
  rw [Fm_md_four_l3, if_neg hc]
  simp only [hp_let, hf_pA_1, h, hp_gd (hp_ix hlt (by omega)), hp_cl (show nt < 2147483648 by omega), hp_succ]
theorem hr_four {t nc nh np nf nt nr : Nat} {σc σm : hf_St} (h : hr_n t nc nh np nf nt nr σc σm) (hlt : nt + 4 ≤ 500) (x : Int32) : ∃ σc' σm', Fc_tape_add σc x = some σc' ∧ Fm_md_four σm x = some σm' ∧ hr_n t nc nh np nf (nt + 4) nr σc' σm' := by
  obtain ⟨n, hn⟩ := hp_fuel 5 (by omega)
  have e := hp_nI (show nt < 2147483648 by omega)
  have h1 := hr_byte h (by omega) (hp_byte x 24 (by omega))
  have h2 := hr_byte h1 (by omega) (hp_byte x 16 (by omega))
  have h3 := hr_byte h2 (by omega) (hp_byte x 8 (by omega))
  have h4 := hr_byte h3 (by omega) (hp_byte x 0 (by omega))
  refine ⟨_, _, ?_, ?_, h4⟩
  · unfold Fc_tape_add
    rw [if_pos (by rw [h.2.2.2.2.2.1.1, hp_le, hp_add (by rw [e, hp_4]; omega) (by rw [e, hp_4]; omega), e, hp_4, hp_500]; omega), hn]
    rw [show (24 : Int32) = nI 24 from rfl, show n + 5 = n + 4 + 1 from rfl, fc_add1 h.2.2.2.2.2.1.1 (by omega) _ _ _ (by decide), show nI 24 + -8 = nI 16 from rfl]
    rw [show n + 4 = n + 3 + 1 from rfl, fc_add1 h1.2.2.2.2.2.1.1 (by omega) _ _ _ (by decide), show nI 16 + -8 = nI 8 from rfl]
    rw [show n + 3 = n + 2 + 1 from rfl, fc_add1 h2.2.2.2.2.2.1.1 (by omega) _ _ _ (by decide), show nI 8 + -8 = nI 0 from rfl]
    rw [show n + 2 = n + 1 + 1 from rfl, fc_add1 h3.2.2.2.2.2.1.1 (by omega) _ _ _ (by decide), Fc_tape_add_l16, if_pos (by decide)]
  · unfold Fm_md_four
    rw [hn]
    rw [show (24 : Int32) = nI 24 from rfl, show n + 5 = n + 4 + 1 from rfl, fm_add1 h.2.2.2.2.2.1.2.1 (by omega) _ _ _ (by decide), show nI 24 + -8 = nI 16 from rfl]
    rw [show n + 4 = n + 3 + 1 from rfl, fm_add1 h1.2.2.2.2.2.1.2.1 (by omega) _ _ _ (by decide), show nI 16 + -8 = nI 8 from rfl]
    rw [show n + 3 = n + 2 + 1 from rfl, fm_add1 h2.2.2.2.2.2.1.2.1 (by omega) _ _ _ (by decide), show nI 8 + -8 = nI 0 from rfl]
    rw [show n + 2 = n + 1 + 1 from rfl, fm_add1 h3.2.2.2.2.2.1.2.1 (by omega) _ _ _ (by decide), Fm_md_four_l3, if_pos (by decide)]
theorem hr_feed {σc σm : hf_St} (h : hr σc σm) (a b c d e : Int32) : hr_ok (Fc_hf_feed σc a b c d e) (Fm_md_feed σm a b c d e) := by
  obtain ⟨t, nc, nh, np, nf, nt, nr, h0⟩ := id h
  have ht := h0.2.2.2.2.2.1
  have hn := hp_nI (show nt < 2147483648 by have := ht.2.2.1; omega)
  have e20 : (nI nt + 20).toInt = (nt : Int) + 20 := by rw [hp_add (by rw [hn, hp_20]; omega) (by rw [hn, hp_20]; have := ht.2.2.1; omega), hn, hp_20]
  unfold Fc_hf_feed Fm_md_feed Fc_tape_size
  rw [hp_b1, ht.1, ht.2.1]
  simp only [hp_le, hp_lt, e20, hp_500]
  by_cases hc : nt + 20 ≤ 500
  · obtain ⟨c1, m1, a1, b1, g1⟩ := hr_four h0 (by omega) a
    obtain ⟨c2, m2, a2, b2, g2⟩ := hr_four g1 (by omega) b
    obtain ⟨c3, m3, a3, b3, g3⟩ := hr_four g2 (by omega) c
    obtain ⟨c4, m4, a4, b4, g4⟩ := hr_four g3 (by omega) d
    obtain ⟨c5, m5, a5, b5, g5⟩ := hr_four g4 (by omega) e
    refine ⟨nI (nt + 4 + 4 + 4 + 4 + 4), c5, m5, ?_, ?_, t, nc, nh, np, nf, _, nr, g5⟩
    · simp only [a1, a2, a3, a4, a5, hp_b0, hp_b1, g5.2.2.2.2.2.1.1]
      first | rw [if_pos (by omega)] | rw [if_neg (by omega)]
    · simp only [b1, b2, b3, b4, b5, hp_b0, hp_b1, g5.2.2.2.2.2.1.2.1]
      first | rw [if_pos (by omega)] | rw [if_neg (by omega)]
  · refine ⟨-1, σc, σm, ?_, ?_, h⟩
    · first | rw [if_pos (by omega)] | rw [if_neg (by omega)]
    · first | rw [if_pos (by omega)] | rw [if_neg (by omega)]
