/-! PLACE: the class's search. -/
theorem fa_and (a b : Nat) : nI a &&& nI b = nI (a &&& b) := by
  apply Int32.toBitVec_inj.1
  show BitVec.ofNat 32 a &&& BitVec.ofNat 32 b = BitVec.ofNat 32 (a &&& b)
  apply BitVec.eq_of_getLsbD_eq
  intro i hi
  simp [hi]
theorem fa_or (a b : Nat) : nI a ||| nI b = nI (a ||| b) := by
  apply Int32.toBitVec_inj.1
  show BitVec.ofNat 32 a ||| BitVec.ofNat 32 b = BitVec.ofNat 32 (a ||| b)
  apply BitVec.eq_of_getLsbD_eq
  intro i hi
  simp [hi]
theorem pl_sh : ∀ k, k < 8 → (1 : Int32) <<< (nI k &&& 31) = nI (2 ^ k) := by decide +kernel
def pl_bcf (a1 : Int32) : Int32 := hf_lt (a1 - ((hf_ush a1 ((1 : Int32))) &&& ((1431655765 : Int32)))) (fun v1 => hf_lt ((v1 &&& ((858993459 : Int32))) + ((hf_ush v1 ((2 : Int32))) &&& ((858993459 : Int32)))) (fun v2 => hf_lt ((v2 + (hf_ush v2 ((4 : Int32)))) &&& ((252645135 : Int32))) (fun v3 => hf_lt (v3 + (hf_ush v3 ((8 : Int32)))) (fun v4 => hf_lt (v4 + (hf_ush v4 ((16 : Int32)))) (fun v5 => (v5 &&& ((63 : Int32))))))))
theorem pl_bcn : ∀ m, m < 128 → pl_bcf (nI m) = nI (pl_pop m) := by decide +kernel
theorem pl_bc (s : hf_St) {m : Nat} (h : m < 128) : Fc_J_bitCount s (nI m) = some (nI (pl_pop m)) := by
  rw [← pl_bcn m h]; rfl
theorem pl_pop_7 : ∀ m, m < 128 → pl_pop m ≤ 7 := by decide +kernel
def pl_en (d : pl_D) (h : Nat) : Int32 := if h < d 0 1 then nI h else -1
/-- what is given, as the class's placer keeps it -/
def pl_c (d : pl_D) (s : hf_St) : Prop := s.1 1 5 = nI (d 0 0) ∧ s.1 2 2 = nI (d 0 1) ∧ (∀ c, c < d 0 0 → s.2 0 c = nI (d 4 c)) ∧ (∀ h, h < d 0 1 → s.2 5 h = nI (d 6 h) ∧ d 6 h ≤ 6) ∧ (∀ c h, c < d 0 0 → h < d 0 1 → ((d 1 c = 1 ∧ d 7 (5 * c + h) = 1) ∧ (s.2 33 (5 * c + h)).toInt = pl_ch d c h) ∨ (¬ (d 1 c = 1 ∧ d 7 (5 * c + h) = 1) ∧ s.2 33 (5 * c + h) = 2147483647)) ∧ (∀ c, c < d 0 0 → (s.2 34 c).toInt = pl_no d c) ∧ (∀ k m, k + m = d 0 0 → (s.2 35 k).toInt = pl_L d k m) ∧ ∀ m, m < 2 ^ (d 0 0) → s.2 37 m = nI (pl_pk d m (d 0 0))
def pl_fc (s s' : hf_St) : Prop := (∀ j k, ¬ (j = 12 ∧ k = 14) → s'.1 j k = s.1 j k) ∧ ∀ a, ¬ (38 ≤ a ∧ a ≤ 41) → s'.2 a = s.2 a
theorem pl_fcf (s : hf_St) : pl_fc s s := ⟨fun _ _ _ => rfl, fun _ _ => rfl⟩
theorem pl_fct {a b c : hf_St} (h : pl_fc a b) (g : pl_fc b c) : pl_fc a c := ⟨fun j k q => by rw [g.1 j k q, h.1 j k q], fun k q => by rw [g.2 k q, h.2 k q]⟩
theorem pl_fcA {s : hf_St} {a : Nat} {f : Nat → Int32} (h : 38 ≤ a ∧ a ≤ 41) : pl_fc s (hf_pA s a f) := ⟨fun _ _ _ => rfl, fun k q => by rw [hf_pA_2, if_neg (by omega)]⟩
theorem pl_fcI {s : hf_St} {v : Int32} : pl_fc s (hf_pI s 12 14 v) := ⟨fun j k q => by rw [hf_pI_1, if_neg q], fun _ _ => rfl⟩
theorem pl_cf {d : pl_D} {s s' : hf_St} (h : pl_c d s) (g : pl_fc s s') : pl_c d s' := by
  unfold pl_c at *
  simp only [g.1 1 5 (by omega), g.1 2 2 (by omega), g.2 0 (by omega), g.2 5 (by omega), g.2 33 (by omega), g.2 34 (by omega), g.2 35 (by omega), g.2 37 (by omega)]
  exact h
def pl_bb (d : pl_D) (b : Option (Nat → Nat)) (s : hf_St) : Prop := (b = none ∧ s.1 12 14 = 2147483647) ∨ ∃ y, b = some y ∧ (s.1 12 14).toInt = pl_P d y (d 0 0) ∧ ∀ i, i < d 0 0 → s.2 41 i = pl_en d (y i)
def pl_cs (d : pl_D) (x : Nat → Nat) (k : Nat) (b : Option (Nat → Nat)) (s : hf_St) : Prop := (∀ h, h < d 0 1 → s.2 38 h = nI (pl_rm x h k)) ∧ (∀ g, g < 4 → s.2 39 g = nI (if g = 0 then 0 else pl_gm d x g k)) ∧ (∀ i, i < k → s.2 40 i = pl_en d (x i)) ∧ pl_bb d b s
theorem pl_or_eq {m h : Nat} : m ||| 2 ^ h = m ↔ m.testBit h = true := by
  constructor
  · intro e
    have : (m ||| 2 ^ h).testBit h = true := by rw [Nat.testBit_or, Nat.testBit_two_pow_self, Bool.or_true]
    rw [e] at this; exact this
  · intro e
    apply Nat.eq_of_testBit_eq
    intro i
    rw [Nat.testBit_or, Nat.testBit_two_pow]
    by_cases hi : h = i
    · subst hi; rw [e]; rfl
    · rw [decide_eq_false hi, Bool.or_false]
theorem pl_sea {d : pl_D} (ok : pl_ok d) : ∀ m k x b s price f, k + m = d 0 0 → m < f → pl_LG d x k → pl_c d s → pl_cs d x k b s → price.toInt = pl_P d x k → ∃ s', Fc_search f s (nI k) price = some s' ∧ pl_fc s s' ∧ pl_cs d x k (pl_S d m k x b) s' := by
  have h7 := ok.1
  have h5 := ok.2.1
  have h8 := ok.2.2.2.1
  have mx : (2147483647 : Int32).toInt = 2147483647 := rfl
  have z1 : ¬ (1 : Int32) = 0 := by decide
  intro m
  induction m with
  | zero =>
    intro k x b s price f hk hf hl hc hs hp
    obtain ⟨f, rfl⟩ : ∃ k, f = k + 1 := ⟨f - 1, by omega⟩
    have bp := pl_P_bd h8 x (show k ≤ 7 by omega)
    have e35 := hc.2.2.2.2.2.2.1 k 0 hk
    have sum : (price + s.2 35 k).toInt = pl_P d x k := by
      have : pl_L d k 0 = 0 := rfl
      rw [hp_add (by omega) (by omega), hp, e35, this]; omega
    have ek : k = d 0 0 := by omega
    rw [Fc_search]
    unfold Fc_placer_search Fc_children_size
    rw [hp_b1, hc.1, if_neg (by rw [hp_lt, hp_nI (by omega), hp_nI (by omega)]; omega), hp_gd (hp_ix (show k < 8 by omega) (by omega)), hp_cl (by omega), hp_b1, if_pos (show nI k = nI (d 0 0) by rw [ek]), hp_let, hp_let]
    obtain ⟨q1, q2, q3, q4⟩ := hs
    by_cases hlt : price + s.2 35 k < s.1 12 14
    · rw [if_pos hlt]
      refine ⟨_, rfl, pl_fct pl_fcI (pl_fcA (by omega)), q1, q2, q3, ?_⟩
      have bt : pl_bt d b x = true := by
        rcases q4 with ⟨e, _⟩ | ⟨y, e, e2, _⟩
        · rw [e]; rfl
        · rw [e]
          rw [hp_lt, sum, e2] at hlt
          exact decide_eq_true (by rw [← ek]; rw [← ek] at hlt; exact hlt)
      rw [pl_S, if_pos bt]
      refine Or.inr ⟨x, rfl, ?_, fun i hi => ?_⟩
      · show price.toInt = _
        rw [hp, ek]
      · show va_cpy (s.2 40) (s.2 41) 0 0 7 i = _
        rw [pk_cpy_in (by omega) (by omega), Nat.sub_zero, Nat.zero_add]
        exact q3 i (by omega)
    · rw [if_neg hlt]
      refine ⟨s, rfl, pl_fcf s, q1, q2, q3, ?_⟩
      have bt : pl_bt d b x = false := by
        rcases q4 with ⟨e, e2⟩ | ⟨y, e, e2, _⟩
        · rw [hp_lt, sum, e2, mx] at hlt; omega
        · rw [e]
          rw [hp_lt, sum, e2] at hlt
          exact decide_eq_false (by rw [← ek]; rw [← ek] at hlt; exact hlt)
      rw [pl_S, bt]
      exact q4
  | succ m IH =>
    intro k x b s price f hk hf hl hc hs hp
    obtain ⟨f, rfl⟩ : ∃ k, f = k + 1 := ⟨f - 1, by omega⟩
    have bp := pl_P_bd h8 x (show k ≤ 7 by omega)
    have e35 := hc.2.2.2.2.2.2.1 k (m + 1) hk
    have bL := pl_L_bd h8 (m + 1) k
    have sum : (price + s.2 35 k).toInt = pl_P d x k + pl_L d k (m + 1) := by
      rw [hp_add (by omega) (by omega), hp, e35]
    have ix : hf_ix (nI k) 7 := hp_ix (by omega) (by omega)
    have ck : (nI k).toNatClampNeg = k := hp_cl (by omega)
    rw [Fc_search]
    unfold Fc_placer_search Fc_children_size
    rw [hp_b1, hc.1, if_neg (by rw [hp_lt, hp_nI (by omega), hp_nI (by omega)]; omega), hp_gd (hp_ix (show k < 8 by omega) (by omega)), ck, hp_b1, if_neg (show ¬ nI k = nI (d 0 0) by rw [nI_eq (by omega) (by omega)]; omega)]
    by_cases hlt : price + s.2 35 k < s.1 12 14
    · rw [if_pos hlt, pl_S]
      have inner : ∀ n h b s f2, h + n = d 0 1 → n < f2 → pl_c d s → pl_cs d x k b s → ∃ s', Fc_placer_search_l61 (Fc_search f) f2 s (nI k) price (nI h) = some s' ∧ pl_fc s s' ∧ pl_cs d x k (pl_lp (pl_S d m (k + 1)) d k x (n + 1) h b) s' := by
        intro n
        induction n with
        | zero =>
          intro h b s f2 hh hf2 hc hs
          obtain ⟨f2, rfl⟩ : ∃ k, f2 = k + 1 := ⟨f2 - 1, by omega⟩
          obtain ⟨q1, q2, q3, q4⟩ := hs
          have eh : h = d 0 1 := by omega
          have xk : pl_set x k h k = d 0 1 := by rw [pl_set_k, eh]
          have xi : ∀ i, i < k → pl_set x k h i = x i := fun i hi => pl_set_n x hi
          have cg := pl_cg (d := d) k xi
          have hlet : pl_let d (pl_set x k h) k = true := (pl_let_iff d _ k).mpr (Or.inl xk)
          have rm1 : ∀ h', h' < d 0 1 → pl_rm (pl_set x k h) h' (k + 1) = pl_rm x h' k := fun h' hh' => by rw [pl_rm, if_neg (by omega), cg.2.2.2.2]
          have gm1 : ∀ g, pl_gm d (pl_set x k h) g (k + 1) = pl_gm d x g k := fun g => by rw [pl_gm, if_neg (fun a => by omega), cg.2.2.2.1]
          rw [Fc_placer_search_l61, Fc_homes_size, hp_b1, hc.2.1, if_pos (by rw [hp_le, hp_nI (by omega), hp_nI (by omega)]; omega), hp_gd ix, hp_let, hp_gd ix, ck, hp_succ]
          have e34 := hc.2.2.2.2.2.1 k (by omega)
          have bno : 0 ≤ pl_no d k ∧ pl_no d k ≤ 540672 := by unfold pl_no; split <;> (try split) <;> omega
          have fr : pl_fc s (hf_pA s 40 (upd (s.2 40) k (-1))) := pl_fcA (by omega)
          obtain ⟨s', a1, a2, a3, a4, a5, a6⟩ := IH (k + 1) (pl_set x k h) b (hf_pA s 40 (upd (s.2 40) k (-1))) (price + s.2 34 k) f (by omega) (by omega) (pl_LG_set hl hlet) (pl_cf hc fr) ⟨fun h' hh' => by rw [rm1 h' hh']; exact q1 h' hh', fun g hg => by rw [gm1]; exact q2 g hg, fun i hi => by
              show upd (s.2 40) k (-1) i = _
              rw [hp_upd]
              by_cases e : i = k
              · rw [if_pos e, e, xk]; unfold pl_en; rw [if_neg (by omega)]
              · rw [if_neg e, xi i (by omega)]; exact q3 i (by omega), q4⟩ (by
            rw [hp_add (by omega) (by omega), hp, e34, pl_P_no ok xk, pl_P_cg xi])
          refine ⟨s', ?_, pl_fct fr a2, fun h' hh' => by rw [← rm1 h' hh']; exact a3 h' hh', fun g hg => by rw [← gm1]; exact a4 g hg, fun i hi => by rw [← xi i hi]; exact a5 i (by omega), ?_⟩
          · show hf_b0 (Fc_search f (hf_pA s 40 (upd (s.2 40) k (-1))) (nI (k + 1)) (price + s.2 34 k)) _ = _
            rw [a1]; rfl
          · rw [pl_lp, pl_lp, if_pos hlet]; exact a6
        | succ n ihn =>
          intro h b s f2 hh hf2 hc hs
          obtain ⟨f2, rfl⟩ : ∃ k, f2 = k + 1 := ⟨f2 - 1, by omega⟩
          have e5 : nI k * 5 + nI h = nI (5 * k + h) := by rw [show (5 : Int32) = nI 5 from rfl, pk_mul, nI_add, Nat.mul_comm k 5]
          have i35 : hf_ix (nI (5 * k + h)) 35 := hp_ix (by omega) (by omega)
          have c35 : (nI (5 * k + h)).toNatClampNeg = 5 * k + h := hp_cl (by omega)
          have mid : ∃ s2, (if s.2 33 (5 * k + h) = ((2147483647 : Int32)) then some s else Fc_placer_searchWithHome (Fc_search f) s (nI k) (nI h) price) = some s2 ∧ pl_fc s s2 ∧ pl_cs d x k (if pl_let d (pl_set x k h) k = true then pl_S d m (k + 1) (pl_set x k h) b else b) s2 := by
            rcases hc.2.2.2.2.1 k h (by omega) (by omega) with ⟨⟨hn, hfit⟩, epr⟩ | ⟨hno, epr⟩
            · have bch : -2000 ≤ pl_ch d k h ∧ pl_ch d k h ≤ 16384 := by
                have := h8 (5 * k + h)
                unfold pl_ch; split <;> omega
              rw [if_neg (fun e => by rw [e, mx] at epr; omega)]
              obtain ⟨q1, q2, q3, q4⟩ := id hs
              have PK := pl_peak ok hl (show k < d 0 0 by omega) (show h < d 0 1 by omega) hn hfit
              have rlt := pl_rm_lt x h k
              have nlt : pl_rm x h k ||| 2 ^ k < 2 ^ (k + 1) := Nat.or_lt_two_pow (by rw [Nat.pow_succ]; omega) (Nat.pow_lt_pow_right (by omega) (by omega))
              have plt : 2 ^ (k + 1) ≤ 2 ^ (d 0 0) := Nat.pow_le_pow_right (by omega) (by omega)
              have plt7 : 2 ^ (d 0 0) ≤ 2 ^ 7 := Nat.pow_le_pow_right (by omega) h7
              have p7 : (2 : Nat) ^ 7 = 128 := by decide
              have pk7 : pl_pk d (pl_rm x h k ||| 2 ^ k) (d 0 0) ≤ 7 := (pl_pk_le _ _ _ _).mpr (fun c _ _ => pl_pop_7 _ (by
                have := Nat.and_le_right (n := pl_tg d c (d 0 0)) (m := pl_rm x h k ||| 2 ^ k)
                omega))
              have hb := hc.2.2.2.1 h (by omega)
              have BO : Fc_homes_bedsOf s (nI h) = some (nI (d 6 h)) := by
                unfold Fc_homes_bedsOf
                rw [fc_has_h hc.2.1 h5, hp_b1, if_neg (fun e => (hp_t0 _).mp e (by rw [hp_nI (by omega)]; omega)), hp_gd (hp_ix (show h < 5 by omega) (by omega)), hp_cl (by omega), hb.1]
              have GO : Fc_children_groupOf s (nI k) = some (nI (d 4 k)) := by
                unfold Fc_children_groupOf
                rw [fc_has_c hc.1 h7, hp_b1, if_neg (fun e => (hp_t0 _).mp e (by rw [hp_nI (by omega)]; omega)), hp_gd ix, ck, hc.2.2.1 k (by omega)]
              have ih5 : hf_ix (nI h) 5 := hp_ix (by omega) (by omega)
              have ch : (nI h).toNatClampNeg = h := hp_cl (by omega)
              have now : nI (pl_rm x h k) ||| (1 : Int32) <<< (nI k &&& 31) = nI (pl_rm x h k ||| 2 ^ k) := by rw [pl_sh k (by omega), fa_or]
              have d4 := ok.2.2.2.2.1 k
              have i4 : hf_ix (nI (d 4 k)) 4 := hp_ix (by omega) (by omega)
              have c4 : (nI (d 4 k)).toNatClampNeg = d 4 k := hp_cl (by omega)
              unfold Fc_placer_searchWithHome
              rw [hp_gd ih5, hp_let, hp_let, ch, q1 h (by omega), now, hp_gd (hp_ix (show pl_rm x h k ||| 2 ^ k < 128 by omega) (by omega)), BO, hp_b1, hp_cl (by omega), hc.2.2.2.2.2.2.2 _ (by omega), GO, hp_b1, hp_gd i4, hp_let, c4, q2 (d 4 k) (by omega)]
              by_cases hlet : pl_let d (pl_set x k h) k = true
              · rw [if_pos (by rw [hp_le, hp_nI (by omega), hp_nI (by omega)]; have := PK.mpr hlet; omega), if_pos hlet]
                have xk : pl_set x k h k = h := pl_set_k x k h
                have xi : ∀ i, i < k → pl_set x k h i = x i := fun i hi => pl_set_n x hi
                have cg := pl_cg (d := d) k xi
                have rmh : pl_rm (pl_set x k h) h (k + 1) = pl_rm x h k ||| 2 ^ k := by rw [pl_rm, if_pos xk, cg.2.2.2.2]
                have rmo : ∀ h', ¬ h' = h → pl_rm (pl_set x k h) h' (k + 1) = pl_rm x h' k := fun h' e => by rw [pl_rm, if_neg (by omega), cg.2.2.2.2]
                have gmg : pl_gm d (pl_set x k h) (d 4 k) (k + 1) = pl_gm d x (d 4 k) k ||| 2 ^ h := by rw [pl_gm, if_pos ⟨rfl, by omega⟩, cg.2.2.2.1, xk]
                have gmo : ∀ g, ¬ g = d 4 k → pl_gm d (pl_set x k h) g (k + 1) = pl_gm d x g k := fun g e => by rw [pl_gm, if_neg (fun a => e a.1.symm), cg.2.2.2.1]
                have glt := pl_gm_lt ok x (d 4 k) k
                -- the tail, for either answer of parts
                obtain ⟨ga, ega⟩ : ∃ ga, ga = (if d 4 k = 0 then 0 else pl_gm d x (d 4 k) k) := ⟨_, rfl⟩
                obtain ⟨gn, egn⟩ : ∃ gn, gn = (if d 4 k = 0 then 0 else pl_gm d x (d 4 k) k ||| 2 ^ h) := ⟨_, rfl⟩
                rw [← ega]
                have tail : ∀ (pp : Int32), (pp = if pl_ps d x k h then 1 else 0) → ∃ s2, Fc_placer_searchWithHome_b92 (Fc_search f) s (nI k) (nI h) price (nI (pl_rm x h k)) (nI (pl_rm x h k ||| 2 ^ k)) (nI (d 4 k)) (nI ga) (nI gn) pp = some s2 ∧ pl_fc s s2 ∧ pl_cs d x k (pl_S d m (k + 1) (pl_set x k h) b) s2 := by
                  intro pp hpp
                  have PS : pl_ps d (pl_set x k h) k h ↔ pl_ps d x k h := by unfold pl_ps; rw [cg.2.2.2.1]
                  obtain ⟨s3, es3⟩ : ∃ s3, s3 = hf_pA (hf_pA (hf_pA s 38 (upd (s.2 38) h (nI (pl_rm x h k ||| 2 ^ k)))) 39 (upd (s.2 39) (d 4 k) (nI gn))) 40 (upd (s.2 40) k (nI h)) := ⟨_, rfl⟩
                  have f3 : pl_fc s s3 := by rw [es3]; exact pl_fct (pl_fct (pl_fcA (by omega)) (pl_fcA (by omega))) (pl_fcA (by omega))
                  have hc3 := pl_cf hc f3
                  have e33 : s3.2 33 (5 * k + h) = s.2 33 (5 * k + h) := by rw [f3.2 33 (by omega)]
                  have cs3 : pl_cs d (pl_set x k h) (k + 1) b s3 := by
                    rw [es3]
                    refine ⟨fun h' hh' => ?_, fun g hg => ?_, fun i hi => ?_, q4⟩
                    · show upd (s.2 38) h _ h' = _
                      rw [hp_upd]
                      by_cases e : h' = h
                      · rw [if_pos e, e, rmh]
                      · rw [if_neg e, rmo h' e]; exact q1 h' hh'
                    · show upd (s.2 39) (d 4 k) _ g = _
                      rw [hp_upd]
                      by_cases e : g = d 4 k
                      · rw [if_pos e, e, gmg, egn]
                      · rw [if_neg e, gmo g e]; exact q2 g hg
                    · show upd (s.2 40) k _ i = _
                      rw [hp_upd]
                      by_cases e : i = k
                      · rw [if_pos e, e, xk]; unfold pl_en; rw [if_pos (by omega)]
                      · rw [if_neg e, xi i (by omega)]; exact q3 i (by omega)
                  have fin : ∀ t0 : Int32, t0.toInt = (if pl_ps d x k h then 131072 else 0) → ∃ s2, Fc_placer_searchWithHome_b139 (Fc_search f) s3 (nI k) (nI h) price (nI (pl_rm x h k)) (nI (d 4 k)) (nI ga) t0 (s3.2 33 (5 * k + h)) = some s2 ∧ pl_fc s s2 ∧ pl_cs d x k (pl_S d m (k + 1) (pl_set x k h) b) s2 := by
                    intro t0 ht0
                    have bt0 : 0 ≤ t0.toInt ∧ t0.toInt ≤ 131072 := by rw [ht0]; split <;> omega
                    have ev : (s3.2 33 (5 * k + h) + t0).toInt = pl_ch d k h + t0.toInt := by
                      rw [e33, hp_add (by omega) (by omega), epr]
                    obtain ⟨s4, a1, a2, a3, a4, a5, a6⟩ := IH (k + 1) (pl_set x k h) b s3 (price + (s3.2 33 (5 * k + h) + t0)) f (by omega) (by omega) (pl_LG_set hl hlet) hc3 cs3 (by
                      rw [hp_add (by omega) (by omega), ev, hp, pl_P_h ok xk (by omega) hn, pl_P_cg xi, ht0]
                      simp only [PS])
                    unfold Fc_placer_searchWithHome_b139
                    rw [hp_let, hp_succ, a1, hp_b0, hp_gd ih5, hp_let, ch, hp_gd i4, hp_let, c4]
                    refine ⟨_, rfl, pl_fct (pl_fct f3 a2) (pl_fct (pl_fcA (by omega)) (pl_fcA (by omega))), fun h' hh' => ?_, fun g hg => ?_, fun i hi => ?_, a6⟩
                    · show upd (s4.2 38) h _ h' = _
                      rw [hp_upd]
                      by_cases e : h' = h
                      · rw [if_pos e, e]
                      · rw [if_neg e, ← rmo h' e]; exact a3 h' hh'
                    · show upd (s4.2 39) (d 4 k) _ g = _
                      rw [hp_upd]
                      by_cases e : g = d 4 k
                      · rw [if_pos e, e, ega]
                      · rw [if_neg e, ← gmo g e]; exact a4 g hg
                    · show s4.2 40 i = _
                      rw [← xi i hi]; exact a5 i (by omega)
                  unfold Fc_placer_searchWithHome_b92
                  rw [hp_gd ih5, hp_let, ch, hp_gd i4, hp_let, c4, hp_gd ix, hp_let, ck, e5, hp_gd i35, c35]
                  have es3' : hf_pA (hf_pA (hf_pA s 38 (upd (s.2 38) h (nI (pl_rm x h k ||| 2 ^ k)))) 39 (upd ((hf_pA s 38 (upd (s.2 38) h (nI (pl_rm x h k ||| 2 ^ k)))).2 39) (d 4 k) (nI gn))) 40 (upd ((hf_pA (hf_pA s 38 (upd (s.2 38) h (nI (pl_rm x h k ||| 2 ^ k)))) 39 (upd ((hf_pA s 38 (upd (s.2 38) h (nI (pl_rm x h k ||| 2 ^ k)))).2 39) (d 4 k) (nI gn))).2 40) k (nI h)) = s3 := by rw [es3]; rfl
                  rw [es3']
                  by_cases ps : pl_ps d x k h
                  · rw [hpp, if_pos ps, if_neg z1]
                    exact fin 131072 (by rw [if_pos ps]; rfl)
                  · rw [hpp, if_neg ps, if_pos rfl]
                    exact fin 0 (by rw [if_neg ps]; rfl)
                unfold Fc_placer_searchWithHome_b69 Fc_placer_searchWithHome_b91
                by_cases g0 : d 4 k = 0
                · rw [if_pos (show nI (d 4 k) = 0 by rw [g0]; rfl)]
                  have ga0 : ga = 0 := by rw [ega, if_pos g0]
                  have gn0 : gn = 0 := by rw [egn, if_pos g0]
                  rw [ga0, pl_bc s (show 0 < 128 by omega), hp_b1, if_neg (show ¬ nI (pl_pop 0) = 1 by decide)]
                  have := tail 0 (by rw [if_neg (fun a => a.1 g0)])
                  rw [ga0, gn0] at this
                  exact this
                · rw [if_neg (show ¬ nI (d 4 k) = 0 from nI_ne0 (by omega) (by omega))]
                  have gae : ga = pl_gm d x (d 4 k) k := by rw [ega, if_neg g0]
                  have gne : gn = pl_gm d x (d 4 k) k ||| 2 ^ h := by rw [egn, if_neg g0]
                  have orr : nI ga ||| (1 : Int32) <<< (nI h &&& 31) = nI gn := by rw [pl_sh h (by omega), fa_or, gae, gne]
                  have g7 := pl_pop_7 ga (by rw [gae]; omega)
                  have gnlt : gn < 32 := by rw [gne]; exact Nat.or_lt_two_pow (n := 5) glt (Nat.pow_lt_pow_right (by omega) (by omega))
                  rw [orr, pl_bc s (show ga < 128 by rw [gae]; omega), hp_b1]
                  by_cases p1 : pl_pop ga = 1
                  · rw [if_pos (show nI (pl_pop ga) = 1 by rw [p1]; rfl)]
                    by_cases tb : (pl_gm d x (d 4 k) k).testBit h = true
                    · rw [if_pos (by rw [gae, gne, pl_or_eq.mpr tb])]
                      exact tail 0 (by rw [if_neg (fun a => by rw [a.2.2] at tb; cases tb)])
                    · rw [if_neg (by rw [nI_eq (by omega) (by rw [gae]; omega), gae, gne]; exact fun a => tb (pl_or_eq.mp a))]
                      exact tail 1 (by rw [if_pos ⟨g0, by rw [← gae]; exact p1, by simpa using tb⟩])
                  · rw [if_neg (show ¬ nI (pl_pop ga) = 1 by rw [show (1 : Int32) = nI 1 from rfl, nI_eq (by omega) (by omega)]; exact p1)]
                    exact tail 0 (by rw [if_neg (fun a => p1 (by rw [gae]; exact a.2.1))])
              · rw [if_neg (by rw [hp_le, hp_nI (by omega), hp_nI (by omega)]; intro a; exact hlet (PK.mp (by omega))), if_neg hlet]
                exact ⟨s, rfl, pl_fcf s, hs⟩
            · rw [if_pos epr]
              refine ⟨s, rfl, pl_fcf s, ?_⟩
              rw [if_neg]
              · exact hs
              · intro a
                rcases (pl_let_iff d _ k).mp a with e | e
                · rw [pl_set_k] at e; omega
                · rw [pl_set_k] at e; exact hno e.1.2
          obtain ⟨s2, g1, g2, g3⟩ := mid
          obtain ⟨s', a1, a2, a3⟩ := ihn (h + 1) (if pl_let d (pl_set x k h) k = true then pl_S d m (k + 1) (pl_set x k h) b else b) s2 f2 (by omega) (by omega) (pl_cf hc g2) g3
          refine ⟨s', ?_, pl_fct g2 a2, ?_⟩
          · rw [Fc_placer_search_l61, Fc_homes_size, hp_b1, hc.2.1, if_neg (hp_nle (by omega) (by omega)), e5, hp_gd i35, c35, hp_succ]
            by_cases e : s.2 33 (5 * k + h) = 2147483647
            · rw [if_pos e] at g1 ⊢
              cases g1
              exact a1
            · rw [if_neg e] at g1 ⊢
              rw [g1, hp_b0]; exact a1
          · rw [pl_lp]; exact a3
      obtain ⟨s', a1, a2, a3⟩ := inner (d 0 1) 0 b s hf_fuel (by omega) (by unfold hf_fuel; omega) hc hs
      exact ⟨s', a1, a2, a3⟩
    · rw [if_neg hlt]
      refine ⟨s, rfl, pl_fcf s, ?_⟩
      rw [pl_prune d b (m + 1) k x hk (fun y e1 e2 => ?_)]
      · exact hs
      · have lo := pl_low ok (m + 1) k hk e2
        rw [pl_P_cg e1] at lo
        rcases hs.2.2.2 with ⟨e, e3⟩ | ⟨z, e, e3, _⟩
        · rw [hp_lt, sum, e3, mx] at hlt; omega
        · rw [e]
          rw [hp_lt, sum, e3] at hlt
          exact decide_eq_false (by omega)
