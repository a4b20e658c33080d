/-! the reference's scratch -/
def hq_m (σ σ' : hf_St) : Prop := (∀ k, k < 22 ∨ k = 24 ∨ 46 ≤ k → σ'.1 0 k = σ.1 0 k) ∧ ∀ a, a < 24 ∨ 32 ≤ a → σ'.2 a = σ.2 a
theorem hq_mrf (σ : hf_St) : hq_m σ σ := ⟨fun _ _ => rfl, fun _ _ => rfl⟩
theorem hq_mtr {a b c : hf_St} (h : hq_m a b) (g : hq_m b c) : hq_m a c := ⟨fun k q => by rw [g.1 k q, h.1 k q], fun x q => by rw [g.2 x q, h.2 x q]⟩
theorem hq_mI {σ : hf_St} {k : Nat} {v : Int32} (hk : ¬ (k < 22 ∨ k = 24 ∨ 46 ≤ k)) : hq_m σ (hf_pI σ 0 k v) := ⟨fun k' q => by rw [hf_pI_1, if_neg (show ¬ (0 = 0 ∧ k' = k) by omega)], fun _ _ => rfl⟩
theorem hq_mA {σ : hf_St} {a : Nat} {f : Nat → Int32} (ha : ¬ (a < 24 ∨ 32 ≤ a)) : hq_m σ (hf_pA σ a f) := ⟨fun _ _ => rfl, fun a' q => by rw [hf_pA_2, if_neg (show ¬ (a' = a) by omega)]⟩
theorem hr_frm {t nc nh np nf nt nr : Nat} {σc σm σm' : hf_St} (h : hr_n t nc nh np nf nt nr σc σm) (q : hq_m σm σm') : hr_n t nc nh np nf nt nr σc σm' := by
  obtain ⟨q1, q2⟩ := q
  obtain ⟨h1, h2, h3, h4, h5, h6, h7, h8⟩ := h
  unfold hr_clk at h1
  unfold hr_chl hr_kid at h2
  unfold hr_hom at h3
  unfold hr_pap at h4
  unfold hr_fac hr_one at h5
  unfold hr_tap at h6
  unfold hr_rul hr_rule at h7
  unfold hr_pla at h8
  refine ⟨?_, ?_, ?_, ?_, ?_, ?_, ?_, ?_⟩
  · unfold hr_clk; rw [q1 0 (by omega)]; exact h1
  · unfold hr_chl hr_kid; rw [q1 1 (by omega), q2 0 (by omega), q2 1 (by omega), q2 2 (by omega), q2 3 (by omega), q2 4 (by omega)]; exact h2
  · unfold hr_hom; rw [q1 7 (by omega), q2 5 (by omega), q2 6 (by omega)]; exact h3
  · unfold hr_pap; rw [q1 10 (by omega), q2 7 (by omega), q2 8 (by omega), q2 9 (by omega)]; exact h4
  · unfold hr_fac hr_one; rw [q1 14 (by omega), q2 10 (by omega), q2 11 (by omega), q2 12 (by omega), q2 13 (by omega), q2 14 (by omega)]; exact h5
  · unfold hr_tap; rw [q1 21 (by omega), q2 15 (by omega)]; exact h6
  · unfold hr_rul hr_rule; rw [q1 24 (by omega), q2 16 (by omega), q2 (16 + 1) (by omega), q2 (16 + 2) (by omega), q2 (16 + 3) (by omega), q2 (16 + 4) (by omega), q2 (16 + 5) (by omega), q2 (16 + 6) (by omega), q2 (16 + 7) (by omega)]; exact h7
  · unfold hr_pla; rw [q1 55 (by omega), q1 56 (by omega), q1 51 (by omega), q1 52 (by omega), q1 53 (by omega), q1 54 (by omega), q2 32 (by omega)]; exact h8
/-! what is read of the rows alone -/
theorem hv_best_fr {σ σ' : hf_St} (q : ∀ a, a < 24 → σ'.2 a = σ.2 a) (w f d k : Int32) : ∀ n, hv_best σ' w f d k n = hv_best σ w f d k n := by
  intro n
  induction n with
  | zero => rfl
  | succ n ih => simp only [hv_best, ih, hv_hit, q 10 (by omega), q 11 (by omega), q 13 (by omega), q 14 (by omega)]
theorem hk_val_fr {σ σ' : hf_St} (q : ∀ a, a < 24 → σ'.2 a = σ.2 a) (nf c h : Nat) (d k : Int32) (sl : Nat) : hk_val σ' nf c h d k sl = hk_val σ nf c h d k sl := by
  unfold hk_val hv
  rw [hv_best_fr q, q 12 (by omega)]
theorem ho_sd_fr {σ σ' : hf_St} (q : ∀ a, a < 24 → σ'.2 a = σ.2 a) (nf c h : Nat) (d k x y : Int32) : ho_sd σ' nf c h d k x y = ho_sd σ nf c h d k x y := by
  unfold ho_sd
  rw [hk_val_fr q]
theorem ho_all_fr {σ σ' : hf_St} (q : ∀ a, a < 24 → σ'.2 a = σ.2 a) (nf c h : Nat) (d k : Int32) (r : Nat) : ∀ m j, ho_all σ' nf c h d k r j m = ho_all σ nf c h d k r j m := by
  intro m
  induction m with
  | zero => intro j; rfl
  | succ m ih =>
    intro j
    rw [ho_all, ho_all, ih]
    unfold ho_tmb
    simp only [ho_sd_fr q, q 19 (by omega), q 20 (by omega), q 21 (by omega), q 22 (by omega), q 23 (by omega)]
theorem ho_so_fr {σ σ' : hf_St} (q : ∀ a, a < 24 → σ'.2 a = σ.2 a) (nf c h : Nat) (d k : Int32) (r : Nat) : ho_so σ' nf c h d k r = ho_so σ nf c h d k r := by
  unfold ho_so
  rw [ho_all_fr q, q 18 (by omega)]
theorem hu_fr {σ σ' : hf_St} (q : ∀ a, a < 24 → σ'.2 a = σ.2 a) (h d : Int32) : ∀ n, hu σ' h d n = hu σ h d n := by
  intro n
  induction n with
  | zero => rfl
  | succ n ih => simp only [hu, ih, hu_hit, q 7 (by omega), q 8 (by omega), q 9 (by omega)]
/-! the first RULE of a kind that is not so; the sum of the wishes -/
def hb_br (σ : hf_St) (nf c h : Nat) (day known want : Int32) : Nat → Nat → Option Nat
  | _, 0 => none
  | j, m + 1 => if σ.2 16 j = want ∧ ho_so σ nf c h day known j = false then some j else hb_br σ nf c h day known want (j + 1) m
theorem hb_br_fr {σ σ' : hf_St} (q : ∀ a, a < 24 → σ'.2 a = σ.2 a) (nf c h : Nat) (d k w : Int32) : ∀ m j, hb_br σ' nf c h d k w j m = hb_br σ nf c h d k w j m := by
  intro m
  induction m with
  | zero => intro j; rfl
  | succ m ih => intro j; rw [hb_br, hb_br, ih, ho_so_fr q, q 16 (by omega)]
theorem hb_br_lt (σ : hf_St) (nf c h : Nat) (d k w : Int32) : ∀ m j r, hb_br σ nf c h d k w j m = some r → j ≤ r ∧ r < j + m := by
  intro m
  induction m with
  | zero => intro j r h; cases h
  | succ m ih =>
    intro j r h
    rw [hb_br] at h
    split at h
    · cases h; omega
    · have := ih _ _ h; omega
def hw_sum (σ : hf_St) (nf c h : Nat) (day known : Int32) : Nat → Nat → Int32 → Int32
  | _, 0, acc => acc
  | j, m + 1, acc => hw_sum σ nf c h day known (j + 1) m (if σ.2 16 j = 2 ∧ ho_so σ nf c h day known j = true then acc + σ.2 17 j else acc)
theorem ho_b0 (b : Bool) : ho_b b = 0 ↔ b = false := by cases b <;> decide
theorem fc_firstBroken {s σm : hf_St} {nf nr c h : Nat} {day known : Int32} (hru : hr_rul nr s σm) (hv : ∀ sl, sl < 16 → s.2 28 sl = hk_val σm nf c h day known sl) (want : Int32) : ∀ m j f, j + m = nr → m < f → Fc_book_firstBroken_l2 s f want (nI j) = some (hv_enc (hb_br σm nf c h day known want j m)) := by
  obtain ⟨h1, h2, h3, h4⟩ := hru
  intro m
  induction m with
  | zero =>
    intro j f hj hf
    obtain ⟨n, rfl⟩ : ∃ n, f = n + 1 := ⟨f - 1, by omega⟩
    rw [Fc_book_firstBroken_l2, h1, if_pos (by rw [hp_le, hp_nI (by omega), hp_nI (by omega)]; omega)]
    rfl
  | succ m ih =>
    intro j f hj hf
    obtain ⟨n, rfl⟩ : ∃ n, f = n + 1 := ⟨f - 1, by omega⟩
    have hr := h4 j (by omega)
    have ke : s.2 16 j = σm.2 16 j := by obtain ⟨kd, tc, -, -, -, a4, a5, -⟩ := hr; rw [a4, a5]
    rw [Fc_book_firstBroken_l2, h1, if_neg (hp_nle (by omega) (by omega)), hp_gd (hp_ix (by omega) (by omega)), hp_cl (by omega), ke, hb_br, fc_isSo hr (by omega) hv, hp_b1, hp_succ]
    by_cases hk : σm.2 16 j = want
    · rw [if_pos hk]
      by_cases hs : ho_so σm nf c h day known j = false
      · rw [if_pos ((ho_b0 _).mpr hs), if_pos ⟨hk, hs⟩]; rfl
      · rw [if_neg (fun e => hs ((ho_b0 _).mp e)), if_neg (fun e => hs e.2)]; exact ih (j + 1) n (by omega) (by omega)
    · rw [if_neg hk, if_neg (fun e => hk e.1)]; exact ih (j + 1) n (by omega) (by omega)
theorem fc_wishSum {s σm : hf_St} {nf nr c h : Nat} {day known : Int32} (hru : hr_rul nr s σm) (hv : ∀ sl, sl < 16 → s.2 28 sl = hk_val σm nf c h day known sl) : ∀ m j f acc, j + m = nr → m < f → Fc_book_wishSum_l4 s f acc (nI j) = some (hw_sum σm nf c h day known j m acc) := by
  obtain ⟨h1, h2, h3, h4⟩ := hru
  intro m
  induction m with
  | zero =>
    intro j f acc hj hf
    obtain ⟨n, rfl⟩ : ∃ n, f = n + 1 := ⟨f - 1, by omega⟩
    rw [Fc_book_wishSum_l4, h1, if_pos (by rw [hp_le, hp_nI (by omega), hp_nI (by omega)]; omega)]
    rfl
  | succ m ih =>
    intro j f acc hj hf
    obtain ⟨n, rfl⟩ : ∃ n, f = n + 1 := ⟨f - 1, by omega⟩
    have hr := h4 j (by omega)
    have ke : s.2 16 j = σm.2 16 j := by obtain ⟨kd, tc, -, -, -, a4, a5, -⟩ := hr; rw [a4, a5]
    have we : s.2 17 j = σm.2 17 j := by obtain ⟨kd, tc, -, -, -, a4, a5, a6, a7, -⟩ := hr; exact a7
    have ix : hf_ix (nI j) 20 := hp_ix (by omega) (by omega)
    rw [Fc_book_wishSum_l4, h1, if_neg (hp_nle (by omega) (by omega))]
    simp only [hp_gd ix, hp_cl (show j < 2147483648 by omega), ke, we, fc_isSo hr (show j < 20 by omega) hv, hp_b1, hp_succ, hp_let]
    rw [hw_sum]
    by_cases hk : σm.2 16 j = 2
    · rw [if_pos hk]
      by_cases hs : ho_so σm nf c h day known j = false
      · rw [if_pos ((ho_b0 _).mpr hs), if_neg (fun e => by rw [hs] at e; exact absurd e.2 (by decide))]; exact ih (j + 1) n _ (by omega) (by omega)
      · rw [if_neg (fun e => hs ((ho_b0 _).mp e)), if_pos ⟨hk, (by simpa using hs)⟩]; exact ih (j + 1) n _ (by omega) (by omega)
    · rw [if_neg hk, if_neg (fun e => hk e.1)]; exact ih (j + 1) n _ (by omega) (by omega)
theorem fm_wishOf {σc σm : hf_St} {nf nr c h : Nat} (hn : σm.1 0 14 = nI nf) (hf : nf ≤ 100) (hru : hr_rul nr σc σm) (hc : c < 7) (hh : h < 5) : ∀ m j f acc, j + m = nr → m < f → Fm_md_wishOf_l5 σm f (nI c) (nI h) acc (nI j) = some (hw_sum σm nf c h (σm.2 2 c) (σm.1 0 0) j m acc) := by
  obtain ⟨h1, h2, h3, h4⟩ := hru
  intro m
  induction m with
  | zero =>
    intro j f acc hj hf'
    obtain ⟨n, rfl⟩ : ∃ n, f = n + 1 := ⟨f - 1, by omega⟩
    rw [Fm_md_wishOf_l5, h2, if_pos (by rw [hp_le, hp_nI (by omega), hp_nI (by omega)]; omega)]
    rfl
  | succ m ih =>
    intro j f acc hj hf'
    obtain ⟨n, rfl⟩ : ∃ n, f = n + 1 := ⟨f - 1, by omega⟩
    have hr := h4 j (by omega)
    have ix : hf_ix (nI j) 20 := hp_ix (by omega) (by omega)
    rw [Fm_md_wishOf_l5, h2, if_neg (hp_nle (by omega) (by omega))]
    simp only [hp_gd ix, hp_gd (hp_ix hc (show 7 < 2147483648 by omega)), hp_cl (show j < 2147483648 by omega), hp_cl (show c < 2147483648 by omega), fm_isSo hn hf hr (show j < 20 by omega) hc hh, hp_b1, hp_succ, hp_let]
    rw [hw_sum]
    by_cases hk : σm.2 16 j = 2
    · rw [if_pos hk]
      by_cases hs : ho_so σm nf c h (σm.2 2 c) (σm.1 0 0) j = false
      · rw [if_pos ((ho_b0 _).mpr hs), if_neg (fun e => by rw [hs] at e; exact absurd e.2 (by decide))]; exact ih (j + 1) n _ (by omega) (by omega)
      · rw [if_neg (fun e => hs ((ho_b0 _).mp e)), if_pos ⟨hk, (by simpa using hs)⟩]; exact ih (j + 1) n _ (by omega) (by omega)
    · rw [if_neg hk, if_neg (fun e => hk e.1)]; exact ih (j + 1) n _ (by omega) (by omega)
/-! the wish -/
theorem hk_vals {σc σm : hf_St} {nf c h : Nat} {day known : Int32} {s : hf_St} (hi : hk_inv σc σm c h day known nf s) : ∀ sl, sl < 16 → s.2 28 sl = hk_val σm nf c h day known sl := by
  intro sl hsl
  rw [(hi.2.1 sl hsl).1]
  unfold hk_val hv hk_best hv_num
  cases hv_best σm (hk_who c h sl) (hk_fld sl) day known nf <;> rfl
theorem fc_firstDay {σc σm : hf_St} {nc : Nat} (hch : hr_chl nc σc σm) {i : Nat} (hi : i < nc) (hneed : ¬ σm.2 1 i = 0) : Fc_children_firstDay σc (nI i) = some (σm.2 2 i) := by
  have h7 := hch.2.2.1
  unfold Fc_children_firstDay
  rw [fc_hasNeedN hch hi, hp_b1, if_neg (fun e => (hp_t0 _).mp e hneed), hp_gd (hp_ix (by omega) (by omega)), hp_cl (by omega), hch.2.2.2.2.2.1]
theorem fc_lastDay {σc σm : hf_St} {nc : Nat} (hch : hr_chl nc σc σm) {i : Nat} (hi : i < nc) (hneed : ¬ σm.2 1 i = 0) : Fc_children_lastDay σc (nI i) = some (σm.2 3 i) := by
  have h7 := hch.2.2.1
  unfold Fc_children_lastDay
  rw [fc_hasNeedN hch hi, hp_b1, if_neg (fun e => (hp_t0 _).mp e hneed), hp_gd (hp_ix (by omega) (by omega)), hp_cl (by omega), hch.2.2.2.2.2.2.1]
/-- the class's wish for a child with a NEED -/
theorem fc_wishOf {t nc nh np nf nt nr : Nat} {σc σm : hf_St} (hn : hr_n t nc nh np nf nt nr σc σm) {c h : Nat} (hc : c < nc) (hh : h < nh) (hneed : ¬ σm.2 1 c = 0) : ∃ s, Fc_judge_wishOf σc (nI c) (nI h) (nI t) = some (hw_sum σm nf c h (σm.2 2 c) (nI t) 0 nr 0, s) ∧ hq_c σc s ∧ s.1 9 6 = σc.1 9 6 := by
  obtain ⟨hcl, hch, hho, hpa, hfa, hta, hru, hpl⟩ := id hn
  have h7 := hch.2.2.1
  have h5 := hho.2.2.1
  have h20 := hru.2.2.1
  obtain ⟨s, a, b⟩ := hk_lay hfa (show c < 7 by omega) (show h < 5 by omega) (σm.2 2 c) (nI t)
  have hs := (hr_fr hn b.1).2.2.2.2.2.2.1
  refine ⟨s, ?_, b.1, b.2.2.2.2⟩
  unfold Fc_judge_wishOf
  rw [fc_hasNeedN hch hc, hp_b1, if_neg (fun e => (hp_t0 _).mp e hneed), fc_has_h hho.1 hho.2.2.1, hp_b1, if_neg (fun e => (hp_t0 _).mp e (by rw [hp_nI (by omega)]; omega)), fc_firstDay hch hc hneed, hp_b1, a, hp_b0]
  unfold Fc_book_wishSum
  rw [show (0 : Int32) = nI 0 from rfl, fc_wishSum hs (hk_vals b) nr 0 hf_fuel (nI 0) (by omega) (by unfold hf_fuel; omega), hp_b1]
theorem hr_wish {σc σm : hf_St} (h : hr σc σm) (a b : Int32) : ∃ r σc', Fc_hf_wish σc a b = some (r, σc') ∧ Fm_md_wish σm a b = some r ∧ hr σc' σm := by
  obtain ⟨t, nc, nh, np, nf, nt, nr, hn⟩ := id h
  obtain ⟨hcl, hch, hho, hpa, hfa, hta, hru, hpl⟩ := id hn
  have h7 := hch.2.2.1
  have h5 := hho.2.2.1
  have h20 := hru.2.2.1
  unfold Fc_hf_wish Fm_md_wish
  rw [fm_isChild hch.2.1 hch.2.2.1, hp_b1, fm_isHome hho.2.1 hho.2.2.1, hp_b1, hcl.1]
  by_cases ha : 0 ≤ a.toInt ∧ a.toInt < nc
  · obtain ⟨c, hc, rfl, hc2⟩ := hp_of (x := a) (by omega)
    rw [if_neg (fun e => (hp_t0 _).mp e ha)]
    by_cases hb : 0 ≤ b.toInt ∧ b.toInt < nh
    · obtain ⟨k, hk, rfl, hk2⟩ := hp_of (x := b) (by omega)
      rw [if_neg (fun e => (hp_t0 _).mp e hb), hp_gd (hp_ix (show c < 7 by omega) (by omega)), hp_cl hc]
      by_cases hneed : σm.2 1 c = 0
      · refine ⟨-1, σc, ?_, by rw [if_pos hneed], h⟩
        unfold Fc_judge_wishOf
        rw [fc_hasNeedN hch (show c < nc by omega), hp_b1, if_pos ((hp_t0 _).mpr (fun e => e hneed))]; rfl
      · obtain ⟨s, e1, e2, e3⟩ := fc_wishOf hn (show c < nc by omega) (show k < nh by omega) hneed
        refine ⟨_, s, by rw [e1]; rfl, ?_, t, nc, nh, np, nf, nt, nr, hr_fr hn e2⟩
        rw [if_neg hneed]
        unfold Fm_md_wishOf
        rw [show (0 : Int32) = nI 0 from rfl, fm_wishOf hfa.2.1 hfa.2.2.1 hru (show c < 7 by omega) (show k < 5 by omega) nr 0 hf_fuel (nI 0) (by omega) (by unfold hf_fuel; omega), hp_b1, hcl.2.1]
    · refine ⟨-1, σc, ?_, by rw [if_pos ((hp_t0 _).mpr hb)], h⟩
      unfold Fc_judge_wishOf
      rw [fc_has_h hho.1 hho.2.2.1, hp_b1, if_pos ((hp_t0 _).mpr hb), fc_hasNeedN hch (show c < nc by omega), hp_b1]
      split <;> rfl
  · refine ⟨-1, σc, ?_, by rw [if_pos ((hp_t0 _).mpr ha)], h⟩
    unfold Fc_judge_wishOf
    rw [fc_hasNeed hch.1 hch.2.2.1, hp_b1, if_pos ((hp_t0 _).mpr (fun e => ha e.1))]; rfl
