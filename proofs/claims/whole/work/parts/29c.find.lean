/-! what bars a home on a day -/
def hb_want (σ : hf_St) (c : Nat) : Int32 := if σ.2 4 c = 0 then 0 else 1
def hb_num : Option Nat → Int32
  | none => 0
  | some k => nI (10 + k)
def hb (σ : hf_St) (nf np nr c h : Nat) (known : Int32) (d : Nat) : Int32 := if ¬ σ.2 6 h = -1 ∧ ¬ nI d < σ.2 6 h then 1 else if hu σ (nI h) (nI d) np < 0 then 2 else hb_num (hb_br σ nf c h (nI d) known (hb_want σ c) 0 nr)
theorem hp_minl (a b : Int32) : (hf_min a b).toInt ≤ a.toInt ∧ (hf_min a b).toInt ≤ b.toInt ∧ ((hf_min a b).toInt = a.toInt ∨ (hf_min a b).toInt = b.toInt) := by
  unfold hf_min
  split
  · rename_i h; rw [hp_lt] at h; omega
  · rename_i h; rw [hp_lt] at h; omega
theorem hp_maxl (a b : Int32) : a.toInt ≤ (hf_max a b).toInt ∧ b.toInt ≤ (hf_max a b).toInt ∧ ((hf_max a b).toInt = a.toInt ∨ (hf_max a b).toInt = b.toInt) := by
  unfold hf_max
  split
  · rename_i h; rw [hp_lt] at h; omega
  · rename_i h; rw [hp_lt] at h; omega
theorem hu_ge (σ : hf_St) (h d : Int32) : ∀ n i, i < n → hu_hit σ h d i → (σ.2 9 i).toInt ≤ (hu σ h d n).toInt := by
  intro n
  induction n with
  | zero => intro i hi; omega
  | succ n ih =>
    intro i hi hh
    rw [hu]
    by_cases hin : i = n
    · subst hin; rw [if_pos hh]; exact (hp_maxl _ _).2.1
    · have := ih i (by omega) hh
      split
      · have := (hp_maxl (hu σ h d n) (σ.2 9 n)).1; omega
      · omega
theorem hu_ex (σ : hf_St) (h d : Int32) : ∀ n, 0 ≤ (hu σ h d n).toInt → ∃ i, i < n ∧ hu_hit σ h d i ∧ (σ.2 9 i).toInt = (hu σ h d n).toInt := by
  intro n
  induction n with
  | zero => intro hh; exact absurd hh (by show ¬ 0 ≤ (-1 : Int32).toInt; decide)
  | succ n ih =>
    intro hh
    rw [hu] at hh ⊢
    split at hh
    · rename_i hit
      rw [if_pos hit]
      rcases (hp_maxl (hu σ h d n) (σ.2 9 n)).2.2 with e | e
      · rw [e] at hh
        obtain ⟨i, a, b, c⟩ := ih hh
        exact ⟨i, by omega, b, by rw [c, e]⟩
      · exact ⟨n, by omega, hit, e.symm⟩
    · rename_i hit
      rw [if_neg hit]
      obtain ⟨i, a, b, c⟩ := ih hh
      exact ⟨i, by omega, b, c⟩
theorem hu_lo (σ : hf_St) (h d : Int32) : ∀ n, -1 ≤ (hu σ h d n).toInt := by
  intro n
  induction n with
  | zero => show -1 ≤ (-1 : Int32).toInt; decide
  | succ n ih =>
    rw [hu]
    split
    · have := (hp_maxl (hu σ h d n) (σ.2 9 n)).1; omega
    · exact ih
theorem hk_turn_le (σc σm : hf_St) (c h : Nat) (day known : Int32) : ∀ n k, k < n → hk_rel σc σm c h known k → day < σm.2 13 k → (hk_turn σc σm c h day known n).toInt ≤ (σm.2 13 k).toInt := by
  intro n
  induction n with
  | zero => intro k hk; omega
  | succ n ih =>
    intro k hk hr hd
    rw [hk_turn]
    by_cases hkn : k = n
    · subst hkn; rw [if_pos ⟨hr, hd⟩]; exact (hp_minl _ _).2.1
    · have := ih k (by omega) hr hd
      split
      · have := (hp_minl (hk_turn σc σm c h day known n) (σm.2 13 n)).1; omega
      · exact this
theorem hk_turn_gt (σc σm : hf_St) (c h : Nat) {day : Int32} (known : Int32) (hd : day.toInt ≤ 999) : ∀ n, day.toInt < (hk_turn σc σm c h day known n).toInt := by
  intro n
  induction n with
  | zero => show day.toInt < (1000 : Int32).toInt; rw [hp_1000]; omega
  | succ n ih =>
    rw [hk_turn]
    split
    · rename_i hh
      have h2 := hh.2
      rw [hp_lt] at h2
      rcases (hp_minl (hk_turn σc σm c h day known n) (σm.2 13 n)).2.2 with e | e <;> omega
    · exact ih
/-- no field turns between a day and the sheet's next turn -/
theorem hk_same {σc σm : hf_St} {nf c h : Nat} (hfa : hr_fac nf σc σm) (hc : c < 7) (hh : h < 5) {d d' : Nat} (hdd : d ≤ d') (hd9 : d' ≤ 999) {known : Int32} (ht : (d' : Int) < (hk_turn σc σm c h (nI d) known nf).toInt) : ∀ sl, sl < 16 → hk_val σm nf c h (nI d') known sl = hk_val σm nf c h (nI d) known sl := by
  intro sl hsl
  have ed := hp_nI (show d < 2147483648 by omega)
  have ed' := hp_nI (show d' < 2147483648 by omega)
  have hit : ∀ k, k < nf → (hv_hit σm (hk_who c h sl) (hk_fld sl) (nI d') known k ↔ hv_hit σm (hk_who c h sl) (hk_fld sl) (nI d) known k) := by
    intro k hk
    rw [hk_hit hfa hc hh (nI d') known hk hsl, hk_hit hfa hc hh (nI d) known hk hsl]
    constructor
    · rintro ⟨a, b, e⟩
      refine ⟨a, b, fun e2 => ?_⟩
      have := hk_turn_le σc σm c h (nI d) known nf k hk b e2
      rw [hp_lt, ed'] at e
      omega
    · rintro ⟨a, b, e⟩
      refine ⟨a, b, fun e2 => e ?_⟩
      rw [hp_lt, ed'] at e2
      rw [hp_lt, ed]
      omega
  have best : ∀ k, k ≤ nf → hv_best σm (hk_who c h sl) (hk_fld sl) (nI d') known k = hv_best σm (hk_who c h sl) (hk_fld sl) (nI d) known k := by
    intro k
    induction k with
    | zero => intro _; rfl
    | succ k ih =>
      intro hk
      rw [hv_best, hv_best, ih (by omega)]
      by_cases hx : hv_hit σm (hk_who c h sl) (hk_fld sl) (nI d) known k
      · rw [if_pos hx, if_pos ((hit k (by omega)).mpr hx)]
      · rw [if_neg hx, if_neg (fun e => hx ((hit k (by omega)).mp e))]
  unfold hk_val hv
  rw [best nf (Nat.le_refl _)]
theorem ho_so_day {σ : hf_St} {nf c h : Nat} {d d' known : Int32} {k : Nat} (hr : ∃ σc, hr_rule σc σ 16 16 k) (e : ∀ sl, sl < 16 → hk_val σ nf c h d' known sl = hk_val σ nf c h d known sl) : ho_so σ nf c h d' known k = ho_so σ nf c h d known k := by
  obtain ⟨σc, kd, tc, a1, a2, a3, a4, a5, a6, a7, a8, a9, a10⟩ := hr
  have a9' : σ.2 18 k = nI tc := a9
  have sd : ∀ v sd nm, hr_side v sd nm → ho_sd σ nf c h d' known sd nm = ho_sd σ nf c h d known sd nm := by
    intro v sd nm hs
    unfold ho_sd
    rcases hs with ⟨n, h1, h2, h3, h4⟩ | ⟨sl, h1, h2, h3⟩
    · rw [if_pos h3, if_pos h3]
    · rw [h3, hp_cl (by omega), Nat.add_sub_cancel, e sl h1]
  have all : ∀ m j, j + m ≤ tc → ho_all σ nf c h d' known k j m = ho_all σ nf c h d known k j m := by
    intro m
    induction m with
    | zero => intro j _; rfl
    | succ m ih =>
      intro j hj
      obtain ⟨s1, s2, s3, s4⟩ := a10 j (by omega)
      rw [ho_all, ho_all, ih (j + 1) (by omega)]
      unfold ho_tmb
      simp only [sd _ _ _ s1, sd _ _ _ s4]
  unfold ho_so
  rw [a9', hp_cl (by omega)]
  exact all tc 0 (by omega)
theorem hb_br_day {σc σ : hf_St} {nf nr c h : Nat} {d d' known : Int32} (hru : hr_rul nr σc σ) (e : ∀ sl, sl < 16 → hk_val σ nf c h d' known sl = hk_val σ nf c h d known sl) (w : Int32) : ∀ m j, j + m = nr → hb_br σ nf c h d' known w j m = hb_br σ nf c h d known w j m := by
  intro m
  induction m with
  | zero => intro j _; rfl
  | succ m ih =>
    intro j hj
    rw [hb_br, hb_br, ih (j + 1) (by omega), ho_so_day ⟨σc, hru.2.2.2 j (by omega)⟩ e]
/-- nothing bars until the next turn -/
theorem hb_stay {σc σm : hf_St} {nf np nr nh c h : Nat} (hfa : hr_fac nf σc σm) (hpa : hr_pap np σc σm) (hru : hr_rul nr σc σm) (hc : c < 7) (hh : h < 5) {known : Int32} {d d' : Nat} (hdd : d ≤ d') (hd9 : d' ≤ 999) (h0 : hb σm nf np nr c h known d = 0) (hcl : σm.2 6 h = -1 ∨ (d' : Int) < (σm.2 6 h).toInt) (hup : (d' : Int) ≤ (hu σm (nI h) (nI d) np).toInt) (ht : (d' : Int) < (hk_turn σc σm c h (nI d) known nf).toInt) : hb σm nf np nr c h known d' = 0 := by
  have ed := hp_nI (show d < 2147483648 by omega)
  have ed' := hp_nI (show d' < 2147483648 by omega)
  have e := hk_same hfa hc hh hdd hd9 ht
  unfold hb at h0 ⊢
  have n1 : ¬ (¬ σm.2 6 h = -1 ∧ ¬ nI d' < σm.2 6 h) := by
    rintro ⟨x, y⟩
    rcases hcl with z | z
    · exact x z
    · exact y (by rw [hp_lt, ed']; exact z)
  rw [if_neg n1]
  obtain ⟨i, hi, hit, el⟩ := hu_ex σm (nI h) (nI d) np (by omega)
  have hit' : hu_hit σm (nI h) (nI d') i := by
    refine ⟨hit.1, ?_, ?_⟩
    · have := hit.2.1; rw [hp_lt, ed] at this; rw [hp_lt, ed']; omega
    · rw [hp_lt, ed']; omega
  have ge := hu_ge σm (nI h) (nI d') np i hi hit'
  rw [if_neg (by rw [hp_lt, hp_0]; omega), hb_br_day hru e _ nr 0 (by omega)]
  split at h0
  · exact absurd h0 (by decide)
  · split at h0
    · exact absurd h0 (by decide)
    · exact h0
theorem fc_closingOf {σc σm : hf_St} {nh h : Nat} (hho : hr_hom nh σc σm) (hh : h < nh) : Fc_homes_closingOf σc (nI h) = some (if σm.2 6 h = -1 then 1000 else σm.2 6 h) := by
  have h5 := hho.2.2.1
  have ix : hf_ix (nI h) 5 := hp_ix (by omega) (by omega)
  unfold Fc_homes_closingOf
  rw [fc_has_h hho.1 hho.2.2.1, hp_b1, if_neg (fun e => (hp_t0 _).mp e (by rw [hp_nI (by omega)]; omega)), hp_gd ix, hp_gd ix, hp_cl (by omega), hho.2.2.2.2.1]
  exact (apply_ite some _ _ _).symm
theorem fc_byNight {σc σm : hf_St} {nc : Nat} (hch : hr_chl nc σc σm) {i : Nat} (hi : i < nc) (hneed : ¬ σm.2 1 i = 0) : Fc_children_byNight σc (nI i) = some (hp_t (¬ σm.2 4 i = 0)) := by
  have h7 := hch.2.2.1
  unfold Fc_children_byNight
  rw [fc_hasNeedN hch hi, hp_b1, if_neg (fun e => (hp_t0 _).mp e hneed), hp_gd (hp_ix (by omega) (by omega)), hp_cl (by omega), hch.2.2.2.2.2.2.2.1, hp_z0, hp_z1]
  by_cases h4 : σm.2 4 i = 0
  · rw [if_pos h4, hp_tneg (fun e => e h4)]
  · rw [if_neg h4, hp_tpos h4]
theorem fc_barOn {t nc nh np nf nt nr : Nat} {σc σm : hf_St} (hn : hr_n t nc nh np nf nt nr σc σm) {c h : Nat} (hc : c < nc) (hh : h < nh) (hneed : ¬ σm.2 1 c = 0) {d : Nat} (hd : d ≤ 999) : ∃ s, Fc_judge_barOn σc (nI c) (nI h) (nI d) (nI t) = some (hb σm nf np nr c h (nI t) d, s) ∧ hq_c σc s ∧ s.1 9 6 = σc.1 9 6 ∧ (hb σm nf np nr c h (nI t) d = 0 → s.1 10 3 = hk_turn σc σm c h (nI d) (nI t) nf) := by
  obtain ⟨hcl, hch, hho, hpa, hfa, hta, hru, hpl⟩ := id hn
  have h7 := hch.2.2.1
  have h5 := hho.2.2.1
  have h20 := hru.2.2.1
  have ed := hp_nI (show d < 2147483648 by omega)
  have hl := hu_lo σm (nI h) (nI d) np
  unfold Fc_judge_barOn hb
  rw [fc_closingOf hho hh, hp_b1, fc_latestEnd hpa, hp_b1]
  by_cases h1 : ¬ σm.2 6 h = -1 ∧ ¬ nI d < σm.2 6 h
  · rw [if_neg h1.1, if_neg h1.2, if_pos h1]
    exact ⟨σc, rfl, hq_rf σc, rfl, fun e => absurd e (by decide)⟩
  · rw [if_neg h1]
    have lt : nI d < (if σm.2 6 h = -1 then 1000 else σm.2 6 h) := by
      by_cases hz : σm.2 6 h = -1
      · rw [if_pos hz, hp_lt, ed, hp_1000]; omega
      · rw [if_neg hz]; exact Decidable.byContradiction (fun x => h1 ⟨hz, x⟩)
    rw [if_pos lt]
    by_cases h2 : hu σm (nI h) (nI d) np < 0
    · rw [if_pos h2, if_pos (by rw [hp_lt, hp_0] at h2; rw [hp_eq, hp_m1]; omega)]
      exact ⟨σc, rfl, hq_rf σc, rfl, fun e => absurd e (by decide)⟩
    · rw [if_neg h2, if_neg (fun e => h2 (by rw [e]; decide))]
      obtain ⟨s, a, b⟩ := hk_lay hfa (show c < 7 by omega) (show h < 5 by omega) (nI d) (nI t)
      have hs := hr_fr hn b.1
      refine ⟨s, ?_, b.1, b.2.2.2.2, fun _ => b.2.2.2.1⟩
      rw [a, hp_b0, fc_byNight hs.2.1 hc hneed, hp_b1]
      have fb : ∀ w, Fc_judge_barOn_b61 s w = some (hb_num (hb_br σm nf c h (nI d) (nI t) w 0 nr), s) := by
        intro w
        unfold Fc_judge_barOn_b61 Fc_book_firstBroken
        rw [show (0 : Int32) = nI 0 from rfl, fc_firstBroken hs.2.2.2.2.2.2.1 (hk_vals b) w nr 0 hf_fuel (by omega) (by unfold hf_fuel; omega), hp_b1]
        cases hbr : hb_br σm nf c h (nI d) (nI t) w 0 nr with
        | none => rfl
        | some k =>
          have := hb_br_lt σm nf c h (nI d) (nI t) w nr 0 k hbr
          show (if nI k = -1 then _ else some (10 + nI k, s)) = some (nI (10 + k), s)
          rw [if_neg (by rw [hp_eq, hp_nI (by omega), hp_m1]; omega), ← nI_add]; rfl
      unfold hb_want
      by_cases h4 : σm.2 4 c = 0
      · rw [hp_tneg (fun e => e h4), if_pos rfl, if_pos h4, fb]
      · rw [hp_tpos h4, if_neg (by decide), if_neg h4, fb]
