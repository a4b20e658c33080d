theorem cc_searchN {l0 : Launch} {D0 : va_G} {ad : Nat → Nat} {cA : Nat → ClassId} {E : State → Prop} : ∀ (n : Nat) (s : hf_St) (a1 a2 : Int32), hf_Ct l0 D0 hcT ad cA E (3 * n) yX5_search cX5_search 4 none [.ref (ad 12), .int a1, .int a2] s (Fc_search n s a1 a2) hf_rv := by
  intro n
  induction n with
  | zero => intro s a1 a2 v hv; cases hv
  | succ n ih => intro s a1 a2; exact cc_placer_search (d := 3 * n) (r_search := Fc_search n) ih
theorem cc_search9 {l0 : Launch} {D0 : va_G} {ad : Nat → Nat} {cA : Nat → ClassId} {E : State → Prop} {s : hf_St} {a1 a2 : Int32} : hf_Ct l0 D0 hcT ad cA E 27 yX5_search cX5_search 4 none [.ref (ad 12), .int a1, .int a2] s (Fc_search 9 s a1 a2) hf_rv := cc_searchN 9 s a1 a2
