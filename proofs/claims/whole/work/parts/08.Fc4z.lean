/-- the search, by the depth that is left -/
def Fc_search : Nat → hf_St → Int32 → Int32 → Option hf_St
  | 0, _, _, _ => none
  | n + 1, s, a1, a2 => Fc_placer_search (Fc_search n) s a1 a2
