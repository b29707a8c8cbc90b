/-! the model's words -/
theorem cmp0 {a c : Nat} (ha : a < 2 ^ 62) (hc : c < 2 ^ 62) : lg_cmp (lN a) (lN c) = 0 ↔ a = c := by
  constructor
  · intro h
    unfold lg_cmp at h
    refine (fb_lN_inj (by omega) (by omega)).mp ?_
    by_cases q : lN a = lN c
    · exact q
    · exfalso
      revert h
      split <;> decide
  · intro h
    subst h
    unfold lg_cmp
    simp
