/-! what a token means -/
theorem runE_all (p : Nat → Bool) (b : Nat → Nat) : ∀ d q j, q ≤ j → j < runE p b d q → p (b j) = true
  | 0, q, j, h1, h2 => absurd h2 (Nat.not_lt.mpr h1)
  | d + 1, q, j, h1, h2 => by
    unfold runE at h2
    by_cases h : p (b q) = true
    · rw [if_pos h] at h2
      by_cases e : j = q
      · rw [e]; exact h
      · exact runE_all p b d (q + 1) j (by omega) h2
    · rw [if_neg h] at h2; omega
theorem eot_b {b : Nat → Nat} {n s : Nat} (hs : s < n) : s < eot b n s ∧ eot b n s ≤ n := by
  unfold eot
  have h1 := runE_b (fun x => isL x) b (n - (s + 1)) (s + 1)
  have h2 := runE_b (fun x => isD x) b (n - (s + 1)) (s + 1)
  split
  · omega
  · split <;> omega
theorem eot_D {b : Nat → Nat} {n s : Nat} (hL : ¬ isL (b s) = true) (hD : isD (b s) = true) : ∀ j, j < eot b n s - s → isD (b (s + j)) = true := by
  intro j hj
  unfold eot at hj
  rw [if_neg hL, if_pos hD] at hj
  by_cases e : j = 0
  · subst e; exact hD
  · exact runE_all (fun x => isD x) b (n - (s + 1)) (s + 1) (s + j) (by omega) (by omega)
def sgn (x : Nat) : Int32 := if (40 ≤ x ∧ x ≤ 47 ∧ x ≠ 46) ∨ (59 ≤ x ∧ x ≤ 62) then nI x else 2
def ctk (b : Nat → Nat) (n s : Nat) : Int32 := if isL (b s) = true then wmn b s (eot b n s - s) 19 0 else if isD (b s) = true then (if eot b n s - s ≤ 5 then nI (1000 + nv b s (eot b n s - s)) else 2) else sgn (b s)
section Tok5
variable {t : CS} {σ : MS}
theorem C_meaning {b : Nat → Nat} {n s : Nat} (h : Tp t σ b n) (hs : s < n) {post : Int32 → CS → Prop} (kk : post (ctk b n s) t) : wp_Reader_meaning t (nI s) (nI (eot b n s)) post := by
  obtain ⟨h1, h2, h3, h4⟩ := id h
  have he := eot_b (b := b) hs
  have hb := (h4 s hs).1
  unfold ctk at kk
  refine C_at h hs (C_isL hb ?_)
  by_cases hL : isL (b s) = true
  · rw [if_pos hL] at kk
    rw [if_pos hL, pk_sub (by omega)]
    exact itF (by decide) (C_word h (by omega) kk)
  · rw [if_neg hL] at kk
    rw [if_neg hL]
    refine itT rfl (C_isD hb ?_)
    by_cases hD : isD (b s) = true
    · rw [if_pos hD] at kk
      rw [if_pos hD]
      refine itF (by decide) (C_num h (by omega) he.2 (eot_D hL hD) ?_)
      by_cases q : eot b n s - s ≤ 5
      · rw [if_pos q] at kk ⊢; exact kk
      · rw [if_neg q] at kk ⊢; exact kk
    · rw [if_neg hD] at kk
      rw [if_neg hD]
      refine itT rfl ?_
      unfold sgn at kk
      have h54 : ¬ (40 ≤ b s ∧ b s ≤ 47 ∧ b s ≠ 46) → wp_Reader_meaning_54 post t (nI (b s)) := fun z => by
        refine itE (fun q => ?_) (fun q => itE (fun q2 => ?_) (fun q2 => ?_))
        · rw [if_neg (fun y => ?_)] at kk
          · exact kk
          · rcases y with y | y
            · exact z y
            · exact nI_nlt (a := b s) (b := 59) y.1 (by omega) q
        · rw [if_neg (fun y => ?_)] at kk
          · exact kk
          · rcases y with y | y
            · exact z y
            · exact nI_nlt (a := 62) (b := b s) y.2 (by omega) q2
        · rw [if_pos (Or.inr ⟨Nat.le_of_not_lt (fun y => q (nI_lt (a := b s) (b := 59) y (by omega))), Nat.le_of_not_lt (fun y => q2 (nI_lt (a := 62) (b := b s) y (by omega)))⟩)] at kk
          exact kk
      refine itE (fun q => h54 (fun z => nI_nlt (a := b s) (b := 40) z.1 (by omega) q)) (fun q => itE (fun q2 => h54 (fun z => nI_nlt (a := 47) (b := b s) z.2.1 (by omega) q2)) (fun q2 => itE (fun q3 => h54 (fun z => z.2.2 ((nI_eq (a := b s) (b := 46) (by omega) (by omega)).mp q3))) (fun q3 => ?_)))
      rw [if_pos (Or.inl ⟨Nat.le_of_not_lt (fun y => q (nI_lt (a := b s) (b := 40) y (by omega))), Nat.le_of_not_lt (fun y => q2 (nI_lt (a := 47) (b := b s) y (by omega))), fun y => q3 (by rw [y]; rfl)⟩)] at kk
      exact kk
end Tok5
