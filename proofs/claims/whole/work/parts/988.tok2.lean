/-! tokens, where they end -/
def Tp (t : CS) (σ : MS) (b : Nat → Nat) (n : Nat) : Prop := n ≤ 200 ∧ σ 25 0 = nI n ∧ tF t 161 2 = nI n ∧ ∀ k, k < n → b k < 256 ∧ tA t 2 k = nI (b k) ∧ σ 24 k = sb (b k)
theorem Tp_of {t : CS} {σ : MS} (h : ITp t σ) : ∃ n, Tp t σ (fun k => (tA t 2 k).toNatClampNeg) n := by
  obtain ⟨n, h1, h2, h3, h4⟩ := h
  refine ⟨n, h1, h2, h3, fun k hk => ?_⟩
  obtain ⟨b, b1, b2, b3⟩ := h4 k hk
  have e : (tA t 2 k).toNatClampNeg = b := by rw [b2]; exact nI_clamp (by omega)
  show (tA t 2 k).toNatClampNeg < 256 ∧ tA t 2 k = nI (tA t 2 k).toNatClampNeg ∧ σ 24 k = sb (tA t 2 k).toNatClampNeg
  rw [e]
  exact ⟨b1, b2, b3⟩
def eot (b : Nat → Nat) (n s : Nat) : Nat := if isL (b s) then runE (fun x => isL x) b (n - (s + 1)) (s + 1) else if isD (b s) then runE (fun x => isD x) b (n - (s + 1)) (s + 1) else s + 1
section Tok2
variable {t : CS} {σ : MS}
theorem C_at {b : Nat → Nat} {n k : Nat} (h : Tp t σ b n) (hk : k < n) {post : Int32 → CS → Prop} (kk : post (nI (b k)) t) : wp_Tape_at t (nI k) post := by
  obtain ⟨h1, h2, h3, h4⟩ := h
  refine itF (nI_pos (by omega)) (itF ?_ (itF (nI_ge (a := k) (b := 200) (by omega) (by omega)) ⟨vp_in_nI (by omega) (by omega), ?_⟩))
  · rw [h3]; exact nI_ge hk (by omega)
  · rw [nI_clamp (by omega), (h4 k hk).2.1]; exact kk
theorem C_end {b : Nat → Nat} {n s : Nat} (h : Tp t σ b n) (hs : s < n) {post : Int32 → CS → Prop} (kk : post (nI (eot b n s)) t) : wp_Reader_endOfToken t (nI s) post := by
  obtain ⟨h1, h2, h3, h4⟩ := id h
  refine C_at h hs (C_isL (h4 s hs).1 (C_at h hs (C_isD (h4 s hs).1 (nm_e ?_))))
  rw [nI_1]
  unfold eot at kk
  by_cases hL : isL (b s) = true
  · have hD : isD (b s) = false := by
      refine decide_eq_false (fun q => ?_)
      have := of_decide_eq_true hL
      omega
    rw [if_pos hL] at kk
    rw [if_pos hL, hD]
    have main : ∀ d q, q + d = n → post (nI (runE (fun x => isL x) b d q)) t → wp_Reader_endOfToken_23 post (d + 1) t 1 (if false = true then 1 else 0) (nI q) := by
      intro d
      induction d with
      | zero =>
        intro q hq hp
        exact itT (by rw [h3]; exact nI_le (by omega) (by omega)) hp
      | succ d ih =>
        intro q hq hp
        refine itF (by rw [h3]; exact nI_ge (by omega) (by omega)) (itF (by decide) (C_at h (by omega) (C_isL (h4 q (by omega)).1 ?_)))
        by_cases hq2 : isL (b q) = true
        · have e : runE (fun x => isL x) b (d + 1) q = runE (fun x => isL x) b d (q + 1) := if_pos hq2
          rw [e] at hp
          rw [if_pos hq2]
          refine itF (by decide) (nm_e ?_)
          rw [nI_1]
          exact ih (q + 1) (by omega) hp
        · have e : runE (fun x => isL x) b (d + 1) q = q := if_neg hq2
          rw [e] at hp
          rw [if_neg hq2]
          exact itT rfl (itT rfl hp)
    exact ⟨n - (s + 1) + 1, main (n - (s + 1)) (s + 1) (by omega) kk⟩
  · rw [if_neg hL] at kk
    rw [if_neg hL]
    by_cases hD : isD (b s) = true
    · rw [if_pos hD] at kk
      rw [if_pos hD]
      have main : ∀ d q, q + d = n → post (nI (runE (fun x => isD x) b d q)) t → wp_Reader_endOfToken_23 post (d + 1) t 0 1 (nI q) := by
        intro d
        induction d with
        | zero =>
          intro q hq hp
          exact itT (by rw [h3]; exact nI_le (by omega) (by omega)) hp
        | succ d ih =>
          intro q hq hp
          refine itF (by rw [h3]; exact nI_ge (by omega) (by omega)) (itT rfl (itF (by decide) (C_at h (by omega) (C_isD (h4 q (by omega)).1 ?_))))
          by_cases hq2 : isD (b q) = true
          · have e : runE (fun x => isD x) b (d + 1) q = runE (fun x => isD x) b d (q + 1) := if_pos hq2
            rw [e] at hp
            rw [if_pos hq2]
            refine itF (by decide) (nm_e ?_)
            rw [nI_1]
            exact ih (q + 1) (by omega) hp
          · have e : runE (fun x => isD x) b (d + 1) q = q := if_neg hq2
            rw [e] at hp
            rw [if_neg hq2]
            exact itT rfl hp
      exact ⟨n - (s + 1) + 1, main (n - (s + 1)) (s + 1) (by omega) kk⟩
    · rw [if_neg hD] at kk
      rw [if_neg hD]
      exact ⟨1, itE (fun _ => kk) (fun _ => itT rfl (itT rfl kk))⟩
end Tok2
