/-! tokens that are numbers -/
def nv (b : Nat → Nat) (s : Nat) : Nat → Nat
  | 0 => 0
  | k + 1 => nv b s k * 10 + (b (s + k) - 48)
theorem nv_lt {b : Nat → Nat} {s : Nat} : ∀ k, (∀ j, j < k → isD (b (s + j)) = true) → nv b s k < 10 ^ k
  | 0, _ => Nat.one_pos
  | k + 1, h => by
    have h1 := nv_lt k (fun j hj => h j (by omega))
    have h2 := of_decide_eq_true (h k (by omega))
    show nv b s k * 10 + (b (s + k) - 48) < 10 ^ (k + 1)
    rw [Nat.pow_succ]
    omega
section Tok3
variable {t : CS} {σ : MS}
theorem C_num {b : Nat → Nat} {n s e : Nat} (h : Tp t σ b n) (hs : s ≤ e) (he : e ≤ n) (hd : ∀ j, j < e - s → isD (b (s + j)) = true) {post : Int32 → CS → Prop} (kk : if e - s ≤ 5 then post (nI (1000 + nv b s (e - s))) t else post 2 t) : wp_Reader_numberMeaning t (nI s) (nI e) post := by
  obtain ⟨h1, h2, h3, h4⟩ := id h
  unfold wp_Reader_numberMeaning
  rw [pk_sub hs]
  by_cases h5 : e - s ≤ 5
  · rw [if_pos h5] at kk
    refine itT (nI_le (a := e - s) (b := 5) h5 (by omega)) ⟨e - s + 1, ?_⟩
    have main : ∀ d k, k + d = e - s → wp_Reader_numberMeaning_14 post (d + 1) t (nI e) (nI (nv b s k)) (nI (s + k)) := by
      intro d
      induction d with
      | zero =>
        intro k hk
        have e1 : k = e - s := by omega
        subst e1
        refine itT (nI_le (by omega) (by omega)) ?_
        show post (nI 1000 + nI (nv b s (e - s))) t
        rw [nI_add]; exact kk
      | succ d ih =>
        intro k hk
        have hdk := of_decide_eq_true (hd k (by omega))
        refine itF (nI_ge (by omega) (by omega)) (C_at h (by omega) ?_)
        have ee : nI (nv b s k) * 10 + nI (b (s + k)) - 48 = nI (nv b s (k + 1)) := by
          rw [show nI (nv b s k) * 10 = nI (nv b s k * 10) from pk_mul (nv b s k) 10, nI_add, show (48 : Int32) = nI 48 from rfl, pk_sub (by omega)]
          congr 1
          show nv b s k * 10 + b (s + k) - 48 = nv b s k * 10 + (b (s + k) - 48)
          omega
        rw [ee]
        refine nm_e (nm_e ?_)
        rw [nI_1]
        exact ih (k + 1) (by omega)
    exact main (e - s) 0 (by omega)
  · rw [if_neg h5] at kk
    exact itF (nI_ge (a := 5) (b := e - s) (by omega) (by omega)) kk
end Tok3
