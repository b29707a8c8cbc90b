/-! the model's next token -/
def mK (σ : MS) (p q r v : Int32) : MS := fun j => if j = 34 then upd (σ 34) 0 p else if j = 35 then upd (σ 35) 0 q else if j = 36 then upd (σ 36) 0 r else if j = 37 then upd (σ 37) 0 v else σ j
theorem mK_34 (σ : MS) (p q r v x : Int32) : up2 (mK σ p q r v) 34 0 x = mK σ x q r v := by
  funext j
  show (if j = 34 then upd (upd (σ 34) 0 p) 0 x else mK σ p q r v j) = _
  rw [fa_upd_twice]
  unfold mK
  by_cases h : j = 34
  · rw [if_pos h, if_pos h]
  · rw [if_neg h, if_neg h, if_neg h]
theorem mK_35 (σ : MS) (p q r v x : Int32) : up2 (mK σ p q r v) 35 0 x = mK σ p x r v := by
  funext j
  show (if j = 35 then upd (upd (σ 35) 0 q) 0 x else mK σ p q r v j) = _
  rw [fa_upd_twice]
  unfold mK
  by_cases h : j = 35
  · subst h; rfl
  · simp only [if_neg h]
theorem mK_36 (σ : MS) (p q r v x : Int32) : up2 (mK σ p q r v) 36 0 x = mK σ p q x v := by
  funext j
  show (if j = 36 then upd (upd (σ 36) 0 r) 0 x else mK σ p q r v j) = _
  rw [fa_upd_twice]
  unfold mK
  by_cases h : j = 36
  · subst h; rfl
  · simp only [if_neg h]
theorem mK_37 (σ : MS) (p q r v x : Int32) : up2 (mK σ p q r v) 37 0 x = mK σ p q r x := by
  funext j
  show (if j = 37 then upd (upd (σ 37) 0 v) 0 x else mK σ p q r v j) = _
  rw [fa_upd_twice]
  unfold mK
  by_cases h : j = 37
  · subst h; rfl
  · simp only [if_neg h]
theorem mK_id (σ : MS) : mK σ (σ 34 0) (σ 35 0) (σ 36 0) (σ 37 0) = σ := by
  funext j
  unfold mK
  rw [fa_upd_same rfl, fa_upd_same rfl, fa_upd_same rfl, fa_upd_same rfl]
  by_cases h : j = 34
  · rw [if_pos h, h]
  rw [if_neg h]
  by_cases h : j = 35
  · rw [if_pos h, h]
  rw [if_neg h]
  by_cases h : j = 36
  · rw [if_pos h, h]
  rw [if_neg h]
  by_cases h : j = 37
  · rw [if_pos h, h]
  rw [if_neg h]
section Adv
variable {t : CS} {σ : MS}
theorem M_num {b : Nat → Nat} {n s : Nat} (h : Tp t σ b n) {q r : Int32} {post : MS → Prop} : ∀ d k, s + k + d = n → (∀ j, j < k → isD (b (s + j)) = true) → post (mK σ (nI (runE (fun x => isD x) b d (s + k))) (if runE (fun x => isD x) b d (s + k) - s ≤ 5 then 1 else 2) r (nI (nv b s (min (runE (fun x => isD x) b d (s + k) - s) 5)))) → wp_M_advance_193 post (d + 1) (mK σ (nI (s + k)) q r (nI (nv b s (min k 5)))) (nI k) := by
  obtain ⟨h1, h2, h3, h4⟩ := id h
  have e34 : ∀ p q r v, (mK σ p q r v) 34 0 = p := fun p q r v => (show upd (σ 34) 0 p 0 = p from pk_us)
  have e37 : ∀ p q r v, (mK σ p q r v) 37 0 = v := fun p q r v => (show upd (σ 37) 0 v 0 = v from pk_us)
  have fin : ∀ k, k ≤ 200 → post (mK σ (nI (s + k)) (if k ≤ 5 then 1 else 2) r (nI (nv b s (min k 5)))) → wp_M_advance_271 post (mK σ (nI (s + k)) q r (nI (nv b s (min k 5)))) (nI k) := fun k hk hp => by
    refine itE (fun z => ?_) (fun z => ?_)
    · have : k ≤ 5 := Nat.le_of_not_lt (fun y => nI_ge (a := 5) (b := k) y (by omega) z)
      rw [if_pos this] at hp
      refine nm_e ?_
      rw [mK_35]; exact hp
    · have : ¬ k ≤ 5 := fun y => z (nI_le (a := k) (b := 5) y (by omega))
      rw [if_neg this] at hp
      refine nm_e ?_
      rw [mK_35]; exact hp
  intro d
  induction d with
  | zero =>
    intro k hk hd hp
    have e : runE (fun x => isD x) b 0 (s + k) = s + k := rfl
    rw [e, show s + k - s = k by omega] at hp
    refine itT ?_ (fin k (by omega) hp)
    rw [e34]
    show σ 25 0 ≤ nI (s + k)
    rw [h2]; exact nI_le (by omega) (by omega)
  | succ d ih =>
    intro k hk hd hp
    have hb := h4 (s + k) (by omega)
    refine itF ?_ ?_
    · rw [e34]
      show ¬ σ 25 0 ≤ nI (s + k)
      rw [h2]; exact nI_ge (by omega) (by omega)
    rw [e34, nI_clamp (by omega)]
    refine ⟨vp_in_nI (by omega) (by omega), ?_⟩
    have e24 : (mK σ (nI (s + k)) q r (nI (nv b s (min k 5)))) 24 (s + k) = sb (b (s + k)) := hb.2.2
    rw [e24]
    refine M_isD hb.1 ?_
    by_cases z : isD (b (s + k)) = true
    · have e : runE (fun x => isD x) b (d + 1) (s + k) = runE (fun x => isD x) b d (s + (k + 1)) := if_pos z
      rw [e] at hp
      have hd' : ∀ j, j < k + 1 → isD (b (s + j)) = true := fun j hj => by
        by_cases y : j = k
        · subst y; exact z
        · exact hd j (by omega)
      have hI := ih (k + 1) (by omega) hd' hp
      have hzz := of_decide_eq_true z
      rw [if_pos z]
      refine itF (by decide) (itE (fun y => nm_e ?_) (fun y => ⟨vp_in_nI (by omega) (by omega), nm_e ?_⟩))
      · have h5 : 5 ≤ k := Nat.le_of_not_lt (fun w => nI_ge (a := k) (b := 5) w (by omega) y)
        rw [e37, mK_37]
        refine nm_e (nm_e ?_)
        rw [e34, mK_34, nI_1, nI_1]
        rw [show min (k + 1) 5 = min k 5 by omega] at hI
        exact hI
      · have h5 : ¬ 5 ≤ k := fun w => y (nI_le (a := 5) (b := k) w (by omega))
        have ev : 10 * nI (nv b s (min k 5)) + sb (b (s + k)) - 48 = nI (nv b s (min (k + 1) 5)) := by
          rw [sb_lo (by omega), show min k 5 = k by omega, show min (k + 1) 5 = k + 1 by omega, show 10 * nI (nv b s k) = nI (10 * nv b s k) from pk_mul 10 (nv b s k), nI_add, show (48 : Int32) = nI 48 from rfl, pk_sub (by omega)]
          congr 1
          show 10 * nv b s k + b (s + k) - 48 = nv b s k * 10 + (b (s + k) - 48)
          omega
        rw [e37, e34 (nI (s + k)) q r (nI (nv b s (min k 5))), nI_clamp (n := s + k) (by omega), e24, ev, mK_37]
        refine nm_e (nm_e ?_)
        rw [e34, mK_34, nI_1, nI_1]
        exact hI
    · have e : runE (fun x => isD x) b (d + 1) (s + k) = s + k := if_neg z
      rw [e, show s + k - s = k by omega] at hp
      rw [if_neg z]
      exact itT rfl (fin k (by omega) hp)
end Adv
