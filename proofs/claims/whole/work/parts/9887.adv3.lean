/-! the model's words: the letters of a token -/
def ltr (b : Nat → Nat) (s : Nat) : Nat → List Nat
  | 0 => []
  | k + 1 => (b (s + k) - 96) :: ltr b s k
theorem ltr_len (b : Nat → Nat) (s : Nat) : ∀ k, (ltr b s k).length = k
  | 0 => rfl
  | k + 1 => congrArg (· + 1) (ltr_len b s k)
theorem ltr_let {b : Nat → Nat} {s : Nat} : ∀ k, (∀ j, j < k → isL (b (s + j)) = true) → letd (ltr b s k)
  | 0, _ => fun x hx => absurd hx (List.not_mem_nil)
  | k + 1, h => fun x hx => by
    rcases List.mem_cons.mp hx with e | e
    · have := of_decide_eq_true (h k (by omega))
      omega
    · exact ltr_let k (fun j hj => h j (by omega)) x e
theorem ltr_co {b c : Nat → Nat} {s r : Nat} : ∀ k, (∀ j, j < k → b (s + j) = c (r + j)) → ltr b s k = ltr c r k
  | 0, _ => rfl
  | k + 1, h => by
    show (b (s + k) - 96) :: ltr b s k = (c (r + k) - 96) :: ltr c r k
    rw [h k (by omega), ltr_co k (fun j hj => h j (by omega))]
theorem ltr_inj {b c : Nat → Nat} {s r : Nat} : ∀ k, ltr b s k = ltr c r k → ∀ j, j < k → b (s + j) - 96 = c (r + j) - 96
  | 0, _, j, hj => absurd hj (Nat.not_lt_zero j)
  | k + 1, h, j, hj => by
    have h : (b (s + k) - 96) :: ltr b s k = (c (r + k) - 96) :: ltr c r k := h
    injection h with h1 h2
    by_cases e : j = k
    · subst e; exact h1
    · exact ltr_inj k h2 j (by omega)
theorem ltr_lt {b : Nat → Nat} {s k : Nat} (hk : k ≤ 9) (h : ∀ j, j < k → isL (b (s + j)) = true) : hsh (ltr b s k) < 2 ^ 44 := by
  have h1 := hsh_lt _ (ltr_let k h)
  rw [ltr_len] at h1
  have h2 : 27 ^ k ≤ 27 ^ 9 := Nat.pow_le_pow_right (by decide) hk
  have h3 : (27 : Nat) ^ 9 < 2 ^ 44 := by decide
  omega
def mwt (b : Nat → Nat) (s L : Nat) : Int32 := if L ≤ 8 then mwd (hsh (ltr b s L)) else 2
section Adv3
variable {t : CS} {σ : MS}
theorem M_wd {b : Nat → Nat} {n s : Nat} (h : Tp t σ b n) {q r v : Int32} {post : MS → Prop} : ∀ d k, s + k + d = n → (∀ j, j < k → isL (b (s + j)) = true) → post (mK σ (nI (runE (fun x => isL x) b d (s + k))) (mwt b s (runE (fun x => isL x) b d (s + k) - s)) r v) → wp_M_advance_85 post (d + 1) (mK σ (nI (s + k)) q r v) (lN (hsh (ltr b s (min k 9)))) (nI k) := by
  obtain ⟨h1, h2, h3, h4⟩ := id h
  have e34 : ∀ p q r v, (mK σ p q r v) 34 0 = p := fun p q r v => (show upd (σ 34) 0 p 0 = p from pk_us)
  have fin : ∀ k, s + k ≤ 200 → (∀ j, j < k → isL (b (s + j)) = true) → post (mK σ (nI (s + k)) (mwt b s k) r v) → wp_M_advance_159 post (mK σ (nI (s + k)) q r v) (lN (hsh (ltr b s (min k 9)))) (nI k) := fun k hk hd hp => by
    unfold mwt at hp
    refine itE (fun z => ?_) (fun z => ?_)
    · have h8 : k ≤ 8 := Nat.le_of_not_lt (fun y => nI_ge (a := 8) (b := k) y (by omega) z)
      rw [if_pos h8] at hp
      rw [show min k 9 = k by omega]
      refine M_wordOf (Nat.lt_trans (ltr_lt (by omega) hd) (by decide)) (nm_e ?_)
      rw [mK_35]; exact hp
    · have h8 : ¬ k ≤ 8 := fun y => z (nI_le (a := k) (b := 8) y (by omega))
      rw [if_neg h8] at hp
      refine nm_e ?_
      rw [mK_35]; exact hp
  intro d
  induction d with
  | zero =>
    intro k hk hd hp
    have e : runE (fun x => isL x) b 0 (s + k) = s + k := rfl
    rw [e, show s + k - s = k by omega] at hp
    refine itT ?_ (fin k (by omega) hd hp)
    rw [e34]
    show σ 25 0 ≤ nI (s + k)
    rw [h2]; exact nI_le (by omega) (by omega)
  | succ d ih =>
    intro k hk hd hp
    have hb := h4 (s + k) (by omega)
    refine itF ?_ ?_
    · rw [e34]
      show ¬ σ 25 0 ≤ nI (s + k)
      rw [h2]; exact nI_ge (by omega) (by omega)
    rw [e34, nI_clamp (by omega)]
    refine ⟨vp_in_nI (by omega) (by omega), ?_⟩
    have e24 : (mK σ (nI (s + k)) q r v) 24 (s + k) = sb (b (s + k)) := hb.2.2
    rw [e24]
    refine M_isL hb.1 ?_
    by_cases z : isL (b (s + k)) = true
    · have e : runE (fun x => isL x) b (d + 1) (s + k) = runE (fun x => isL x) b d (s + (k + 1)) := if_pos z
      rw [e] at hp
      have hd' : ∀ j, j < k + 1 → isL (b (s + j)) = true := fun j hj => by
        by_cases y : j = k
        · subst y; exact z
        · exact hd j (by omega)
      have hI := ih (k + 1) (by omega) hd' hp
      have hzz := of_decide_eq_true z
      rw [if_pos z]
      refine itF (by decide) (itE (fun y => ?_) (fun y => ⟨vp_in_nI (by omega) (by omega), ?_⟩))
      · have h9 : 9 ≤ k := Nat.le_of_not_lt (fun w => nI_ge (a := k) (b := 9) w (by omega) y)
        refine nm_e (nm_e ?_)
        rw [e34, mK_34, nI_1, nI_1]
        rw [show min (k + 1) 9 = min k 9 by omega] at hI
        exact hI
      · have h9 : ¬ 9 ≤ k := fun w => y (nI_le (a := 9) (b := k) w (by omega))
        have ev : lN (hsh (ltr b s (min k 9))) * 27 + (sb (b (s + k))).toInt64 - 96 = lN (hsh (ltr b s (min (k + 1) 9))) := by
          rw [sb_lo (by omega), show min k 9 = k by omega, show min (k + 1) 9 = k + 1 by omega, w64 (by omega), show (27 : Int64) = lN 27 from rfl, lN_mul, lN_add, show (96 : Int64) = lN 96 from rfl, lN_sub (by omega)]
          congr 1
          show hsh (ltr b s k) * 27 + b (s + k) - 96 = hsh (ltr b s k) * 27 + (b (s + k) - 96)
          omega
        rw [e34 (nI (s + k)) q r v, nI_clamp (n := s + k) (by omega), e24, ev]
        refine nm_e (nm_e ?_)
        rw [e34, mK_34, nI_1, nI_1]
        exact hI
    · have e : runE (fun x => isL x) b (d + 1) (s + k) = s + k := if_neg z
      rw [e, show s + k - s = k by omega] at hp
      rw [if_neg z]
      exact itT rfl (fin k (by omega) hd hp)
end Adv3
/-! the class's words and the model's are one -/
def wbN (i : Nat) : Nat := (wordBytes.getD i 0).toNatClampNeg
def wdh (k : Nat) : Nat := [223456, 332864552, 4419, 583, 11720705, 168984, 355280, 237470, 9626, 2968, 923, 206756339381, 338358928, 249, 423, 1111, 10631, 9734, 9528].getD k 0
theorem wdh_ok : ∀ k, k < 19 → hsh (ltr wbN (wfr k) (wln k)) = wdh k ∧ ∀ j, j < wln k → isL (wbN (wfr k + j)) = true ∧ wordBytes.getD (wfr k + j) 0 = nI (wbN (wfr k + j)) := by decide +kernel
def wmh (h : Nat) : Nat → Nat → Nat
  | 0, _ => 2
  | d + 1, k => if h = wdh k then 128 + k else wmh h d (k + 1)
theorem wmn_h {b : Nat → Nat} {s L : Nat} (hb : ∀ j, j < L → isL (b (s + j)) = true) : ∀ d k, k + d = 19 → wmn b s L d k = nI (wmh (hsh (ltr b s L)) d k)
  | 0, _, _ => rfl
  | d + 1, k, hk => by
    obtain ⟨w1, w2⟩ := wdh_ok k (by omega)
    show (if wln k = L ∧ spb b s k = true then nI (128 + k) else wmn b s L d (k + 1)) = nI (if hsh (ltr b s L) = wdh k then 128 + k else wmh (hsh (ltr b s L)) d (k + 1))
    by_cases q : wln k = L ∧ spb b s k = true
    · have e : hsh (ltr b s L) = wdh k := by
        rw [← w1, q.1]
        congr 1
        refine ltr_co L (fun j hj => ?_)
        have a1 := of_decide_eq_true q.2 j (by rw [q.1]; exact hj)
        have a2 := (w2 j (by rw [q.1]; exact hj)).2
        rw [a2] at a1
        have a3 := of_decide_eq_true (w2 j (by rw [q.1]; exact hj)).1
        have a4 := of_decide_eq_true (hb j hj)
        exact ((nI_eq (by omega) (by omega)).mp a1).symm
      rw [if_pos q, if_pos e]
    · have e : ¬ hsh (ltr b s L) = wdh k := fun z => by
        rw [← w1] at z
        have z := hsh_inj _ _ (ltr_let L hb) (ltr_let (wln k) (fun j hj => (w2 j hj).1)) z
        have z1 := congrArg List.length z
        rw [ltr_len, ltr_len] at z1
        refine q ⟨z1.symm, decide_eq_true (fun j hj => ?_)⟩
        rw [← z1] at z
        have z2 := ltr_inj L z j (by omega)
        have a3 := of_decide_eq_true (w2 j hj).1
        have a4 := of_decide_eq_true (hb j (by omega))
        rw [(w2 j hj).2]
        congr 1
        omega
      rw [if_neg q, if_neg e]
      exact wmn_h hb d (k + 1) (by omega)
def mof (c : Nat) : Nat := if 1000 ≤ c then 1 else if 128 ≤ c ∧ c ≤ 140 then c - 28 else if c = 0 then 0 else if c = 40 then 5 else if c = 41 then 6 else if c = 42 then 60 else if c = 43 then 50 else if c = 44 then 4 else if c = 45 then 51 else if c = 47 then 61 else if c = 59 then 3 else if c = 60 then 40 else if c = 61 then 41 else if c = 62 then 42 else if c = 141 then 7 else if c = 142 then 10 else if c = 143 then 20 else if c = 144 then 30 else if c = 145 then 70 else if c = 146 then 71 else 2
theorem wmh_mwd (h : Nat) : mwd h = nI (mof (wmh h 19 0)) ∧ (wmh h 19 0 = 2 ∨ (128 ≤ wmh h 19 0 ∧ wmh h 19 0 ≤ 146)) := by
  have gen : ∀ k, k < 19 → mwd (wdh k) = nI (mof (wmh (wdh k) 19 0)) ∧ (wmh (wdh k) 19 0 = 2 ∨ (128 ≤ wmh (wdh k) 19 0 ∧ wmh (wdh k) 19 0 ≤ 146)) := by decide +kernel
  by_cases q : ∃ k, k < 19 ∧ h = wdh k
  · obtain ⟨k, hk, e⟩ := q
    rw [e]; exact gen k hk
  · have hn : ∀ k, k < 19 → ¬ h = wdh k := fun k hk e => q ⟨k, hk, e⟩
    have hw : ∀ d k, k + d = 19 → wmh h d k = 2 := by
      intro d
      induction d with
      | zero => intro k hk; rfl
      | succ d ih =>
        intro k hk
        show (if h = wdh k then 128 + k else wmh h d (k + 1)) = 2
        rw [if_neg (hn k (by omega))]
        exact ih (k + 1) (by omega)
    rw [hw 19 0 rfl]
    refine ⟨?_, Or.inl rfl⟩
    have n0 : ¬ h = 223456 := hn 0 (by decide)
    have n1 : ¬ h = 332864552 := hn 1 (by decide)
    have n2 : ¬ h = 4419 := hn 2 (by decide)
    have n3 : ¬ h = 583 := hn 3 (by decide)
    have n4 : ¬ h = 11720705 := hn 4 (by decide)
    have n5 : ¬ h = 168984 := hn 5 (by decide)
    have n6 : ¬ h = 355280 := hn 6 (by decide)
    have n7 : ¬ h = 237470 := hn 7 (by decide)
    have n8 : ¬ h = 9626 := hn 8 (by decide)
    have n9 : ¬ h = 2968 := hn 9 (by decide)
    have n10 : ¬ h = 923 := hn 10 (by decide)
    have n11 : ¬ h = 206756339381 := hn 11 (by decide)
    have n12 : ¬ h = 338358928 := hn 12 (by decide)
    have n13 : ¬ h = 249 := hn 13 (by decide)
    have n14 : ¬ h = 423 := hn 14 (by decide)
    have n15 : ¬ h = 1111 := hn 15 (by decide)
    have n16 : ¬ h = 10631 := hn 16 (by decide)
    have n17 : ¬ h = 9734 := hn 17 (by decide)
    have n18 : ¬ h = 9528 := hn 18 (by decide)
    unfold mwd
    rw [if_neg n13, if_neg n14, if_neg n15, if_neg n16, if_neg n17, if_neg n18, if_neg n0, if_neg n1, if_neg n2, if_neg n3, if_neg n4, if_neg n5, if_neg n6, if_neg n7, if_neg n8, if_neg n9, if_neg n10, if_neg n11, if_neg n12]
    rfl
