/-! grown states (gen/tails.py) -/
def sG (t : CS) (k i v : Nat) : CS := (t.1, t.2.1, t.2.2.1, t.2.2.2.1, (fun k' j => if k' = k ∧ j = i then v else t.2.2.2.2.1 k' j), t.2.2.2.2.2)
theorem tT_lAdd (t : CS) (k j : Nat) : tT (lAdd t k j) k = tT t k ++ [j] := by
  show va_up t.2.2.1 k (tT t k ++ [j]) k = _
  exact va_up_self _ _ _
def sAr (t : CS) (k : Nat) (g : Nat → Int32) : CS := (t.1, va_up t.2.1 k g, t.2.2)
theorem cell_ad {Z : Nat → ClassId} {ad ad' : Nat → Nat → Nat} {t : CS} (hok : allOk t) (h4 : tN t 0 ≤ 4) (had : ∀ κ i, i < cnt t κ → ad' κ i = ad κ i) (κ i : Nat) (h6 : κ ≠ 6) (hi : i < cnt t κ) : cellOf Z ad' t κ i = cellOf Z ad t κ i := by
  have l6 : ∀ k, k < 11 → ad' 6 k = ad 6 k := fun k hk => had 6 k (Nat.lt_of_lt_of_le hk (Nat.le_add_left _ _))
  have l7 : ∀ k, k < 8 → ad' 7 k = ad 7 k := fun k hk => had 7 k (Nat.lt_of_lt_of_le hk (Nat.le_add_left _ _))
  have l5 : ∀ k, k < 5 → ad' 5 k = ad 5 k := fun k hk => had 5 k hk
  match κ, i, h6, hi with
  | 0, i, _, hi =>
    have e := l6 (i + 7) (by have : i < tN t 0 := hi; omega)
    show (Sum.inr (1, kFellowship ad' t i) : va_E) = .inr (1, kFellowship ad t i)
    unfold kFellowship
    rw [e]
  | 1, i, _, hi =>
    have e : ad' 7 (i + 8) = ad 7 (i + 8) := had 7 (i + 8) (show i + 8 < tN t 1 + 8 by have : i < tN t 1 := hi; omega)
    show (Sum.inr (2, kLaw ad' t i) : va_E) = .inr (2, kLaw ad t i)
    unfold kLaw
    rw [e]
  | 2, i, _, hi =>
    have hi : i < tN t 2 := hi
    have e1 : ad' 4 (tG t 0 i) = ad 4 (tG t 0 i) := had 4 _ (hok.2 i hi).1
    have e2 : ad' 4 (tG t 1 i) = ad 4 (tG t 1 i) := had 4 _ (hok.2 i hi).2
    have e3 : ad' 6 (i + 11) = ad 6 (i + 11) := had 6 (i + 11) (show i + 11 < tN t 2 + 11 by omega)
    show (Sum.inr (3, kLoad ad' t i) : va_E) = .inr (3, kLoad ad t i)
    unfold kLoad
    rw [e1, e2, e3]
  | 3, i, _, _ => rfl
  | 4, i, _, _ => rfl
  | 5, 0, _, _ =>
    show (Sum.inr (10, kPorterTurns ad' t) : va_E) = .inr (10, kPorterTurns ad t)
    unfold kPorterTurns
    rw [l6 0 (by decide), l6 1 (by decide), l6 2 (by decide), l6 3 (by decide), l6 4 (by decide), l6 5 (by decide), l6 6 (by decide), l5 1 (by decide), l5 2 (by decide), l5 3 (by decide), l5 4 (by decide)]
  | 5, 1, _, _ =>
    show (Sum.inr (8, kSky ad' t) : va_E) = .inr (8, kSky ad t)
    unfold kSky
    rw [l7 0 (by decide), l7 1 (by decide)]
  | 5, 2, _, _ =>
    show (Sum.inr (9, kTape ad' t) : va_E) = .inr (9, kTape ad t)
    unfold kTape
    rw [l7 2 (by decide)]
  | 5, 3, _, _ =>
    show (Sum.inr (6, kReader ad' t) : va_E) = .inr (6, kReader ad t)
    unfold kReader
    rw [l7 3 (by decide), l7 4 (by decide), l7 5 (by decide)]
  | 5, 4, _, _ =>
    show (Sum.inr (7, kReckoner ad' t) : va_E) = .inr (7, kReckoner ad t)
    unfold kReckoner
    rw [l7 6 (by decide), l7 7 (by decide)]
  | 5, i + 5, _, hi => exact absurd (show i + 5 < 5 from hi) (by omega)
  | 6, _, h6, _ => exact absurd rfl h6
  | 7, i, _, _ => rfl
  | κ + 8, _, _, hi => exact absurd (show _ < 0 from hi) (Nat.not_lt_zero _)
theorem cell_sN (Z : Nat → ClassId) (ad : Nat → Nat → Nat) (t : CS) (κ0 n κ j : Nat) : cellOf Z ad (sN t κ0 n) κ j = cellOf Z ad t κ j := rfl
theorem cell_sT (Z : Nat → ClassId) (ad : Nat → Nat → Nat) (t : CS) (k : Nat) (xs : List Nat) (κ j : Nat) : cellOf Z ad (sT t k xs) κ j = cellOf Z ad t κ j := rfl
theorem cell_sK (Z : Nat → ClassId) (ad : Nat → Nat → Nat) (t : CS) (k n κ j : Nat) : cellOf Z ad (sK t k n) κ j = cellOf Z ad t κ j := rfl
theorem tG_sG (t : CS) (k i v k' j : Nat) (h : ¬ (k' = k ∧ j = i)) : tG (sG t k i v) k' j = tG t k' j := if_neg h
theorem alen_sG (t : CS) (k i v j : Nat) (h : ¬ (k = 2 ∧ j = i + 8)) : alen (sG t k i v) j = alen t j := by
  match j, h with
  | 0, _ => rfl
  | 1, _ => rfl
  | 2, _ => rfl
  | 3, _ => rfl
  | 4, _ => rfl
  | 5, _ => rfl
  | 6, _ => rfl
  | 7, _ => rfl
  | j + 8, h => exact tG_sG t k i v 2 j (fun q => h ⟨q.1.symm, by omega⟩)
theorem cell_sG (Z : Nat → ClassId) (ad : Nat → Nat → Nat) (t : CS) (k i v κ j : Nat) (h6 : κ ≠ 6) (h8 : κ < 8) (h2 : κ = 2 → j ≠ i ∨ k = 2) (h7 : κ = 7 → j ≠ i + 8 ∨ k ≠ 2) : cellOf Z ad (sG t k i v) κ j = cellOf Z ad t κ j := by
  match κ, h6, h8, h2, h7 with
  | 0, _, _, _, _ => rfl
  | 1, _, _, _, _ => rfl
  | 2, _, _, h, _ =>
    show (Sum.inr (3, kLoad ad (sG t k i v) j) : va_E) = .inr (3, kLoad ad t j)
    unfold kLoad
    rw [tG_sG t k i v 0 j (by have := h rfl; omega), tG_sG t k i v 1 j (by have := h rfl; omega)]
    rfl
  | 3, _, _, _, _ => rfl
  | 4, _, _, _, _ => rfl
  | 5, _, _, _, _ => rfl
  | 6, h, _, _, _ => exact absurd rfl h
  | 7, _, _, _, h =>
    show (Sum.inl (Z 1, alen (sG t k i v) j, .inl (tA t j)) : va_E) = .inl (Z 1, alen t j, .inl (tA t j))
    rw [alen_sG t k i v j (by have := h rfl; omega)]
  | κ + 8, _, h, _, _ => exact absurd h (by omega)
theorem cell_sAr (Z : Nat → ClassId) (ad : Nat → Nat → Nat) (t : CS) (k : Nat) (g : Nat → Int32) (κ j : Nat) (h6 : κ ≠ 6) (h8 : κ < 8) (h : κ = 7 → j ≠ k) : cellOf Z ad (sAr t k g) κ j = cellOf Z ad t κ j := by
  match κ, h6, h8, h with
  | 0, _, _, _ => rfl
  | 1, _, _, _ => rfl
  | 2, _, _, _ => rfl
  | 3, _, _, _ => rfl
  | 4, _, _, _ => rfl
  | 5, _, _, _ => rfl
  | 6, h, _, _ => exact absurd rfl h
  | 7, _, _, h =>
    show (Sum.inl (Z 1, alen t j, .inl (va_up t.2.1 k g j)) : va_E) = .inl (Z 1, alen t j, .inl (tA t j))
    rw [va_up_ne _ _ (h rfl)]
  | κ + 8, _, h, _ => exact absurd h (by omega)
def mkLoad (t : CS) (kd wt : Int32) (p1 p2 : Nat) (fa up vl du mi : Int32) : CS := sK (sT (sG (sG (sN (sF (sF (sF (sF (sF (sF (sF (sF (sF (sF (sF (sF (sF (sF (sF t 65 (tN t 2) kd) 66 (tN t 2) wt) 69 (tN t 2) fa) 70 (tN t 2) up) 71 (tN t 2) vl) 72 (tN t 2) du) 73 (tN t 2) mi) 75 (tN t 2) 0) 76 (tN t 2) 0) 77 (tN t 2) (-1)) 78 (tN t 2) 0) 79 (tN t 2) 0) 80 (tN t 2) 0) 81 (tN t 2) 0) 82 (tN t 2) 0) 2 (tN t 2 + 1)) 0 (tN t 2) p1) 1 (tN t 2) p2) (tN t 2 + 11) []) (tN t 2 + 11) 0
def mkLaw (t : CS) (x y z w : Int32) (N : Nat) (g : Nat → Int32) : CS := sN (sG (sAr (sF (sF (sF (sF t 33 (tN t 1) x) 34 (tN t 1) y) 35 (tN t 1) z) 36 (tN t 1) w) (tN t 1 + 8) g) 2 (tN t 1) N) 1 (tN t 1 + 1)
theorem cnt_mkPlace (t : CS) (x y : Int32) (κ : Nat) : cnt (mkPlace t x y) κ = if κ = 4 then tN t 4 + 1 else cnt t κ := by
  match κ with
  | 0 => rfl
  | 1 => rfl
  | 2 => rfl
  | 3 => rfl
  | 4 => rfl
  | 5 => rfl
  | 6 => rfl
  | 7 => rfl
  | κ + 8 => rfl
theorem cntle_mkPlace (t : CS) (x y : Int32) (κ : Nat) : cnt t κ ≤ cnt (mkPlace t x y) κ := by
  rw [cnt_mkPlace]
  by_cases k1 : κ = 4
  · subst k1; rw [if_pos rfl]; exact Nat.le_succ _
  · rw [if_neg k1]
    exact Nat.le_refl _
theorem cell_mkPlace (Z : Nat → ClassId) (ad : Nat → Nat → Nat) (t : CS) (x y : Int32) (κ j : Nat) (hne : ¬ (κ = 4 ∧ j = tN t 4)) : cellOf Z ad (mkPlace t x y) κ j = cellOf Z ad t κ j := by
  exact ((cell_oth Z _ (sF (sF (sF t 129 (tN t 4) x) 130 (tN t 4) y) 131 (tN t 4) 0) 4 4 (tN t 4) 0 (by decide) _ _ hne).trans ((cell_oth Z _ (sF (sF t 129 (tN t 4) x) 130 (tN t 4) y) 4 3 (tN t 4) 0 (by decide) _ _ hne).trans ((cell_oth Z _ (sF t 129 (tN t 4) x) 4 2 (tN t 4) y (by decide) _ _ hne).trans (cell_oth Z _ t 4 1 (tN t 4) x (by decide) _ _ hne))))
set_option maxHeartbeats 4000000 in
theorem CR_mkPlace {Z : Nat → ClassId} {E : Nat} {ad : Nat → Nat → Nat} {t : CS} {L L' : List Nat} {f f' : Nat → va_E} {q : Nat} (x y : Int32) (h : CR Z E ad t L f) (hok : allOk t) (h4 : tN t 0 ≤ 4) (hq : q ∉ L) (hX : FX L f q L' f' [(q, .inr (5, [.int (nI (tN t 4)), .int x, .int y, .int 0, .int 0]))]) : CR Z E (adN ad 4 (tN t 4) q) (mkPlace t x y) L' f' := by
  have had : ∀ κ i, i < cnt t κ → (adN ad 4 (tN t 4) q) κ i = ad κ i := fun κ i hi => by
    have e0 : cnt t 4 = tN t 4 := rfl
    have g0 : ¬ (κ = 4 ∧ i = tN t 4) := fun e => by obtain ⟨rfl, rfl⟩ := e; rw [e0] at hi; exact absurd hi (Nat.lt_irrefl _)
    exact adN_ne g0
  have hnw : ∀ κ i, i < cnt (mkPlace t x y) κ → ¬ i < cnt t κ → (κ = 4 ∧ i = tN t 4) := fun κ i h1 h2 => by
    rw [cnt_mkPlace] at h1
    have e0 : cnt t 4 = tN t 4 := rfl
    by_cases k1 : κ = 4
    · subst k1; rw [if_pos rfl] at h1; rw [e0] at h2; exact ⟨rfl, by omega⟩
    · rw [if_neg k1] at h1; exact absurd h1 h2
  have hQ : (adN ad 4 (tN t 4) q) 4 (tN t 4) = q := adN_eq
  refine CR_ext h hok hX.1 (fun x hx => hX.2.1 x hx (fun e => hq (e ▸ hx))) (fun κ i hi => ?_) had (fun κ i h6 hi => ?_) (fun κ i h6 h1 h2 => ?_) (fun κ i h1 h2 => ?_) (fun κ i κ' i' h1 h2 h1' h2' e => ?_) (fun k hk => ?_) (fun k h1 h2 => ?_)
  · rw [cnt_mkPlace]
    have e0 : cnt t 4 = tN t 4 := rfl
    by_cases k1 : κ = 4
    · subst k1; rw [if_pos rfl]; rw [e0] at hi; omega
    · rw [if_neg k1]; exact hi
  · exact (cell_mkPlace Z _ t x y κ i (fun e => by obtain ⟨rfl, rfl⟩ := e; exact absurd hi (Nat.lt_irrefl _))).trans (cell_ad hok h4 had κ i h6 hi)
  · obtain ⟨rfl, rfl⟩ := hnw κ i h1 h2
    rw [hQ]
    obtain ⟨m1, m2⟩ := hX.2.2.1 0 _ _ rfl
    refine ⟨m1, m2.trans ?_⟩
    simp [cellOf, kPlace, mkPlace, sN, sF, up2, upd, tF]
  · obtain ⟨rfl, rfl⟩ := hnw κ i h1 h2
    rw [hQ]; exact hq
  · obtain ⟨rfl, rfl⟩ := hnw κ i h1 h2
    obtain ⟨rfl, rfl⟩ := hnw κ' i' h1' h2'
    exact ⟨rfl, rfl⟩
  · exact ⟨rfl, rfl⟩
  · exact absurd (hnw 6 k h1 h2).1 (by decide)
theorem cnt_mkMan (t : CS) (x y z : Int32) (κ : Nat) : cnt (mkMan t x y z) κ = if κ = 3 then tN t 3 + 1 else cnt t κ := by
  match κ with
  | 0 => rfl
  | 1 => rfl
  | 2 => rfl
  | 3 => rfl
  | 4 => rfl
  | 5 => rfl
  | 6 => rfl
  | 7 => rfl
  | κ + 8 => rfl
theorem cntle_mkMan (t : CS) (x y z : Int32) (κ : Nat) : cnt t κ ≤ cnt (mkMan t x y z) κ := by
  rw [cnt_mkMan]
  by_cases k1 : κ = 3
  · subst k1; rw [if_pos rfl]; exact Nat.le_succ _
  · rw [if_neg k1]
    exact Nat.le_refl _
theorem cell_mkMan (Z : Nat → ClassId) (ad : Nat → Nat → Nat) (t : CS) (x y z : Int32) (κ j : Nat) (hne : ¬ (κ = 3 ∧ j = tN t 3)) : cellOf Z ad (mkMan t x y z) κ j = cellOf Z ad t κ j := by
  exact ((cell_oth Z _ (sF (sF (sF (sF (sF (sF (sF (sF t 97 (tN t 3) x) 98 (tN t 3) y) 99 (tN t 3) z) 100 (tN t 3) 0) 101 (tN t 3) 0) 102 (tN t 3) 0) 103 (tN t 3) 0) 104 (tN t 3) (-1)) 3 9 (tN t 3) 0 (by decide) _ _ hne).trans ((cell_oth Z _ (sF (sF (sF (sF (sF (sF (sF t 97 (tN t 3) x) 98 (tN t 3) y) 99 (tN t 3) z) 100 (tN t 3) 0) 101 (tN t 3) 0) 102 (tN t 3) 0) 103 (tN t 3) 0) 3 8 (tN t 3) (-1) (by decide) _ _ hne).trans ((cell_oth Z _ (sF (sF (sF (sF (sF (sF t 97 (tN t 3) x) 98 (tN t 3) y) 99 (tN t 3) z) 100 (tN t 3) 0) 101 (tN t 3) 0) 102 (tN t 3) 0) 3 7 (tN t 3) 0 (by decide) _ _ hne).trans ((cell_oth Z _ (sF (sF (sF (sF (sF t 97 (tN t 3) x) 98 (tN t 3) y) 99 (tN t 3) z) 100 (tN t 3) 0) 101 (tN t 3) 0) 3 6 (tN t 3) 0 (by decide) _ _ hne).trans ((cell_oth Z _ (sF (sF (sF (sF t 97 (tN t 3) x) 98 (tN t 3) y) 99 (tN t 3) z) 100 (tN t 3) 0) 3 5 (tN t 3) 0 (by decide) _ _ hne).trans ((cell_oth Z _ (sF (sF (sF t 97 (tN t 3) x) 98 (tN t 3) y) 99 (tN t 3) z) 3 4 (tN t 3) 0 (by decide) _ _ hne).trans ((cell_oth Z _ (sF (sF t 97 (tN t 3) x) 98 (tN t 3) y) 3 3 (tN t 3) z (by decide) _ _ hne).trans ((cell_oth Z _ (sF t 97 (tN t 3) x) 3 2 (tN t 3) y (by decide) _ _ hne).trans (cell_oth Z _ t 3 1 (tN t 3) x (by decide) _ _ hne)))))))))
set_option maxHeartbeats 4000000 in
theorem CR_mkMan {Z : Nat → ClassId} {E : Nat} {ad : Nat → Nat → Nat} {t : CS} {L L' : List Nat} {f f' : Nat → va_E} {q : Nat} (x y z : Int32) (h : CR Z E ad t L f) (hok : allOk t) (h4 : tN t 0 ≤ 4) (hq : q ∉ L) (hX : FX L f q L' f' [(q, .inr (4, [.int (nI (tN t 3)), .int x, .int y, .int z, .int 0, .int 0, .int 0, .int 0, .int (-1), .int 0]))]) : CR Z E (adN ad 3 (tN t 3) q) (mkMan t x y z) L' f' := by
  have had : ∀ κ i, i < cnt t κ → (adN ad 3 (tN t 3) q) κ i = ad κ i := fun κ i hi => by
    have e0 : cnt t 3 = tN t 3 := rfl
    have g0 : ¬ (κ = 3 ∧ i = tN t 3) := fun e => by obtain ⟨rfl, rfl⟩ := e; rw [e0] at hi; exact absurd hi (Nat.lt_irrefl _)
    exact adN_ne g0
  have hnw : ∀ κ i, i < cnt (mkMan t x y z) κ → ¬ i < cnt t κ → (κ = 3 ∧ i = tN t 3) := fun κ i h1 h2 => by
    rw [cnt_mkMan] at h1
    have e0 : cnt t 3 = tN t 3 := rfl
    by_cases k1 : κ = 3
    · subst k1; rw [if_pos rfl] at h1; rw [e0] at h2; exact ⟨rfl, by omega⟩
    · rw [if_neg k1] at h1; exact absurd h1 h2
  have hQ : (adN ad 3 (tN t 3) q) 3 (tN t 3) = q := adN_eq
  refine CR_ext h hok hX.1 (fun x hx => hX.2.1 x hx (fun e => hq (e ▸ hx))) (fun κ i hi => ?_) had (fun κ i h6 hi => ?_) (fun κ i h6 h1 h2 => ?_) (fun κ i h1 h2 => ?_) (fun κ i κ' i' h1 h2 h1' h2' e => ?_) (fun k hk => ?_) (fun k h1 h2 => ?_)
  · rw [cnt_mkMan]
    have e0 : cnt t 3 = tN t 3 := rfl
    by_cases k1 : κ = 3
    · subst k1; rw [if_pos rfl]; rw [e0] at hi; omega
    · rw [if_neg k1]; exact hi
  · exact (cell_mkMan Z _ t x y z κ i (fun e => by obtain ⟨rfl, rfl⟩ := e; exact absurd hi (Nat.lt_irrefl _))).trans (cell_ad hok h4 had κ i h6 hi)
  · obtain ⟨rfl, rfl⟩ := hnw κ i h1 h2
    rw [hQ]
    obtain ⟨m1, m2⟩ := hX.2.2.1 0 _ _ rfl
    refine ⟨m1, m2.trans ?_⟩
    simp [cellOf, kMan, mkMan, sN, sF, up2, upd, tF]
  · obtain ⟨rfl, rfl⟩ := hnw κ i h1 h2
    rw [hQ]; exact hq
  · obtain ⟨rfl, rfl⟩ := hnw κ i h1 h2
    obtain ⟨rfl, rfl⟩ := hnw κ' i' h1' h2'
    exact ⟨rfl, rfl⟩
  · exact ⟨rfl, rfl⟩
  · exact absurd (hnw 6 k h1 h2).1 (by decide)
theorem cnt_mkLoad (t : CS) (kd wt : Int32) (p1 p2 : Nat) (fa up vl du mi : Int32) (κ : Nat) : cnt (mkLoad t kd wt p1 p2 fa up vl du mi) κ = if κ = 2 then tN t 2 + 1 else if κ = 6 then tN t 2 + 11 + 1 else cnt t κ := by
  match κ with
  | 0 => rfl
  | 1 => rfl
  | 2 => rfl
  | 3 => rfl
  | 4 => rfl
  | 5 => rfl
  | 6 => rfl
  | 7 => rfl
  | κ + 8 => rfl
theorem cntle_mkLoad (t : CS) (kd wt : Int32) (p1 p2 : Nat) (fa up vl du mi : Int32) (κ : Nat) : cnt t κ ≤ cnt (mkLoad t kd wt p1 p2 fa up vl du mi) κ := by
  rw [cnt_mkLoad]
  by_cases k1 : κ = 2
  · subst k1; rw [if_pos rfl]; exact Nat.le_succ _
  · rw [if_neg k1]
    by_cases k2 : κ = 6
    · subst k2; rw [if_pos rfl]; exact Nat.le_succ _
    · rw [if_neg k2]; exact Nat.le_refl _
theorem cell_mkLoad (Z : Nat → ClassId) (ad : Nat → Nat → Nat) (t : CS) (kd wt : Int32) (p1 p2 : Nat) (fa up vl du mi : Int32) (κ j : Nat) (h6 : κ ≠ 6) (h8 : κ < 8) (hne : ¬ (κ = 2 ∧ j = tN t 2)) : cellOf Z ad (mkLoad t kd wt p1 p2 fa up vl du mi) κ j = cellOf Z ad t κ j := by
  unfold mkLoad
  refine (cell_sK Z ad _ _ _ κ j).trans ((cell_sT Z ad _ _ _ κ j).trans ((cell_sG Z ad _ 1 (tN t 2) p2 κ j h6 h8 (fun q => Or.inl (fun r => hne ⟨q, r⟩)) (fun _ => Or.inr (by decide))).trans ((cell_sG Z ad _ 0 (tN t 2) p1 κ j h6 h8 (fun q => Or.inl (fun r => hne ⟨q, r⟩)) (fun _ => Or.inr (by decide))).trans ((cell_sN Z ad _ _ _ κ j).trans ?_))))
  exact ((cell_oth Z _ (sF (sF (sF (sF (sF (sF (sF (sF (sF (sF (sF (sF (sF (sF t 65 (tN t 2) kd) 66 (tN t 2) wt) 69 (tN t 2) fa) 70 (tN t 2) up) 71 (tN t 2) vl) 72 (tN t 2) du) 73 (tN t 2) mi) 75 (tN t 2) 0) 76 (tN t 2) 0) 77 (tN t 2) (-1)) 78 (tN t 2) 0) 79 (tN t 2) 0) 80 (tN t 2) 0) 81 (tN t 2) 0) 2 18 (tN t 2) 0 (by decide) _ _ hne).trans ((cell_oth Z _ (sF (sF (sF (sF (sF (sF (sF (sF (sF (sF (sF (sF (sF t 65 (tN t 2) kd) 66 (tN t 2) wt) 69 (tN t 2) fa) 70 (tN t 2) up) 71 (tN t 2) vl) 72 (tN t 2) du) 73 (tN t 2) mi) 75 (tN t 2) 0) 76 (tN t 2) 0) 77 (tN t 2) (-1)) 78 (tN t 2) 0) 79 (tN t 2) 0) 80 (tN t 2) 0) 2 17 (tN t 2) 0 (by decide) _ _ hne).trans ((cell_oth Z _ (sF (sF (sF (sF (sF (sF (sF (sF (sF (sF (sF (sF t 65 (tN t 2) kd) 66 (tN t 2) wt) 69 (tN t 2) fa) 70 (tN t 2) up) 71 (tN t 2) vl) 72 (tN t 2) du) 73 (tN t 2) mi) 75 (tN t 2) 0) 76 (tN t 2) 0) 77 (tN t 2) (-1)) 78 (tN t 2) 0) 79 (tN t 2) 0) 2 16 (tN t 2) 0 (by decide) _ _ hne).trans ((cell_oth Z _ (sF (sF (sF (sF (sF (sF (sF (sF (sF (sF (sF t 65 (tN t 2) kd) 66 (tN t 2) wt) 69 (tN t 2) fa) 70 (tN t 2) up) 71 (tN t 2) vl) 72 (tN t 2) du) 73 (tN t 2) mi) 75 (tN t 2) 0) 76 (tN t 2) 0) 77 (tN t 2) (-1)) 78 (tN t 2) 0) 2 15 (tN t 2) 0 (by decide) _ _ hne).trans ((cell_oth Z _ (sF (sF (sF (sF (sF (sF (sF (sF (sF (sF t 65 (tN t 2) kd) 66 (tN t 2) wt) 69 (tN t 2) fa) 70 (tN t 2) up) 71 (tN t 2) vl) 72 (tN t 2) du) 73 (tN t 2) mi) 75 (tN t 2) 0) 76 (tN t 2) 0) 77 (tN t 2) (-1)) 2 14 (tN t 2) 0 (by decide) _ _ hne).trans ((cell_oth Z _ (sF (sF (sF (sF (sF (sF (sF (sF (sF t 65 (tN t 2) kd) 66 (tN t 2) wt) 69 (tN t 2) fa) 70 (tN t 2) up) 71 (tN t 2) vl) 72 (tN t 2) du) 73 (tN t 2) mi) 75 (tN t 2) 0) 76 (tN t 2) 0) 2 13 (tN t 2) (-1) (by decide) _ _ hne).trans ((cell_oth Z _ (sF (sF (sF (sF (sF (sF (sF (sF t 65 (tN t 2) kd) 66 (tN t 2) wt) 69 (tN t 2) fa) 70 (tN t 2) up) 71 (tN t 2) vl) 72 (tN t 2) du) 73 (tN t 2) mi) 75 (tN t 2) 0) 2 12 (tN t 2) 0 (by decide) _ _ hne).trans ((cell_oth Z _ (sF (sF (sF (sF (sF (sF (sF t 65 (tN t 2) kd) 66 (tN t 2) wt) 69 (tN t 2) fa) 70 (tN t 2) up) 71 (tN t 2) vl) 72 (tN t 2) du) 73 (tN t 2) mi) 2 11 (tN t 2) 0 (by decide) _ _ hne).trans ((cell_oth Z _ (sF (sF (sF (sF (sF (sF t 65 (tN t 2) kd) 66 (tN t 2) wt) 69 (tN t 2) fa) 70 (tN t 2) up) 71 (tN t 2) vl) 72 (tN t 2) du) 2 9 (tN t 2) mi (by decide) _ _ hne).trans ((cell_oth Z _ (sF (sF (sF (sF (sF t 65 (tN t 2) kd) 66 (tN t 2) wt) 69 (tN t 2) fa) 70 (tN t 2) up) 71 (tN t 2) vl) 2 8 (tN t 2) du (by decide) _ _ hne).trans ((cell_oth Z _ (sF (sF (sF (sF t 65 (tN t 2) kd) 66 (tN t 2) wt) 69 (tN t 2) fa) 70 (tN t 2) up) 2 7 (tN t 2) vl (by decide) _ _ hne).trans ((cell_oth Z _ (sF (sF (sF t 65 (tN t 2) kd) 66 (tN t 2) wt) 69 (tN t 2) fa) 2 6 (tN t 2) up (by decide) _ _ hne).trans ((cell_oth Z _ (sF (sF t 65 (tN t 2) kd) 66 (tN t 2) wt) 2 5 (tN t 2) fa (by decide) _ _ hne).trans ((cell_oth Z _ (sF t 65 (tN t 2) kd) 2 2 (tN t 2) wt (by decide) _ _ hne).trans (cell_oth Z _ t 2 1 (tN t 2) kd (by decide) _ _ hne)))))))))))))))
set_option maxHeartbeats 4000000 in
theorem CR_mkLoad {Z : Nat → ClassId} {E : Nat} {ad : Nat → Nat → Nat} {t : CS} {L L' : List Nat} {f f' : Nat → va_E} {q r : Nat} (kd wt : Int32) (p1 p2 : Nat) (fa up vl du mi : Int32) (h : CR Z E ad t L f) (hok : allOk t) (h4 : tN t 0 ≤ 4) (hq : q ∉ L) (hp1 : p1 < tN t 4) (hp2 : p2 < tN t 4) (hX : FX L f q L' f' [(q, .inr (3, [.int (nI (tN t 2)), .int kd, .int wt, .ref (ad 4 p1), .ref (ad 4 p2), .int fa, .int up, .int vl, .int du, .int mi, .ref r, .int 0, .int 0, .int (-1), .int 0, .int 0, .int 0, .int 0, .int 0])), (r, .inr (0, [.int 0, .ref E, .int 0]))]) : CR Z E (adN (adN ad 2 (tN t 2) q) 6 (tN t 2 + 11) r) (mkLoad t kd wt p1 p2 fa up vl du mi) L' f' := by
  have had : ∀ κ i, i < cnt t κ → (adN (adN ad 2 (tN t 2) q) 6 (tN t 2 + 11) r) κ i = ad κ i := fun κ i hi => by
    have e0 : cnt t 2 = tN t 2 := rfl
    have e2 : cnt t 6 = tN t 2 + 11 := rfl
    have g0 : ¬ (κ = 2 ∧ i = tN t 2) := fun e => by obtain ⟨rfl, rfl⟩ := e; rw [e0] at hi; exact absurd hi (Nat.lt_irrefl _)
    have g1 : ¬ (κ = 6 ∧ i = tN t 2 + 11) := fun e => by obtain ⟨rfl, rfl⟩ := e; rw [e2] at hi; exact absurd hi (Nat.lt_irrefl _)
    exact (adN_ne g1).trans (adN_ne g0)
  have hnw : ∀ κ i, i < cnt (mkLoad t kd wt p1 p2 fa up vl du mi) κ → ¬ i < cnt t κ → (κ = 2 ∧ i = tN t 2) ∨ (κ = 6 ∧ i = tN t 2 + 11) := fun κ i h1 h2 => by
    rw [cnt_mkLoad] at h1
    have e0 : cnt t 2 = tN t 2 := rfl
    have e2 : cnt t 6 = tN t 2 + 11 := rfl
    by_cases k1 : κ = 2
    · subst k1; rw [if_pos rfl] at h1; rw [e0] at h2; exact Or.inl ⟨rfl, by omega⟩
    · rw [if_neg k1] at h1
      by_cases k2 : κ = 6
      · subst k2; rw [if_pos rfl] at h1; rw [e2] at h2; exact Or.inr ⟨rfl, by omega⟩
      · rw [if_neg k2] at h1; exact absurd h1 h2
  have hQ : (adN (adN ad 2 (tN t 2) q) 6 (tN t 2 + 11) r) 2 (tN t 2) = q := (adN_ne (fun e => absurd e.1 (by decide))).trans adN_eq
  have hRr : (adN (adN ad 2 (tN t 2) q) 6 (tN t 2 + 11) r) 6 (tN t 2 + 11) = r := adN_eq
  have hrq : r ≠ q := hX.ne (i := 1) (j := 0) rfl rfl (by decide)
  have hrL : r ∉ L := hX.2.2.2.2 1 r _ rfl hrq
  refine CR_ext h hok hX.1 (fun x hx => hX.2.1 x hx (fun e => hq (e ▸ hx))) (fun κ i hi => ?_) had (fun κ i h6 hi => ?_) (fun κ i h6 h1 h2 => ?_) (fun κ i h1 h2 => ?_) (fun κ i κ' i' h1 h2 h1' h2' e => ?_) (fun k hk => ?_) (fun k h1 h2 => ?_)
  · rw [cnt_mkLoad]
    have e0 : cnt t 2 = tN t 2 := rfl
    have e2 : cnt t 6 = tN t 2 + 11 := rfl
    by_cases k1 : κ = 2
    · subst k1; rw [if_pos rfl]; rw [e0] at hi; omega
    · rw [if_neg k1]
      by_cases k2 : κ = 6
      · subst k2; rw [if_pos rfl]; rw [e2] at hi; omega
      · rw [if_neg k2]; exact hi
  · exact (cell_mkLoad Z _ t kd wt p1 p2 fa up vl du mi κ i h6 (cnt_lt hi) (fun e => by obtain ⟨rfl, rfl⟩ := e; exact absurd hi (Nat.lt_irrefl _))).trans (cell_ad hok h4 had κ i h6 hi)
  · rcases hnw κ i h1 h2 with ⟨rfl, rfl⟩ | ⟨rfl, rfl⟩
    · rw [hQ]
      obtain ⟨m1, m2⟩ := hX.2.2.1 0 _ _ rfl
      refine ⟨m1, m2.trans ?_⟩
      simp [cellOf, kLoad, mkLoad, sN, sF, sG, sT, sK, up2, upd, adN, tF, tG]
    · exact absurd rfl h6
  · rcases hnw κ i h1 h2 with ⟨rfl, rfl⟩ | ⟨rfl, rfl⟩
    · rw [hQ]; exact hq
    · rw [hRr]; exact hrL
  · rcases hnw κ i h1 h2 with ⟨rfl, rfl⟩ | ⟨rfl, rfl⟩
    · rcases hnw κ' i' h1' h2' with ⟨rfl, rfl⟩ | ⟨rfl, rfl⟩
      · exact ⟨rfl, rfl⟩
      · rw [hQ, hRr] at e; exact absurd e.symm hrq
    · rcases hnw κ' i' h1' h2' with ⟨rfl, rfl⟩ | ⟨rfl, rfl⟩
      · rw [hQ, hRr] at e; exact absurd e hrq
      · exact ⟨rfl, rfl⟩
  · have hk : k < tN t 2 + 11 := hk
    have hne : k ≠ tN t 2 + 11 := Nat.ne_of_lt hk
    exact ⟨va_up_ne _ _ hne, va_up_ne _ _ hne⟩
  · rcases hnw 6 k h1 h2 with ⟨e, -⟩ | ⟨-, rfl⟩
    · exact absurd e (by decide)
    · rw [hRr]
      obtain ⟨m1, m2⟩ := hX.2.2.1 1 _ _ rfl
      exact ⟨m1, ⟨0, m2⟩, va_up_self _ _ _, va_up_self _ _ _⟩
theorem cnt_mkLaw (t : CS) (x y z w : Int32) (N : Nat) (g : Nat → Int32) (κ : Nat) : cnt (mkLaw t x y z w N g) κ = if κ = 1 then tN t 1 + 1 else if κ = 7 then tN t 1 + 8 + 1 else cnt t κ := by
  match κ with
  | 0 => rfl
  | 1 => rfl
  | 2 => rfl
  | 3 => rfl
  | 4 => rfl
  | 5 => rfl
  | 6 => rfl
  | 7 => rfl
  | κ + 8 => rfl
theorem cntle_mkLaw (t : CS) (x y z w : Int32) (N : Nat) (g : Nat → Int32) (κ : Nat) : cnt t κ ≤ cnt (mkLaw t x y z w N g) κ := by
  rw [cnt_mkLaw]
  by_cases k1 : κ = 1
  · subst k1; rw [if_pos rfl]; exact Nat.le_succ _
  · rw [if_neg k1]
    by_cases k2 : κ = 7
    · subst k2; rw [if_pos rfl]; exact Nat.le_succ _
    · rw [if_neg k2]; exact Nat.le_refl _
theorem cell_mkLaw (Z : Nat → ClassId) (ad : Nat → Nat → Nat) (t : CS) (x y z w : Int32) (N : Nat) (g : Nat → Int32) (κ j : Nat) (h6 : κ ≠ 6) (h8 : κ < 8) (hne : ¬ (κ = 1 ∧ j = tN t 1)) (h7 : ¬ (κ = 7 ∧ j = tN t 1 + 8)) : cellOf Z ad (mkLaw t x y z w N g) κ j = cellOf Z ad t κ j := by
  unfold mkLaw
  refine (cell_sN Z ad _ _ _ κ j).trans ((cell_sG Z ad _ 2 (tN t 1) N κ j h6 h8 (fun _ => Or.inr rfl) (fun q => Or.inl (fun r => h7 ⟨q, r⟩))).trans ((cell_sAr Z ad _ (tN t 1 + 8) g κ j h6 h8 (fun q r => h7 ⟨q, r⟩)).trans ?_))
  exact ((cell_oth Z _ (sF (sF (sF t 33 (tN t 1) x) 34 (tN t 1) y) 35 (tN t 1) z) 1 4 (tN t 1) w (by decide) _ _ hne).trans ((cell_oth Z _ (sF (sF t 33 (tN t 1) x) 34 (tN t 1) y) 1 3 (tN t 1) z (by decide) _ _ hne).trans ((cell_oth Z _ (sF t 33 (tN t 1) x) 1 2 (tN t 1) y (by decide) _ _ hne).trans (cell_oth Z _ t 1 1 (tN t 1) x (by decide) _ _ hne))))
set_option maxHeartbeats 4000000 in
theorem CR_mkLaw {Z : Nat → ClassId} {E : Nat} {ad : Nat → Nat → Nat} {t : CS} {L L' : List Nat} {f f' : Nat → va_E} {q r : Nat} (x y z w : Int32) (N : Nat) (g : Nat → Int32) (h : CR Z E ad t L f) (hok : allOk t) (h4 : tN t 0 ≤ 4) (hq : q ∉ L) (hX : FX L f q L' f' [(q, .inr (2, [.int (nI (tN t 1)), .int x, .int y, .int z, .int w, .ref r])), (r, iA Z N g)]) : CR Z E (adN (adN ad 1 (tN t 1) q) 7 (tN t 1 + 8) r) (mkLaw t x y z w N g) L' f' := by
  have had : ∀ κ i, i < cnt t κ → (adN (adN ad 1 (tN t 1) q) 7 (tN t 1 + 8) r) κ i = ad κ i := fun κ i hi => by
    have e0 : cnt t 1 = tN t 1 := rfl
    have e2 : cnt t 7 = tN t 1 + 8 := rfl
    have g0 : ¬ (κ = 1 ∧ i = tN t 1) := fun e => by obtain ⟨rfl, rfl⟩ := e; rw [e0] at hi; exact absurd hi (Nat.lt_irrefl _)
    have g1 : ¬ (κ = 7 ∧ i = tN t 1 + 8) := fun e => by obtain ⟨rfl, rfl⟩ := e; rw [e2] at hi; exact absurd hi (Nat.lt_irrefl _)
    exact (adN_ne g1).trans (adN_ne g0)
  have hnw : ∀ κ i, i < cnt (mkLaw t x y z w N g) κ → ¬ i < cnt t κ → (κ = 1 ∧ i = tN t 1) ∨ (κ = 7 ∧ i = tN t 1 + 8) := fun κ i h1 h2 => by
    rw [cnt_mkLaw] at h1
    have e0 : cnt t 1 = tN t 1 := rfl
    have e2 : cnt t 7 = tN t 1 + 8 := rfl
    by_cases k1 : κ = 1
    · subst k1; rw [if_pos rfl] at h1; rw [e0] at h2; exact Or.inl ⟨rfl, by omega⟩
    · rw [if_neg k1] at h1
      by_cases k2 : κ = 7
      · subst k2; rw [if_pos rfl] at h1; rw [e2] at h2; exact Or.inr ⟨rfl, by omega⟩
      · rw [if_neg k2] at h1; exact absurd h1 h2
  have hQ : (adN (adN ad 1 (tN t 1) q) 7 (tN t 1 + 8) r) 1 (tN t 1) = q := (adN_ne (fun e => absurd e.1 (by decide))).trans adN_eq
  have hRr : (adN (adN ad 1 (tN t 1) q) 7 (tN t 1 + 8) r) 7 (tN t 1 + 8) = r := adN_eq
  have hrq : r ≠ q := hX.ne (i := 1) (j := 0) rfl rfl (by decide)
  have hrL : r ∉ L := hX.2.2.2.2 1 r _ rfl hrq
  refine CR_ext h hok hX.1 (fun x hx => hX.2.1 x hx (fun e => hq (e ▸ hx))) (fun κ i hi => ?_) had (fun κ i h6 hi => ?_) (fun κ i h6 h1 h2 => ?_) (fun κ i h1 h2 => ?_) (fun κ i κ' i' h1 h2 h1' h2' e => ?_) (fun k hk => ?_) (fun k h1 h2 => ?_)
  · rw [cnt_mkLaw]
    have e0 : cnt t 1 = tN t 1 := rfl
    have e2 : cnt t 7 = tN t 1 + 8 := rfl
    by_cases k1 : κ = 1
    · subst k1; rw [if_pos rfl]; rw [e0] at hi; omega
    · rw [if_neg k1]
      by_cases k2 : κ = 7
      · subst k2; rw [if_pos rfl]; rw [e2] at hi; omega
      · rw [if_neg k2]; exact hi
  · exact (cell_mkLaw Z _ t x y z w N g κ i h6 (cnt_lt hi) (fun e => by obtain ⟨rfl, rfl⟩ := e; exact absurd hi (Nat.lt_irrefl _)) (fun e => by obtain ⟨rfl, rfl⟩ := e; exact absurd hi (Nat.lt_irrefl _))).trans (cell_ad hok h4 had κ i h6 hi)
  · rcases hnw κ i h1 h2 with ⟨rfl, rfl⟩ | ⟨rfl, rfl⟩
    · rw [hQ]
      obtain ⟨m1, m2⟩ := hX.2.2.1 0 _ _ rfl
      refine ⟨m1, m2.trans ?_⟩
      simp [cellOf, kLaw, mkLaw, sN, sF, sG, sAr, up2, upd, adN, tF]
    · rw [hRr]
      obtain ⟨m1, m2⟩ := hX.2.2.1 1 _ _ rfl
      refine ⟨m1, m2.trans ?_⟩
      show iA Z N g = .inl (Z 1, (if 2 = 2 ∧ tN t 1 = tN t 1 then N else tG t 2 (tN t 1)), .inl (va_up t.2.1 (tN t 1 + 8) g (tN t 1 + 8)))
      rw [if_pos ⟨rfl, rfl⟩, va_up_self]; rfl
  · rcases hnw κ i h1 h2 with ⟨rfl, rfl⟩ | ⟨rfl, rfl⟩
    · rw [hQ]; exact hq
    · rw [hRr]; exact hrL
  · rcases hnw κ i h1 h2 with ⟨rfl, rfl⟩ | ⟨rfl, rfl⟩
    · rcases hnw κ' i' h1' h2' with ⟨rfl, rfl⟩ | ⟨rfl, rfl⟩
      · exact ⟨rfl, rfl⟩
      · rw [hQ, hRr] at e; exact absurd e.symm hrq
    · rcases hnw κ' i' h1' h2' with ⟨rfl, rfl⟩ | ⟨rfl, rfl⟩
      · rw [hQ, hRr] at e; exact absurd e hrq
      · exact ⟨rfl, rfl⟩
  · exact ⟨rfl, rfl⟩
  · rcases hnw 6 k h1 h2 with ⟨e, -⟩ | ⟨e, -⟩ <;> exact absurd e (by decide)
theorem tT_mkLoad (t : CS) (kd wt : Int32) (p1 p2 : Nat) (fa up vl du mi : Int32) {k : Nat} (h : k ≠ tN t 2 + 11) : tT (mkLoad t kd wt p1 p2 fa up vl du mi) k = tT t k := by
  show va_up t.2.2.1 (tN t 2 + 11) [] k = _
  exact va_up_ne _ _ h
theorem tK_mkLoad (t : CS) (kd wt : Int32) (p1 p2 : Nat) (fa up vl du mi : Int32) {k : Nat} (h : k ≠ tN t 2 + 11) : tK (mkLoad t kd wt p1 p2 fa up vl du mi) k = tK t k := by
  show va_up t.2.2.2.2.2 (tN t 2 + 11) 0 k = _
  exact va_up_ne _ _ h
