/-! calls: place, tide, rain, way -/
section Parts
variable {t : CS} {σ : MS}
theorem Inv.z (h : Inv t σ) : IZ t σ := h.1
theorem Inv.c (h : Inv t σ) : IC t := h.2.1
theorem Inv.s (h : Inv t σ) : IS t := h.2.2.1
theorem Inv.p (h : Inv t σ) : IPl t σ := h.2.2.2.1
theorem Inv.r (h : Inv t σ) : IRn t σ := h.2.2.2.2.1
theorem Inv.m (h : Inv t σ) : IMi t σ := h.2.2.2.2.2.1
theorem Inv.n (h : Inv t σ) : IMn t σ := h.2.2.2.2.2.2.1
theorem Inv.w (h : Inv t σ) : IRw t σ := h.2.2.2.2.2.2.2.1
theorem Inv.d (h : Inv t σ) : IDi t σ := h.2.2.2.2.2.2.2.2.1
theorem Inv.tp (h : Inv t σ) : ITp t σ := h.2.2.2.2.2.2.2.2.2.1
theorem Inv.lw (h : Inv t σ) : ILw t σ := h.2.2.2.2.2.2.2.2.2.2.1
theorem Inv.ld (h : Inv t σ) : ILd t σ := h.2.2.2.2.2.2.2.2.2.2.2.1
theorem Inv.g (h : Inv t σ) : IGn t σ 200 := h.2.2.2.2.2.2.2.2.2.2.2.2.1
theorem Inv.f (h : Inv t σ) : ∃ D : Nat, σ 1 0 / 600 = nI D ∧ IFu t σ D ∧ IPh t σ (47520 * (D : Int)) := h.2.2.2.2.2.2.2.2.2.2.2.2.2
theorem gl {g : Nat → Nat → Prop} {n : Nat} (h : ∀ i, i < n → g i 0) : ∀ i, i < n → g i 0 := h
theorem Inv.ok (h : Inv t σ) : allOk t := by
  refine ⟨fun k hk => ?_, fun i hi => ⟨((h.ld.1 i hi).2.2.2.2.1), ((h.ld.1 i hi).2.2.2.2.2.1)⟩⟩
  obtain ⟨T, -, -, hg⟩ := h.g
  by_cases h7 : k < 7
  · match k, h7 with
    | 0, _ => intro x hx; rw [h.z.pl] at hx; exact List.mem_range.mp hx
    | 1, _ => intro x hx; rw [h.z.mn] at hx; exact List.mem_range.mp hx
    | 2, _ => intro x hx; rw [h.z.ld] at hx; exact List.mem_range.mp hx
    | 3, _ => intro x hx; rw [h.z.lw] at hx; exact List.mem_range.mp hx
    | 4, _ =>
      intro x hx
      rw [h.z.2.1] at hx
      show x < tN t 0
      rw [h.z.1]
      revert hx; revert x; decide
    | 5, _ => exact h.s.1
    | 6, _ => exact h.s.2.1
  · by_cases h11 : k < 11
    · obtain ⟨f, rfl⟩ : ∃ f, k = f + 7 := ⟨k - 7, by omega⟩
      exact fun x hx => ((h.w f (by omega)).2.2.2 x hx).1
    · obtain ⟨i, rfl⟩ : ∃ i, k = i + 11 := ⟨k - 11, by omega⟩
      exact fun x hx => (hg i (by omega)).2.2.2.2.1 x hx
theorem aC_le (n cap : Nat) : aC n cap ≤ 1 := by unfold aC; split <;> omega
theorem newCap_le {c : Nat} (h : c ≤ 400) : newCap c ≤ 610 := by unfold newCap; split <;> omega
theorem newCap_gt (c : Nat) : c < newCap c := by unfold newCap; split <;> omega
theorem aS_le {n cap : Nat} (h : cap ≤ 400) : aS n cap ≤ 610 := by
  unfold aS; split
  · omega
  · exact newCap_le h
theorem IC_add (h : IC t) {k : Nat} (j : Nat) (hl : (tT t k).length ≤ 200) : IC (lAdd t k j) := by
  intro k'
  by_cases e : k' = k
  · subst e
    obtain ⟨h1, h2⟩ := h k'
    have e1 : tT (lAdd t k' j) k' = tT t k' ++ [j] := if_pos rfl
    have e2 : tK (lAdd t k' j) k' = if (tT t k').length < tK t k' then tK t k' else newCap (tK t k') := if_pos rfl
    rw [e1, e2, List.length_append]
    show (tT t k').length + 1 ≤ _ ∧ _
    split
    · omega
    · have := newCap_gt (tK t k')
      have e3 : newCap (tK t k') ≤ 400 := by unfold newCap; split <;> omega
      omega
  · have e1 : tT (lAdd t k j) k' = tT t k' := if_neg e
    have e2 : tK (lAdd t k j) k' = tK t k' := if_neg e
    rw [e1, e2]; exact h k'
theorem IC_set (h : IC t) {k : Nat} {xs : List Nat} (hl : xs.length ≤ (tT t k).length) : IC (sT t k xs) := by
  intro k'
  by_cases e : k' = k
  · subst e
    have e1 : tT (sT t k' xs) k' = xs := if_pos rfl
    rw [e1]; exact ⟨Nat.le_trans hl (h k').1, (h k').2⟩
  · have e1 : tT (sT t k xs) k' = tT t k' := if_neg e
    rw [e1]; exact h k'
theorem rg_of {x lo hi : Int32} {a b : Nat} (h : ¬ (x < lo ∨ hi < x)) (h1 : lo.toInt = a) (h2 : hi.toInt = b) : rg x a b := by
  have q1 : ¬ x.toInt < lo.toInt := fun q => h (Or.inl ((fa_lt _ _).mpr q))
  have q2 : ¬ hi.toInt < x.toInt := fun q => h (Or.inr ((fa_lt _ _).mpr q))
  have hx := fb_rng x
  refine ⟨x.toInt.toNat, by omega, by omega, (fa_eq _ _).mpr ?_⟩
  rw [nI_toInt (by omega)]; omega
theorem range_succ_get (n : Nat) : List.range (n + 1) = List.range n ++ [n] := List.range_succ
theorem s_place (h : Inv t σ) (a1 a2 : Int32) : wp_C_place 1170 14200 t a1 a2 (fun v t1 => wp_M_place σ a1 a2 (fun w σ1 => v = w ∧ Inv t1 σ1)) := by
  unfold wp_C_place
  by_cases h1 : a1 < 0 ∨ 99 < a1
  · refine Cw_no h1 ?_; unfold wp_M_place; exact Mw_no h1 ⟨rfl, h⟩
  refine Cw_yes h1 ?_
  by_cases h2 : a2 < 0 ∨ 99 < a2
  · refine Cw_no h2 ?_; unfold wp_M_place; exact Mw_yes h1 (Mw_no h2 ⟨rfl, h⟩)
  refine Cw_yes h2 ?_
  have hb := h.z.b4
  have hl : (tT t 0).length = tN t 4 := by rw [h.z.pl, List.length_range]
  rw [hl]
  by_cases h3 : tN t 4 = 20
  · refine itF (by rw [h3]; decide) ?_; unfold wp_M_place; refine Mw_yes h1 (Mw_yes h2 (itT ?_ ⟨rfl, h⟩)); rw [h.z.m5, h3]; rfl
  refine itT (nI_lt (a := tN t 4) (b := 20) (by omega) (by omega)) ?_
  have hc0 := h.c 0
  refine ⟨hl, by omega, by omega, h.ok, by rw [h.z.1]; omega, ⟨by have := aC_le (tN t 4) (tK t 0); omega, by have := aS_le (n := tN t 4) hc0.2; omega⟩, ?_⟩
  unfold wp_M_place
  have hv : vp_in (nI (tN t 4)) 20 := vp_in_nI (by omega) (by omega)
  have hc : (nI (tN t 4)).toNatClampNeg = tN t 4 := nI_clamp (by omega)
  refine Mw_yes h1 (Mw_yes h2 (itF ?_ ⟨?_, ?_⟩))
  · rw [h.z.m5]; exact fun q => h3 ((nI_eq (b := 20) (by omega) (by omega)).mp q)
  · rw [h.z.m5]; exact hv
  rintro σ9 rfl
  refine ⟨(show vp_in (σ 5 0) 20 by rw [h.z.m5]; exact hv), ?_⟩
  rintro σ11 rfl σ12 rfl
  have e5 : (σ 5 0).toNatClampNeg = tN t 4 := by rw [h.z.m5]; exact hc
  show nI (tN t 4) = (σ 5 0 + 1) - 1 ∧ Inv (lAdd (mkPlace t a1 a2) 0 (tN t 4)) (up2 (up2 (up2 σ 6 (σ 5 0).toNatClampNeg a1) 7 (σ 5 0).toNatClampNeg a2) 5 0 (σ 5 0 + 1))
  rw [e5, h.z.m5, nI_1]
  refine ⟨(nI_pred _).symm, ?_⟩
  have r1 : rg a1 0 99 := rg_of h1 (by decide) (by decide)
  have r2 : rg a2 0 99 := rg_of h2 (by decide) (by decide)
  refine ⟨⟨h.z.1, h.z.2.1, show tN t 4 + 1 ≤ 20 by omega, h.z.b3, h.z.b2, h.z.b1, ?_, h.z.mn, h.z.ld, h.z.lw, rfl, h.z.m10, h.z.m43, h.z.m26⟩, IC_add (t := mkPlace t a1 a2) h.c _ (show (tT t 0).length ≤ 200 by omega), h.s, ⟨?_, ?_⟩, h.r, h.m, h.n, h.w, h.d, h.tp, h.lw, ⟨?_, h.ld.2⟩, h.g, h.f⟩
  · show tT t 0 ++ [tN t 4] = List.range (tN t 4 + 1)
    rw [h.z.pl, List.range_succ, ]
  · intro i hi
    have hi : i < tN t 4 + 1 := hi
    show upd (tF t 129) (tN t 4) a1 i = upd (σ 6) (tN t 4) a1 i ∧ upd (tF t 130) (tN t 4) a2 i = upd (σ 7) (tN t 4) a2 i ∧ upd (tF t 131) (tN t 4) 0 i = σ 8 i ∧ upd (tF t 132) (tN t 4) 0 i = σ 9 i ∧ rg (upd (σ 6) (tN t 4) a1 i) 0 99 ∧ rg (upd (σ 7) (tN t 4) a2 i) 0 99 ∧ rg (σ 8 i) 0 600 ∧ rg (σ 9 i) 0 600
    by_cases e : i = tN t 4
    · subst e
      rw [pk_us, pk_us, pk_us, pk_us, pk_us, pk_us, (h.p.2 _ (Nat.le_refl _)).1, (h.p.2 _ (Nat.le_refl _)).2]
      exact ⟨rfl, rfl, rfl, rfl, r1, r2, ⟨0, by omega, by omega, rfl⟩, ⟨0, by omega, by omega, rfl⟩⟩
    · rw [pk_un e, pk_un e, pk_un e, pk_un e, pk_un e, pk_un e]
      exact h.p.1 i (by omega)
  · intro i hi
    exact h.p.2 i (Nat.le_of_succ_le hi)
  · intro i hi
    obtain ⟨q1, q2, q3, q4, q5, q6, q7, q8, q9⟩ := h.ld.1 i hi
    refine ⟨q1, q2, q3, q4, Nat.lt_succ_of_lt q5, Nat.lt_succ_of_lt q6, ?_, ?_, q9⟩
    · show tF t 69 i = farv (upd (σ 6) (tN t 4) a1 (tG t 0 i)) (upd (σ 6) (tN t 4) a1 (tG t 1 i))
      rw [pk_un (Nat.ne_of_lt q5), pk_un (Nat.ne_of_lt q6)]; exact q7
    · show tF t 70 i = upv (upd (σ 7) (tN t 4) a2 (tG t 0 i)) (upd (σ 7) (tN t 4) a2 (tG t 1 i))
      rw [pk_un (Nat.ne_of_lt q5), pk_un (Nat.ne_of_lt q6)]; exact q8
end Parts
