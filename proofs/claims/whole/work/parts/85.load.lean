/-! load -/
section LoadCall
variable {t : CS} {σ : MS}
theorem s_load (h : Inv t σ) (a1 a2 a3 a4 : Int32) : wp_C_load 1170 14200 t a1 a2 a3 a4 (fun v t1 => wp_M_load σ a1 a2 a3 a4 (fun w σ1 => v = w ∧ Inv t1 σ1)) := by
  have hb4 := h.z.b4
  have hb2 := h.z.b2
  have bad : ∀ (o2 o4 : Option Nat), (∀ X : Int32 → CS → Prop, X (-1) t → X (-1) t) → True := fun _ _ _ => trivial
  unfold wp_C_load
  -- the two lookups
  have h1 : ∃ o, (∀ X : Option Nat → CS → Prop, X o t → wp_C_placeAt t (a2 / 100) X) ∧ ((o = none ∧ (a2 / 100 < 0 ∨ nI (tN t 4) ≤ a2 / 100)) ∨ ∃ j, o = some j ∧ j < tN t 4 ∧ a2 / 100 = nI j) := by
    rcases ix (a2 / 100) (n := tN t 4) (by omega) with hn | ⟨j, hj, e⟩
    · exact ⟨none, fun X hX => C_pl_no h.z hn hX, Or.inl ⟨rfl, hn⟩⟩
    · exact ⟨some j, fun X hX => by rw [e]; exact C_pl h.z hj hX, Or.inr ⟨j, rfl, hj, e⟩⟩
  have h2 : ∃ o, (∀ X : Option Nat → CS → Prop, X o t → wp_C_placeAt t (a2 - a2 / 100 * 100) X) ∧ ((o = none ∧ (a2 - a2 / 100 * 100 < 0 ∨ nI (tN t 4) ≤ a2 - a2 / 100 * 100)) ∨ ∃ j, o = some j ∧ j < tN t 4 ∧ a2 - a2 / 100 * 100 = nI j) := by
    rcases ix (a2 - a2 / 100 * 100) (n := tN t 4) (by omega) with hn | ⟨j, hj, e⟩
    · exact ⟨none, fun X hX => C_pl_no h.z hn hX, Or.inl ⟨rfl, hn⟩⟩
    · exact ⟨some j, fun X hX => by rw [e]; exact C_pl h.z hj hX, Or.inr ⟨j, rfl, hj, e⟩⟩
  obtain ⟨o2, X2, c2⟩ := h1
  obtain ⟨o4, X4, c4⟩ := h2
  refine X2 _ (X4 _ ?_)
  refine itE (fun q1 => ?_) (fun q1 => itE (fun q2 => ?_) (fun q2 => itE (fun q3 => ?_) (fun q3 => itE (fun q4 => ?_) (fun q4 => ?_))))
  · exact itT q1 ⟨rfl, h⟩
  · exact itF q1 (Mw_no (Or.inr q2) ⟨rfl, h⟩)
  · refine itF q1 ?_
    by_cases q5 : a1 / 1000 < 0 ∨ 4 < a1 / 1000
    · exact Mw_no q5 ⟨rfl, h⟩
    · exact Mw_yes q5 (itT q3 ⟨rfl, h⟩)
  · refine itF q1 ?_
    by_cases q5 : a1 / 1000 < 0 ∨ 4 < a1 / 1000
    · exact Mw_no q5 ⟨rfl, h⟩
    · exact Mw_yes q5 (itF q3 (itT q4 ⟨rfl, h⟩))
  obtain ⟨n, hn31, en⟩ := nI_of q1
  have ediv : a1 / 1000 = nI (n / 1000) := by rw [en]; exact pk_div (d := 1000) hn31 (by omega) (by omega)
  have q5 : ¬ (a1 / 1000 < 0 ∨ 4 < a1 / 1000) := fun q => q.elim (fun q => by rw [ediv] at q; exact nI_pos (by omega) q) q2
  rcases c2 with ⟨rfl, n2⟩ | ⟨j, rfl, hj, e2⟩
  · refine oN ?_
    exact itF q1 (Mw_yes q5 (itF q3 (itF q4 (M_pl_no h.z n2 ⟨rfl, h⟩))))
  refine oS ?_
  rcases c4 with ⟨rfl, n4⟩ | ⟨i, rfl, hi, e4⟩
  · refine oN ?_
    refine itF q1 (Mw_yes q5 (itF q3 (itF q4 ?_)))
    rw [e2]
    exact M_pl h.z hj (M_pl_no h.z (by rw [e2] at n4; exact n4) ⟨rfl, h⟩)
  refine oS ⟨hj, hi, ?_⟩
  refine itE (fun q6 => ?_) (fun q6 => ?_)
  · refine itF q1 (Mw_yes q5 (itF q3 (itF q4 ?_)))
    rw [e4, e2]
    exact M_pl h.z hj (M_pl h.z hi (itT q6 ⟨rfl, h⟩))
  by_cases q7 : a3 < 0 ∨ 9999 < a3
  · refine Cw_no q7 ?_
    refine itF q1 (Mw_yes q5 (itF q3 (itF q4 ?_)))
    rw [e4, e2]
    exact M_pl h.z hj (M_pl h.z hi (itF q6 (Mw_no q7 ⟨rfl, h⟩)))
  refine Cw_yes q7 ?_
  by_cases q8 : a4 < 0 ∨ 200000 < a4
  · refine Cw_no q8 ?_
    refine itF q1 (Mw_yes q5 (itF q3 (itF q4 ?_)))
    rw [e4, e2]
    exact M_pl h.z hj (M_pl h.z hi (itF q6 (Mw_yes q7 (Mw_no q8 ⟨rfl, h⟩))))
  refine Cw_yes q8 ?_
  have hl : (tT t 2).length = tN t 2 := by rw [h.z.ld, List.length_range]
  rw [hl]
  by_cases q9 : tN t 2 = 200
  · refine itF (by rw [q9]; decide) ?_
    refine itF q1 (Mw_yes q5 (itF q3 (itF q4 ?_)))
    rw [e4, e2]
    refine M_pl h.z hj (M_pl h.z hi (itF q6 (Mw_yes q7 (Mw_yes q8 (itT ?_ ⟨rfl, h⟩)))))
    rw [h.z.m43, q9]; rfl
  refine itT (nI_lt (a := tN t 2) (b := 200) (by omega) (by omega)) ?_
  have hc0 := h.c 2
  refine ⟨hj, hi, hl, by omega, by omega, h.ok, by rw [h.z.1]; omega, ⟨by have := aC_le (tN t 2) (tK t 2); omega, by have := aS_le (n := tN t 2) hc0.2; omega⟩, ?_⟩
  have hv : vp_in (nI (tN t 2)) 200 := vp_in_nI (by omega) (by omega)
  have hc : (nI (tN t 2)).toNatClampNeg = tN t 2 := nI_clamp (by omega)
  refine itF q1 (Mw_yes q5 (itF q3 (itF q4 ?_)))
  rw [e4, e2]
  refine M_pl h.z hj (M_pl h.z hi (itF q6 (Mw_yes q7 (Mw_yes q8 (itF ?_ ?_)))))
  · rw [h.z.m43]; exact fun q => q9 ((nI_eq (b := 200) (by omega) (by omega)).mp q)
  rw [h.z.m43]
  refine nm_e ?_
  rw [hc]
  refine ⟨hv, nm_e ⟨hv, nm_e ⟨hv, nm_e ⟨hv, nm_e ⟨hv, nm_e ⟨hv, nm_e ⟨hv, nm_e ⟨hv, nm_e ⟨hv, nm_e ⟨hv, nm_e (nm_e ⟨rfl, ?_⟩)⟩⟩⟩⟩⟩⟩⟩⟩⟩⟩
  obtain ⟨T, hT, m1, m2⟩ := h.m
  obtain ⟨p1, p2, p3, p4, p5, p6, p7, p8⟩ := h.p.1 j hj
  obtain ⟨p1', p2', p3', p4', p5', p6', p7', p8'⟩ := h.p.1 i hi
  have rdue : rg a4 0 200000 := rg_of q8 (by decide) (by decide)
  rw [p1, p1', p2, p2', m2, ← m1]
  generalize ekd : a1 / 1000 = kd
  generalize ewt : a1 - kd * 1000 = wt
  show Inv (lAdd (mkLoad t kd wt j i (farv (σ 6 j) (σ 6 i)) (upv (σ 7 j) (σ 7 i)) a3 a4 (σ 1 0)) 2 (tN t 2)) (up2 (up2 (up2 (up2 (up2 (up2 (up2 (up2 (up2 (up2 (up2 σ 44 (tN t 2) kd) 45 (tN t 2) wt) 46 (tN t 2) (nI j)) 47 (tN t 2) (nI i)) 48 (tN t 2) a3) 49 (tN t 2) a4) 50 (tN t 2) 0) 51 (tN t 2) (σ 1 0)) 53 (tN t 2) (-1)) 54 (tN t 2) (-1)) 43 0 (σ 43 0 + 1))
  rw [h.z.m43, nI_1]
  have mT2 : ∀ k, k ≠ 2 → k ≠ tN t 2 + 11 → tT (lAdd (mkLoad t kd wt j i (farv (σ 6 j) (σ 6 i)) (upv (σ 7 j) (σ 7 i)) a3 a4 (σ 1 0)) 2 (tN t 2)) k = tT t k := fun k k1 k2 => by
    rw [lT_ne k1]
    show va_up (tT t) (tN t 2 + 11) [] k = _
    unfold va_up; rw [if_neg k2]
  have mTn : tT (lAdd (mkLoad t kd wt j i (farv (σ 6 j) (σ 6 i)) (upv (σ 7 j) (σ 7 i)) a3 a4 (σ 1 0)) 2 (tN t 2)) (tN t 2 + 11) = [] := by
    rw [lT_ne (by omega)]
    show va_up (tT t) (tN t 2 + 11) [] (tN t 2 + 11) = _
    unfold va_up; rw [if_pos rfl]
  have hcm : IC (mkLoad t kd wt j i (farv (σ 6 j) (σ 6 i)) (upv (σ 7 j) (σ 7 i)) a3 a4 (σ 1 0)) := fun k => by
    show (va_up (tT t) (tN t 2 + 11) [] k).length ≤ va_up (tK t) (tN t 2 + 11) 0 k ∧ va_up (tK t) (tN t 2 + 11) 0 k ≤ 400
    unfold va_up
    by_cases e : k = tN t 2 + 11
    · rw [if_pos e, if_pos e]; exact ⟨Nat.le_refl _, by omega⟩
    · rw [if_neg e, if_neg e]; exact h.c k
  have eG0 : tG (lAdd (mkLoad t kd wt j i (farv (σ 6 j) (σ 6 i)) (upv (σ 7 j) (σ 7 i)) a3 a4 (σ 1 0)) 2 (tN t 2)) 0 = va_up (tG t 0) (tN t 2) j := by
    funext k
    show (if 0 = 1 ∧ k = tN t 2 then i else if 0 = 0 ∧ k = tN t 2 then j else tG t 0 k) = va_up (tG t 0) (tN t 2) j k
    unfold va_up
    rw [if_neg (by omega)]
    by_cases e : k = tN t 2
    · rw [if_pos ⟨rfl, e⟩, if_pos e]
    · rw [if_neg (fun q => e q.2), if_neg e]
  have eG1 : tG (lAdd (mkLoad t kd wt j i (farv (σ 6 j) (σ 6 i)) (upv (σ 7 j) (σ 7 i)) a3 a4 (σ 1 0)) 2 (tN t 2)) 1 = va_up (tG t 1) (tN t 2) i := by
    funext k
    show (if 1 = 1 ∧ k = tN t 2 then i else if 1 = 0 ∧ k = tN t 2 then j else tG t 1 k) = va_up (tG t 1) (tN t 2) i k
    unfold va_up
    by_cases e : k = tN t 2
    · rw [if_pos ⟨rfl, e⟩, if_pos e]
    · rw [if_neg (fun q => e q.2), if_neg (by omega), if_neg e]
  have eT2 : tT (mkLoad t kd wt j i (farv (σ 6 j) (σ 6 i)) (upv (σ 7 j) (σ 7 i)) a3 a4 (σ 1 0)) 2 = tT t 2 := by
    show va_up (tT t) (tN t 2 + 11) [] 2 = _
    unfold va_up; rw [if_neg (by omega)]
  refine ⟨⟨h.z.1, by rw [mT2 4 (by omega) (by omega)]; exact h.z.2.1, h.z.b4, h.z.b3, show tN t 2 + 1 ≤ 200 by omega, h.z.b1, by rw [mT2 0 (by omega) (by omega)]; exact h.z.pl, by rw [mT2 1 (by omega) (by omega)]; exact h.z.mn, ?_, by rw [mT2 3 (by omega) (by omega)]; exact h.z.lw, h.z.m5, h.z.m10, rfl, h.z.m26⟩, IC_add hcm _ (by rw [eT2, hl]; omega), ?_, h.p, h.r, h.m, h.n, fun f hf => ?_, h.d, h.tp, h.lw, ⟨fun k hk => ?_, fun k hk => ?_⟩, ?_, ?_⟩
  · rw [lT_eq, eT2, h.z.ld]
    show List.range (tN t 2) ++ [tN t 2] = List.range (tN t 2 + 1)
    rw [List.range_succ]
  · unfold IS
    rw [mT2 5 (by omega) (by omega), mT2 6 (by omega) (by omega)]; exact h.s
  · rw [mT2 (f + 7) (by omega) (by omega)]; exact h.w f hf
  · have hk : k < tN t 2 + 1 := hk
    rw [eG0, eG1]
    show upd (tF t 65) (tN t 2) kd k = upd (σ 44) (tN t 2) kd k ∧ upd (tF t 66) (tN t 2) wt k = upd (σ 45) (tN t 2) wt k ∧ upd (σ 46) (tN t 2) (nI j) k = nI (va_up (tG t 0) (tN t 2) j k) ∧ upd (σ 47) (tN t 2) (nI i) k = nI (va_up (tG t 1) (tN t 2) i k) ∧ va_up (tG t 0) (tN t 2) j k < tN t 4 ∧ va_up (tG t 1) (tN t 2) i k < tN t 4 ∧ upd (tF t 69) (tN t 2) (farv (σ 6 j) (σ 6 i)) k = farv (σ 6 (va_up (tG t 0) (tN t 2) j k)) (σ 6 (va_up (tG t 1) (tN t 2) i k)) ∧ upd (tF t 70) (tN t 2) (upv (σ 7 j) (σ 7 i)) k = upv (σ 7 (va_up (tG t 0) (tN t 2) j k)) (σ 7 (va_up (tG t 1) (tN t 2) i k)) ∧ upd (tF t 71) (tN t 2) a3 k = upd (σ 48) (tN t 2) a3 k ∧ upd (tF t 72) (tN t 2) a4 k = upd (σ 49) (tN t 2) a4 k ∧ upd (tF t 73) (tN t 2) (σ 1 0) k = upd (σ 51) (tN t 2) (σ 1 0) k ∧ upd (tF t 75) (tN t 2) 0 k = upd (σ 50) (tN t 2) 0 k ∧ upd (tF t 76) (tN t 2) 0 k = σ 52 k ∧ upd (tF t 77) (tN t 2) (-1) k = upd (σ 53) (tN t 2) (-1) k ∧ upd (tF t 78) (tN t 2) 0 k = σ 55 k ∧ upd (tF t 79) (tN t 2) 0 k = σ 56 k ∧ upd (tF t 80) (tN t 2) 0 k = σ 57 k ∧ rg (upd (σ 49) (tN t 2) a4 k) 0 200000 ∧ rg (upd (σ 51) (tN t 2) (σ 1 0) k) 0 99999 ∧ rg (σ 55 k) 0 100000 ∧ rg (σ 56 k) 0 100 ∧ rg (σ 57 k) 0 100000
    by_cases e : k = tN t 2
    · subst e
      obtain ⟨z1, z2, z3, z4, z5⟩ := h.ld.2 _ (Nat.le_refl _)
      rw [va_up_self, va_up_self, z1, z2, z3, z4]
      simp only [pk_us]
      exact ⟨trivial, trivial, trivial, trivial, hj, hi, trivial, trivial, trivial, trivial, trivial, trivial, trivial, trivial, trivial, trivial, trivial, rdue, ⟨T, by omega, hT, m1⟩, ⟨0, by omega, by omega, rfl⟩, ⟨0, by omega, by omega, rfl⟩, ⟨0, by omega, by omega, rfl⟩⟩
    · rw [va_up_ne _ _ e, va_up_ne _ _ e]
      simp only [pk_un e]
      exact h.ld.1 k (by omega)
  · exact h.ld.2 k (Nat.le_of_succ_le hk)
  · obtain ⟨T2, g1, g2, g3⟩ := h.g
    refine ⟨T2, g1, g2, fun k hk => ?_⟩
    have hk : k < tN t 2 + 1 := hk
    by_cases e : k = tN t 2
    · subst e
      unfold gng
      rw [mTn]
      refine ⟨(h.ld.2 _ (Nat.le_refl _)).2.2.2.2, Nat.zero_le _, fun q hq => absurd hq (Nat.not_lt_zero q), List.nodup_nil, (fun m hm => by cases hm), Or.inl ⟨Or.inl (show upd (σ 50) (tN t 2) 0 (tN t 2) = 0 from pk_us), (show upd (tF t 82) (tN t 2) 0 (tN t 2) = 0 from pk_us), (show upd (σ 53) (tN t 2) (-1) (tN t 2) = -1 from pk_us), rfl⟩⟩
    · exact gng_congr (g3 k (by omega)) rfl (fun _ _ => rfl) (mT2 (k + 11) (by omega) (by omega)) (Nat.le_refl _) (show upd (σ 50) (tN t 2) 0 k = σ 50 k from pk_un e) (show upd (tF t 82) (tN t 2) 0 k = tF t 82 k from pk_un e) (show upd (σ 53) (tN t 2) (-1) k = σ 53 k from pk_un e) (show upd (σ 54) (tN t 2) (-1) k = σ 54 k from pk_un e) (show upd (tF t 81) (tN t 2) 0 k = tF t 81 k from pk_un e) (fun _ _ => rfl) (fun _ m _ _ => ⟨rfl, rfl, fun f hf hx => by rw [mT2 (f + 7) (by omega) (by omega)]; exact hx⟩)
  · obtain ⟨D, hD, hF, hP⟩ := h.f
    refine ⟨D, hD, hF, hP.1, ?_⟩
    have e : ∀ σ' : MS, (∀ k, k < tN t 2 → σ' 50 k = σ 50 k) → σ' 50 (tN t 2) = 0 → fb_ct (fun l => decide (σ' 50 l = 2)) (tN t 2 + 1) = thr t σ := fun σ' h1 h2 => by
      rw [fb_ct_succ, h2, if_neg (by decide)]
      unfold thr
      exact fb_ct_cong (fun k hk => by rw [h1 k hk])
    show phi σ ≤ 100000 * ((fb_ct (fun l => decide (upd (σ 50) (tN t 2) 0 l = 2)) (tN t 2 + 1) : Nat) : Int) + 47520 * (D : Int)
    rw [e (up2 σ 50 (tN t 2) 0) (fun k hk => (show upd (σ 50) (tN t 2) 0 k = σ 50 k from pk_un (by omega))) (show upd (σ 50) (tN t 2) 0 (tN t 2) = 0 from pk_us) |> fun q => (show fb_ct (fun l => decide (upd (σ 50) (tN t 2) 0 l = 2)) (tN t 2 + 1) = thr t σ from q)]
    exact hP.2
end LoadCall
