/-! calls: tide, rain, way, man -/
theorem oN {a : Prop} {b : Nat → Prop} (h : a) : oM none a b := h
theorem oS {a : Prop} {b : Nat → Prop} {i : Nat} (h : b i) : oM (some i) a b := h
theorem lT_ne {t : CS} {k k' j : Nat} (h : k' ≠ k) : tT (lAdd t k j) k' = tT t k' := if_neg h
theorem lT_eq {t : CS} {k j : Nat} : tT (lAdd t k j) k = tT t k ++ [j] := if_pos rfl
theorem sT_ne {t : CS} {k k' : Nat} {xs : List Nat} (h : k' ≠ k) : tT (sT t k xs) k' = tT t k' := if_neg h
theorem sT_eq {t : CS} {k : Nat} {xs : List Nat} : tT (sT t k xs) k = xs := if_pos rfl
section Calls2
variable {t : CS} {σ : MS}
theorem s_tide (h : Inv t σ) (a1 a2 a3 : Int32) : wp_C_tide t a1 a2 a3 (fun v t1 => wp_M_tide σ a1 a2 a3 (fun w σ1 => v = w ∧ Inv t1 σ1)) := by
  have hb := h.z.b4
  unfold wp_C_tide
  rcases ix a1 (n := tN t 4) (by omega) with hn | ⟨j, hj, rfl⟩
  · refine C_pl_no h.z hn (oN ?_)
    exact M_pl_no h.z hn ⟨rfl, h⟩
  refine C_pl h.z hj (oS ?_)
  have hv : vp_in (nI j) 20 := vp_in_nI (by omega) (by omega)
  have hc : (nI j).toNatClampNeg = j := nI_clamp (by omega)
  refine itE (fun q1 => ?_) (fun q1 => itE (fun q2 => ?_) (fun q2 => itE (fun q3 => ⟨hj, ?_⟩) (fun q3 => ?_)))
  · exact M_pl h.z hj (itT q1 ⟨rfl, h⟩)
  · exact M_pl h.z hj (itF q1 (itT q2 ⟨rfl, h⟩))
  · rintro t8 rfl
    refine ⟨hj, ?_⟩
    rintro t10 rfl
    refine M_pl h.z hj (itF q1 (itF q2 (itT q3 ⟨hv, ?_⟩)))
    rintro σ8 rfl
    refine ⟨hv, ?_⟩
    rintro σ10 rfl
    rw [hc]
    refine ⟨rfl, h.z, h.c, h.s, ⟨?_, ?_⟩, h.r, h.m, h.n, h.w, h.d, h.tp, h.lw, h.ld, h.g, h.f⟩
    · have k1 := (fa_le _ _).mp (Int32.not_lt.mp q1)
      have k2 := (fa_le _ _).mp (Int32.not_lt.mp q2)
      have k3 := (fa_le _ _).mp q3
      have l0 : (0 : Int32).toInt = 0 := by decide
      have l6 : (600 : Int32).toInt = 600 := by decide
      have r2 : rg a2 0 600 := rg_of (lo := 0) (hi := 600) (fun q => q.elim q1 (fun q => by have := (fa_lt _ _).mp q; omega)) (by decide) (by decide)
      have r3 : rg a3 0 600 := rg_of (lo := 0) (hi := 600) (fun q => q.elim (fun q => by have := (fa_lt _ _).mp q; omega) (fun q => by have := (fa_lt _ _).mp q; omega)) (by decide) (by decide)
      intro i hi
      show tF t 129 i = σ 6 i ∧ tF t 130 i = σ 7 i ∧ upd (tF t 131) j a2 i = upd (σ 8) j a2 i ∧ upd (tF t 132) j a3 i = upd (σ 9) j a3 i ∧ rg (σ 6 i) 0 99 ∧ rg (σ 7 i) 0 99 ∧ rg (upd (σ 8) j a2 i) 0 600 ∧ rg (upd (σ 9) j a3 i) 0 600
      obtain ⟨p1, p2, p3, p4, p5, p6, p7, p8⟩ := h.p.1 i hi
      by_cases e : i = j
      · subst e; rw [pk_us, pk_us, pk_us, pk_us]; exact ⟨p1, p2, rfl, rfl, p5, p6, r2, r3⟩
      · rw [pk_un e, pk_un e, pk_un e, pk_un e]; exact ⟨p1, p2, p3, p4, p5, p6, p7, p8⟩
    · intro i hi
      have hi : tN t 4 ≤ i := hi
      have e : i ≠ j := by omega
      show upd (σ 8) j a2 i = 0 ∧ upd (σ 9) j a3 i = 0
      rw [pk_un e, pk_un e]; exact h.p.2 i hi
  · exact M_pl h.z hj (itF q1 (itF q2 (itF q3 ⟨rfl, h⟩)))
theorem s_rain (h : Inv t σ) (a1 a2 : Int32) : wp_C_rain t a1 a2 (fun v t1 => wp_M_rain σ a1 a2 (fun w σ1 => v = w ∧ Inv t1 σ1)) := by
  obtain ⟨T, hT, e1, e2⟩ := h.m
  obtain ⟨k, hk, r1, r2, r3⟩ := h.r
  unfold wp_C_rain wp_M_rain
  rw [e2, e1, r2]
  refine itE (fun q1 => Mw_no (Or.inl q1) ⟨rfl, h⟩) (fun q1 => itE (fun q2 => ?_) (fun q2 => itE (fun q3 => ?_) (fun q3 => ?_)))
  · by_cases q4 : 99999 < a1
    · exact Mw_no (Or.inr q4) ⟨rfl, h⟩
    · exact Mw_yes (fun q => q.elim q1 q4) (itT q2 ⟨rfl, h⟩)
  · have q4 : ¬ (99999 : Int32) < a1 := fun q => q2 ((fa_le _ _).mpr (by
      have := (fa_lt _ _).mp q
      have := (fa_le _ _).mp q3
      have l1 : (99999 : Int32).toInt = 99999 := by decide
      have l2 : (100000 : Int32).toInt = 100000 := by decide
      omega))
    have hy : ¬ (a1 < nI T ∨ (99999 : Int32) < a1) := fun q => q.elim q1 q4
    by_cases h20 : k = 20
    · subst h20
      refine itF (by decide) ?_
      exact Mw_yes hy (itF q2 (itT q3 (itT (by rw [r1]; rfl) ⟨rfl, h⟩)))
    · refine itT (nI_lt (a := k) (b := 20) (by omega) (by omega)) ?_
      have hv : vp_in (nI k) 20 := vp_in_nI (by omega) (by omega)
      have hc : (nI k).toNatClampNeg = k := nI_clamp (by omega)
      unfold wp_Sky_addSpan
      rw [r2]
      refine itF (nI_pos (by omega)) (itF (nI_ge (a := k) (b := 20) (by omega) (by omega)) ⟨hv, ?_⟩)
      rintro t4 rfl
      refine ⟨(show vp_in (tF t 162 1) 20 by rw [r2]; exact hv), ?_⟩
      rintro t6 rfl t7 rfl
      refine Mw_yes hy (itF q2 (itT q3 (itF (by rw [r1]; exact fun q => h20 ((nI_eq (b := 20) (by omega) (by omega)).mp q)) ⟨by rw [r1]; exact hv, ?_⟩)))
      rintro σ8 rfl
      refine ⟨(show vp_in (σ 2 0) 20 by rw [r1]; exact hv), ?_⟩
      rintro σ10 rfl σ11 rfl
      show (tF t 162 1 + 1) = (σ 2 0 + 1) ∧ Inv (sF (sA (sA t 0 (nI k).toNatClampNeg a1) 1 (tF t 162 1).toNatClampNeg a2) 162 1 (tF t 162 1 + 1)) (up2 (up2 (up2 σ 3 (σ 2 0).toNatClampNeg a1) 4 (σ 2 0).toNatClampNeg a2) 2 0 (σ 2 0 + 1))
      rw [r1, r2, hc, nI_1]
      refine ⟨rfl, h.z, h.c, h.s, h.p, ⟨k + 1, by omega, rfl, rfl, fun i hi => ?_⟩, h.m, h.n, h.w, h.d, h.tp, h.lw, h.ld, h.g, h.f⟩
      show upd (tA t 0) k a1 i = upd (σ 3) k a1 i ∧ upd (tA t 1) k a2 i = upd (σ 4) k a2 i
      by_cases e : i = k
      · subst e; rw [pk_us, pk_us, pk_us, pk_us]; exact ⟨rfl, rfl⟩
      · rw [pk_un e, pk_un e, pk_un e, pk_un e]; exact r3 i (by omega)
  · by_cases q4 : 99999 < a1
    · exact Mw_no (Or.inr q4) ⟨rfl, h⟩
    · exact Mw_yes (fun q => q.elim q1 q4) (itF q2 (itF q3 ⟨rfl, h⟩))
theorem s_way (h : Inv t σ) (a1 a2 a3 : Int32) : wp_C_way t a1 a2 a3 (fun v t1 => wp_M_way σ a1 a2 a3 (fun w σ1 => v = w ∧ Inv t1 σ1)) := by
  have hb := h.z.b4
  unfold wp_C_way
  rcases ix a1 (n := tN t 4) (by omega) with hn | ⟨i, hi, rfl⟩
  · refine C_pl_no h.z hn ?_
    have k : wp_M_way σ a1 a2 a3 (fun w σ1 => (-1 : Int32) = w ∧ Inv t σ1) := M_pl_no h.z hn ⟨rfl, h⟩
    rcases ix a2 (n := tN t 4) (by omega) with hn2 | ⟨j, hj, rfl⟩
    · exact C_pl_no h.z hn2 (oN k)
    · exact C_pl h.z hj (oN k)
  refine C_pl h.z hi ?_
  rcases ix a2 (n := tN t 4) (by omega) with hn2 | ⟨j, hj, rfl⟩
  · refine C_pl_no h.z hn2 (oS (oN ?_))
    exact M_pl h.z hi (M_pl_no h.z hn2 ⟨rfl, h⟩)
  refine C_pl h.z hj (oS (oS ?_))
  refine itE (fun q1 => ?_) (fun q1 => itE (fun q2 => ⟨hi, C_far h.p hi hj ?_⟩) (fun q2 => itE (fun q3 => ⟨hi, C_up h.p hi hj ?_⟩) (fun q3 => itE (fun q4 => C_wayMin h.p h.r h.m hi hj ?_) (fun q4 => ?_))))
  · exact M_pl h.z hi (M_pl h.z hj (itT q1 ⟨rfl, h⟩))
  · exact M_pl h.z hi (M_pl h.z hj (itF q1 (itT q2 (M_far h.z h.p hi hj ⟨rfl, h⟩))))
  · exact M_pl h.z hi (M_pl h.z hj (itF q1 (itF q2 (itT q3 (M_up h.z h.p hi hj ⟨rfl, h⟩)))))
  · exact M_pl h.z hi (M_pl h.z hj (itF q1 (itF q2 (itF q3 (itT q4 (M_wayNow h.z h.p h.r hi hj ⟨rfl, h⟩))))))
  · exact M_pl h.z hi (M_pl h.z hj (itF q1 (itF q2 (itF q3 (itF q4 ⟨rfl, h⟩)))))
theorem gng_congr {t t' : CS} {σ σ' : MS} {T J i : Nat} (h : gng t σ T J i) (e58 : σ' 58 i = σ 58 i) (e59 : ∀ k, k < 8 → σ' 59 (8 * i + k) = σ 59 (8 * i + k)) (eT : tT t' (i + 11) = tT t (i + 11)) (eN : tN t 3 ≤ tN t' 3) (e50 : σ' 50 i = σ 50 i) (e82 : tF t' 82 i = tF t 82 i) (e53 : σ' 53 i = σ 53 i) (e54 : σ' 54 i = σ 54 i) (e81 : tF t' 81 i = tF t 81 i) (e11 : ∀ m, m < tN t 3 → σ' 11 m = σ 11 m) (hm : tF t 82 i = 1 → ∀ m ∈ tT t (i + 11), m < tN t 3 → σ' 16 m = σ 16 m ∧ σ' 18 m = σ 18 m ∧ ∀ f, f < 4 → m ∉ tT t (f + 7) → m ∉ tT t' (f + 7)) : gng t' σ' T J i := by
  obtain ⟨g1, g2, g3, g4, g5, g6⟩ := h
  unfold gng
  rw [e58, eT, e50, e82, e53, e54, e81]
  refine ⟨g1, g2, fun k hk => by rw [e59 k (by omega)]; exact g3 k hk, g4, fun m hm => Nat.lt_of_lt_of_le (g5 m hm) eN, ?_⟩
  rcases g6 with g6 | ⟨g6, f, a, k1, k2, k3, k4, k5, k6, k7⟩
  · exact Or.inl g6
  · refine Or.inr ⟨g6, f, a, k1, k2, k3, k4, k5, fun m hm => by rw [e11 m (g5 m hm)]; exact k6 m hm, ?_⟩
    rcases k7 with ⟨k7, k8, k9, k10⟩ | k7
    · refine Or.inl ⟨k7, k8, k9, fun m hmm => ?_⟩
      obtain ⟨p1, p2, p3⟩ := hm k7 m hmm (g5 m hmm)
      obtain ⟨o1, o2, o3⟩ := k10 m hmm
      exact ⟨p1.trans o1, p2.trans o2, p3 f k1 o3⟩
    · exact Or.inr k7
theorem s_man (h : Inv t σ) (a1 a2 a3 a4 : Int32) : wp_C_man 1170 14200 t a1 a2 a3 a4 (fun v t1 => wp_M_man σ a1 a2 a3 a4 (fun w σ1 => v = w ∧ Inv t1 σ1)) := by
  have hb := h.z.b4
  have hb3 := h.z.b3
  unfold wp_C_man
  rcases ix a1 (n := 4) (by omega) with hn | ⟨f, hf, rfl⟩
  · refine C_fe_no h.z hn (oN ?_)
    exact M_fe_no hn ⟨rfl, h⟩
  refine C_fe h.z hf (oS ?_)
  by_cases h1 : a2 < 1 ∨ 99 < a2
  · refine Cw_no h1 ?_
    exact (M_fe hf (Mw_no h1 ⟨rfl, h⟩))
  refine Cw_yes h1 ?_
  by_cases h2 : a3 < 16 ∨ 90 < a3
  · refine Cw_no h2 ?_
    exact (M_fe hf (Mw_yes h1 (Mw_no h2 ⟨rfl, h⟩)))
  refine Cw_yes h2 ?_
  rcases ix a4 (n := tN t 4) (by omega) with hn | ⟨i, hi, rfl⟩
  · refine C_pl_no h.z hn (oN ?_)
    exact (M_fe hf (Mw_yes h1 (Mw_yes h2 (M_pl_no h.z hn ⟨rfl, h⟩))))
  refine C_pl h.z hi (oS ?_)
  have hl : (tT t 1).length = tN t 3 := by rw [h.z.mn, List.length_range]
  show (if nI (tT t 1).length < 60 then _ else _)
  rw [hl]
  by_cases h3 : tN t 3 = 60
  · refine itF (by rw [h3]; decide) ?_
    refine (M_fe hf (Mw_yes h1 (Mw_yes h2 (M_pl h.z hi (itT ?_ ⟨rfl, h⟩))))); rw [h.z.m10, h3]; rfl
  refine itT (nI_lt (a := tN t 3) (b := 60) (by omega) (by omega)) ?_
  have hc0 := h.c 1
  refine ⟨hl, by omega, by omega, h.ok, by rw [h.z.1]; omega, ⟨by have := aC_le (tN t 3) (tK t 1); omega, by have := aS_le (n := tN t 3) hc0.2; omega⟩, ?_⟩
  have hv : vp_in (σ 10 0) 60 := by rw [h.z.m10]; exact vp_in_nI (by omega) (by omega)
  have hc : (σ 10 0).toNatClampNeg = tN t 3 := by rw [h.z.m10]; exact nI_clamp (by omega)
  refine M_fe hf (Mw_yes h1 (Mw_yes h2 (M_pl h.z hi (itF ?_ ⟨hv, ?_⟩))))
  · rw [h.z.m10]; exact fun q => h3 ((nI_eq (b := 60) (by omega) (by omega)).mp q)
  rintro σ9 rfl
  refine ⟨hv, ?_⟩
  rintro σ11 rfl
  refine ⟨hv, ?_⟩
  rintro σ12 rfl
  refine ⟨hv, ?_⟩
  rintro σ13 rfl σ14 rfl
  show nI (tN t 3) = (σ 10 0 + 1) - 1 ∧ Inv (lAdd (mkMan t (nI f) a2 a3) 1 (tN t 3)) (up2 (up2 (up2 (up2 (up2 σ 11 (σ 10 0).toNatClampNeg (nI f)) 12 (σ 10 0).toNatClampNeg a2) 13 (σ 10 0).toNatClampNeg a3) 18 (σ 10 0).toNatClampNeg (-1)) 10 0 (σ 10 0 + 1))
  rw [hc, h.z.m10, nI_1]
  refine ⟨(nI_pred _).symm, ?_⟩
  refine ⟨⟨h.z.1, h.z.2.1, h.z.b4, show tN t 3 + 1 ≤ 60 by omega, h.z.b2, h.z.b1, h.z.pl, ?_, h.z.ld, h.z.lw, h.z.m5, rfl, h.z.m43, h.z.m26⟩, IC_add (t := mkMan t (nI f) a2 a3) h.c _ (show (tT t 1).length ≤ 200 by omega), ⟨fun x hx => Nat.lt_succ_of_lt (h.s.1 x hx), fun x hx => Nat.lt_succ_of_lt (h.s.2.1 x hx), h.s.2.2⟩, h.p, h.r, h.m, ⟨?_, ?_⟩, fun g hg => ?_, h.d, h.tp, h.lw, h.ld, ?_, h.f⟩
  · show tT t 1 ++ [tN t 3] = List.range (tN t 3 + 1)
    rw [h.z.mn, List.range_succ]
  · intro i hi
    have hi : i < tN t 3 + 1 := hi
    show upd (tF t 97) (tN t 3) (nI f) i = upd (σ 11) (tN t 3) (nI f) i ∧ upd (tF t 98) (tN t 3) a2 i = upd (σ 12) (tN t 3) a2 i ∧ upd (tF t 99) (tN t 3) a3 i = upd (σ 13) (tN t 3) a3 i ∧ upd (tF t 100) (tN t 3) 0 i = σ 14 i ∧ upd (tF t 101) (tN t 3) 0 i = σ 15 i ∧ upd (tF t 102) (tN t 3) 0 i = σ 16 i ∧ upd (tF t 103) (tN t 3) 0 i = σ 17 i ∧ upd (tF t 104) (tN t 3) (-1) i = upd (σ 18) (tN t 3) (-1) i ∧ upd (tF t 105) (tN t 3) 0 i = σ 19 i ∧ (∃ g, g < 4 ∧ upd (σ 11) (tN t 3) (nI f) i = nI g) ∧ bz (σ 19 i)
    by_cases e : i = tN t 3
    · subst e
      obtain ⟨z1, z2, z3, z4, z5⟩ := h.n.2 _ (Nat.le_refl _)
      rw [pk_us, pk_us, pk_us, pk_us, pk_us, pk_us, pk_us, pk_us, pk_us, pk_us, pk_us, pk_us, pk_us, z1, z2, z3, z4, z5]
      exact ⟨rfl, rfl, rfl, rfl, rfl, rfl, rfl, rfl, rfl, ⟨f, hf, rfl⟩, Or.inl rfl⟩
    · rw [pk_un e, pk_un e, pk_un e, pk_un e, pk_un e, pk_un e, pk_un e, pk_un e, pk_un e, pk_un e, pk_un e, pk_un e, pk_un e]
      exact h.n.1 i (by omega)
  · intro i hi
    exact h.n.2 i (Nat.le_of_succ_le hi)
  · obtain ⟨w1, w2, w3, w4⟩ := h.w g hg
    refine ⟨w1, w2, w3, fun m hm => ?_⟩
    have hm : m ∈ tT t (g + 7) := by
      have e1 : tT (lAdd (mkMan t (nI f) a2 a3) 1 (tN t 3)) (g + 7) = tT t (g + 7) := lT_ne (t := mkMan t (nI f) a2 a3) (by omega)
      rw [e1] at hm; exact hm
    obtain ⟨m1, m2⟩ := w4 m hm
    refine ⟨Nat.lt_succ_of_lt m1, ?_⟩
    show upd (σ 11) (tN t 3) (nI f) m = nI g
    rw [pk_un (by omega)]; exact m2
  · obtain ⟨T, g1, g2, g3⟩ := h.g
    refine ⟨T, g1, g2, fun i hi => gng_congr (g3 i hi) rfl (fun _ _ => rfl) (lT_ne (t := mkMan t (nI f) a2 a3) (by omega)) (Nat.le_succ _) rfl rfl rfl rfl rfl (fun m hm => ?_) (fun _ m hm hlt => ⟨rfl, ?_, fun g hg hx => ?_⟩)⟩
    · show upd (σ 11) (tN t 3) (nI f) m = σ 11 m
      rw [pk_un (by omega)]
    · show upd (σ 18) (tN t 3) (-1) m = σ 18 m
      rw [pk_un (by omega)]
    · have e1 : tT (lAdd (mkMan t (nI f) a2 a3) 1 (tN t 3)) (g + 7) = tT t (g + 7) := lT_ne (t := mkMan t (nI f) a2 a3) (by omega)
      rw [e1]; exact hx
end Calls2
