/-! calls: dice, end, rates, off, told, gang, fund, count -/
section Calls4
variable {t : CS} {σ : MS}
theorem nb0 : vp_nar .boolean 0 = 0 := rfl
theorem nb1 : vp_nar .boolean 1 = 1 := rfl
theorem s_dice (h : Inv t σ) (a1 a2 a3 : Int32) : wp_C_dice t a1 a2 a3 (fun v t1 => wp_M_dice σ a1 a2 a3 (fun w σ1 => v = w ∧ Inv t1 σ1)) := by
  unfold wp_C_dice
  rcases ix a1 (n := 4) (by omega) with hn | ⟨f, hf, rfl⟩
  · refine C_fe_no h.z hn (oN ?_)
    exact M_fe_no hn ⟨rfl, h⟩
  have hcf : (nI f).toNatClampNeg = f := nI_clamp (by omega)
  have hvf : vp_in (nI f) 4 := vp_in_nI hf (by omega)
  have hf0 : f < tN t 0 := by rw [h.z.1]; exact hf
  refine C_fe h.z hf (oS ?_)
  by_cases h1 : a2 < 0 ∨ 1 < a2
  · refine Cw_no h1 ?_
    exact M_fe hf (Mw_no h1 ⟨rfl, h⟩)
  refine Cw_yes h1 ⟨hf0, ?_⟩
  obtain ⟨d1, d2, d3⟩ := h.d f hf
  have hD : ∀ v : Int32, bz v → ∀ z : Int32, Inv (sF (sF t 2 f v) 3 f z) (up2 (up2 σ 22 f v) 23 f z) := fun v hv z => by
    refine ⟨h.z, h.c, h.s, h.p, h.r, h.m, h.n, h.w, fun g hg => ?_, h.tp, h.lw, h.ld, h.g, h.f⟩
    show upd (tF t 2) f v g = upd (σ 22) f v g ∧ upd (tF t 3) f z g = upd (σ 23) f z g ∧ bz (upd (σ 22) f v g)
    by_cases e : g = f
    · subst e; rw [pk_us, pk_us, pk_us, pk_us]; exact ⟨rfl, rfl, hv⟩
    · rw [pk_un e, pk_un e, pk_un e, pk_un e]; exact h.d g hg
  have hD2 : ∀ v : Int32, bz v → Inv (sF t 2 f v) (up2 σ 22 f v) := fun v hv => by
    refine ⟨h.z, h.c, h.s, h.p, h.r, h.m, h.n, h.w, fun g hg => ?_, h.tp, h.lw, h.ld, h.g, h.f⟩
    show upd (tF t 2) f v g = upd (σ 22) f v g ∧ tF t 3 g = σ 23 g ∧ bz (upd (σ 22) f v g)
    by_cases e : g = f
    · subst e; rw [pk_us, pk_us]; exact ⟨rfl, (h.d g hg).2.1, hv⟩
    · rw [pk_un e, pk_un e]; exact h.d g hg
  have main : ∀ v : Int32, (∀ X, wp_M_dice_32 X σ (nI f) a2 a3 v → wp_M_dice σ (nI f) a2 a3 X) → wp_C_dice_36 (fun v t1 => wp_M_dice σ (nI f) a2 a3 (fun w σ1 => v = w ∧ Inv t1 σ1)) t a2 a3 f v := fun v hM => by
    refine itE (fun q => ⟨hf0, Or.inr rfl, ?_⟩) (fun q => ⟨hf0, Or.inl rfl, ?_⟩)
    · rintro t3 rfl
      refine ⟨hf0, ?_⟩
      show (if upd (tF t 2) f 1 f = 0 then _ else _)
      rw [pk_us]
      refine itF (by decide) ?_
      rintro t6 rfl
      refine hM _ (itT q ⟨hvf, ?_⟩)
      rintro σ2 rfl
      refine itT q ⟨hvf, ?_⟩
      rintro σ5 rfl
      rw [hcf, nb1]
      exact ⟨rfl, hD 1 (Or.inr rfl) a3⟩
    · rintro t3 rfl
      refine ⟨hf0, ?_⟩
      show (if upd (tF t 2) f 0 f = 0 then _ else _)
      rw [pk_us]
      refine itT rfl ?_
      refine hM _ (itF q ⟨hvf, ?_⟩)
      rintro σ2 rfl
      refine itF q ?_
      rw [hcf, nb0]
      exact ⟨rfl, hD2 0 (Or.inl rfl)⟩
  rw [d1]
  refine itE (fun q => main 0 (fun X hX => M_fe hf (Mw_yes h1 ⟨hvf, ?_⟩))) (fun q => main 1 (fun X hX => M_fe hf (Mw_yes h1 ⟨hvf, ?_⟩)))
  · rw [hcf]; exact itT q hX
  · rw [hcf]; exact itF q hX
theorem s_end (h : Inv t σ) (a1 : Int32) : wp_C_end t a1 (fun v t1 => wp_M_end σ a1 (fun w σ1 => v = w ∧ Inv t1 σ1)) := by
  obtain ⟨n, hn, t1, t2, t3⟩ := h.tp
  unfold wp_C_end wp_M_end
  rw [t1, t2]
  by_cases h1 : a1 < 0 ∨ nI n < a1
  · exact Cw_no h1 (Mw_no h1 ⟨rfl, h⟩)
  refine Cw_yes h1 ?_
  rintro t4 rfl
  refine Mw_yes h1 ?_
  rintro σ4 rfl
  obtain ⟨k, -, hk, rfl⟩ := rg_of (a := 0) (b := n) h1 (by decide) (nI_toInt (by omega))
  exact ⟨rfl, h.z, h.c, h.s, h.p, h.r, h.m, h.n, h.w, h.d, ⟨k, by omega, rfl, rfl, fun i hi => t3 i (by omega)⟩, h.lw, h.ld, h.g, h.f⟩
theorem s_rates (h : Inv t σ) (a1 a2 a3 : Int32) : wp_C_rates t a1 a2 a3 (fun v t1 => wp_M_rates σ a1 a2 a3 (fun w σ1 => v = w ∧ Inv t1 σ1)) := by
  unfold wp_C_rates
  rcases ix a1 (n := 4) (by omega) with hn | ⟨f, hf, rfl⟩
  · refine C_fe_no h.z hn (oN ?_)
    exact M_fe_no hn ⟨rfl, h⟩
  have hcf : (nI f).toNatClampNeg = f := nI_clamp (by omega)
  have hvf : vp_in (nI f) 4 := vp_in_nI hf (by omega)
  have hf0 : f < tN t 0 := by rw [h.z.1]; exact hf
  refine C_fe h.z hf (oS ?_)
  by_cases h1 : a2 < 0 ∨ 99 < a2
  · refine Cw_no h1 ?_
    exact M_fe hf (Mw_no h1 ⟨rfl, h⟩)
  refine Cw_yes h1 ?_
  by_cases h2 : a3 < 0 ∨ 99 < a3
  · refine Cw_no h2 ?_
    exact M_fe hf (Mw_yes h1 (Mw_no h2 ⟨rfl, h⟩))
  refine Cw_yes h2 ⟨hf0, ?_⟩
  rintro t11 rfl
  refine ⟨hf0, ?_⟩
  rintro t13 rfl
  refine M_fe hf (Mw_yes h1 (Mw_yes h2 ⟨hvf, ?_⟩))
  rintro σ11 rfl
  refine ⟨hvf, ?_⟩
  rintro σ13 rfl
  rw [hcf]
  have r1 : rg a2 0 99 := rg_of h1 (by decide) (by decide)
  have r2 : rg a3 0 99 := rg_of h2 (by decide) (by decide)
  obtain ⟨D, hD, hF, hP⟩ := h.f
  refine ⟨rfl, h.z, h.c, h.s, h.p, h.r, h.m, h.n, h.w, h.d, h.tp, h.lw, h.ld, h.g, D, hD, ⟨hF.1, fun g hg => ?_⟩, hP⟩
  obtain ⟨u1, u2, u3, u4, u5, u6, u7, u8⟩ := hF.2 g hg
  refine ⟨u1, u2, u3, ?_, ?_, ?_, ?_, u8⟩
  · show upd (tF t 8) f a2 g = upd (σ 66) f a2 g
    by_cases e : g = f
    · subst e; rw [pk_us, pk_us]
    · rw [pk_un e, pk_un e]; exact u4
  · show upd (tF t 9) f a3 g = upd (σ 67) f a3 g
    by_cases e : g = f
    · subst e; rw [pk_us, pk_us]
    · rw [pk_un e, pk_un e]; exact u5
  · show rg (upd (σ 66) f a2 g) 0 99
    by_cases e : g = f
    · subst e; rw [pk_us]; exact r1
    · rw [pk_un e]; exact u6
  · show rg (upd (σ 67) f a3 g) 0 99
    by_cases e : g = f
    · subst e; rw [pk_us]; exact r2
    · rw [pk_un e]; exact u7
theorem s_fund (h : Inv t σ) (a1 a2 : Int32) : wp_C_fund t a1 a2 (fun v t1 => wp_M_fund σ a1 a2 (fun w σ1 => v = w ∧ Inv t1 σ1)) := by
  unfold wp_C_fund
  rcases ix a1 (n := 4) (by omega) with hn | ⟨f, hf, rfl⟩
  · refine C_fe_no h.z hn (oN ?_)
    exact M_fe_no hn ⟨rfl, h⟩
  have hcf : (nI f).toNatClampNeg = f := nI_clamp (by omega)
  have hvf : vp_in (nI f) 4 := vp_in_nI hf (by omega)
  have hf0 : f < tN t 0 := by rw [h.z.1]; exact hf
  obtain ⟨D, hD, hF, hP⟩ := h.f
  obtain ⟨u1, u2, u3, u4, u5, u6, u7, u8⟩ := hF.2 f hf
  refine C_fe h.z hf (oS ?_)
  refine itE (fun q0 => ⟨hf0, ?_⟩) (fun q0 => itE (fun q1 => ⟨hf0, ?_⟩) (fun q1 => itE (fun q2 => ⟨hf0, ?_⟩) (fun q2 => ?_)))
  · exact M_fe hf (itT q0 ⟨hvf, by rw [hcf]; exact u1, h⟩)
  · exact M_fe hf (itF q0 (itT q1 ⟨hvf, by rw [hcf]; exact u2, h⟩))
  · exact M_fe hf (itF q0 (itF q1 (itT q2 ⟨hvf, by rw [hcf]; exact u3, h⟩)))
  · exact M_fe hf (itF q0 (itF q1 (itF q2 ⟨rfl, h⟩)))
theorem s_off (h : Inv t σ) (a1 : Int32) : wp_C_off t a1 (fun v t1 => wp_M_off σ a1 (fun w σ1 => v = w ∧ Inv t1 σ1)) := by
  have hb := h.z.b2
  unfold wp_C_off
  rcases ix a1 (n := tN t 2) (by omega) with hn | ⟨l, hl, rfl⟩
  · refine C_ld_no h.z hn (oN ?_)
    exact M_ld_no h.z hn ⟨rfl, h⟩
  have hc : (nI l).toNatClampNeg = l := nI_clamp (by omega)
  have hv : vp_in (nI l) 200 := vp_in_nI (by omega) (by omega)
  obtain ⟨l1, l2, l3, l4, l5, l6, l7, l8, l9, l10, l11, l12, l13⟩ := h.ld.1 l hl
  refine C_ld h.z hl (oS ⟨hl, ?_⟩)
  rw [l12]
  refine itE (fun q => ?_) (fun q => M_ld h.z hl ⟨hv, by rw [hc]; exact itF q ⟨rfl, h⟩⟩)
  rintro t6 rfl
  refine ⟨hl, ?_⟩
  rintro t8 rfl
  refine M_ld h.z hl ⟨hv, ?_⟩
  rw [hc]
  refine itT q ⟨hv, ?_⟩
  rintro σ7 rfl
  refine ⟨hv, ?_⟩
  rintro σ9 rfl
  obtain ⟨T, hT, e1, e2⟩ := h.m
  show (1 : Int32) = 1 ∧ Inv (sF (sF t 75 l 4) 76 l (tF t 171 0)) (up2 (up2 σ 50 l 4) 52 l (σ 1 0))
  refine ⟨rfl, h.z, h.c, h.s, h.p, h.r, h.m, h.n, h.w, h.d, h.tp, h.lw, ⟨fun i hi => ?_, fun i hi => ?_⟩, ?_, ?_⟩
  · obtain ⟨k1, k2, k3, k4, k5, k6, k7, k8, k9, k10, k11, k12, k13, k14⟩ := h.ld.1 i hi
    refine ⟨k1, k2, k3, k4, k5, k6, k7, k8, k9, k10, k11, ?_, ?_, k14⟩
    · show upd (tF t 75) l 4 i = upd (σ 50) l 4 i
      by_cases e : i = l
      · subst e; rw [pk_us, pk_us]
      · rw [pk_un e, pk_un e]; exact k12
    · show upd (tF t 76) l (tF t 171 0) i = upd (σ 52) l (σ 1 0) i
      by_cases e : i = l
      · subst e; rw [pk_us, pk_us, e1, e2]
      · rw [pk_un e, pk_un e]; exact k13
  · obtain ⟨z1, z2⟩ := h.ld.2 i hi
    have hi : tN t 2 ≤ i := hi
    refine ⟨?_, z2⟩
    show upd (σ 52) l (σ 1 0) i = 0
    rw [pk_un (by omega)]; exact z1
  · obtain ⟨T, g1, g2, g3⟩ := h.g
    refine ⟨T, g1, g2, fun i hi => ?_⟩
    by_cases e : i = l
    · subst e
      obtain ⟨p1, p2, p3, p4, p5, p6⟩ := g3 i hi
      refine ⟨p1, p2, p3, p4, p5, Or.inl ?_⟩
      rcases p6 with ⟨o1, o2, o3, o4⟩ | ⟨-, f, a, -, -, -, -, -, -, o⟩
      · exact ⟨Or.inr (show upd (σ 50) i 4 i = 4 from pk_us), o2, o3, o4⟩
      · rcases o with ⟨-, -, o, -⟩ | ⟨-, -, o⟩ <;> rcases o with o | o <;> rw [q] at o <;> exact absurd o (by decide)
    · exact gng_congr (g3 i hi) rfl (fun _ _ => rfl) rfl (Nat.le_refl _) (show upd (σ 50) l 4 i = σ 50 i from pk_un e) rfl rfl rfl rfl (fun _ _ => rfl) (fun _ m _ _ => ⟨rfl, rfl, fun _ _ hx => hx⟩)
  · obtain ⟨D, hD, hF, hP⟩ := h.f
    refine ⟨D, hD, hF, hP.1, ?_⟩
    have e : thr (sF (sF t 75 l 4) 76 l (tF t 171 0)) (up2 (up2 σ 50 l 4) 52 l (σ 1 0)) = thr t σ := by
      unfold thr
      refine fb_ct_cong (fun k hk => ?_)
      show decide (upd (σ 50) l 4 k = 2) = decide (σ 50 k = 2)
      by_cases e : k = l
      · subst e; rw [pk_us, q]; rfl
      · rw [pk_un e]
    rw [e]; exact hP.2
theorem s_told (h : Inv t σ) (a1 a2 : Int32) : wp_C_told t a1 a2 (fun v t1 => wp_M_told σ a1 a2 (fun w σ1 => v = w ∧ Inv t1 σ1)) := by
  have hb := h.z.b2
  unfold wp_C_told
  rcases ix a1 (n := tN t 2) (by omega) with hn | ⟨l, hl, rfl⟩
  · refine C_ld_no h.z hn (oN ?_)
    exact M_ld_no h.z hn ⟨rfl, h⟩
  have hc : (nI l).toNatClampNeg = l := nI_clamp (by omega)
  have hv : vp_in (nI l) 200 := vp_in_nI (by omega) (by omega)
  obtain ⟨l1, l2, l3, l4, l5, l6, l7, l8, l9, l10, l11, l12, l13, l14, l15, l16, l17, -⟩ := h.ld.1 l hl
  obtain ⟨T2, -, -, g3⟩ := h.g
  obtain ⟨g1, -, -, -, -, g6⟩ := g3 l hl
  obtain ⟨T, hT, e1, e2⟩ := h.m
  have M0 : ∀ v : Int32, wp_M_told σ (nI l) a2 (fun w σ1 => v = w ∧ Inv t σ1) → wp_M_told σ (nI l) a2 (fun w σ1 => v = w ∧ Inv t σ1) := fun v h => h
  refine C_ld h.z hl (oS ?_)
  refine itE (fun q0 => ⟨hl, ?_⟩) (fun q0 => itE (fun q1 => ⟨hl, ?_⟩) (fun q1 => itE (fun q2 => ⟨hl, l5, ?_⟩) (fun q2 => itE (fun q3 => ⟨hl, l6, ?_⟩) (fun q3 => itE (fun q4 => ⟨hl, ?_⟩) (fun q4 => itE (fun q5 => ⟨hl, ?_⟩) (fun q5 => itE (fun q6 => ⟨hl, ?_⟩) (fun q6 => itE (fun q7 => ⟨hl, ?_⟩) (fun q7 => itE (fun q8 => ⟨hl, by omega, ?_⟩) (fun q8 => itE (fun q9 => ⟨hl, ?_⟩) (fun q9 => itE (fun q10 => ⟨hl, ?_⟩) (fun q10 => itE (fun q11 => ⟨hl, hl, ?_⟩) (fun q11 => itE (fun q12 => ⟨hl, ?_⟩) (fun q12 => ?_)))))))))))))
  · exact M_ld h.z hl (itT q0 ⟨hv, by rw [hc]; exact l1, h⟩)
  · exact M_ld h.z hl (itF q0 (itT q1 ⟨hv, by rw [hc]; exact l2, h⟩))
  · exact M_ld h.z hl (itF q0 (itF q1 (itT q2 ⟨hv, by rw [hc]; exact l3.symm, h⟩)))
  · exact M_ld h.z hl (itF q0 (itF q1 (itF q2 (itT q3 ⟨hv, by rw [hc]; exact l4.symm, h⟩))))
  · exact M_ld h.z hl (itF q0 (itF q1 (itF q2 (itF q3 (itT q4 ⟨hv, by rw [hc]; exact l9, h⟩)))))
  · exact M_ld h.z hl (itF q0 (itF q1 (itF q2 (itF q3 (itF q4 (itT q5 ⟨hv, by rw [hc]; exact l10, h⟩))))))
  · exact M_ld h.z hl (itF q0 (itF q1 (itF q2 (itF q3 (itF q4 (itF q5 (itT q6 ⟨hv, by rw [hc]; exact l12, h⟩)))))))
  · exact M_ld h.z hl (itF q0 (itF q1 (itF q2 (itF q3 (itF q4 (itF q5 (itF q6 (itT q7 ⟨hv, by rw [hc]; exact l14, h⟩))))))))
  · exact M_ld h.z hl (itF q0 (itF q1 (itF q2 (itF q3 (itF q4 (itF q5 (itF q6 (itF q7 (itT q8 ⟨hv, by rw [hc]; exact g1.symm, h⟩)))))))))
  · exact M_ld h.z hl (itF q0 (itF q1 (itF q2 (itF q3 (itF q4 (itF q5 (itF q6 (itF q7 (itF q8 (itT q9 ⟨hv, by rw [hc]; exact l15, h⟩))))))))))
  · exact M_ld h.z hl (itF q0 (itF q1 (itF q2 (itF q3 (itF q4 (itF q5 (itF q6 (itF q7 (itF q8 (itF q9 (itT q10 ⟨hv, by rw [hc]; exact l17, h⟩)))))))))))
  · rw [l12, l13, l11, e2, ← e1]
    refine itE (fun q => ?_) (fun q => ?_)
    · refine M_ld h.z hl (itF q0 (itF q1 (itF q2 (itF q3 (itF q4 (itF q5 (itF q6 (itF q7 (itF q8 (itF q9 (itF q10 (itT q11 ⟨hv, ?_⟩))))))))))))
      rw [hc]; exact itT q ⟨hv, by rw [hc], h⟩
    · refine M_ld h.z hl (itF q0 (itF q1 (itF q2 (itF q3 (itF q4 (itF q5 (itF q6 (itF q7 (itF q8 (itF q9 (itF q10 (itT q11 ⟨hv, ?_⟩))))))))))))
      rw [hc]; exact itF q ⟨hv, hv, by rw [hc], h⟩
  · have e81 : σ 50 l = 1 ∨ σ 50 l = 2 → tF t 81 l = σ 54 l := fun hs => by
      rcases g6 with ⟨o1, -⟩ | ⟨-, f, a, -, -, -, o4, o5, -⟩
      · rcases hs with hs | hs <;> rw [hs] at o1 <;> exact absurd o1 (by decide)
      · rw [o4, o5]
    rw [l12]
    refine itE (fun q => ?_) (fun q => itE (fun q' => ?_) (fun q' => ?_))
    · refine M_ld h.z hl (itF q0 (itF q1 (itF q2 (itF q3 (itF q4 (itF q5 (itF q6 (itF q7 (itF q8 (itF q9 (itF q10 (itF q11 (itT q12 ⟨hv, ?_⟩)))))))))))))
      rw [hc]; exact itT q ⟨hv, by rw [hc]; exact e81 (Or.inl q), h⟩
    · refine M_ld h.z hl (itF q0 (itF q1 (itF q2 (itF q3 (itF q4 (itF q5 (itF q6 (itF q7 (itF q8 (itF q9 (itF q10 (itF q11 (itT q12 ⟨hv, ?_⟩)))))))))))))
      rw [hc]; exact itF q ⟨hv, itT q' ⟨hv, by rw [hc]; exact e81 (Or.inr q'), h⟩⟩
    · refine M_ld h.z hl (itF q0 (itF q1 (itF q2 (itF q3 (itF q4 (itF q5 (itF q6 (itF q7 (itF q8 (itF q9 (itF q10 (itF q11 (itT q12 ⟨hv, ?_⟩)))))))))))))
      rw [hc]; exact itF q ⟨hv, itF q' ⟨rfl, h⟩⟩
  · exact M_ld h.z hl (itF q0 (itF q1 (itF q2 (itF q3 (itF q4 (itF q5 (itF q6 (itF q7 (itF q8 (itF q9 (itF q10 (itF q11 (itF q12 ⟨rfl, h⟩)))))))))))))
theorem s_gang (h : Inv t σ) (a1 a2 : Int32) : wp_C_gang t a1 a2 (fun v t1 => wp_M_gang σ a1 a2 (fun w σ1 => v = w ∧ Inv t1 σ1)) := by
  have hb := h.z.b2
  unfold wp_C_gang
  rcases ix a1 (n := tN t 2) (by omega) with hn | ⟨l, hl, rfl⟩
  · refine C_ld_no h.z hn (oN ?_)
    exact M_ld_no h.z hn ⟨rfl, h⟩
  have hc : (nI l).toNatClampNeg = l := nI_clamp (by omega)
  have hv : vp_in (nI l) 200 := vp_in_nI (by omega) (by omega)
  obtain ⟨T2, -, -, g3⟩ := h.g
  obtain ⟨g1, g2, g3, g4, g5, -⟩ := g3 l hl
  refine C_ld h.z hl (oS ?_)
  rcases ix a2 (n := (tT t (l + 11)).length) (by omega) with hn | ⟨k, hk, rfl⟩
  · have hM : wp_M_gang σ (nI l) a2 (fun w σ1 => (-1 : Int32) = w ∧ Inv t σ1) := by
      refine M_ld h.z hl ⟨hv, ?_⟩
      rw [hc, g1]
      exact Mw_no (lt_pred (by omega) hn) ⟨rfl, h⟩
    refine itE (fun _ => hM) (fun q => ⟨hl, by omega, itF (Int32.not_lt.mpr (hn.resolve_left q)) hM⟩)
  · refine itF (nI_pos (by omega)) ⟨hl, by omega, itT (nI_lt hk (by omega)) ⟨vp_in_nI hk (by omega), by omega, ?_⟩⟩
    rw [nI_clamp (by omega)]
    rintro j10 rfl
    refine ⟨g5 _ (getD_mem hk), ?_⟩
    refine M_ld h.z hl ⟨hv, ?_⟩
    rw [hc, g1]
    refine Mw_yes (ge_pred (by omega) hk) ?_
    rw [i8, nI_clamp (by omega), g3 k hk]
    exact ⟨vp_in_nI (by omega) (by omega), rfl, h⟩
end Calls4
