/-! minutes, the call -/
section Min2
variable {t : CS} {σ : MS}
theorem Mid_at {T r : Nat} (h : Mid t σ 200) (hT : σ 1 0 = nI T) (hT9 : T ≤ 99999) (hTr : T < r) (hr : r ≤ 99999) (hst : ∀ i, i < tN t 2 → tF t 82 i = 1 → ∀ a, a ≤ 101000 → σ 54 i = nI a → r ≤ a) : Mid (sF t 171 0 (nI r)) (mT0 σ r) 0 ∧ notYet (sF t 171 0 (nI r)) (mT0 σ r) r 0 := by
  obtain ⟨hz, hc, hs, hp, hri, hm, hn, hw, hd, htp, hlw, hld, hg⟩ := h
  have hb2 := hz.b2
  obtain ⟨T2, g1, g2, g3⟩ := hg
  have eT2 : T2 = T := (nI_eq (by omega) (by omega)).mp (g1.symm.trans hT)
  subst eT2
  have e1 : (mT0 σ r) 1 0 = nI r := (show upd (σ 1) 0 (nI r) 0 = _ from pk_us)
  refine ⟨⟨hz, hc, hs, hp, hri, ⟨r, hr, e1, (show upd (tF t 171) 0 (nI r) 0 = _ from pk_us)⟩, hn, hw, hd, htp, hlw, hld, r, e1, hr, fun i hi => ?_⟩, fun i _ hi q => ?_⟩
  · obtain ⟨a1, a2, a3, a4, a5, a6⟩ := g3 i hi
    refine ⟨a1, a2, a3, a4, a5, ?_⟩
    rcases a6 with q | ⟨q1, f, a, q2, q3, q4, q5, q6, q7, q8⟩
    · exact Or.inl q
    · refine Or.inr ⟨q1, f, a, q2, q3, q4, q5, q6, q7, ?_⟩
      rcases q8 with ⟨r1, r2, r3⟩ | ⟨r1, r2, r3⟩
      · have := hst i hi r1 a q4 q5
        exact Or.inl ⟨r1, by omega, r3⟩
      · exact Or.inr ⟨r1, by omega, r3⟩
  · rintro ⟨z1, z2⟩
    have z1 : σ 54 i = nI r := z1
    have z2 : σ 50 i = 1 ∨ σ 50 i = 3 := z2
    rcases flag_0 (g3 i hi) q with ⟨a, b1, b2⟩ | ⟨b1, b2⟩
    · have := (nI_eq (by omega) (by omega)).mp (z1.symm.trans b2)
      omega
    · exact z2.elim b1 b2
/-- from one stop to the next -/
theorem Stop {T G D N k : Nat} (h : Inv t σ) (hT : σ 1 0 = nI T) (hT9 : T ≤ 99999) (hTG : T < G) (hG : G ≤ 99999) (hN : N ≤ 600) (hkN : k + (G - T) = N) : ∃ r t' σ' c s, T < r ∧ r ≤ G ∧ Inv t' σ' ∧ σ' 1 0 = nI r ∧ ksum t + c ≤ ksum t' ∧ 4 * ksum t + s ≤ 4 * ksum t' ∧ (∀ g, g < 4 → tK t' (g + 7) ≤ max (tK t (g + 7)) 88) ∧ (∀ Q, (∃ nn, wp_M_minutes_26 Q nn σ' (nI N) (nI (k + (r - T)))) → ∃ nn, wp_M_minutes_26 Q nn σ (nI N) (nI k)) ∧ (∀ mc ms uc us post stops n, uc + c ≤ mc → us + s ≤ ms → stops < N → wp_C_minutes_34 mc ms post n (uc + c) (us + s) t' (nI N) (nI G) (nI (stops + 1)) → wp_C_minutes_34 mc ms post (n + 1) uc us t (nI N) (nI G) (nI stops)) := by
  obtain ⟨hM, D, eD, hF, hP⟩ := Inv_mid h
  have hD167 := hF.1
  obtain ⟨hz, hc, hs, hp, hri, hm, hn, hw, hd, htp, hlw, hld, hg⟩ := id hM
  have hb2 := hz.b2
  obtain ⟨T1, hT1, m1, m2⟩ := id hm
  have eT1 : T1 = T := (nI_eq (by omega) (by omega)).mp (m1.symm.trans hT)
  subst eT1
  obtain ⟨T2, g1, g2, g3⟩ := id hg
  have eT2 : T2 = T1 := (nI_eq (by omega) (by omega)).mp (g1.symm.trans hT)
  subst eT2
  have eDT : D = T2 / 600 := by
    rw [hT] at eD
    have e : nI T2 / 600 = nI (T2 / 600) := pk_div (d := 600) (by omega) (by omega) (by omega)
    rw [e] at eD
    exact ((nI_eq (by omega) (by omega)).mp eD).symm
  obtain ⟨r, r1, r2, r3, r4, r5⟩ := nextStop hz hT9 hTG (by omega) eDT m2 g3
  have hr9 : r ≤ 99999 := by omega
  obtain ⟨hMr, hU⟩ := Mid_at hM hT hT9 r1 hr9 r4
  have e1 : (mT0 σ r) 1 0 = nI r := (show upd (σ 1) 0 (nI r) 0 = _ from pk_us)
  have e171 : tF (sF t 171 0 (nI r)) 171 0 = nI r := (show upd (tF t 171) 0 (nI r) 0 = _ from pk_us)
  have hno : ∀ x, T2 < x → x < r → ∀ i, i < tN t 2 → ¬ (σ 54 i = nI x ∧ (σ 50 i = 1 ∨ σ 50 i = 3)) := fun x x1 x2 i hi ⟨z1, z2⟩ => by
    rcases flag_b (g3 i hi) with q | q
    · rcases flag_0 (g3 i hi) q with ⟨a, b1, b2⟩ | ⟨b1, b2⟩
      · have := (nI_eq (by omega) (by omega)).mp (z1.symm.trans b2)
        omega
      · exact z2.elim b1 b2
    · have := r4 i hi q x (by omega) z1
      omega
  -- the day, if one begins
  have hday : ∃ tb σb, Mid tb σb 0 ∧ Fnd tb σb ∧ notYet tb σb r 0 ∧ σb 1 0 = nI r ∧ tb.2 = t.2 ∧ (∀ mc ms (k34 : Nat → Nat → CS → Int32 → Int32 → Int32 → Prop) post uc us x1 x2 x3, wp_C_minutes_71 mc ms k34 post uc us tb x1 x2 x3 → (if ((tF (sF t 171 0 (nI r)) 171 0) - (tF (sF t 171 0 (nI r)) 171 0) / (600 : Int32) * (600 : Int32)) = 0 then (wp_C_beginDay (sF t 171 0 (nI r)) (fun t11 => wp_C_minutes_71 mc ms k34 post uc us t11 x1 x2 x3)) else (wp_C_minutes_71 mc ms k34 post uc us (sF t 171 0 (nI r)) x1 x2 x3))) ∧ (∀ (k26 : MS → Int32 → Int32 → Prop) post x1 x2, wp_M_minutes_93 k26 post σb x1 x2 → (if (((mT0 σ r) 1 0) - ((mT0 σ r) 1 0) / (600 : Int32) * (600 : Int32)) = 0 then (∃ nn : Nat, wp_M_minutes_54 k26 post nn (mT0 σ r) x1 x2 (0 : Int32)) else (wp_M_minutes_93 k26 post (mT0 σ r) x1 x2))) := by
    rw [e171, e1, mod600 (by omega)]
    by_cases q : r % 600 = 0
    · have hrD : r / 600 = D + 1 := by omega
      obtain ⟨tb, σb, y1, y2, y3, y4, y5, y6⟩ := DayAll hMr (D := D) hF hP (by omega)
      have eb : σb 1 0 = nI r := by rw [y4.2.2.1]; exact e1
      refine ⟨tb, σb, y1, ⟨D + 1, ?_, y2, y3⟩, fun i hi hi2 hfl => ?_, eb, y4.1, fun mc ms k34 post uc us x1 x2 x3 hp => itT (by rw [q]; rfl) (y5 _ hp), fun k26 post x1 x2 hp => itT (by rw [q]; rfl) (y6 k26 post x1 x2 hp)⟩
      · rw [eb, ← hrD]
        exact pk_div (d := 600) (by omega) (by omega) (by omega)
      · rw [fr_N y4] at hi2
        rw [y4.2.1] at hfl
        rw [y4.2.2.2.1, y4.2.2.2.2]
        exact hU i hi hi2 hfl
    · have hrD : r / 600 = D := by omega
      refine ⟨sF t 171 0 (nI r), mT0 σ r, hMr, ⟨D, ?_, hF, hP⟩, hU, e1, rfl, fun mc ms k34 post uc us x1 x2 x3 hp => itF (nI_ne0 (by omega) (by omega)) hp, fun k26 post x1 x2 hp => itF (nI_ne0 (by omega) (by omega)) hp⟩
      rw [e1, ← hrD]
      exact pk_div (d := 600) (by omega) (by omega) (by omega)
  obtain ⟨tb, σb, b1, b2, b3, b4, b5, b6, b7⟩ := hday
  have ebN : tN tb 2 = tN t 2 := by unfold tN; rw [b5]
  have ebK : ∀ k, tK tb k = tK t k := fun k => by
    show tb.2.2.2.2.2 k = t.2.2.2.2.2 k
    rw [b5]
  have ebS : ksum tb = ksum t := by unfold ksum; rw [ebK, ebK, ebK, ebK]
  obtain ⟨t', σ', c, s, z1, z2, z3, z4, z5, z6, z7, z8, z9⟩ := Bring hr9 (tN tb 2) 0 tb σb (by omega) b1 b2 b4 b3
  refine ⟨r, t', σ', c, s, r1, r2, Mid_inv z1 z2, by rw [z4]; exact b4, by omega, by omega, fun g hg => by rw [← ebK]; exact z7 g hg, fun Q hQ => ?_, fun mc ms uc us post stops n hc hs hst hp => ?_⟩
  · have hlast : ∃ nn, wp_M_minutes_26 Q nn (mT0 σ (r - 1)) (nI N) (nI (k + (r - 1 - T2))) := by
      obtain ⟨nn, hh⟩ := hQ
      refine ⟨nn + 1, itF (nI_ge (by omega) (by omega)) ?_⟩
      have ee : (mT0 σ (r - 1)) 1 0 + 1 = nI r := by
        show upd (σ 1) 0 (nI (r - 1)) 0 + 1 = _
        rw [pk_us, nI_1, show r - 1 + 1 = r by omega]
      rw [ee, mT0_mT0]
      refine nm_e (b7 _ _ _ _ ⟨tN tb 2 + 1, z9 _ (nm_e ?_)⟩)
      rw [nI_1, show k + (r - 1 - T2) + 1 = k + (r - T2) by omega]
      exact hh
    have := M_idle hz hT9 (by omega) eDT r3 hN hno (Q := Q) (r - 1 - T2) T2 k (by omega) (Nat.le_refl _) (by omega) hlast
    rw [mT0_id hT] at this
    exact this
  · refine itF (nI_ge hst (by omega)) (itF ?_ (r5 _ (nm_e (b6 mc ms _ post uc us _ _ _ ⟨c, s, ⟨hc, hs⟩, ⟨tN tb 2 + 1, z8 c s 0 0 _ (by omega) (by omega) (nm_e ?_)⟩⟩))))
    · rw [m2]; exact nI_ge hTG (by omega)
    · rw [nI_1]; exact hp
theorem outer {t0 : CS} {T0 G N : Nat} (hG : G = T0 + N) (hG9 : G ≤ 99999) (hN : N ≤ 600) {X : (Int32 → MS → Prop) → Prop} : ∀ d T t σ uc us stops, T + d = G → T0 ≤ T → Inv t σ → σ 1 0 = nI T → stops ≤ T - T0 → uc + ksum t0 ≤ ksum t → us + 4 * ksum t0 ≤ 4 * ksum t → (∀ g, g < 4 → tK t (g + 7) ≤ max (tK t0 (g + 7)) 88) → (∀ Q, (∃ nn, wp_M_minutes_26 Q nn σ (nI N) (nI (T - T0))) → X Q) → ∃ nn, wp_C_minutes_34 1170 14200 (fun v t1 => X (fun w σ1 => v = w ∧ Inv t1 σ1)) nn uc us t (nI N) (nI G) (nI stops) := by
  intro d
  induction d using Nat.strongRecOn with
  | _ d ih =>
    intro T t σ uc us stops hd hT0 h hT hst hu1 hu2 hK hX
    obtain ⟨T1, hT1, m1, m2⟩ := h.m
    have eT1 : T1 = T := (nI_eq (by omega) (by omega)).mp (m1.symm.trans hT)
    subst eT1
    by_cases hTG : T1 = G
    · have hfin : X (fun w σ1 => tF t 171 0 = w ∧ Inv t σ1) := by
        refine hX _ ⟨1, itT (nI_le (by omega) (by omega)) ⟨?_, h⟩⟩
        rw [m2, m1]
      refine ⟨1, itE (fun _ => hfin) (fun _ => itT ?_ hfin)⟩
      rw [m2, hTG]; exact nI_le (Nat.le_refl _) (by omega)
    · obtain ⟨r, t', σ', c, s, y1, y2, y3, y4, y5, y6, y7, y8, y9⟩ := Stop (D := 0) (k := T1 - T0) h hT (by omega) (by omega) hG9 hN (by omega)
      have hK' : ∀ g, g < 4 → tK t' (g + 7) ≤ max (tK t0 (g + 7)) 88 := fun g hg => by
        have a1 := y7 g hg
        have a2 := hK g hg
        omega
      have k0 := hK' 0 (by omega)
      have k1 := hK' 1 (by omega)
      have k2 := hK' 2 (by omega)
      have k3 := hK' 3 (by omega)
      have eS : ksum t' = tK t' 7 + tK t' 8 + tK t' 9 + tK t' 10 := rfl
      have eS0 : ksum t0 = tK t0 7 + tK t0 8 + tK t0 9 + tK t0 10 := rfl
      have k0 : tK t' 7 ≤ max (tK t0 7) 88 := k0
      have k1 : tK t' 8 ≤ max (tK t0 8) 88 := k1
      have k2 : tK t' 9 ≤ max (tK t0 9) 88 := k2
      have k3 : tK t' 10 ≤ max (tK t0 10) 88 := k3
      obtain ⟨nn, hh⟩ := ih (G - r) (by omega) r t' σ' (uc + c) (us + s) (stops + 1) (by omega) (by omega) y3 y4 (by omega) (by omega) (by omega) hK' (fun Q hQ => hX Q (y8 Q (by rw [show T1 - T0 + (r - T1) = r - T0 by omega]; exact hQ)))
      exact ⟨nn + 1, y9 1170 14200 uc us _ stops nn (by omega) (by omega) (by omega) hh⟩
theorem s_minutes (h : Inv t σ) (a1 : Int32) : wp_C_minutes 1170 14200 t a1 (fun v t1 => wp_M_minutes σ a1 (fun w σ1 => v = w ∧ Inv t1 σ1)) := by
  obtain ⟨T, hT, m1, m2⟩ := h.m
  by_cases q : a1 < 1 ∨ 600 < a1
  · exact Cw_no q (Mw_no q ⟨rfl, h⟩)
  obtain ⟨N, hN1, hN2, rfl⟩ : rg a1 1 600 := rg_of q (by decide) (by decide)
  refine Cw_yes q ?_
  rw [m2, nI_add]
  refine itE (fun q2 => ?_) (fun q2 => Mw_yes q (itF ?_ ⟨rfl, h⟩))
  · have hG9 : T + N ≤ 99999 := by
      have := (fa_le _ _).mp q2
      rw [nI_toInt (by omega)] at this
      have e : (99999 : Int32).toInt = 99999 := by decide
      omega
    refine nm_e (outer (t0 := t) (T0 := T) (G := T + N) rfl hG9 hN2 (X := wp_M_minutes σ (nI N)) N T t σ 0 0 0 rfl (Nat.le_refl _) h m1 (by omega) (by omega) (by omega) (fun g hg => by omega) (fun Q hQ => ?_))
    rw [show T - T = 0 by omega] at hQ
    refine Mw_yes q (itT ?_ hQ)
    rw [m1, nI_add]; exact q2
  · rw [m1, nI_add]; exact q2
end Min2
