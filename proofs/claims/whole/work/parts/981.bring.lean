/-! all that come at this minute -/
def notYet (t : CS) (σ : MS) (T J : Nat) : Prop := ∀ i, J ≤ i → i < tN t 2 → tF t 82 i = 0 → ¬ (σ 54 i = nI T ∧ (σ 50 i = 1 ∨ σ 50 i = 3))
theorem gng_last {t : CS} {σ : MS} {T J i : Nat} (h : gng t σ T J i) (hi : i < J) : gng t σ T 200 i := by
  obtain ⟨a1, a2, a3, a4, a5, a6⟩ := h
  refine ⟨a1, a2, a3, a4, a5, ?_⟩
  rcases a6 with q | ⟨q1, f, a, q2, q3, q4, q5, q6, q7, q8⟩
  · exact Or.inl q
  · refine Or.inr ⟨q1, f, a, q2, q3, q4, q5, q6, q7, ?_⟩
    rcases q8 with ⟨r1, r2, r3⟩ | r
    · exact Or.inl ⟨r1, Or.inl (r2.elim id (fun q => by omega)), r3⟩
    · exact Or.inr r
section Bring
variable {t : CS} {σ : MS}
theorem Mid_skip {l T : Nat} (h : Mid t σ l) (hT : σ 1 0 = nI T) (hT9 : T ≤ 99999) (hno : tF t 82 l = 1 → σ 54 l ≠ nI T) : Mid t σ (l + 1) := by
  obtain ⟨hz, hc, hs, hp, hr, hm, hn, hw, hd, htp, hlw, hld, hg⟩ := h
  obtain ⟨T2, g1, g2, g3⟩ := hg
  have eT2 : T2 = T := (nI_eq (by omega) (by omega)).mp (g1.symm.trans hT)
  subst eT2
  refine ⟨hz, hc, hs, hp, hr, hm, hn, hw, hd, htp, hlw, hld, T2, g1, g2, fun i hi => ?_⟩
  by_cases e : i = l
  · subst e
    obtain ⟨a1, a2, a3, a4, a5, a6⟩ := g3 i hi
    refine ⟨a1, a2, a3, a4, a5, ?_⟩
    rcases a6 with q | ⟨q1, f, a, q2, q3, q4, q5, q6, q7, q8⟩
    · exact Or.inl q
    · refine Or.inr ⟨q1, f, a, q2, q3, q4, q5, q6, q7, ?_⟩
      rcases q8 with ⟨r1, r2, r3⟩ | r
      · exact Or.inl ⟨r1, r2.elim Or.inl (fun q => absurd (by rw [q5, q.1]) (hno r1)), r3⟩
      · exact Or.inr r
  · exact gng_J (g3 i hi) e
theorem Bring {T : Nat} (hT9 : T ≤ 99999) : ∀ d l t σ, l + d = tN t 2 → Mid t σ l → Fnd t σ → σ 1 0 = nI T → notYet t σ T l → ∃ t' σ' c s, Mid t' σ' 200 ∧ Fnd t' σ' ∧ (∀ k, tN t' k = tN t k) ∧ σ' 1 = σ 1 ∧ ksum t + c ≤ ksum t' ∧ 4 * ksum t + s ≤ 4 * ksum t' ∧ (∀ g, g < 4 → tK t' (g + 7) ≤ max (tK t (g + 7)) 88) ∧ (∀ mc ms uc us post, uc + c ≤ mc → us + s ≤ ms → post t' → wp_C_bringIn_2 mc ms post (d + 1) uc us t (nI l)) ∧ (∀ post, post σ' → wp_M_arrive_2 post (d + 1) σ (nI l)) := by
  intro d
  induction d with
  | zero =>
    intro l t σ hl h hFn hT hU
    obtain ⟨hz, hc, hs, hp, hr, hm, hn, hw, hd, htp, hlw, hld, hg⟩ := id h
    have hb2 := hz.b2
    have e : l = tN t 2 := by omega
    refine ⟨t, σ, 0, 0, ?_, hFn, fun _ => rfl, rfl, by omega, by omega, fun _ _ => by omega, fun mc ms uc us post _ _ hp => itT ?_ hp, fun post hp => itT ?_ hp⟩
    · obtain ⟨T2, g1, g2, g3⟩ := hg
      exact ⟨hz, hc, hs, hp, hr, hm, hn, hw, hd, htp, hlw, hld, T2, g1, g2, fun i hi => gng_last (g3 i hi) (by omega)⟩
    · rw [hz.ld, List.length_range, e]; exact nI_le (Nat.le_refl _) (by omega)
    · rw [hz.m43, e]; exact nI_le (Nat.le_refl _) (by omega)
  | succ d ih =>
    intro l t σ hl h hFn hT hU
    obtain ⟨hz, hc, hs, hp, hr, hm, hn, hw, hd, htp, hlw, hld, hg⟩ := id h
    have hb2 := hz.b2
    have hll : l < tN t 2 := by omega
    have hcl : (nI l).toNatClampNeg = l := nI_clamp (by omega)
    have hvl : vp_in (nI l) 200 := vp_in_nI (by omega) (by omega)
    have hlen : (tT t 2).length = tN t 2 := by rw [hz.ld, List.length_range]
    have e77 : tF t 77 l = σ 53 l := (hld.1 l hll).2.2.2.2.2.2.2.2.2.2.2.2.2.1
    obtain ⟨T1, hT1, m1, m2⟩ := id hm
    have e171 : tF t 171 0 = nI T := by rw [m2, ← m1]; exact hT
    have Cgo : ∀ mc ms uc us post, wp_C_fellowshipAt t (σ 53 l) (fun o11 t10 => oM o11 (wp_C_bringIn_86 mc ms (wp_C_bringIn_2 mc ms post (d + 1)) post uc us t10 (nI l)) (fun j12 => l < tN t10 2 ∧ (if (tF t10 82 l) = 0 then (wp_C_bringIn_86 mc ms (wp_C_bringIn_2 mc ms post (d + 1)) post uc us t10 (nI l)) else (if (tF t10 171 0) < (tF t10 81 l) then (wp_C_bringIn_86 mc ms (wp_C_bringIn_2 mc ms post (d + 1)) post uc us t10 (nI l)) else (∀ t16 : CS, t16 = sF t10 82 l (0 : Int32) → (l < tN t16 2 ∧ (if (tF t16 75 l) = (1 : Int32) then (∀ t19 : CS, t19 = sF t16 75 l (2 : Int32) → (wp_C_payFor t19 l j12 (fun  t20 => wp_C_bringIn_80 mc ms (wp_C_bringIn_2 mc ms post (d + 1)) post uc us t20 (nI l) l j12))) else (wp_C_bringIn_80 mc ms (wp_C_bringIn_2 mc ms post (d + 1)) post uc us t16 (nI l) l j12)))))))) → wp_C_bringIn_2 mc ms post (d + 1 + 1) uc us t (nI l) := fun mc ms uc us post hgo => by
      refine itF ?_ ⟨?_, ?_, nm_r (e' := l) ?_ ⟨hll, ?_⟩⟩
      · rw [hlen]; exact nI_ge hll (by omega)
      · rw [hlen]; exact vp_in_nI hll (by omega)
      · rw [hlen]; omega
      · rw [hz.ld, hcl, rng_getD hll]
      · rw [e77]; exact hgo
    have Mgo : ∀ post, (if (σ 54 l) = (σ 1 0) then (vp_in (nI l) 200 ∧ (if (σ 50 l) = (1 : Int32) then (wp_M_arrive_46 (wp_M_arrive_2 post (d + 1)) post σ (nI l)) else (vp_in (nI l) 200 ∧ (if (σ 50 l) = (3 : Int32) then (wp_M_arrive_46 (wp_M_arrive_2 post (d + 1)) post σ (nI l)) else (wp_M_arrive_113 (wp_M_arrive_2 post (d + 1)) post σ (nI l)))))) else (wp_M_arrive_113 (wp_M_arrive_2 post (d + 1)) post σ (nI l))) → wp_M_arrive_2 post (d + 1 + 1) σ (nI l) := fun post hgo => by
      refine itF ?_ ⟨hvl, ?_⟩
      · rw [hz.m43]; exact nI_ge hll (by omega)
      · rw [hcl]; exact hgo
    by_cases hA : tF t 82 l = 1 ∧ σ 54 l = nI T
    · -- it comes
      obtain ⟨flag, h54⟩ := hA
      obtain ⟨D, eD, hF, hP⟩ := hFn
      obtain ⟨f, t1, σ1, c1, s1, y1, y2, y3, y4, y5, y6, y7, y8, y9, y10, y11, y12, y13, y14, y15⟩ := Arrive h hll hT hT9 flag h54 eD hF hP
      have hU1 : notYet t1 σ1 T (l + 1) := fun i hi hi2 hfl => by
        rw [y6] at hi2
        rw [y8, y9 i (by omega)]
        rw [y10 i (by omega)] at hfl
        exact hU i (by omega) hi2 hfl
      obtain ⟨t', σ', c, s, z1, z2, z3, z4, z5, z6, z7, z8, z9⟩ := ih (l + 1) t1 σ1 (by rw [y6]; omega) y4 y5 (by rw [y7]; exact hT) hU1
      refine ⟨t', σ', c1 + c, s1 + s, z1, z2, fun k => (z3 k).trans (y6 k), z4.trans y7, by omega, by omega, fun g hg => ?_, fun mc ms uc us post hc hs hp => ?_, fun post hp => ?_⟩
      · have a1 := z7 g hg
        have a2 := y13 g hg
        omega
      · refine Cgo mc ms uc us post ?_
        rw [y2]
        refine C_fe hz y1 (oS ⟨hll, itF (by rw [flag]; decide) (itF ?_ ?_)⟩)
        · have e81 : tF t 81 l = nI T := by
            obtain ⟨T2, g1, g2, g3⟩ := hg
            obtain ⟨-, -, -, -, -, c6⟩ := g3 l hll
            obtain ⟨-, f2, a, -, -, q4, q5, q6, -⟩ := c6.resolve_left (fun q => by have := q.2.1; rw [flag] at this; exact absurd this (by decide))
            rw [q6, ← q5]; exact h54
          rw [e171, e81]; exact nI_nlt (Nat.le_refl _) (by omega)
        · refine y14 mc ms uc us _ post (by omega) (by omega) (nm_e ?_)
          rw [nI_1]
          exact z8 mc ms _ _ post (by omega) (by omega) hp
      · refine Mgo post (itT (by rw [h54, hT]) ⟨hvl, ?_⟩)
        have h46 : wp_M_arrive_46 (wp_M_arrive_2 post (d + 1)) post σ (nI l) := y15 _ post (nm_e (by rw [nI_1]; exact z9 post hp))
        rcases y3 with q | q
        · exact itT q h46
        · exact itF (by rw [q]; decide) ⟨hvl, itT q h46⟩
    · -- it doesn't
      have hno : tF t 82 l = 1 → σ 54 l ≠ nI T := fun q q2 => hA ⟨q, q2⟩
      obtain ⟨t', σ', c, s, z1, z2, z3, z4, z5, z6, z7, z8, z9⟩ := ih (l + 1) t σ (by omega) (Mid_skip h hT hT9 hno) hFn hT (fun i hi hi2 hfl => hU i (by omega) hi2 hfl)
      refine ⟨t', σ', c, s, z1, z2, z3, z4, z5, z6, z7, fun mc ms uc us post hc hs hp => ?_, fun post hp => ?_⟩
      · have h86 : wp_C_bringIn_86 mc ms (wp_C_bringIn_2 mc ms post (d + 1)) post uc us t (nI l) := nm_e (by rw [nI_1]; exact z8 mc ms uc us post hc hs hp)
        refine Cgo mc ms uc us post ?_
        obtain ⟨T2, g1, g2, g3⟩ := hg
        obtain ⟨-, -, -, -, -, c6⟩ := g3 l hll
        rcases c6 with ⟨-, q82, q53, -⟩ | ⟨q1, f, a, q2, q3, q4, q5, q6, q7, q8⟩
        · rw [q53]
          exact C_fe_no hz (Or.inl (by decide)) (oN h86)
        · rw [q3]
          refine C_fe hz q2 (oS ⟨hll, ?_⟩)
          rcases q8 with ⟨r1, r2, -⟩ | ⟨r1, -⟩
          · refine itF (by rw [r1]; decide) (itT ?_ h86)
            have eT2 : T2 = T := (nI_eq (by omega) (by omega)).mp (g1.symm.trans hT)
            have : T < a := by
              rcases r2 with q | ⟨q, -⟩
              · omega
              · exact absurd (by rw [q5, ← q, eT2]) (hno r1)
            rw [e171, q6]; exact nI_lt this (by omega)
          · exact itT r1 h86
      · have h113 : wp_M_arrive_113 (wp_M_arrive_2 post (d + 1)) post σ (nI l) := nm_e (by rw [nI_1]; exact z9 post hp)
        refine Mgo post (itE (fun q => ⟨hvl, ?_⟩) (fun _ => h113))
        rw [hT] at q
        have h82 : tF t 82 l = 0 := by
          obtain ⟨T2, g1, g2, g3⟩ := hg
          obtain ⟨-, -, -, -, -, c6⟩ := g3 l hll
          rcases c6 with ⟨-, q82, -⟩ | ⟨-, f, a, -, -, -, -, -, -, q8⟩
          · exact q82
          · rcases q8 with ⟨r1, -⟩ | ⟨r1, -⟩
            · exact absurd q (hno r1)
            · exact r1
        have hnn := hU l (Nat.le_refl _) hll h82
        exact itF (fun q2 => hnn ⟨q, Or.inl q2⟩) ⟨hvl, itF (fun q2 => hnn ⟨q, Or.inr q2⟩) h113⟩
end Bring
