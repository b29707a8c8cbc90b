/-! what the model's parser does at an operator, and where it stops -/
section Rul3
variable {t0 : CS} {σ0 : MS} {b : Nat → Nat} {n cnt : Nat} {tk : Nat → Nat} {a : Nat} {post : Int32 → MS → Prop}
theorem P_oph {σ : MS} {i nn : Nat} {K Sm : List Nat} {x2 x3 x4 : Int32} (h : MSt σ0 b n cnt tk a σ i K Sm) (hc : lv (tk i) ≤ 5) (hx2 : x2 = 0) (hx4 : bz x4) (k : lv (tk i) ≤ 1 ∧ may x4 K = 0 ∨ wp_M_parse_567 (wp_M_parse_26 post nn) post σ (nI a) x4) (kf : lv (tk i) ≤ 1 → may x4 K = 0 → FA σ0 b n cnt tk a post i) : wp_M_parse_26 post (nn + 1) σ (nI a) x2 x3 x4 := by
  have h35 := h.2.1.2.2.1
  have h1 := mof_cases (tk i)
  have h2 := lv_cases (tk i)
  have hm : (lv (tk i) = 0 ∧ mof (tk i) = 10) ∨ (lv (tk i) = 1 ∧ mof (tk i) = 20) ∨ (3 ≤ lv (tk i) ∧ 40 ≤ mof (tk i) ∧ mof (tk i) < 70) := by omega
  clear h1 h2
  refine itT hx2 (q35 6 h35 (by omega) (by omega) (fun q => by omega) (fun _ => q35 4 h35 (by omega) (by omega) (fun q => by omega) (fun _ => q35 0 h35 (by omega) (by omega) (fun q => by omega) (fun _ => q35 3 h35 (by omega) (by omega) (fun q => by omega) (fun _ => q35 7 h35 (by omega) (by omega) (fun q => by omega) (fun _ => l35 10 h35 (by omega) (by omega) (fun q => by omega) (fun _ => g35 70 h35 (by omega) (by omega) (fun q => by omega) (fun _ => q35 30 h35 (by omega) (by omega) (fun q => by omega) (fun _ => g35 40 h35 (by omega) (by omega) (fun q => ?_) (fun q => M_may hx4 h (itE (fun q2 => FA_do (kf (by omega) q2) h) (fun q2 => ?_))))))))))))
  · rcases k with k | k
    · omega
    · exact k
  · rcases k with k | k
    · exact absurd k.2 q2
    · exact k
theorem P641 (hC : Cx t0 σ0 b n cnt tk a) {σ : MS} {i nn : Nat} {K Sm : List Nat} {x3 x4 : Int32} (h : MSt σ0 b n cnt tk a σ i K Sm) (hi : i < cnt) (hl : K.length + Sm.length < 210) (hc : lv (tk i) ≤ 5) (hx3 : (lv (tk i) ≤ 1 ∧ x3 = 1) ∨ (3 ≤ lv (tk i) ∧ x3 = 0)) (k : ∀ σ, MSt σ0 b n cnt tk a σ (i + 1) (mof (tk i) :: K) Sm → wp_M_parse_26 post nn σ (nI a) 1 x3 x4) : wp_M_parse_641 (wp_M_parse_26 post nn) post σ (nI a) x4 := by
  have h35 := h.2.1.2.2.1
  have h39 := h.2.2.1
  have h1 := mof_cases (tk i)
  have h2 := lv_cases (tk i)
  have hm : (lv (tk i) = 0 ∧ mof (tk i) = 10) ∨ (lv (tk i) = 1 ∧ mof (tk i) = 20) ∨ (3 ≤ lv (tk i) ∧ 40 ≤ mof (tk i) ∧ mof (tk i) < 70) := by omega
  clear h1 h2
  unfold wp_M_parse_641
  rw [h39, h35, nI_clamp (by omega)]
  refine ⟨vp_in_nI (by omega) (by omega), nm_e (nm_r (e' := up2 (up2 σ 38 K.length (nI (mof (tk i)))) 39 0 (nI (K.length + 1))) ?_ ?_)⟩
  · show up2 (up2 σ 38 K.length (nI (mof (tk i)))) 39 0 (σ 39 0 + 1) = _
    rw [h39, nI_1]
  · have hp := MSt_push (m := mof (tk i)) h hl (by unfold okK; omega)
    refine g35 40 hp.2.1.2.2.1 (by omega) (by omega) (fun q => ?_) (fun q => ?_)
    · have e : x3 = 0 := by
        rcases hx3 with e | e
        · omega
        · exact e.2
      subst e
      exact M_next hC hp hi (fun σ2 h2 => k σ2 h2)
    · have e : x3 = 1 := by
        rcases hx3 with e | e
        · exact e.2
        · omega
      subst e
      exact M_next hC hp hi (fun σ2 h2 => k σ2 h2)
theorem P603 {k26 : MS → Int32 → Int32 → Int32 → Int32 → Prop} (ha : a < 40) {σ : MS} {i t : Nat} {K V Sm : List Nat} {x4 x5 : Int32} (h : MSt σ0 b n cnt tk a σ i (V.map mof ++ K) Sm) (ht2 : t < 10) (hV : okVs V t) (hT : topT K < t) (k : (x5 = 0 ∨ topT K ≠ 4) → ∀ σ, MSt σ0 b n cnt tk a σ i K (Sm ++ V) → wp_M_parse_641 k26 post σ (nI a) x4) (kf : ¬ (x5 = 0 ∨ topT K ≠ 4) → FA σ0 b n cnt tk a post i) : wp_M_parse_603 k26 post σ (nI a) x4 x5 (nI a) (nI t) := by
  refine M_done ha ht2 hT hV h (fun σ1 h1 => itE (fun q => k (Or.inl q) σ1 h1) (fun q => ?_))
  match K, hT, h1, k, kf with
  | [], hT, h1, k, kf => exact itT (by rw [h1.2.2.1]; decide) (k (Or.inr (by show (0 : Nat) ≠ 4; omega)) σ1 h1)
  | m :: K, hT, h1, k, kf =>
    obtain ⟨e1, e2, e3, e4⟩ := top39 h1
    refine itF ?_ ?_
    · rw [e1]; exact nI_nle (by omega) (by omega)
    rw [e1, nI_pred, nI_clamp (by omega), e2]
    have hT : tl m < t := hT
    refine ⟨vp_in_nI (by omega) (by omega), M_tight e3 (itE (fun q2 => ?_) (fun q2 => ?_))⟩
    · have q4 := (nI_eq (a := tl m) (b := 4) (by omega) (by omega)).mp q2
      refine FA_do (kf ?_) h1
      intro z
      rcases z with z | z
      · exact q z
      · exact z q4
    · exact k (Or.inr (fun z => q2 (by rw [show tl m = 4 from z]; rfl))) σ1 h1
theorem P583 {k26 : MS → Int32 → Int32 → Int32 → Int32 → Prop} {σ : MS} {i : Nat} {K Sm : List Nat} {x4 x5 : Int32} (h : MSt σ0 b n cnt tk a σ i K Sm) (hc : lv (tk i) ≤ 5) (k1 : ¬ x5 = 0 → wp_M_parse_603 k26 post σ (nI a) x4 x5 (nI a) (nI 5)) (k0 : x5 = 0 → wp_M_parse_603 k26 post σ (nI a) x4 x5 (nI a) (nI (lv (tk i) + 1))) : wp_M_parse_583 k26 post σ (nI a) x4 x5 := by
  refine itE (fun q => ?_) (fun q => k1 q)
  rw [h.2.1.2.2.1]
  refine M_tight (Nat.lt_trans (mof_lt trivial) (by omega)) ?_
  rw [(lv_ok hc).2]
  exact k0 q
theorem P567 {k26 : MS → Int32 → Int32 → Int32 → Int32 → Prop} {σ : MS} {i : Nat} {K Sm : List Nat} {x4 : Int32} (h : MSt σ0 b n cnt tk a σ i K Sm) (hc : lv (tk i) ≤ 5) (k1 : ∀ x5, lv (tk i) = 3 → ¬ x5 = 0 → wp_M_parse_603 k26 post σ (nI a) x4 x5 (nI a) (nI 5)) (k0 : ∀ x5, lv (tk i) ≠ 3 → x5 = 0 → wp_M_parse_603 k26 post σ (nI a) x4 x5 (nI a) (nI (lv (tk i) + 1))) : wp_M_parse_567 k26 post σ (nI a) x4 := by
  unfold wp_M_parse_567
  rw [h.2.1.2.2.1]
  refine M_tight (Nat.lt_trans (mof_lt trivial) (by omega)) ?_
  rw [(lv_ok hc).2]
  refine itE (fun q => ?_) (fun q => ?_)
  · have e : lv (tk i) + 1 = 4 := (nI_eq (a := lv (tk i) + 1) (b := 4) (by omega) (by omega)).mp q
    exact P583 h hc (fun z => k1 1 (by omega) z) (fun z => absurd z (by decide))
  · exact P583 h hc (fun z => absurd rfl z) (fun z => k0 0 (fun e => q (by rw [e]; rfl)) z)
theorem R_op (hC : Cx t0 σ0 b n cnt tk a) {i : Nat} {K V Sm : List Nat} {x3 x3' x4 : Int32} (hi : i < cnt) (hl : V.length + K.length + Sm.length < 210) (hc : lv (tk i) ≤ 5) (hV : okVs V (lv (tk i) + 1)) (hV5 : lv (tk i) = 3 → okVs V 5) (hT : topT K ≤ lv (tk i)) (hx4 : bz x4) (hmay : lv (tk i) ≤ 1 → may x4 K = 1) (hx3 : (lv (tk i) ≤ 1 ∧ x3' = 1) ∨ (3 ≤ lv (tk i) ∧ x3' = 0)) (k : ME σ0 b n cnt tk a post (i + 1) (mof (tk i) :: K) (Sm ++ V) 1 x3' x4) : ME σ0 b n cnt tk a post i (V.map mof ++ K) Sm 0 x3 x4 := by
  obtain ⟨nn, k⟩ := k
  have hmay2 : lv (tk i) ≤ 1 → may x4 (V.map mof ++ K) = 0 → False := fun z e => by
    rw [may_V V (fun v hv => (hV v hv).1), hmay z] at e
    exact absurd e (by decide)
  have hl2 : K.length + (Sm ++ V).length < 210 := by
    rw [List.length_append]; omega
  refine ⟨nn + 1, fun σ h => P_oph h hc rfl hx4 (Or.inr (P567 h hc (fun x5 e q => ?_) (fun x5 e q => ?_))) (fun z e => (hmay2 z e).elim)⟩
  · exact P603 hC.2.2.2.2.2.2.2.2 h (by omega) (hV5 e) (by omega) (fun _ σ1 h1 => P641 hC h1 hi hl2 hc hx3 k) (fun z => absurd (Or.inr (by omega)) z)
  · exact P603 hC.2.2.2.2.2.2.2.2 h (by omega) hV (by omega) (fun _ σ1 h1 => P641 hC h1 hi hl2 hc hx3 k) (fun z => absurd (Or.inl q) z)
theorem R_rej (hC : Cx t0 σ0 b n cnt tk a) {i : Nat} {K V Sm : List Nat} {x3 x4 : Int32} (hx4 : bz x4) (hc : tk i ≠ 0 ∧ tk i ≠ 41 ∧ tk i ≠ 44 ∧ tk i ≠ 59 ∧ tk i ≠ 141) (hV : okVs V 1) (hlv : lv (tk i) ≤ 5 → (lv (tk i) ≤ 1 ∧ may x4 K = 0) ∨ (lv (tk i) = 3 ∧ relTop V)) (k : FA σ0 b n cnt tk a post i) : ME σ0 b n cnt tk a post i (V.map mof ++ K) Sm 0 x3 x4 := by
  by_cases hl : lv (tk i) ≤ 5
  · rcases hlv hl with e | ⟨e, V2, r, V3, e2, e3, e4⟩
    · refine ⟨1, fun σ h => P_oph (nn := 0) h hl rfl hx4 (Or.inl ⟨e.1, ?_⟩) (fun _ _ => k)⟩
      rw [may_V V (fun v hv => (hV v hv).1)]; exact e.2
    · refine ⟨1, fun σ h => P_oph (nn := 0) h hl rfl hx4 (Or.inr ?_) (fun _ _ => k)⟩
      rw [e2, List.map_append, List.append_assoc] at h
      have h : MSt σ0 b n cnt tk a σ i (V2.map mof ++ (mof r :: (V3.map mof ++ K))) Sm := h
      refine P567 h hl (fun x5 _ q => P603 hC.2.2.2.2.2.2.2.2 h (t := 5) (by omega) e3 (show tl (mof r) < 5 by omega) (fun z => ?_) (fun _ => k)) (fun x5 q _ => absurd e q)
      rcases z with z | z
      · exact absurd z q
      · exact absurd e4 z
  · have one : ∀ x2 : Int32, x2 = 0 → ∀ σ, MSt σ0 b n cnt tk a σ i (V.map mof ++ K) Sm → wp_M_parse_26 post 1 σ (nI a) x2 x3 x4 := fun x2 hx σ h => by
      have h35 := h.2.1.2.2.1
      have h1 := mof_cases (tk i)
      have h2 := lv_cases (tk i)
      have hm : mof (tk i) = 1 ∨ mof (tk i) = 2 ∨ mof (tk i) = 5 ∨ mof (tk i) = 30 ∨ (70 ≤ mof (tk i) ∧ mof (tk i) < 200) := by omega
      clear h1 h2
      exact itT hx (q35 6 h35 (by omega) (by omega) (fun q => by omega) (fun _ => q35 4 h35 (by omega) (by omega) (fun q => by omega) (fun _ => q35 0 h35 (by omega) (by omega) (fun q => by omega) (fun _ => q35 3 h35 (by omega) (by omega) (fun q => by omega) (fun _ => q35 7 h35 (by omega) (by omega) (fun q => by omega) (fun _ => l35 10 h35 (by omega) (by omega) (fun _ => FA_do k h) (fun _ => g35 70 h35 (by omega) (by omega) (fun _ => FA_do k h) (fun _ => q35 30 h35 (by omega) (by omega) (fun _ => FA_do k h) (fun q => by omega)))))))))
    exact ⟨1, one 0 rfl⟩
end Rul3
