/-! what the model's parser does behind an operand -/
def okVs (V : List Nat) (t : Nat) : Prop := ∀ v ∈ V, okV v ∧ t ≤ tl (mof v)
def relTop (V : List Nat) : Prop := ∃ V2 r V3, V = V2 ++ r :: V3 ∧ okVs V2 5 ∧ tl (mof r) = 4
theorem okVs_le {V : List Nat} {s t : Nat} (h : okVs V t) (hs : s ≤ t) : okVs V s := fun v hv => ⟨(h v hv).1, Nat.le_trans hs (h v hv).2⟩
theorem okVs_snoc {V : List Nat} {c t : Nat} (h : okVs V t) (h1 : okV c) (h2 : t ≤ tl (mof c)) : okVs (V ++ [c]) t := fun v hv => by
  rcases List.mem_append.mp hv with e | e
  · exact h v e
  · rw [List.mem_singleton.mp e]; exact ⟨h1, h2⟩
theorem relTop_app {V : List Nat} (W : List Nat) (h : relTop V) : relTop (V ++ W) := by
  obtain ⟨V2, r, V3, e, h1, h2⟩ := h
  exact ⟨V2, r, V3 ++ W, by rw [e, List.append_assoc]; rfl, h1, h2⟩
section Rul2
variable {t0 : CS} {σ0 : MS} {b : Nat → Nat} {n cnt : Nat} {tk : Nat → Nat} {a : Nat} {post : Int32 → MS → Prop}
theorem top39 {σ : MS} {i m : Nat} {K Sm : List Nat} (h : MSt σ0 b n cnt tk a σ i (m :: K) Sm) : σ 39 0 = nI (K.length + 1) ∧ σ 38 K.length = nI m ∧ m < 3000 ∧ K.length < 210 := by
  have h8 : K.length + 1 + Sm.length ≤ 210 := h.2.2.2.2.2.2.2
  exact ⟨h.2.2.1, h.2.2.2.1.1, okK_lt (h.2.2.2.2.1 m List.mem_cons_self), by omega⟩
theorem P274 (hC : Cx t0 σ0 b n cnt tk a) {σ : MS} {i nn m : Nat} {K Sm : List Nat} {x2 x3 x4 : Int32} (h : MSt σ0 b n cnt tk a σ i (m :: K) Sm) (hi : i < cnt) (hm : m < 2000) (k : ∀ σ, MSt σ0 b n cnt tk a σ (i + 1) K Sm → wp_M_parse_26 post nn σ (nI a) x2 x3 x4) : wp_M_parse_274 (wp_M_parse_26 post nn) post σ (nI a) x2 x3 x4 := by
  obtain ⟨e1, e2, e3, e4⟩ := top39 h
  refine nm_r (e' := up2 σ 39 0 (nI K.length)) (by rw [e1, nI_pred]) ?_
  have e39 : (up2 σ 39 0 (nI K.length)) 39 0 = nI K.length := (show upd (σ 39) 0 _ 0 = _ from pk_us)
  have e38 : (up2 σ 39 0 (nI K.length)) 38 K.length = nI m := e2
  rw [e39, nI_clamp (by omega), e38]
  exact ⟨vp_in_nI (by omega) (by omega), itT (nI_lt (a := m) (b := 2000) hm (by omega)) (M_next hC (MSt_pop h) hi (fun σ2 h2 => k σ2 h2))⟩
theorem P274b (hC : Cx t0 σ0 b n cnt tk a) {σ : MS} {i nn c : Nat} {K Sm : List Nat} {x2 x3 x4 : Int32} (h : MSt σ0 b n cnt tk a σ i ((2000 + mof c) :: K) Sm) (hi : i < cnt) (hc : c = 145 ∨ c = 146) (k : ∀ σ, MSt σ0 b n cnt tk a σ (i + 1) K (Sm ++ [c]) → wp_M_parse_26 post nn σ (nI a) x2 x3 x4) : wp_M_parse_274 (wp_M_parse_26 post nn) post σ (nI a) x2 x3 x4 := by
  obtain ⟨e1, e2, e3, e4⟩ := top39 h
  have h8 : K.length + 1 + Sm.length ≤ 210 := h.2.2.2.2.2.2.2
  refine nm_r (e' := up2 σ 39 0 (nI K.length)) (by rw [e1, nI_pred]) ?_
  have e39 : (up2 σ 39 0 (nI K.length)) 39 0 = nI K.length := (show upd (σ 39) 0 _ 0 = _ from pk_us)
  have e38 : (up2 σ 39 0 (nI K.length)) 38 K.length = nI (2000 + mof c) := e2
  rw [e39, nI_clamp (by omega), e38]
  refine ⟨vp_in_nI (by omega) (by omega), itF (nI_nlt (a := 2000 + mof c) (b := 2000) (by omega) (by omega)) ⟨vp_in_nI (by omega) (by omega), ?_⟩⟩
  refine M_lay hC.2.2.2.2.2.2.2.2 (MSt_pop h) (by omega) (c := c) ?_ (fun z => by omega) (fun σ1 h1 => M_next hC h1 hi (fun σ2 h2 => k σ2 h2))
  rw [show (2000 : Int32) = nI 2000 from rfl, pk_sub (by omega), Nat.add_sub_cancel_left]
  rcases hc with e | e <;> subst e <;> rfl
theorem P_rpar (hC : Cx t0 σ0 b n cnt tk a) {σ : MS} {i nn m : Nat} {K V Sm : List Nat} {x2 x3 x4 : Int32} (h : MSt σ0 b n cnt tk a σ i (V.map mof ++ m :: K) Sm) (hc : tk i = 41) (hx2 : x2 = 0) (hV : okVs V 1) (hm : m = 5 ∨ 1000 ≤ m) (k : (m < 1000 ∨ 2000 ≤ m) → ∀ σ, MSt σ0 b n cnt tk a σ i (m :: K) (Sm ++ V) → wp_M_parse_274 (wp_M_parse_26 post nn) post σ (nI a) x2 x3 x4) (kf : ¬ (m < 1000 ∨ 2000 ≤ m) → FA σ0 b n cnt tk a post i) : wp_M_parse_26 post (nn + 1) σ (nI a) x2 x3 x4 := by
  have hT : topT (m :: K) < 1 := by
    show tl m < 1
    unfold tl
    rcases hm with e | e
    · rw [if_pos e]; omega
    · rw [if_neg (by omega), if_neg (by omega)]; omega
  refine itT hx2 (q35 6 h.2.1.2.2.1 (by rw [hc]; decide) (by omega) (fun _ => M_done hC.2.2.2.2.2.2.2.2 (t := 1) (by omega) hT hV h (fun σ1 h1 => ?_)) (fun q => absurd (by rw [hc]; rfl) q))
  obtain ⟨e1, e2, e3, e4⟩ := top39 h1
  refine itF ?_ ?_
  · rw [e1]; exact nI_ne0 (by omega) (by omega)
  rw [e1, nI_pred, nI_clamp (by omega), e2]
  refine ⟨vp_in_nI (by omega) (by omega), itE (fun q => ?_) (fun q => ⟨vp_in_nI (by omega) (by omega), itE (fun q2 => ?_) (fun q2 => ?_)⟩)⟩
  · exact k (Or.inl ((nI_ltI (a := m) (b := 1000) (by omega) (by omega)).mp q)) σ1 h1
  · exact k (Or.inr ((nI_leI (a := 2000) (b := m) (by omega) (by omega)).mp q2)) σ1 h1
  · refine FA_do (kf ?_) h1
    intro z
    rcases z with z | z
    · exact q (nI_lt (a := m) (b := 1000) z (by omega))
    · exact q2 (nI_le (a := 2000) (b := m) z (by omega))
theorem R_rpar (hC : Cx t0 σ0 b n cnt tk a) {i : Nat} {K V Sm : List Nat} {x3 x4 : Int32} (hi : i < cnt) (hc : tk i = 41) (hV : okVs V 1) (k : ME σ0 b n cnt tk a post (i + 1) K (Sm ++ V) 0 x3 x4) : ME σ0 b n cnt tk a post i (V.map mof ++ 5 :: K) Sm 0 x3 x4 := by
  obtain ⟨nn, k⟩ := k
  exact ⟨nn + 1, fun σ h => P_rpar hC h hc rfl hV (Or.inl rfl) (fun _ σ h => P274 hC h hi (by omega) k) (fun z => absurd (Or.inl (by omega)) z)⟩
theorem R_rparM (hC : Cx t0 σ0 b n cnt tk a) {i c : Nat} {K V Sm : List Nat} {x3 x4 : Int32} (hi : i < cnt) (hc : tk i = 41) (hc2 : c = 145 ∨ c = 146) (hV : okVs V 1) (k : ME σ0 b n cnt tk a post (i + 1) K (Sm ++ V ++ [c]) 0 x3 x4) : ME σ0 b n cnt tk a post i (V.map mof ++ (2000 + mof c) :: K) Sm 0 x3 x4 := by
  obtain ⟨nn, k⟩ := k
  exact ⟨nn + 1, fun σ h => P_rpar hC h hc rfl hV (Or.inr (by omega)) (fun _ σ h => P274b hC h hi hc2 k) (fun z => absurd (Or.inr (by omega)) z)⟩
theorem R_rparf (hC : Cx t0 σ0 b n cnt tk a) {i m : Nat} {K V Sm : List Nat} {x3 x4 : Int32} (hc : tk i = 41) (hm : 1000 ≤ m ∧ m < 2000) (hV : okVs V 1) (k : FA σ0 b n cnt tk a post i) : ME σ0 b n cnt tk a post i (V.map mof ++ m :: K) Sm 0 x3 x4 :=
  ⟨1, fun σ h => P_rpar (nn := 0) hC h hc rfl hV (Or.inr hm.1) (fun z => by omega) (fun _ => k)⟩
theorem R_rpar0 (hC : Cx t0 σ0 b n cnt tk a) {i : Nat} {V Sm : List Nat} {x3 x4 : Int32} (hc : tk i = 41) (hV : okVs V 1) (k : FA σ0 b n cnt tk a post i) : ME σ0 b n cnt tk a post i (V.map mof ++ []) Sm 0 x3 x4 := by
  have one : ∀ x2 : Int32, x2 = 0 → ∀ σ, MSt σ0 b n cnt tk a σ i (V.map mof ++ []) Sm → wp_M_parse_26 post 1 σ (nI a) x2 x3 x4 := fun x2 hx σ h =>
    itT hx (q35 6 h.2.1.2.2.1 (by rw [hc]; decide) (by omega) (fun _ => M_done hC.2.2.2.2.2.2.2.2 (t := 1) (K := []) (by omega) (show (0 : Nat) < 1 by omega) hV h (fun σ1 h1 => itT (by rw [h1.2.2.1]; rfl) (FA_do k h1))) (fun q => absurd (by rw [hc]; rfl) q))
  exact ⟨1, one 0 rfl⟩
theorem P_comma (hC : Cx t0 σ0 b n cnt tk a) {σ : MS} {i nn m : Nat} {K V Sm : List Nat} {x2 x3 x4 : Int32} (h : MSt σ0 b n cnt tk a σ i (V.map mof ++ m :: K) Sm) (hi : i < cnt) (hc : tk i = 44) (hx2 : x2 = 0) (hV : okVs V 1) (hm : m = 5 ∨ 1000 ≤ m) (k : (1000 ≤ m ∧ m < 2000) → ∀ σ, MSt σ0 b n cnt tk a σ (i + 1) ((m + 1000) :: K) (Sm ++ V) → wp_M_parse_26 post nn σ (nI a) 1 0 x4) (hk2 : (1000 ≤ m ∧ m < 2000) → okK (m + 1000)) (kf : ¬ (1000 ≤ m ∧ m < 2000) → FA σ0 b n cnt tk a post i) : wp_M_parse_26 post (nn + 1) σ (nI a) x2 x3 x4 := by
  have hT : topT (m :: K) < 1 := by
    show tl m < 1
    unfold tl
    rcases hm with e | e
    · rw [if_pos e]; omega
    · rw [if_neg (by omega), if_neg (by omega)]; omega
  refine itT hx2 (q35 6 h.2.1.2.2.1 (by rw [hc]; decide) (by omega) (fun q => absurd q (by rw [hc]; decide)) (fun _ => q35 4 h.2.1.2.2.1 (by rw [hc]; decide) (by omega) (fun _ => M_done hC.2.2.2.2.2.2.2.2 (t := 1) (by omega) hT hV h (fun σ1 h1 => ?_)) (fun q => absurd (by rw [hc]; rfl) q)))
  obtain ⟨e1, e2, e3, e4⟩ := top39 h1
  refine itF ?_ ?_
  · rw [e1]; exact nI_ne0 (by omega) (by omega)
  rw [e1, nI_pred, nI_clamp (by omega), e2]
  refine ⟨vp_in_nI (by omega) (by omega), itE (fun q => ?_) (fun q => ⟨vp_in_nI (by omega) (by omega), itE (fun q2 => ?_) (fun q2 => ?_)⟩)⟩
  · have := (nI_ltI (a := m) (b := 1000) (by omega) (by omega)).mp q
    exact FA_do (kf (by omega)) h1
  · have d1 : ¬ m < 1000 := fun z => q (nI_lt (a := m) (b := 1000) z (by omega))
    have d2 := (nI_ltI (a := m) (b := 2000) (by omega) (by omega)).mp q2
    refine ⟨vp_in_nI (by omega) (by omega), vp_in_nI (by omega) (by omega), ?_⟩
    rw [show nI m + (1000 : Int32) = nI (m + 1000) from nI_add m 1000]
    exact nm_e (M_next hC (MSt_top h1 (hk2 ⟨by omega, d2⟩)) hi (fun σ2 h2 => k ⟨by omega, d2⟩ σ2 h2))
  · have d2 : ¬ m < 2000 := fun z => q2 (nI_lt (a := m) (b := 2000) z (by omega))
    exact FA_do (kf (by omega)) h1
theorem R_comma (hC : Cx t0 σ0 b n cnt tk a) {i c : Nat} {K V Sm : List Nat} {x3 x4 : Int32} (hi : i < cnt) (hc : tk i = 44) (hc2 : c = 145 ∨ c = 146) (hV : okVs V 1) (k : ME σ0 b n cnt tk a post (i + 1) ((2000 + mof c) :: K) (Sm ++ V) 1 0 x4) : ME σ0 b n cnt tk a post i (V.map mof ++ (1000 + mof c) :: K) Sm 0 x3 x4 := by
  obtain ⟨nn, k⟩ := k
  have hm := mof_cases c
  refine ⟨nn + 1, fun σ h => P_comma hC h hi hc rfl hV (Or.inr (by omega)) (fun _ σ h => k σ ?_) (fun _ => by unfold okK; omega) (fun z => absurd ⟨by omega, by omega⟩ z)⟩
  rw [show 1000 + mof c + 1000 = 2000 + mof c by omega] at h
  exact h
theorem R_commaf (hC : Cx t0 σ0 b n cnt tk a) {i m : Nat} {K V Sm : List Nat} {x3 x4 : Int32} (hi : i < cnt) (hc : tk i = 44) (hm : m = 5 ∨ 2000 ≤ m) (hV : okVs V 1) (k : FA σ0 b n cnt tk a post i) : ME σ0 b n cnt tk a post i (V.map mof ++ m :: K) Sm 0 x3 x4 :=
  ⟨1, fun σ h => P_comma (nn := 0) hC h hi hc rfl hV (by omega) (fun z => by omega) (fun z => by omega) (fun _ => k)⟩
theorem R_comma0 (hC : Cx t0 σ0 b n cnt tk a) {i : Nat} {V Sm : List Nat} {x3 x4 : Int32} (hc : tk i = 44) (hV : okVs V 1) (k : FA σ0 b n cnt tk a post i) : ME σ0 b n cnt tk a post i (V.map mof ++ []) Sm 0 x3 x4 := by
  have one : ∀ x2 : Int32, x2 = 0 → ∀ σ, MSt σ0 b n cnt tk a σ i (V.map mof ++ []) Sm → wp_M_parse_26 post 1 σ (nI a) x2 x3 x4 := fun x2 hx σ h =>
    itT hx (q35 6 h.2.1.2.2.1 (by rw [hc]; decide) (by omega) (fun q => absurd q (by rw [hc]; decide)) (fun _ => q35 4 h.2.1.2.2.1 (by rw [hc]; decide) (by omega) (fun _ => M_done hC.2.2.2.2.2.2.2.2 (t := 1) (K := []) (by omega) (show (0 : Nat) < 1 by omega) hV h (fun σ1 h1 => itT (by rw [h1.2.2.1]; rfl) (FA_do k h1))) (fun q => absurd (by rw [hc]; rfl) q)))
  exact ⟨1, one 0 rfl⟩
/-- the tokens that end a rule or part it -/
theorem P_ends {σ : MS} {i nn : Nat} {K Sm : List Nat} {x2 x3 x4 : Int32} (h : MSt σ0 b n cnt tk a σ i K Sm) (hc : tk i = 0 ∨ tk i = 59) (hx2 : x2 = 0) (k : wp_M_parse_420 (wp_M_parse_26 post nn) post σ (nI a) x4) : wp_M_parse_26 post (nn + 1) σ (nI a) x2 x3 x4 := by
  have h35 := h.2.1.2.2.1
  have hm : mof (tk i) = 0 ∨ mof (tk i) = 3 := by
    rcases hc with e | e <;> rw [e] <;> decide
  exact itT hx2 (q35 6 h35 (by omega) (by omega) (fun q => by omega) (fun _ => q35 4 h35 (by omega) (by omega) (fun q => by omega) (fun _ => q35 0 h35 (by omega) (by omega) (fun _ => k) (fun _ => q35 3 h35 (by omega) (by omega) (fun _ => k) (fun q => by omega)))))
theorem P_if {σ : MS} {i nn : Nat} {K V Sm : List Nat} {x2 x3 x4 : Int32} (ha : a < 40) (h : MSt σ0 b n cnt tk a σ i (V.map mof ++ K) Sm) (hc : tk i = 141) (hx2 : x2 = 0) (hV : okVs V 1) (hT : topT K < 1) (k : ∀ σ, MSt σ0 b n cnt tk a σ i K (Sm ++ V) → if 0 < (σ 39 0) then (post (σ 36 0) σ) else (if x4 = 0 then (wp_M_parse_681 (wp_M_parse_26 post nn) post σ (nI a) (1 : Int32) (1 : Int32) (1 : Int32)) else (post (σ 36 0) σ))) : wp_M_parse_26 post (nn + 1) σ (nI a) x2 x3 x4 := by
  have h35 := h.2.1.2.2.1
  have hm : mof (tk i) = 7 := by rw [hc]; decide
  exact itT hx2 (q35 6 h35 (by omega) (by omega) (fun q => by omega) (fun _ => q35 4 h35 (by omega) (by omega) (fun q => by omega) (fun _ => q35 0 h35 (by omega) (by omega) (fun q => by omega) (fun _ => q35 3 h35 (by omega) (by omega) (fun q => by omega) (fun _ => q35 7 h35 (by omega) (by omega) (fun _ => M_done ha (t := 1) (by omega) hT hV h k) (fun q => by omega))))))
theorem P420 (hC : Cx t0 σ0 b n cnt tk a) {σ : MS} {i nn c : Nat} {V Sm : List Nat} {x4 : Int32} (h : MSt σ0 b n cnt tk a σ i (V.map mof ++ []) Sm) (hV : okVs V 1) (hl : V.length + Sm.length < 210) (hx : (x4 = 0 ∧ c = 1) ∨ (¬ x4 = 0 ∧ c = 141)) (k : ∀ σ, MSt σ0 b n cnt tk a σ i [] (Sm ++ V ++ [c]) → if (σ 35 0) = 0 then (post (-1 : Int32) σ) else (wp_M_parse_681 (wp_M_parse_26 post nn) post σ (nI a) (1 : Int32) (0 : Int32) (0 : Int32))) : wp_M_parse_420 (wp_M_parse_26 post nn) post σ (nI a) x4 := by
  have hl2 : ([] : List Nat).length + (Sm ++ V).length < 210 := by
    rw [List.length_append, List.length_nil]; omega
  refine M_done hC.2.2.2.2.2.2.2.2 (t := 1) (K := []) (by omega) (show (0 : Nat) < 1 by omega) hV h (fun σ1 h1 => itT (by rw [h1.2.2.1]; decide) ?_)
  rcases hx with ⟨e1, e2⟩ | ⟨e1, e2⟩
  · subst e2
    exact itT e1 (M_lay hC.2.2.2.2.2.2.2.2 h1 hl2 (c := 1) rfl (fun z => by omega) (fun σ2 h2 => k σ2 h2))
  · subst e2
    exact itF e1 (M_lay hC.2.2.2.2.2.2.2.2 h1 hl2 (c := 141) rfl (fun z => by omega) (fun σ2 h2 => k σ2 h2))
theorem R_end (hC : Cx t0 σ0 b n cnt tk a) {i c : Nat} {V Sm : List Nat} {x3 x4 : Int32} (hc : tk i = 0) (hV : okVs V 1) (hl : V.length + Sm.length < 210) (hx : (x4 = 0 ∧ c = 1) ∨ (¬ x4 = 0 ∧ c = 141)) (k : ∀ σ, MSt σ0 b n cnt tk a σ i [] (Sm ++ V ++ [c]) → post (-1) σ) : ME σ0 b n cnt tk a post i (V.map mof ++ []) Sm 0 x3 x4 :=
  ⟨1, fun σ h => P_ends h (Or.inl hc) rfl (P420 (nn := 0) hC h hV hl hx (fun σ1 h1 => itT (by rw [h1.2.1.2.2.1, hc]; rfl) (k σ1 h1)))⟩
theorem R_semi (hC : Cx t0 σ0 b n cnt tk a) {i c : Nat} {V Sm : List Nat} {x3 x4 : Int32} (hi : i < cnt) (hc : tk i = 59) (hV : okVs V 1) (hl : V.length + Sm.length < 210) (hx : (x4 = 0 ∧ c = 1) ∨ (¬ x4 = 0 ∧ c = 141)) (k : ME σ0 b n cnt tk a post (i + 1) [] (Sm ++ V ++ [c]) 1 0 0) : ME σ0 b n cnt tk a post i (V.map mof ++ []) Sm 0 x3 x4 := by
  obtain ⟨nn, k⟩ := k
  exact ⟨nn + 1, fun σ h => P_ends h (Or.inr hc) rfl (P420 hC h hV hl hx (fun σ1 h1 => itF (by rw [h1.2.1.2.2.1, hc]; decide) (M_next hC h1 hi (fun σ2 h2 => k σ2 h2))))⟩
theorem R_if (hC : Cx t0 σ0 b n cnt tk a) {i : Nat} {V Sm : List Nat} {x3 x4 : Int32} (hi : i < cnt) (hc : tk i = 141) (hx4 : x4 = 0) (hV : okVs V 1) (k : ME σ0 b n cnt tk a post (i + 1) [] (Sm ++ V) 1 1 1) : ME σ0 b n cnt tk a post i (V.map mof ++ []) Sm 0 x3 x4 := by
  obtain ⟨nn, k⟩ := k
  exact ⟨nn + 1, fun σ h => P_if hC.2.2.2.2.2.2.2.2 h hc rfl hV (show (0 : Nat) < 1 by omega) (fun σ1 h1 => itF (by rw [h1.2.2.1]; decide) (itT hx4 (M_next hC h1 hi (fun σ2 h2 => k σ2 h2))))⟩
theorem R_iff (hC : Cx t0 σ0 b n cnt tk a) {i : Nat} {V Sm : List Nat} {x3 x4 : Int32} (hc : tk i = 141) (hx4 : ¬ x4 = 0) (hV : okVs V 1) (k : FA σ0 b n cnt tk a post i) : ME σ0 b n cnt tk a post i (V.map mof ++ []) Sm 0 x3 x4 :=
  ⟨1, fun σ h => P_if (nn := 0) hC.2.2.2.2.2.2.2.2 h hc rfl hV (show (0 : Nat) < 1 by omega) (fun σ1 h1 => itF (by rw [h1.2.2.1]; decide) (itF hx4 (FA_do k h1)))⟩
theorem R_endf (hC : Cx t0 σ0 b n cnt tk a) {i m : Nat} {K V Sm : List Nat} {x3 x4 : Int32} (hc : tk i = 0 ∨ tk i = 59 ∨ tk i = 141) (hm : m = 5 ∨ 1000 ≤ m) (hV : okVs V 1) (k : FA σ0 b n cnt tk a post i) : ME σ0 b n cnt tk a post i (V.map mof ++ m :: K) Sm 0 x3 x4 := by
  have hT : topT (m :: K) < 1 := by
    show tl m < 1
    unfold tl
    rcases hm with e | e
    · rw [if_pos e]; omega
    · rw [if_neg (by omega), if_neg (by omega)]; omega
  have p420 : ∀ σ, MSt σ0 b n cnt tk a σ i (V.map mof ++ m :: K) Sm → wp_M_parse_420 (wp_M_parse_26 post 0) post σ (nI a) x4 := fun σ h =>
    M_done hC.2.2.2.2.2.2.2.2 (t := 1) (by omega) hT hV h (fun σ1 h1 => itF (by have e := top39 h1; rw [e.1]; exact nI_nle (by omega) (by omega)) (FA_do k h1))
  refine ⟨1, fun σ h => ?_⟩
  rcases hc with e | e | e
  · exact P_ends h (Or.inl e) rfl (p420 σ h)
  · exact P_ends h (Or.inr e) rfl (p420 σ h)
  · exact P_if (nn := 0) hC.2.2.2.2.2.2.2.2 h e rfl hV hT (fun σ1 h1 => itT (by have e := top39 h1; rw [e.1]; exact nI_lt (a := 0) (b := K.length + 1) (by omega) (by omega)) (FA_do k h1))
end Rul2
