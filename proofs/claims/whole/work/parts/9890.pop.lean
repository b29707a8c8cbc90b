/-! the model's stack -/
def okV (v : Nat) : Prop := v = 142 ∨ v = 143 ∨ v = 144 ∨ v = 60 ∨ v = 61 ∨ v = 62 ∨ v = 43 ∨ v = 45 ∨ v = 42 ∨ v = 47
theorem okV_m {v : Nat} (h : okV v) : mofS v = mof v ∧ 10 ≤ mof v ∧ mof v < 70 := by
  rcases h with e | e | e | e | e | e | e | e | e | e <;> subst e <;> decide
theorem okK_lt {m : Nat} (h : okK m) : m < 3000 := by
  unfold okK at h
  omega
def opF (f : Nat → Int32) : Nat → Nat
  | 0 => 0
  | d + 1 => opF f d + if f d = 5 ∨ f d = 30 ∨ ¬ f d < 1000 then 1 else 0
theorem opF_n : ∀ {K : List Nat} {f : Nat → Int32}, stk K f → (∀ m ∈ K, okK m) → opF f K.length = opn K
  | [], _, _, _ => rfl
  | m :: K, f, hs, hk => by
    have hm := okK_lt (hk m List.mem_cons_self)
    show opF f K.length + (if f K.length = 5 ∨ f K.length = 30 ∨ ¬ f K.length < 1000 then 1 else 0) = opn K + (if m = 5 ∨ m = 30 ∨ 1000 ≤ m then 1 else 0)
    rw [opF_n hs.2 (fun x hx => hk x (List.mem_cons_of_mem _ hx)), hs.1]
    congr 1
    by_cases q : m = 5 ∨ m = 30 ∨ 1000 ≤ m
    · rw [if_pos q, if_pos]
      rcases q with e | e | e
      · left; rw [e]; rfl
      · right; left; rw [e]; rfl
      · right; right; exact nI_nlt (a := m) (b := 1000) e (by omega)
    · rw [if_neg q, if_neg]
      intro z
      rcases z with e | e | e
      · exact q (Or.inl ((nI_eq (a := m) (b := 5) (by omega) (by omega)).mp e))
      · exact q (Or.inr (Or.inl ((nI_eq (a := m) (b := 30) (by omega) (by omega)).mp e)))
      · exact q (Or.inr (Or.inr (Nat.le_of_not_lt (fun y => e (nI_lt (a := m) (b := 1000) y (by omega))))))
theorem opn_le : ∀ K : List Nat, opn K ≤ K.length
  | [] => Nat.le_refl _
  | m :: K => by
    have := opn_le K
    show opn K + (if _ then 1 else 0) ≤ K.length + 1
    split <;> omega
section Pop
variable {t0 : CS} {σ0 : MS} {b : Nat → Nat} {n cnt : Nat} {tk : Nat → Nat} {a : Nat}
theorem MSt_pop {σ : MS} {i m : Nat} {K Sm : List Nat} (h : MSt σ0 b n cnt tk a σ i (m :: K) Sm) : MSt σ0 b n cnt tk a (up2 σ 39 0 (nI K.length)) i K Sm := by
  obtain ⟨h1, h2, h3, h4, h5, h6, h7, h8⟩ := h
  have h8 : K.length + 1 + Sm.length ≤ 210 := h8
  refine ⟨frm_up (by omega) (by omega) h1, h2, (show upd (σ 39) 0 _ 0 = _ from pk_us), h4.2, fun x hx => h5 x (List.mem_cons_of_mem _ hx), h6, h7, by omega⟩
theorem MSt_push {σ : MS} {i m : Nat} {K Sm : List Nat} (h : MSt σ0 b n cnt tk a σ i K Sm) (hl : K.length + Sm.length < 210) (hm : okK m) : MSt σ0 b n cnt tk a (up2 (up2 σ 38 K.length (nI m)) 39 0 (nI (K.length + 1))) i (m :: K) Sm := by
  obtain ⟨h1, h2, h3, h4, h5, h6, h7, h8⟩ := h
  refine ⟨frm_up (by omega) (by omega) (frm_up (by omega) (by omega) h1), h2, (show upd (σ 39) 0 _ 0 = _ from pk_us), ⟨(show upd (σ 38) K.length (nI m) K.length = _ from pk_us), (show stk K (upd (σ 38) K.length (nI m)) from stk_up (Nat.le_refl _) h4)⟩, fun x hx => ?_, h6, h7, ?_⟩
  · rcases List.mem_cons.mp hx with e | e
    · rw [e]; exact hm
    · exact h5 x e
  · show K.length + 1 + Sm.length ≤ 210
    omega
theorem MSt_top {σ : MS} {i m m' : Nat} {K Sm : List Nat} (h : MSt σ0 b n cnt tk a σ i (m :: K) Sm) (hm : okK m') : MSt σ0 b n cnt tk a (up2 σ 38 K.length (nI m')) i (m' :: K) Sm := by
  obtain ⟨h1, h2, h3, h4, h5, h6, h7, h8⟩ := h
  refine ⟨frm_up (by omega) (by omega) h1, h2, h3, ⟨(show upd (σ 38) K.length (nI m') K.length = _ from pk_us), (show stk K (upd (σ 38) K.length (nI m')) from stk_up (Nat.le_refl _) h4.2)⟩, fun x hx => ?_, h6, h7, h8⟩
  rcases List.mem_cons.mp hx with e | e
  · rw [e]; exact hm
  · exact h5 x (List.mem_cons_of_mem _ e)
theorem M_done0 (ha : a < 40) {i t : Nat} {K : List Nat} (ht2 : t < 10) (hK : topT K < t) {post : MS → Prop} : ∀ (V Sm : List Nat) (σ : MS), (∀ v ∈ V, okV v ∧ t ≤ tl (mof v)) → MSt σ0 b n cnt tk a σ i (V.map mof ++ K) Sm → (∀ σ', MSt σ0 b n cnt tk a σ' i K (Sm ++ V) → post σ') → wp_M_done_0 post (V.length + 1) σ (nI a) (nI t)
  | [], Sm, σ, _, h, k => by
    rw [List.append_nil] at k
    have h : MSt σ0 b n cnt tk a σ i K Sm := h
    obtain ⟨h1, h2, h3, h4, h5, h6, h7, h8⟩ := id h
    match K, hK, h, h3, h4, h5, h8, k with
    | [], hK, h, h3, h4, h5, h8, k =>
      refine itT ?_ (k σ h)
      rw [h3]; decide
    | m :: K, hK, h, h3, h4, h5, h8, k =>
      have h8 : K.length + 1 + Sm.length ≤ 210 := h8
      have h3 : σ 39 0 = nI (K.length + 1) := h3
      refine itF ?_ ?_
      · rw [h3]; exact nI_nle (by omega) (by omega)
      rw [h3, nI_pred, nI_clamp (by omega), h4.1]
      refine ⟨vp_in_nI (by omega) (by omega), M_tight (okK_lt (h5 m List.mem_cons_self)) (itT ?_ (k σ h))⟩
      exact nI_lt hK (by omega)
  | v :: V, Sm, σ, hV, h, k => by
    have h : MSt σ0 b n cnt tk a σ i (mof v :: (V.map mof ++ K)) Sm := h
    obtain ⟨h1, h2, h3, h4, h5, h6, h7, h8⟩ := id h
    have hv := hV v List.mem_cons_self
    have hm := okV_m hv.1
    have h8 : (V.map mof ++ K).length + 1 + Sm.length ≤ 210 := h8
    have h3 : σ 39 0 = nI ((V.map mof ++ K).length + 1) := h3
    refine itF ?_ ?_
    · rw [h3]; exact nI_nle (by omega) (by omega)
    rw [h3, nI_pred, nI_clamp (by omega), h4.1]
    have htl : tl (mof v) < 10 := by
      unfold tl
      rw [if_neg (by omega), if_pos (by omega)]
      omega
    refine ⟨vp_in_nI (by omega) (by omega), M_tight (by omega) (itF (nI_nlt hv.2 (by omega)) (nm_r (e' := up2 σ 39 0 (nI (V.map mof ++ K).length)) (by rw [h3, nI_pred]) ?_))⟩
    have hp := MSt_pop h
    have e39 : (up2 σ 39 0 (nI (V.map mof ++ K).length)) 39 0 = nI (V.map mof ++ K).length := (show upd (σ 39) 0 _ 0 = _ from pk_us)
    have e38 : (up2 σ 39 0 (nI (V.map mof ++ K).length)) 38 (V.map mof ++ K).length = nI (mof v) := h4.1
    rw [e39, nI_clamp (by omega), e38]
    refine ⟨vp_in_nI (by omega) (by omega), M_lay ha hp (by omega) (c := v) (by rw [hm.1]) (fun z => ?_) (fun σ' h' => M_done0 ha ht2 hK V (Sm ++ [v]) σ' (fun x hx => hV x (List.mem_cons_of_mem _ hx)) h' (fun σ2 h2 => k σ2 ?_))⟩
    · have := hv.1
      unfold okV at this
      omega
    · rw [List.append_assoc] at h2
      exact h2
theorem M_done (ha : a < 40) {i t : Nat} {K V Sm : List Nat} {σ : MS} (ht2 : t < 10) (hK : topT K < t) {post : MS → Prop} (hV : ∀ v ∈ V, okV v ∧ t ≤ tl (mof v)) (h : MSt σ0 b n cnt tk a σ i (V.map mof ++ K) Sm) (k : ∀ σ', MSt σ0 b n cnt tk a σ' i K (Sm ++ V) → post σ') : wp_M_done σ (nI a) (nI t) post := ⟨V.length + 1, M_done0 ha ht2 hK V Sm σ hV h k⟩
theorem M_opened {i : Nat} {K Sm : List Nat} {σ : MS} (h : MSt σ0 b n cnt tk a σ i K Sm) {post : Int32 → MS → Prop} (k : post (nI (opn K)) σ) : wp_M_opened σ post := by
  obtain ⟨h1, h2, h3, h4, h5, h6, h7, h8⟩ := id h
  rw [← opF_n h4 h5] at k
  have main : ∀ d j, j + d = K.length → wp_M_opened_4 post (d + 1) σ (nI (opF (σ 38) j)) (nI j) := by
    intro d
    induction d with
    | zero =>
      intro j hj
      have e : j = K.length := by omega
      subst e
      refine itT ?_ k
      rw [h3]; exact nI_le (Nat.le_refl _) (by omega)
    | succ d ih =>
      intro j hj
      have hI := ih (j + 1) (by omega)
      have e : opF (σ 38) (j + 1) = opF (σ 38) j + if σ 38 j = 5 ∨ σ 38 j = 30 ∨ ¬ σ 38 j < 1000 then 1 else 0 := rfl
      rw [e] at hI
      refine itF ?_ ?_
      · rw [h3]; exact nI_ge (by omega) (by omega)
      rw [nI_clamp (by omega)]
      have up : (σ 38 j = 5 ∨ σ 38 j = 30 ∨ ¬ σ 38 j < 1000) → wp_M_opened_46 (wp_M_opened_4 post (d + 1)) post σ (nI j) (nI (opF (σ 38) j)) := fun q => by
        rw [if_pos q] at hI
        refine nm_e (nm_e ?_)
        rw [nI_1, nI_1]; exact hI
      refine ⟨vp_in_nI (by omega) (by omega), itE (fun q => up (Or.inl q)) (fun q1 => ⟨vp_in_nI (by omega) (by omega), itE (fun q => up (Or.inr (Or.inl q))) (fun q2 => ⟨vp_in_nI (by omega) (by omega), itE (fun q => ?_) (fun q => up (Or.inr (Or.inr q)))⟩)⟩)⟩
      rw [if_neg (fun z => by
        rcases z with e | e | e
        · exact q1 e
        · exact q2 e
        · exact e q)] at hI
      refine nm_e (nm_e ?_)
      rw [nI_1, show (0 : Int32) = nI 0 from rfl, nI_add]; exact hI
  exact ⟨K.length + 1, main K.length 0 (by omega)⟩
theorem M_may0 {x : Int32} (hx : bz x) {σ : MS} {post : Int32 → MS → Prop} : ∀ K : List Nat, stk K (σ 38) → (∀ m ∈ K, okK m) → K.length ≤ 210 → post (may x K) σ → wp_M_mayLogic_7 post (K.length + 1) σ x (nI K.length - 1)
  | [], _, _, _, k => (show bz x ∧ post x σ from ⟨hx, k⟩)
  | m :: K, hs, hk, hl, k => by
    have hl : K.length + 1 ≤ 210 := hl
    have hm := okK_lt (hk m List.mem_cons_self)
    show wp_M_mayLogic_7 post (K.length + 1 + 1) σ x (nI (K.length + 1) - 1)
    rw [nI_pred]
    refine itF (nI_pos (by omega)) ⟨vp_in_nI (by omega) (by omega), ?_⟩
    rw [nI_clamp (by omega), hs.1]
    have k : post (if m = 5 then 1 else if m < 1000 then may x K else 0) σ := k
    refine itE (fun q => ?_) (fun q => ⟨vp_in_nI (by omega) (by omega), itE (fun q2 => ?_) (fun q2 => ?_)⟩)
    · rw [if_pos ((nI_eq (a := m) (b := 5) (by omega) (by omega)).mp q)] at k
      exact k
    · have h5 : ¬ m = 5 := fun e => q (by rw [e]; rfl)
      have h1 : m < 1000 := Nat.lt_of_not_le (fun e => nI_nlt (a := m) (b := 1000) e (by omega) q2)
      rw [if_neg h5, if_pos h1] at k
      refine nm_r (e' := nI K.length - 1) (by rw [Int32.sub_eq_add_neg]) ?_
      exact M_may0 hx K hs.2 (fun y hy => hk y (List.mem_cons_of_mem _ hy)) (by omega) k
    · have h5 : ¬ m = 5 := fun e => q (by rw [e]; rfl)
      have h1 : ¬ m < 1000 := fun e => q2 (nI_lt (a := m) (b := 1000) e (by omega))
      rw [if_neg h5, if_neg h1] at k
      exact k
theorem M_may {i : Nat} {K Sm : List Nat} {σ : MS} {x : Int32} (hx : bz x) (h : MSt σ0 b n cnt tk a σ i K Sm) {post : Int32 → MS → Prop} (k : post (may x K) σ) : wp_M_mayLogic σ x post := by
  obtain ⟨h1, h2, h3, h4, h5, h6, h7, h8⟩ := id h
  refine nm_e ⟨K.length + 1, ?_⟩
  rw [h3]
  exact M_may0 hx K h4 h5 (by omega) k
theorem may_V {x : Int32} {K : List Nat} : ∀ V : List Nat, (∀ v ∈ V, okV v) → may x (V.map mof ++ K) = may x K
  | [], _ => rfl
  | v :: V, h => by
    have hm := okV_m (h v List.mem_cons_self)
    show (if mof v = 5 then 1 else if mof v < 1000 then may x (V.map mof ++ K) else 0) = _
    rw [if_neg (by omega), if_pos (by omega)]
    exact may_V V (fun y hy => h y (List.mem_cons_of_mem _ hy))
end Pop
