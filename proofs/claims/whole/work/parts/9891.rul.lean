/-! what the model's parser does at a token -/
theorem mof_cases (c : Nat) : (1000 ≤ c ∧ mof c = 1) ∨ (128 ≤ c ∧ c ≤ 140 ∧ mof c = c - 28) ∨ (c = 0 ∧ mof c = 0) ∨ (c = 40 ∧ mof c = 5) ∨ (c = 41 ∧ mof c = 6) ∨ (c = 42 ∧ mof c = 60) ∨ (c = 43 ∧ mof c = 50) ∨ (c = 44 ∧ mof c = 4) ∨ (c = 45 ∧ mof c = 51) ∨ (c = 47 ∧ mof c = 61) ∨ (c = 59 ∧ mof c = 3) ∨ (c = 60 ∧ mof c = 40) ∨ (c = 61 ∧ mof c = 41) ∨ (c = 62 ∧ mof c = 42) ∨ (c = 141 ∧ mof c = 7) ∨ (c = 142 ∧ mof c = 10) ∨ (c = 143 ∧ mof c = 20) ∨ (c = 144 ∧ mof c = 30) ∨ (c = 145 ∧ mof c = 70) ∨ (c = 146 ∧ mof c = 71) ∨ (mof c = 2 ∧ c < 1000 ∧ c ≠ 0 ∧ c ≠ 40 ∧ c ≠ 41 ∧ c ≠ 42 ∧ c ≠ 43 ∧ c ≠ 44 ∧ c ≠ 45 ∧ c ≠ 47 ∧ c ≠ 59 ∧ c ≠ 60 ∧ c ≠ 61 ∧ c ≠ 62 ∧ ¬ (128 ≤ c ∧ c ≤ 146)) := by
  obtain ⟨m, hm⟩ : ∃ m, m = mof c := ⟨_, rfl⟩
  rw [← hm]
  unfold mof at hm
  by_cases q0 : 1000 ≤ c
  · rw [if_pos q0] at hm
    exact Or.inl ⟨q0, hm⟩
  rw [if_neg q0] at hm
  by_cases q1 : 128 ≤ c ∧ c ≤ 140
  · rw [if_pos q1] at hm
    exact Or.inr (Or.inl ⟨q1.1, q1.2, hm⟩)
  rw [if_neg q1] at hm
  by_cases q2 : c = 0
  · rw [if_pos q2] at hm
    exact Or.inr (Or.inr (Or.inl ⟨q2, hm⟩))
  rw [if_neg q2] at hm
  by_cases q3 : c = 40
  · rw [if_pos q3] at hm
    exact Or.inr (Or.inr (Or.inr (Or.inl ⟨q3, hm⟩)))
  rw [if_neg q3] at hm
  by_cases q4 : c = 41
  · rw [if_pos q4] at hm
    exact Or.inr (Or.inr (Or.inr (Or.inr (Or.inl ⟨q4, hm⟩))))
  rw [if_neg q4] at hm
  by_cases q5 : c = 42
  · rw [if_pos q5] at hm
    exact Or.inr (Or.inr (Or.inr (Or.inr (Or.inr (Or.inl ⟨q5, hm⟩)))))
  rw [if_neg q5] at hm
  by_cases q6 : c = 43
  · rw [if_pos q6] at hm
    exact Or.inr (Or.inr (Or.inr (Or.inr (Or.inr (Or.inr (Or.inl ⟨q6, hm⟩))))))
  rw [if_neg q6] at hm
  by_cases q7 : c = 44
  · rw [if_pos q7] at hm
    exact Or.inr (Or.inr (Or.inr (Or.inr (Or.inr (Or.inr (Or.inr (Or.inl ⟨q7, hm⟩)))))))
  rw [if_neg q7] at hm
  by_cases q8 : c = 45
  · rw [if_pos q8] at hm
    exact Or.inr (Or.inr (Or.inr (Or.inr (Or.inr (Or.inr (Or.inr (Or.inr (Or.inl ⟨q8, hm⟩))))))))
  rw [if_neg q8] at hm
  by_cases q9 : c = 47
  · rw [if_pos q9] at hm
    exact Or.inr (Or.inr (Or.inr (Or.inr (Or.inr (Or.inr (Or.inr (Or.inr (Or.inr (Or.inl ⟨q9, hm⟩)))))))))
  rw [if_neg q9] at hm
  by_cases q10 : c = 59
  · rw [if_pos q10] at hm
    exact Or.inr (Or.inr (Or.inr (Or.inr (Or.inr (Or.inr (Or.inr (Or.inr (Or.inr (Or.inr (Or.inl ⟨q10, hm⟩))))))))))
  rw [if_neg q10] at hm
  by_cases q11 : c = 60
  · rw [if_pos q11] at hm
    exact Or.inr (Or.inr (Or.inr (Or.inr (Or.inr (Or.inr (Or.inr (Or.inr (Or.inr (Or.inr (Or.inr (Or.inl ⟨q11, hm⟩)))))))))))
  rw [if_neg q11] at hm
  by_cases q12 : c = 61
  · rw [if_pos q12] at hm
    exact Or.inr (Or.inr (Or.inr (Or.inr (Or.inr (Or.inr (Or.inr (Or.inr (Or.inr (Or.inr (Or.inr (Or.inr (Or.inl ⟨q12, hm⟩))))))))))))
  rw [if_neg q12] at hm
  by_cases q13 : c = 62
  · rw [if_pos q13] at hm
    exact Or.inr (Or.inr (Or.inr (Or.inr (Or.inr (Or.inr (Or.inr (Or.inr (Or.inr (Or.inr (Or.inr (Or.inr (Or.inr (Or.inl ⟨q13, hm⟩)))))))))))))
  rw [if_neg q13] at hm
  by_cases q14 : c = 141
  · rw [if_pos q14] at hm
    exact Or.inr (Or.inr (Or.inr (Or.inr (Or.inr (Or.inr (Or.inr (Or.inr (Or.inr (Or.inr (Or.inr (Or.inr (Or.inr (Or.inr (Or.inl ⟨q14, hm⟩))))))))))))))
  rw [if_neg q14] at hm
  by_cases q15 : c = 142
  · rw [if_pos q15] at hm
    exact Or.inr (Or.inr (Or.inr (Or.inr (Or.inr (Or.inr (Or.inr (Or.inr (Or.inr (Or.inr (Or.inr (Or.inr (Or.inr (Or.inr (Or.inr (Or.inl ⟨q15, hm⟩)))))))))))))))
  rw [if_neg q15] at hm
  by_cases q16 : c = 143
  · rw [if_pos q16] at hm
    exact Or.inr (Or.inr (Or.inr (Or.inr (Or.inr (Or.inr (Or.inr (Or.inr (Or.inr (Or.inr (Or.inr (Or.inr (Or.inr (Or.inr (Or.inr (Or.inr (Or.inl ⟨q16, hm⟩))))))))))))))))
  rw [if_neg q16] at hm
  by_cases q17 : c = 144
  · rw [if_pos q17] at hm
    exact Or.inr (Or.inr (Or.inr (Or.inr (Or.inr (Or.inr (Or.inr (Or.inr (Or.inr (Or.inr (Or.inr (Or.inr (Or.inr (Or.inr (Or.inr (Or.inr (Or.inr (Or.inl ⟨q17, hm⟩)))))))))))))))))
  rw [if_neg q17] at hm
  by_cases q18 : c = 145
  · rw [if_pos q18] at hm
    exact Or.inr (Or.inr (Or.inr (Or.inr (Or.inr (Or.inr (Or.inr (Or.inr (Or.inr (Or.inr (Or.inr (Or.inr (Or.inr (Or.inr (Or.inr (Or.inr (Or.inr (Or.inr (Or.inl ⟨q18, hm⟩))))))))))))))))))
  rw [if_neg q18] at hm
  by_cases q19 : c = 146
  · rw [if_pos q19] at hm
    exact Or.inr (Or.inr (Or.inr (Or.inr (Or.inr (Or.inr (Or.inr (Or.inr (Or.inr (Or.inr (Or.inr (Or.inr (Or.inr (Or.inr (Or.inr (Or.inr (Or.inr (Or.inr (Or.inr (Or.inl ⟨q19, hm⟩)))))))))))))))))))
  rw [if_neg q19] at hm
  refine Or.inr (Or.inr (Or.inr (Or.inr (Or.inr (Or.inr (Or.inr (Or.inr (Or.inr (Or.inr (Or.inr (Or.inr (Or.inr (Or.inr (Or.inr (Or.inr (Or.inr (Or.inr (Or.inr (Or.inr (?_))))))))))))))))))))
  exact ⟨hm, Nat.lt_of_not_le q0, q2, q3, q4, q5, q6, q7, q8, q9, q10, q11, q12, q13, fun z => by omega⟩
def lv (c : Nat) : Nat := if c = 42 ∨ c = 47 then 5 else if c = 43 ∨ c = 45 then 4 else if c = 60 ∨ c = 61 ∨ c = 62 then 3 else if c = 143 then 1 else if c = 142 then 0 else 9
theorem lv_cases (c : Nat) : ((c = 42 ∨ c = 47) ∧ lv c = 5) ∨ ((c = 43 ∨ c = 45) ∧ lv c = 4) ∨ ((c = 60 ∨ c = 61 ∨ c = 62) ∧ lv c = 3) ∨ (c = 143 ∧ lv c = 1) ∨ (c = 142 ∧ lv c = 0) ∨ (lv c = 9 ∧ c ≠ 42 ∧ c ≠ 47 ∧ c ≠ 43 ∧ c ≠ 45 ∧ c ≠ 60 ∧ c ≠ 61 ∧ c ≠ 62 ∧ c ≠ 143 ∧ c ≠ 142) := by
  obtain ⟨m, hm⟩ : ∃ m, m = lv c := ⟨_, rfl⟩
  rw [← hm]
  unfold lv at hm
  split at hm
  · omega
  split at hm
  · omega
  split at hm
  · omega
  split at hm
  · omega
  split at hm
  · omega
  omega
theorem lv_ok {c : Nat} (h : lv c ≤ 5) : okV c ∧ tl (mof c) = lv c + 1 := by
  have := lv_cases c
  have hc : c = 42 ∨ c = 47 ∨ c = 43 ∨ c = 45 ∨ c = 60 ∨ c = 61 ∨ c = 62 ∨ c = 143 ∨ c = 142 := by omega
  rcases hc with e | e | e | e | e | e | e | e | e <;> subst e <;> exact ⟨by unfold okV; omega, by decide⟩
theorem q35 {σ : MS} {m : Nat} (k : Nat) (h : σ 35 0 = nI m) (hm : m < 2000) (hk : k < 2000) {A B : Prop} (f : m = k → A) (g : m ≠ k → B) : if σ 35 0 = nI k then A else B := by
  rw [h]
  exact itE (fun q => f ((nI_eq (by omega) (by omega)).mp q)) (fun q => g (fun e => q (by rw [e])))
theorem l35 {σ : MS} {m : Nat} (k : Nat) (h : σ 35 0 = nI m) (hm : m < 2000) (hk : k < 2000) {A B : Prop} (f : m < k → A) (g : ¬ m < k → B) : if σ 35 0 < nI k then A else B := by
  rw [h]
  exact itE (fun q => f ((nI_ltI (by omega) (by omega)).mp q)) (fun q => g (fun e => q ((nI_ltI (by omega) (by omega)).mpr e)))
theorem g35 {σ : MS} {m : Nat} (k : Nat) (h : σ 35 0 = nI m) (hm : m < 2000) (hk : k < 2000) {A B : Prop} (f : k ≤ m → A) (g : ¬ k ≤ m → B) : if nI k ≤ σ 35 0 then A else B := by
  rw [h]
  exact itE (fun q => f ((nI_leI (by omega) (by omega)).mp q)) (fun q => g (fun e => q ((nI_leI (by omega) (by omega)).mpr e)))
theorem tl_b {m : Nat} (h : okK m) : tl m < 10 := by
  unfold tl
  unfold okK at h
  split
  · omega
  · split <;> omega
section Rul
variable {t0 : CS} {σ0 : MS} {b : Nat → Nat} {n cnt : Nat} {tk : Nat → Nat} {a : Nat} {post : Int32 → MS → Prop}
def FA (σ0 : MS) (b : Nat → Nat) (n cnt : Nat) (tk : Nat → Nat) (a : Nat) (post : Int32 → MS → Prop) (i : Nat) : Prop := ∀ σ K Sm, MSt σ0 b n cnt tk a σ i K Sm → post (nI (ps b n i)) σ
def ME (σ0 : MS) (b : Nat → Nat) (n cnt : Nat) (tk : Nat → Nat) (a : Nat) (post : Int32 → MS → Prop) (i : Nat) (K Sm : List Nat) (x2 x3 x4 : Int32) : Prop := ∃ nn, ∀ σ, MSt σ0 b n cnt tk a σ i K Sm → wp_M_parse_26 post nn σ (nI a) x2 x3 x4
theorem FA_do {i : Nat} (h : FA σ0 b n cnt tk a post i) {σ : MS} {K Sm : List Nat} (hM : MSt σ0 b n cnt tk a σ i K Sm) : post (σ 36 0) σ := by
  rw [hM.2.1.2.2.2.1]
  exact h σ K Sm hM
theorem mof_lt {c : Nat} (_ : True) : mof c < 200 := by
  have := mof_cases c
  omega
theorem R_head {σ : MS} {i nn : Nat} {K Sm : List Nat} {x2 x3 x4 : Int32} (h : MSt σ0 b n cnt tk a σ i K Sm) (hx2 : ¬ x2 = 0) (hn : tk i ≠ 144 ∨ x3 = 0) (k : wp_M_parse_43 (wp_M_parse_26 post nn) post σ (nI a) x2 x3 x4) : wp_M_parse_26 post (nn + 1) σ (nI a) x2 x3 x4 := by
  have h35 := h.2.1.2.2.1
  have hlt := mof_lt (c := tk i) trivial
  have hc := mof_cases (tk i)
  refine itF hx2 (q35 30 h35 (by omega) (by omega) (fun q => itE (fun _ => k) (fun q2 => ?_)) (fun _ => k))
  rcases hn with e | e
  · omega
  · exact absurd e q2
theorem P_opnd (hC : Cx t0 σ0 b n cnt tk a) {σ : MS} {i nn : Nat} {K Sm : List Nat} {x2 x3 x4 : Int32} (h : MSt σ0 b n cnt tk a σ i K Sm) (hi : i < cnt) (hl : K.length + Sm.length < 210) (hc : 1000 ≤ tk i ∨ (128 ≤ tk i ∧ tk i ≤ 140)) (k : ∀ σ, MSt σ0 b n cnt tk a σ (i + 1) K (Sm ++ [tk i]) → wp_M_parse_26 post nn σ (nI a) 0 x3 x4) : wp_M_parse_43 (wp_M_parse_26 post nn) post σ (nI a) x2 x3 x4 := by
  have h35 := h.2.1.2.2.1
  have hlt := mof_lt (c := tk i) trivial
  have hm := mof_cases (tk i)
  have p190 : wp_M_parse_190 (wp_M_parse_26 post nn) post σ (nI a) x3 x4 := by
    refine M_lay hC.2.2.2.2.2.2.2.2 h hl (c := tk i) ?_ h.2.1.2.2.2.2 (fun σ1 h1 => M_next hC h1 hi (fun σ2 h2 => k σ2 h2))
    rw [h35]
    unfold mofS
    rw [if_neg (by omega), if_neg (by omega)]
  exact q35 5 h35 (by omega) (by omega) (fun q => by omega) (fun _ => q35 70 h35 (by omega) (by omega) (fun q => by omega) (fun _ => q35 71 h35 (by omega) (by omega) (fun q => by omega) (fun _ => q35 1 h35 (by omega) (by omega) (fun _ => p190) (fun _ => l35 100 h35 (by omega) (by omega) (fun q => by omega) (fun _ => p190)))))
theorem R_opnd (hC : Cx t0 σ0 b n cnt tk a) {i : Nat} {K Sm : List Nat} {x3 x4 : Int32} (hi : i < cnt) (hl : K.length + Sm.length < 210) (hc : 1000 ≤ tk i ∨ (128 ≤ tk i ∧ tk i ≤ 140)) (k : ME σ0 b n cnt tk a post (i + 1) K (Sm ++ [tk i]) 0 x3 x4) : ME σ0 b n cnt tk a post i K Sm 1 x3 x4 := by
  obtain ⟨nn, k⟩ := k
  exact ⟨nn + 1, fun σ h => R_head h (by decide) (Or.inl (by omega)) (P_opnd hC h hi hl hc k)⟩
theorem P51 (hC : Cx t0 σ0 b n cnt tk a) {σ : MS} {i nn : Nat} {K Sm : List Nat} {x2 x4 : Int32} (h : MSt σ0 b n cnt tk a σ i K Sm) (hi : i < cnt) (hl : K.length + Sm.length < 210) (hc : tk i = 40 ∨ tk i = 144) (ho : opn K < 12) (k : ∀ σ, MSt σ0 b n cnt tk a σ (i + 1) (mof (tk i) :: K) Sm → wp_M_parse_26 post nn σ (nI a) x2 1 x4) : wp_M_parse_51 (wp_M_parse_26 post nn) post σ (nI a) x2 x4 := by
  have h35 := h.2.1.2.2.1
  have h39 := h.2.2.1
  have hm := mof_cases (tk i)
  refine M_opened h (itF (fun q => ?_) ?_)
  · have := (nI_eq (a := opn K) (b := 12) (by omega) (by omega)).mp q
    omega
  rw [h39, h35, nI_clamp (by omega)]
  refine ⟨vp_in_nI (by omega) (by omega), nm_e (nm_r (e' := up2 (up2 σ 38 K.length (nI (mof (tk i)))) 39 0 (nI (K.length + 1))) ?_ ?_)⟩
  · show up2 (up2 σ 38 K.length (nI (mof (tk i)))) 39 0 (σ 39 0 + 1) = _
    rw [h39, nI_1]
  · exact M_next hC (MSt_push h hl (by unfold okK; omega)) hi (fun σ2 h2 => k σ2 h2)
theorem P51f {σ : MS} {i nn : Nat} {K Sm : List Nat} {x2 x4 : Int32} (h : MSt σ0 b n cnt tk a σ i K Sm) (ho : opn K = 12) (k : FA σ0 b n cnt tk a post i) : wp_M_parse_51 (wp_M_parse_26 post nn) post σ (nI a) x2 x4 := M_opened h (itT (by rw [ho]; rfl) (FA_do k h))
theorem R_par (hC : Cx t0 σ0 b n cnt tk a) {i : Nat} {K Sm : List Nat} {x3 x4 : Int32} (hi : i < cnt) (hl : K.length + Sm.length < 210) (hc : tk i = 40) (ho : opn K < 12) (k : ME σ0 b n cnt tk a post (i + 1) (5 :: K) Sm 1 1 x4) : ME σ0 b n cnt tk a post i K Sm 1 x3 x4 := by
  obtain ⟨nn, k⟩ := k
  refine ⟨nn + 1, fun σ h => R_head h (by decide) (Or.inl (by omega)) (q35 5 h.2.1.2.2.1 (by rw [hc]; decide) (by omega) (fun _ => P51 hC h hi hl (Or.inl hc) ho (fun σ h => k σ ?_)) (fun q => absurd (by rw [hc]; rfl) q))⟩
  rw [hc] at h; exact h
theorem R_parf {i : Nat} {K Sm : List Nat} {x3 x4 : Int32} (hc : tk i = 40) (ho : opn K = 12) (k : FA σ0 b n cnt tk a post i) : ME σ0 b n cnt tk a post i K Sm 1 x3 x4 := ⟨1, fun σ h => R_head h (by decide) (Or.inl (by omega)) (q35 5 h.2.1.2.2.1 (by rw [hc]; decide) (by omega) (fun _ => P51f h ho k) (fun q => absurd (by rw [hc]; rfl) q))⟩
theorem R_not (hC : Cx t0 σ0 b n cnt tk a) {i : Nat} {K Sm : List Nat} {x3 x4 : Int32} (hi : i < cnt) (hl : K.length + Sm.length < 210) (hc : tk i = 144) (h3 : ¬ x3 = 0) (ho : opn K < 12) (k : ME σ0 b n cnt tk a post (i + 1) (30 :: K) Sm 1 1 x4) : ME σ0 b n cnt tk a post i K Sm 1 x3 x4 := by
  obtain ⟨nn, k⟩ := k
  have one : ∀ x2 : Int32, ¬ x2 = 0 → (∀ σ, MSt σ0 b n cnt tk a σ (i + 1) (30 :: K) Sm → wp_M_parse_26 post nn σ (nI a) x2 1 x4) → ∀ σ, MSt σ0 b n cnt tk a σ i K Sm → wp_M_parse_26 post (nn + 1) σ (nI a) x2 x3 x4 := fun x2 hx k σ h => itF hx (q35 30 h.2.1.2.2.1 (by rw [hc]; decide) (by omega) (fun _ => itF h3 (P51 hC h hi hl (Or.inr hc) ho (fun σ h => k σ (by rw [hc] at h; exact h)))) (fun q => absurd (by rw [hc]; rfl) q))
  exact ⟨nn + 1, one 1 (by decide) k⟩
theorem R_notf {i : Nat} {K Sm : List Nat} {x3 x4 : Int32} (hc : tk i = 144) (h3 : ¬ x3 = 0) (ho : opn K = 12) (k : FA σ0 b n cnt tk a post i) : ME σ0 b n cnt tk a post i K Sm 1 x3 x4 := by
  have one : ∀ x2 : Int32, ¬ x2 = 0 → ∀ σ, MSt σ0 b n cnt tk a σ i K Sm → wp_M_parse_26 post 1 σ (nI a) x2 x3 x4 := fun x2 hx σ h => itF hx (q35 30 h.2.1.2.2.1 (by rw [hc]; decide) (by omega) (fun _ => itF h3 (P51f h ho k)) (fun q => absurd (by rw [hc]; rfl) q))
  exact ⟨1, one 1 (by decide)⟩
theorem P111 (hC : Cx t0 σ0 b n cnt tk a) {σ : MS} {i nn : Nat} {K Sm : List Nat} {x2 x4 : Int32} (h : MSt σ0 b n cnt tk a σ i K Sm) (hi : i + 1 < cnt) (hl : K.length + Sm.length < 210) (hc : tk i = 145 ∨ tk i = 146) (hc2 : tk (i + 1) = 40) (ho : opn K < 12) (k : ∀ σ, MSt σ0 b n cnt tk a σ (i + 2) ((1000 + mof (tk i)) :: K) Sm → wp_M_parse_26 post nn σ (nI a) x2 0 x4) : wp_M_parse_111 (wp_M_parse_26 post nn) post σ (nI a) x2 x4 := by
  have h35 := h.2.1.2.2.1
  have hm := mof_cases (tk i)
  refine nm_r (e' := nI (mof (tk i))) h35 (M_next hC h (by omega) (fun σ1 h1 => ?_))
  have h35 := h1.2.1.2.2.1
  have h39 := h1.2.2.1
  refine q35 5 h35 (by rw [hc2]; decide) (by omega) (fun _ => M_opened h1 (itF (fun q => ?_) ?_)) (fun q => absurd (by rw [hc2]; rfl) q)
  · have := (nI_eq (a := opn K) (b := 12) (by omega) (by omega)).mp q
    omega
  rw [h39, nI_clamp (by omega), show (1000 : Int32) + nI (mof (tk i)) = nI (1000 + mof (tk i)) from nI_add 1000 _]
  refine ⟨vp_in_nI (by omega) (by omega), nm_e (nm_r (e' := up2 (up2 σ1 38 K.length (nI (1000 + mof (tk i)))) 39 0 (nI (K.length + 1))) ?_ ?_)⟩
  · show up2 (up2 σ1 38 K.length (nI (1000 + mof (tk i)))) 39 0 (σ1 39 0 + 1) = _
    rw [h39, nI_1]
  · exact M_next hC (MSt_push h1 hl (by unfold okK; omega)) hi (fun σ2 h2 => k σ2 h2)
theorem P111f (hC : Cx t0 σ0 b n cnt tk a) {σ : MS} {i nn : Nat} {K Sm : List Nat} {x2 x4 : Int32} (h : MSt σ0 b n cnt tk a σ i K Sm) (hi : i < cnt) (hk : tk (i + 1) ≠ 40 ∨ opn K = 12) (k : FA σ0 b n cnt tk a post (i + 1)) : wp_M_parse_111 (wp_M_parse_26 post nn) post σ (nI a) x2 x4 := by
  refine nm_e (M_next hC h hi (fun σ1 h1 => ?_))
  have hm := mof_cases (tk (i + 1))
  have hlt := mof_lt (c := tk (i + 1)) trivial
  refine q35 5 h1.2.1.2.2.1 (by omega) (by omega) (fun q => M_opened h1 (itE (fun _ => FA_do k h1) (fun q2 => ?_))) (fun q => FA_do k h1)
  rcases hk with e | e
  · omega
  · exact absurd (by rw [e]; rfl) q2
theorem P43_pair {σ : MS} {i nn : Nat} {K Sm : List Nat} {x2 x3 x4 : Int32} (h : MSt σ0 b n cnt tk a σ i K Sm) (hc : tk i = 145 ∨ tk i = 146) (k : wp_M_parse_111 (wp_M_parse_26 post nn) post σ (nI a) x2 x4) : wp_M_parse_43 (wp_M_parse_26 post nn) post σ (nI a) x2 x3 x4 := by
  have h35 := h.2.1.2.2.1
  have hm := mof_cases (tk i)
  exact q35 5 h35 (by omega) (by omega) (fun q => by omega) (fun _ => q35 70 h35 (by omega) (by omega) (fun _ => k) (fun _ => q35 71 h35 (by omega) (by omega) (fun _ => k) (fun q => by omega)))
theorem R_pair (hC : Cx t0 σ0 b n cnt tk a) {i : Nat} {K Sm : List Nat} {x3 x4 : Int32} (hi : i + 1 < cnt) (hl : K.length + Sm.length < 210) (hc : tk i = 145 ∨ tk i = 146) (hc2 : tk (i + 1) = 40) (ho : opn K < 12) (k : ME σ0 b n cnt tk a post (i + 2) ((1000 + mof (tk i)) :: K) Sm 1 0 x4) : ME σ0 b n cnt tk a post i K Sm 1 x3 x4 := by
  obtain ⟨nn, k⟩ := k
  exact ⟨nn + 1, fun σ h => R_head h (by decide) (Or.inl (by omega)) (P43_pair h hc (P111 hC h hi hl hc hc2 ho k))⟩
theorem R_pairf (hC : Cx t0 σ0 b n cnt tk a) {i : Nat} {K Sm : List Nat} {x3 x4 : Int32} (hi : i < cnt) (hc : tk i = 145 ∨ tk i = 146) (hk : tk (i + 1) ≠ 40 ∨ opn K = 12) (k : FA σ0 b n cnt tk a post (i + 1)) : ME σ0 b n cnt tk a post i K Sm 1 x3 x4 := ⟨1, fun σ h => R_head h (by decide) (Or.inl (by omega)) (P43_pair h hc (P111f hC h hi hk k))⟩
theorem R_bad {i : Nat} {K Sm : List Nat} {x3 x4 : Int32} (hc : ¬ 1000 ≤ tk i ∧ ¬ (128 ≤ tk i ∧ tk i ≤ 140) ∧ tk i ≠ 40 ∧ tk i ≠ 145 ∧ tk i ≠ 146) (h3 : tk i ≠ 144 ∨ x3 = 0) (k : FA σ0 b n cnt tk a post i) : ME σ0 b n cnt tk a post i K Sm 1 x3 x4 := by
  refine ⟨1, fun σ h => R_head h (by decide) h3 ?_⟩
  have h35 := h.2.1.2.2.1
  have hm := mof_cases (tk i)
  have hlt := mof_lt (c := tk i) trivial
  exact q35 5 h35 (by omega) (by omega) (fun q => by omega) (fun _ => q35 70 h35 (by omega) (by omega) (fun q => by omega) (fun _ => q35 71 h35 (by omega) (by omega) (fun q => by omega) (fun _ => q35 1 h35 (by omega) (by omega) (fun q => by omega) (fun _ => l35 100 h35 (by omega) (by omega) (fun _ => FA_do k h) (fun q => by omega)))))
end Rul
