/-! operands, negations, pairs and parts -/
section Prt
variable {t0 : CS} {σ0 : MS} {b : Nat → Nat} {n cnt : Nat} {tk : Nat → Nat} {a : Nat}
theorem tk_in (hC : Cx t0 σ0 b n cnt tk a) {i : Nat} (hi : i ≤ cnt) (h : tk i ≠ 0) : i < cnt := by
  by_cases z : i < cnt
  · exact z
  · exact absurd (by rw [show i = cnt by omega]; exact hC.2.2.2.2.2.1) h
theorem bad_tok (hC : Cx t0 σ0 b n cnt tk a) {j L m : Nat} {V K Sm : List Nat} {x3 x4 : Int32} {post : Int32 → MS → Prop} (hx4 : bz x4) (hj : j ≤ cnt) (hm : m = 5 ∨ 1000 ≤ m) (hS : StpT L V (tk j)) (hL : L = 0 ∨ (L = 3 ∧ may x4 (m :: K) = 0)) (hV : okVs V 1) (ne : ((m = 5 ∨ 2000 ≤ m) → tk j ≠ 41) ∧ ((1000 ≤ m ∧ m < 2000) → tk j ≠ 44)) (k : FA σ0 b n cnt tk a post j) : ME σ0 b n cnt tk a post j (V.map mof ++ m :: K) Sm 0 x3 x4 := by
  by_cases h1 : tk j = 0 ∨ tk j = 59 ∨ tk j = 141
  · exact R_endf hC h1 hm hV k
  by_cases h2 : tk j = 41
  · refine R_rparf hC h2 ⟨?_, ?_⟩ hV k
    · rcases hm with e | e
      · exact absurd h2 (ne.1 (Or.inl e))
      · exact e
    · exact Nat.lt_of_not_le (fun e => ne.1 (Or.inr e) h2)
  by_cases h3 : tk j = 44
  · refine R_commaf hC (tk_in hC hj (by omega)) h3 ?_ hV k
    rcases hm with e | e
    · exact Or.inl e
    · exact Or.inr (Nat.le_of_not_lt (fun z => ne.2 ⟨e, z⟩ h3))
  refine R_rej hC hx4 ⟨by omega, by omega, by omega, by omega, by omega⟩ hV (fun z => ?_) k
  have hlc := lv_cases (tk j)
  rcases hS z with e | ⟨e1, e2, e3⟩
  · rcases hL with e4 | e4
    · omega
    · exact Or.inl ⟨by omega, e4.2⟩
  · exact Or.inr ⟨e1, e3⟩
theorem p59 {rc : Nat → CS → Int32 → Int32 → (Int32 → CS → Prop) → Prop} {post : Int32 → CS → Prop} {t : CS} {x : Int32} (h : post 0 t) : wp_Reader_readPair_59 rc post t x := by
  unfold wp_Reader_readPair_59 wp_Reader_readPair_60
  exact itT rfl ⟨Or.inl rfl, h⟩
theorem pair (hC : Cx t0 σ0 b n cnt tk a) {f : Nat} (IH : PTs t0 σ0 b n cnt tk a f) {o i : Nat} {K Sm : List Nat} {D : Nat} {x3 x4 : Int32} (hf : 94 ≤ f + 8 * o) (ho : o ≤ 12) (hK : opn K = o) (hin : i < cnt) (hl : K.length + Sm.length ≤ i) (hg : good Sm D) (hx4 : bz x4) (hc : tk i = 145 ∨ tk i = 146) : OUT t0 σ0 b n cnt tk a (fun t post => wpR (f + 1) 3 t (nI (tk i)) (nI o) post) 6 (i + 1) K Sm D x4 (fun post => ME σ0 b n cnt tk a post i K Sm 1 x3 x4) := by
  have hcn : cnt ≤ 200 := Nat.le_trans hC.2.1 hC.1.1
  by_cases hbad : tk (i + 1) ≠ 40 ∨ opn K = 12
  · refine Or.inr ⟨i + 1, Sm, Nat.le_refl _, hin, fun t ht post k => wpR_3 (itE (fun _ => p59 (k t ht)) (fun z => C_pass hC ht hin (c := 40) (by omega) (fun e => ?_) (fun _ => itT rfl (p59 (k t ht))))), fun post k => R_pairf hC hin hc hbad k⟩
    rcases hbad with e2 | e2
    · exact absurd e e2
    · exact absurd (nI_le (a := 12) (b := o) (by omega) (by omega)) z
  · have hc2 : tk (i + 1) = 40 := Classical.byContradiction (fun z => hbad (Or.inl z))
    have ho2 : o < 12 := by
      rcases Nat.lt_or_ge o 12 with z | z
      · exact z
      · exact absurd (Or.inr (by omega)) hbad
    have hin2 : i + 1 < cnt := tk_in hC hin (by omega)
    have hm : mof (tk i) = 70 ∨ mof (tk i) = 71 := by
      rcases hc with e | e <;> rw [e] <;> decide
    have opM : ∀ x, 1000 ≤ x → opn (x :: K) = o + 1 := fun x hx => by
      show opn K + (if x = 5 ∨ x = 30 ∨ 1000 ≤ x then 1 else 0) = o + 1
      rw [if_pos (Or.inr (Or.inr hx)), hK]
    have toM : ∀ x, 1000 ≤ x → topT (x :: K) ≤ 3 := fun x hx => by
      show tl x ≤ 3
      unfold tl
      rw [if_neg (by omega), if_neg (by omega)]; omega
    have maM : ∀ x, 1000 ≤ x → may x4 (x :: K) = 0 := fun x hx => by
      show (if x = 5 then 1 else if x < 1000 then may x4 K else 0) = 0
      rw [if_neg (by omega), if_neg (by omega)]
    have P1 := IH 3 (o + 1) (i + 2) ((1000 + mof (tk i)) :: K) Sm D 0 x4 (by omega) (by omega) (by omega) (opM _ (by omega)) hin2 (by show K.length + 1 + Sm.length ≤ i + 2; omega) hg hx4 (Or.inl (toM _ (by omega))) (fun z => by omega) (Or.inr ⟨Nat.le_refl _, Or.inl rfl⟩)
    have m1 : ∀ post, ME σ0 b n cnt tk a post (i + 2) ((1000 + mof (tk i)) :: K) Sm 1 0 x4 → ME σ0 b n cnt tk a post i K Sm 1 x3 x4 := fun post k => R_pair hC hin2 (by omega) hc hc2 (by omega) k
    have hc1 : ∀ r j S', bz r → CG t0 (fun t post => wpR f 0 t (nI 3) (nI (o + 1)) post) (i + 2) Sm r j S' → ∀ t, CSt t0 t (i + 1) Sm → ∀ post : Int32 → CS → Prop, (∀ t', CSt t0 t' j S' → if r = 0 then wp_Reader_readPair_59 (wpR f) post t' (nI (tk i)) else wp_Reader_pass t' 44 (fun r11 t10 => if r11 = 0 then (wp_Reader_readPair_59 (wpR f) post t10 (nI (tk i))) else (wpR f 0 t10 (3 : Int32) (nI (o + 1)) (fun r14 t13 => if r14 = 0 then (wp_Reader_readPair_59 (wpR f) post t13 (nI (tk i))) else (wp_Reader_pass t13 (41 : Int32) (fun r17 t16 => if r17 = 0 then (wp_Reader_readPair_59 (wpR f) post t16 (nI (tk i))) else (wp_Reader_readPair_60 (wpR f) post t16 (nI (tk i)) (1 : Int32)))))))) → wpR (f + 1) 3 t (nI (tk i)) (nI o) post := fun r j S' hr g t ht post k => by
      refine wpR_3 (itF (nI_ge (a := o) (b := 12) (by omega) (by omega)) (C_pass hC ht hin (c := 40) (by omega) (fun _ t1 ht1 => itF (by decide) ?_) (fun e => absurd hc2 e)))
      rw [nI_1 o]
      exact g t1 ht1 _ k
    rcases P1 with ⟨j, V, Sm1, z3, h1, h2, h3, h4, h5, h6, h7, h8⟩ | ⟨j, S', h1, h2, h3, h4⟩
    · have h5 : V.length + (K.length + 1) + Sm1.length ≤ j := h5
      by_cases hcm : tk j = 44
      · have hjn : j < cnt := tk_in hC h2 (by omega)
        have hlen : (Sm1 ++ V).length = Sm1.length + V.length := List.length_append
        have P2 := IH 3 (o + 1) (j + 1) ((2000 + mof (tk i)) :: K) (Sm1 ++ V) (D + 1) 0 x4 (by omega) (by omega) (by omega) (opM _ (by omega)) hjn (by rw [hlen]; show K.length + 1 + _ ≤ j + 1; omega) h6 hx4 (Or.inl (toM _ (by omega))) (fun z => by omega) (Or.inr ⟨Nat.le_refl _, Or.inl rfl⟩)
        have m2 : ∀ post, ME σ0 b n cnt tk a post (j + 1) ((2000 + mof (tk i)) :: K) (Sm1 ++ V) 1 0 x4 → ME σ0 b n cnt tk a post i K Sm 1 x3 x4 := fun post k => m1 post (h8 post (R_comma hC hjn hcm hc (okVs_le h3 (by omega)) k))
        have hc3 : ∀ r j2 S', bz r → CG t0 (fun t post => wpR f 0 t (nI 3) (nI (o + 1)) post) (j + 1) (Sm1 ++ V) r j2 S' → ∀ t, CSt t0 t (i + 1) Sm → ∀ post : Int32 → CS → Prop, (∀ t', CSt t0 t' j2 S' → if r = 0 then (wp_Reader_readPair_59 (wpR f) post t' (nI (tk i))) else (wp_Reader_pass t' (41 : Int32) (fun r17 t16 => if r17 = 0 then (wp_Reader_readPair_59 (wpR f) post t16 (nI (tk i))) else (wp_Reader_readPair_60 (wpR f) post t16 (nI (tk i)) (1 : Int32))))) → wpR (f + 1) 3 t (nI (tk i)) (nI o) post := fun r j2 S' hr g t ht post k => by
          refine hc1 1 j _ (Or.inr rfl) h7 t ht post (fun t1 ht1 => itF (by decide) (C_pass hC ht1 h2 (c := 44) (by omega) (fun _ t2 ht2 => itF (by decide) ?_) (fun e => absurd hcm e)))
          exact g t2 ht2 _ k
        rcases P2 with ⟨j2, V', Sm2, y3, g1, g2, g3, g4, g5, g6, g7, g8⟩ | ⟨j2, S', g1, g2, g3, g4⟩
        · have g5 : V'.length + (K.length + 1) + Sm2.length ≤ j2 := g5
          by_cases hcp : tk j2 = 41
          · have hjn2 : j2 < cnt := tk_in hC g2 (by omega)
            have hlen2 : (Sm2 ++ V' ++ [tk i]).length = Sm2.length + V'.length + 1 := by
              rw [List.length_append, List.length_append]; rfl
            have hlen3 : (Sm2 ++ V').length = Sm2.length + V'.length := List.length_append
            refine Or.inl ⟨j2 + 1, [], Sm2 ++ V' ++ [tk i], y3, by omega, hjn2, fun v hv => absurd hv List.not_mem_nil, fun z => Or.inl (by omega), ?_, ?_, fun t ht post k => ?_, fun post k => m2 post (g8 post (R_rparM hC hjn2 hcp hc (okVs_le g3 (by omega)) k))⟩
            · rw [hlen2]
              show 0 + K.length + _ ≤ _
              omega
            · rw [List.append_nil]
              exact good_bin g6 (Or.inr hc)
            · refine hc3 1 j2 _ (Or.inr rfl) g7 t ht post (fun t1 ht1 => itF (by decide) (C_pass hC ht1 g2 (c := 41) (by omega) (fun _ t2 ht2 => itF (by decide) ?_) (fun e => absurd hcp e)))
              unfold wp_Reader_readPair_60
              refine itF (by decide) (C_addSt ht2 (by omega) (fun t3 ht3 => ⟨Or.inr rfl, k t3 ?_⟩))
              rw [List.append_nil]; exact ht3
          · refine Or.inr ⟨j2, Sm2 ++ V', by omega, g2, fun t ht post k => hc3 1 j2 _ (Or.inr rfl) g7 t ht post (fun t1 ht1 => itF (by decide) (C_pass hC ht1 g2 (c := 41) (by omega) (fun e => absurd e hcp) (fun _ => itT rfl (p59 (k t1 ht1))))), fun post k => m2 post (g8 post (bad_tok hC hx4 g2 (Or.inr (by omega)) g4 (Or.inr ⟨rfl, maM _ (by omega)⟩) (okVs_le g3 (by omega)) ⟨fun _ => hcp, fun z => by omega⟩ k))⟩
        · exact Or.inr ⟨j2, S', by omega, g2, fun t ht post k => hc3 0 j2 S' (Or.inl rfl) g3 t ht post (fun t1 ht1 => itT rfl (p59 (k t1 ht1))), fun post k => m2 post (g4 post k)⟩
      · exact Or.inr ⟨j, Sm1 ++ V, by omega, h2, fun t ht post k => hc1 1 j _ (Or.inr rfl) h7 t ht post (fun t1 ht1 => itF (by decide) (C_pass hC ht1 h2 (c := 44) (by omega) (fun e => absurd e hcm) (fun _ => itT rfl (p59 (k t1 ht1))))), fun post k => m1 post (h8 post (bad_tok hC hx4 h2 (Or.inr (by omega)) h4 (Or.inr ⟨rfl, maM _ (by omega)⟩) (okVs_le h3 (by omega)) ⟨fun z => by omega, fun _ => hcm⟩ k))⟩
    · exact Or.inr ⟨j, S', by omega, h2, fun t ht post k => hc1 0 j S' (Or.inl rfl) h3 t ht post (fun t1 ht1 => itT rfl (p59 (k t1 ht1))), fun post k => m1 post (h4 post k)⟩
end Prt
