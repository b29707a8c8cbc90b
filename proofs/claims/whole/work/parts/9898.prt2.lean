/-! operands, negations, parts -/
section Prt2
variable {t0 : CS} {σ0 : MS} {b : Nat → Nat} {n cnt : Nat} {tk : Nat → Nat} {a : Nat}
theorem C_nonum {t : CS} {c : Nat} (hc : ¬ 1000 ≤ c) {post : Int32 → CS → Prop} (k : post 0 t) : wp_Token_isNumber t (nI c) post := itT (nI_lt (a := c) (b := 1000) (by omega) (by omega)) k
theorem C_num1 {t : CS} {c : Nat} (hc : 1000 ≤ c) (hc2 : c < 101000) {post : Int32 → CS → Prop} (k : post 1 t) : wp_Token_isNumber t (nI c) post := itF (nI_nlt (a := c) (b := 1000) (by omega) (by omega)) k
theorem C_noname {t : CS} {c : Nat} (hc : ¬ (128 ≤ c ∧ c ≤ 140)) (hc2 : c < 101000) {post : Int32 → CS → Prop} (k : post 0 t) : wp_Token_isName t (nI c) post := itE (fun _ => k) (fun q => itE (fun _ => k) (fun q2 => by
  have h1 : ¬ c < 128 := fun z => q (nI_lt (a := c) (b := 128) z (by omega))
  have h2 : ¬ 141 ≤ c := fun z => q2 (nI_le (a := 141) (b := c) z (by omega))
  omega))
theorem C_name1 {t : CS} {c : Nat} (hc : 128 ≤ c ∧ c ≤ 140) {post : Int32 → CS → Prop} (k : post 1 t) : wp_Token_isName t (nI c) post := itF (nI_nlt (a := c) (b := 128) (by omega) (by omega)) (itF (nI_ge (a := c) (b := 141) (by omega) (by omega)) k)
theorem opd (hC : Cx t0 σ0 b n cnt tk a) {f : Nat} (IH : ∀ m, m ≤ f → PTs t0 σ0 b n cnt tk a m) {o i : Nat} {K Sm : List Nat} {D : Nat} {x3 x4 : Int32} (hf : 97 ≤ f + 8 * o) (ho : o ≤ 12) (hK : opn K = o) (hi : i ≤ cnt) (hl : K.length + Sm.length ≤ i) (hg : good Sm D) (hx4 : bz x4) (hx3 : x3 = 0 ∨ tk i ≠ 144) : OUT t0 σ0 b n cnt tk a (fun t post => wpR (f + 1) 2 t (nI o) 0 post) 6 i K Sm D x4 (fun post => ME σ0 b n cnt tk a post i K Sm 1 x3 x4) := by
  have hcn : cnt ≤ 200 := Nat.le_trans hC.2.1 hC.1.1
  have hb := tk_b hC hi
  have ne : ∀ y, y < 1000 → ¬ tk i = y → ¬ nI (tk i) = nI y := fun y hy e q => e ((nI_eq (by omega) (by omega)).mp q)
  by_cases hop : 1000 ≤ tk i ∨ (128 ≤ tk i ∧ tk i ≤ 140)
  · have hin : i < cnt := tk_in hC hi (by omega)
    have hlen : (Sm ++ [tk i]).length = Sm.length + 1 := List.length_append
    refine Or.inl ⟨i + 1, [], Sm ++ [tk i], x3, by omega, hin, fun v hv => absurd hv List.not_mem_nil, fun z => Or.inl (by omega), by rw [hlen]; show 0 + K.length + _ ≤ _; omega, ?_, fun t ht post k => ?_, fun post k => R_opnd hC hin (by omega) hop k⟩
    · rw [List.append_nil]
      exact good_push hg (by have := hg.2.2; omega) (by omega)
    · rw [List.append_nil] at k
      have h19 : wp_Reader_readOperand_19 (wpR f) post t (nI (tk i)) := C_addSt ht (by omega) (fun t1 ht1 => nm_e (k _ (C_inc ht1)))
      refine wpR_2 (C_tok hC ht hi ?_)
      by_cases z : 1000 ≤ tk i
      · exact C_num1 z hb (itF (by decide) h19)
      · exact C_nonum z (itT rfl (C_name1 (by omega) (itF (by decide) h19)))
  have hnn : ¬ 1000 ≤ tk i := fun z => hop (Or.inl z)
  have hnm : ¬ (128 ≤ tk i ∧ tk i ≤ 140) := fun z => hop (Or.inr z)
  by_cases hpr : tk i = 145 ∨ tk i = 146
  · have hin : i < cnt := tk_in hC hi (by omega)
    obtain ⟨g, hg1⟩ : ∃ g, f = g + 1 := ⟨f - 1, by omega⟩
    subst hg1
    refine OUT_lev i (by omega) (pair hC (IH g (by omega)) (x3 := x3) (by omega) ho hK hin hl hg hx4 hpr) (fun r j S2 hr q t ht post k => ?_) (fun post k => k)
    refine wpR_2 (C_tok hC ht hi (C_nonum hnn (itT rfl (C_noname hnm hb (itT rfl ?_)))))
    have h50 : wp_Reader_readOperand_50 (wpR (g + 1)) post t (nI o) (nI (tk i)) := nm_e (q _ (C_inc ht) _ (fun t' h' => ⟨hr, k t' h'⟩))
    exact itE (fun _ => h50) (fun z => itE (fun _ => h50) (fun z2 => by
      rcases hpr with e | e
      · exact absurd (by rw [e]; rfl) z
      · exact absurd (by rw [e]; rfl) z2))
  have head : ∀ t, CSt t0 t i Sm → ∀ post, (if (12 : Int32) ≤ nI o then (post (0 : Int32) t) else (wp_Reader_pass t (40 : Int32) (fun r18 t17 => if r18 = 0 then (post (0 : Int32) t17) else (wpR f 0 t17 (0 : Int32) (nI (o + 1)) (fun r21 t20 => if r21 = 0 then (post (0 : Int32) t20) else (wp_Reader_pass t20 (41 : Int32) (fun r24 t23 => if r24 = 0 then (post (0 : Int32) t23) else (post (1 : Int32) t23)))))))) → wpR (f + 1) 2 t (nI o) 0 post := fun t ht post k => by
    refine wpR_2 (C_tok hC ht hi (C_nonum hnn (itT rfl (C_noname hnm hb (itT rfl (itF (ne 145 (by omega) (fun z => hpr (Or.inl z))) (itF (ne 146 (by omega) (fun z => hpr (Or.inr z))) ?_)))))))
    rw [nI_1 o]; exact k
  by_cases hpa : tk i = 40 ∧ o < 12
  · have hin : i < cnt := tk_in hC hi (by omega)
    have P := IH f (Nat.le_refl _) 0 (o + 1) (i + 1) (5 :: K) Sm D 1 x4 (by omega) (by omega) (by omega) (by show opn K + 1 = o + 1; omega) hin (by show K.length + 1 + Sm.length ≤ i + 1; omega) hg hx4 (Or.inl (Nat.le_refl _)) (fun _ => rfl) (Or.inl ⟨by omega, rfl⟩)
    have m1 : ∀ post, ME σ0 b n cnt tk a post (i + 1) (5 :: K) Sm 1 1 x4 → ME σ0 b n cnt tk a post i K Sm 1 x3 x4 := fun post k => R_par hC hin (by omega) hpa.1 (by omega) k
    have hc1 : ∀ r j S', CG t0 (fun t post => wpR f 0 t (nI 0) (nI (o + 1)) post) (i + 1) Sm r j S' → ∀ t, CSt t0 t i Sm → ∀ post : Int32 → CS → Prop, (∀ t', CSt t0 t' j S' → if r = 0 then (post (0 : Int32) t') else (wp_Reader_pass t' (41 : Int32) (fun r24 t23 => if r24 = 0 then (post (0 : Int32) t23) else (post (1 : Int32) t23)))) → wpR (f + 1) 2 t (nI o) 0 post := fun r j S' g t ht post k => head t ht post (itF (nI_ge (a := o) (b := 12) (by omega) (by omega)) (C_pass hC ht hi (c := 40) (by omega) (fun _ t1 ht1 => itF (by decide) (g t1 ht1 _ k)) (fun e => absurd hpa.1 e)))
    rcases P with ⟨j, V, Sm1, z3, h1, h2, h3, h4, h5, h6, h7, h8⟩ | ⟨j, S', h1, h2, h3, h4⟩
    · have h5 : V.length + (K.length + 1) + Sm1.length ≤ j := h5
      by_cases hcp : tk j = 41
      · have hjn : j < cnt := tk_in hC h2 (by omega)
        have hlen : (Sm1 ++ V).length = Sm1.length + V.length := List.length_append
        refine Or.inl ⟨j + 1, [], Sm1 ++ V, z3, by omega, hjn, fun v hv => absurd hv List.not_mem_nil, fun z => Or.inl (by omega), by rw [hlen]; show 0 + K.length + _ ≤ _; omega, by rw [List.append_nil]; exact h6, fun t ht post k => ?_, fun post k => m1 post (h8 post (R_rpar hC hjn hcp (okVs_le h3 (by omega)) k))⟩
        rw [List.append_nil] at k
        exact hc1 1 j _ h7 t ht post (fun t1 ht1 => itF (by decide) (C_pass hC ht1 h2 (c := 41) (by omega) (fun _ t2 ht2 => itF (by decide) (k t2 ht2)) (fun e => absurd hcp e)))
      · exact Or.inr ⟨j, Sm1 ++ V, by omega, h2, fun t ht post k => hc1 1 j _ h7 t ht post (fun t1 ht1 => itF (by decide) (C_pass hC ht1 h2 (c := 41) (by omega) (fun e => absurd e hcp) (fun _ => itT rfl (k t1 ht1)))), fun post k => m1 post (h8 post (bad_tok hC hx4 h2 (Or.inl rfl) h4 (Or.inl rfl) (okVs_le h3 (by omega)) ⟨fun _ => hcp, fun z => by omega⟩ k))⟩
    · exact Or.inr ⟨j, S', by omega, h2, fun t ht post k => hc1 0 j S' h3 t ht post (fun t1 ht1 => itT rfl (k t1 ht1)), fun post k => m1 post (h4 post k)⟩
  · refine Or.inr ⟨i, Sm, Nat.le_refl _, hi, fun t ht post k => head t ht post (itE (fun _ => k t ht) (fun z => C_pass hC ht hi (c := 40) (by omega) (fun e => ?_) (fun _ => itT rfl (k t ht)))), fun post k => ?_⟩
    · exact absurd (nI_le (a := 12) (b := o) (by omega) (by omega)) z
    · by_cases z : tk i = 40
      · exact R_parf z (by omega) k
      · exact R_bad ⟨hnn, hnm, z, fun e => hpr (Or.inl e), fun e => hpr (Or.inr e)⟩ (by rcases hx3 with e | e; exact Or.inr e; exact Or.inl e) k
theorem neg (hC : Cx t0 σ0 b n cnt tk a) {f : Nat} (IH : PTs t0 σ0 b n cnt tk a f) {o i : Nat} {K Sm : List Nat} {D : Nat} {x3 x4 : Int32} (hf : 95 ≤ f + 8 * o) (ho : o ≤ 12) (hK : opn K = o) (hi : i ≤ cnt) (hl : K.length + Sm.length ≤ i) (hg : good Sm D) (hx4 : bz x4) (hc : tk i = 144) (hx3 : x3 = 1) : OUT t0 σ0 b n cnt tk a (fun t post => wpR (f + 1) 1 t (nI o) 0 post) 2 i K Sm D x4 (fun post => ME σ0 b n cnt tk a post i K Sm 1 x3 x4) := by
  have hcn : cnt ≤ 200 := Nat.le_trans hC.2.1 hC.1.1
  have h3 : ¬ x3 = 0 := by rw [hx3]; decide
  by_cases ho2 : o < 12
  · have hin : i < cnt := tk_in hC hi (by omega)
    have P := IH 2 (o + 1) (i + 1) (30 :: K) Sm D 1 x4 (by omega) (by omega) (by omega) (by show opn K + 1 = o + 1; omega) hin (by show K.length + 1 + Sm.length ≤ i + 1; omega) hg hx4 (Or.inr ⟨rfl, rfl⟩) (fun z => by omega) (Or.inl ⟨by omega, rfl⟩)
    have m1 : ∀ post, ME σ0 b n cnt tk a post (i + 1) (30 :: K) Sm 1 1 x4 → ME σ0 b n cnt tk a post i K Sm 1 x3 x4 := fun post k => R_not hC hin (by omega) hc h3 (by omega) k
    have hc1 : ∀ r j S', CG t0 (fun t post => wpR f 0 t (nI 2) (nI (o + 1)) post) (i + 1) Sm r j S' → ∀ t, CSt t0 t i Sm → ∀ post : Int32 → CS → Prop, (∀ t', CSt t0 t' j S' → if r = 0 then (post (0 : Int32) t') else (wp_Reader_addStep t' (144 : Int32) (fun  t6 => post (1 : Int32) t6))) → wpR (f + 1) 1 t (nI o) 0 post := fun r j S' g t ht post k => by
      refine wpR_1 (itT (nI_lt (a := o) (b := 12) ho2 (by omega)) (nm_e ?_))
      rw [nI_1 o]
      exact g _ (C_inc ht) _ k
    rcases P with ⟨j, V, Sm1, z3, h1, h2, h3, h4, h5, h6, h7, h8⟩ | ⟨j, S', h1, h2, h3, h4⟩
    · have h5 : V.length + (K.length + 1) + Sm1.length ≤ j := h5
      have hlen : (V ++ [144]).length = V.length + 1 := List.length_append
      have hlen2 : (Sm1 ++ V).length = Sm1.length + V.length := List.length_append
      refine Or.inl ⟨j, V ++ [144], Sm1, z3, by omega, h2, okVs_snoc h3 (by unfold okV; omega) (by decide), fun z => ?_, by omega, by rw [← List.append_assoc]; exact good_not h6, fun t ht post k => ?_, fun post k => m1 post (h8 post (by rw [map_snoc] at k; exact k))⟩
      · rcases h4 z with e | ⟨e1, e2, e3⟩
        · exact Or.inl e
        · exact Or.inr ⟨e1, e2, relTop_app _ e3⟩
      · rw [← List.append_assoc] at k
        exact hc1 1 j _ h7 t ht post (fun t1 ht1 => itF (by decide) (C_addSt (c := 144) ht1 (by omega) (fun t2 ht2 => k t2 ht2)))
    · exact Or.inr ⟨j, S', by omega, h2, fun t ht post k => hc1 0 j S' h3 t ht post (fun t1 ht1 => itT rfl (k t1 ht1)), fun post k => m1 post (h4 post k)⟩
  · exact Or.inr ⟨i, Sm, Nat.le_refl _, hi, fun t ht post k => wpR_1 (itF (nI_nlt (a := o) (b := 12) (by omega) (by omega)) (k t ht)), fun post k => R_notf hc h3 (by omega) k⟩
theorem parts (hC : Cx t0 σ0 b n cnt tk a) : ∀ f, PTs t0 σ0 b n cnt tk a f := by
  intro f
  induction f using Nat.strongRecOn with
  | _ f IH =>
    intro L o i K Sm D x3 x4 hf hL ho hK hi hl hg hx4 hT hmay hx3
    have hcn : cnt ≤ 200 := Nat.le_trans hC.2.1 hC.1.1
    have hb := tk_b hC hi
    obtain ⟨g, hg1⟩ : ∃ g, f = g + 2 := ⟨f - 2, by omega⟩
    subst hg1
    by_cases h6 : L = 6
    · refine OUT_map (fun t post k => wpR_0 (itF ?_ k)) (L := L) (W := fun t post => wpR (g + 1) 2 t (nI o) 0 post) ?_
      · rw [h6]; decide
      · have := opd hC (f := g) (fun m hm => IH m (by omega)) (x3 := x3) (by omega) ho hK hi hl hg hx4 (by
          rcases hx3 with e | e
          · omega
          · exact e.2)
        rw [h6]; exact this
    · by_cases hn : L = 2 ∧ tk i = 144
      · have P := neg hC (IH g (by omega)) (x3 := x3) (by omega) ho hK hi hl hg hx4 hn.2 (by
          rcases hx3 with e | e
          · exact e.2
          · omega)
        have e2 := hn.1
        subst e2
        refine OUT_lev i (Nat.le_refl _) P (fun r j S2 hr q t ht post k => wpR_0 (itT (nI_lt (a := 2) (b := 6) (by omega) (by omega)) ?_)) (fun post k => k)
        exact itT rfl (C_tok hC ht hi (itT (by rw [hn.2]; rfl) (q t ht _ (fun t' h' => ⟨hr, k t' h'⟩))))
      · have P := IH (g + 1) (by omega) (L + 1) o i K Sm D x3 x4 (by omega) (by omega) ho hK hi hl hg hx4 (Or.inl (by omega)) (fun z => hmay (by omega)) (by
          rcases hx3 with e | e
          · by_cases z : L = 2
            · exact Or.inr ⟨by omega, Or.inr (fun y => hn ⟨z, y⟩)⟩
            · exact Or.inl ⟨by omega, e.2⟩
          · exact Or.inr ⟨by omega, e.2⟩)
        have head : ∀ r j S', CG t0 (fun t post => wpR (g + 1) 0 t (nI (L + 1)) (nI o) post) i Sm r j S' → ∀ t, CSt t0 t i Sm → ∀ post : Int32 → CS → Prop, (∀ t', CSt t0 t' j S' → if r = 0 then (post (0 : Int32) t') else (if nI L = (3 : Int32) then (wp_Reader_readPart_58 (wpR (g + 1)) post t' (nI L) (nI o) (1 : Int32)) else (wp_Reader_readPart_58 (wpR (g + 1)) post t' (nI L) (nI o) (201 : Int32)))) → wpR (g + 2) 0 t (nI L) (nI o) post := fun r j S' q t ht post k => by
          have h33 : wp_Reader_readPart_33 (wpR (g + 1)) post t (nI L) (nI o) := by
            unfold wp_Reader_readPart_33
            rw [nI_1 L]
            exact q t ht _ k
          refine wpR_0 (itT (nI_lt (a := L) (b := 6) (by omega) (by omega)) (itE (fun z => C_tok hC ht hi (itF (fun y => hn ⟨?_, ?_⟩) h33)) (fun _ => h33)))
          · exact (nI_eq (a := L) (b := 2) (by omega) (by omega)).mp z
          · exact (nI_eq (a := tk i) (b := 144) (by omega) (by omega)).mp y
        rcases P with ⟨j, V, Sm1, z3, h1, h2, h3, h4, h5, h6', h7, h8⟩ | ⟨j, S', h1, h2, h3, h4⟩
        · by_cases q3 : L = 3
          · obtain ⟨nn, Q⟩ := lop hC (IH (g + 1) (by omega)) (L := L) (o := o) (K := K) (x4 := x4) (mx := 1) (by omega) ho hK (by omega) hx4 (by omega) hmay cnt j V Sm1 D z3 0 (by omega) h2 (okVs_le h3 (by omega)) h4 h5 h6' (Or.inr ⟨q3, rfl, Or.inl ⟨rfl, okVs_le h3 (by omega)⟩⟩)
            refine OUT_lev i (by omega) Q (fun r j2 S2 hr q t ht post k => head 1 j _ h7 t ht post (fun t1 ht1 => itF (by decide) (itT (by rw [q3]; rfl) ⟨nn, q t1 ht1 post k⟩))) (fun post k => h8 post k)
          · obtain ⟨nn, Q⟩ := lop hC (IH (g + 1) (by omega)) (L := L) (o := o) (K := K) (x4 := x4) (mx := 201) (by omega) ho hK (by omega) hx4 (by omega) hmay cnt j V Sm1 D z3 0 (by omega) h2 (okVs_le h3 (by omega)) h4 h5 h6' (Or.inl ⟨q3, rfl, by omega⟩)
            refine OUT_lev i (by omega) Q (fun r j2 S2 hr q t ht post k => head 1 j _ h7 t ht post (fun t1 ht1 => itF (by decide) (itF (fun z => q3 ((nI_eq (a := L) (b := 3) (by omega) (by omega)).mp z)) ⟨nn, q t1 ht1 post k⟩))) (fun post k => h8 post k)
        · exact Or.inr ⟨j, S', h1, h2, fun t ht post k => head 0 j S' h3 t ht post (fun t1 ht1 => itT rfl (k t1 ht1)), h4⟩
end Prt2
