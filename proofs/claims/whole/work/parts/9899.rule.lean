/-! rules, and the whole text -/
section Rle
variable {t0 : CS} {σ0 : MS} {b : Nat → Nat} {n cnt : Nat} {tk : Nat → Nat} {a : Nat}
theorem bad_tok0 (hC : Cx t0 σ0 b n cnt tk a) {j L : Nat} {V Sm : List Nat} {x3 x4 : Int32} {post : Int32 → MS → Prop} (hx4 : bz x4) (hS : StpT L V (tk j)) (hL : (L = 0 ∧ ¬ x4 = 0) ∨ (L = 3 ∧ x4 = 0)) (hV : okVs V 1) (h0 : tk j ≠ 0) (h59 : tk j ≠ 59) (h141 : x4 = 0 → tk j ≠ 141) (k : FA σ0 b n cnt tk a post j) : ME σ0 b n cnt tk a post j (V.map mof ++ []) Sm 0 x3 x4 := by
  by_cases h1 : tk j = 141
  · exact R_iff hC h1 (fun z => h141 z h1) hV k
  by_cases h2 : tk j = 41
  · exact R_rpar0 hC h2 hV k
  by_cases h3 : tk j = 44
  · exact R_comma0 hC h3 hV k
  refine R_rej hC hx4 ⟨h0, h2, h3, h59, h1⟩ hV (fun z => ?_) k
  have hlc := lv_cases (tk j)
  rcases hS z with e | ⟨e1, e2, e3⟩
  · rcases hL with e4 | e4
    · omega
    · exact Or.inl ⟨by omega, e4.2⟩
  · exact Or.inr ⟨e1, e3⟩
theorem rule (hC : Cx t0 σ0 b n cnt tk a) {i : Nat} {Sm : List Nat} (hi : i ≤ cnt) (hl : Sm.length ≤ i) (hg : good Sm 0) :
    (∃ j V Sm' x3 x4 c, i ≤ j ∧ j ≤ cnt ∧ okVs V 1 ∧ ((x4 = 0 ∧ c = 1) ∨ (¬ x4 = 0 ∧ c = 141)) ∧ good (Sm' ++ V ++ [c]) 0 ∧ V.length + Sm'.length ≤ j ∧ (∀ post, tk j ≠ 0 → tk j ≠ 59 → FA σ0 b n cnt tk a post j → ME σ0 b n cnt tk a post j (V.map mof ++ []) Sm' 0 x3 x4) ∧ CG t0 wp_Reader_readRule i Sm 1 j (Sm' ++ V ++ [c]) ∧ ∀ post, ME σ0 b n cnt tk a post j (V.map mof ++ []) Sm' 0 x3 x4 → ME σ0 b n cnt tk a post i [] Sm 1 0 0) ∨
    (∃ j S', i ≤ j ∧ j ≤ cnt ∧ CG t0 wp_Reader_readRule i Sm 0 j S' ∧ ∀ post, FA σ0 b n cnt tk a post j → ME σ0 b n cnt tk a post i [] Sm 1 0 0) := by
  have hcn : cnt ≤ 200 := Nat.le_trans hC.2.1 hC.1.1
  have P := parts hC 200 3 0 i [] Sm 0 0 0 (by omega) (by omega) (by omega) rfl hi (by rw [List.length_nil]; omega) hg (Or.inl rfl) (Or.inl (Nat.zero_le _)) (fun z => by omega) (Or.inr ⟨Nat.le_refl _, Or.inl rfl⟩)
  have hc1 : ∀ r j S', CG t0 (fun t post => wpR 200 0 t (nI 3) (nI 0) post) i Sm r j S' → ∀ t, CSt t0 t i Sm → ∀ post : Int32 → CS → Prop, (∀ t', CSt t0 t' j S' → if r = 0 then (post (0 : Int32) t') else (wp_Reader_pass t' (141 : Int32) (fun r5 t4 => if r5 = 0 then (wp_Reader_addStep t4 (1 : Int32) (fun  t11 => post (1 : Int32) t11)) else (wpR 200 0 t4 (0 : Int32) (0 : Int32) (fun r8 t7 => if r8 = 0 then (post (0 : Int32) t7) else (wp_Reader_addStep t7 (141 : Int32) (fun  t10 => post (1 : Int32) t10))))))) → wp_Reader_readRule t post := fun r j S' g t ht post k => g t ht _ k
  rcases P with ⟨j, V, Sm1, z3, h1, h2, h3, h4, h5, h6, h7, h8⟩ | ⟨j, S', h1, h2, h3, h4⟩
  · rw [List.length_nil] at h5
    have hlen : (Sm1 ++ V).length = Sm1.length + V.length := List.length_append
    by_cases hif : tk j = 141
    · have hjn : j < cnt := tk_in hC h2 (by omega)
      have P2 := parts hC 200 0 0 (j + 1) [] (Sm1 ++ V) 1 1 1 (by omega) (by omega) (by omega) rfl hjn (by rw [List.length_nil, hlen]; omega) h6 (Or.inr rfl) (Or.inl (Nat.le_refl _)) (fun z => rfl) (Or.inl ⟨by omega, rfl⟩)
      have m1 : ∀ post, ME σ0 b n cnt tk a post (j + 1) [] (Sm1 ++ V) 1 1 1 → ME σ0 b n cnt tk a post i [] Sm 1 0 0 := fun post k => h8 post (R_if hC hjn hif rfl (okVs_le h3 (by omega)) k)
      have hc2 : ∀ r j2 S', CG t0 (fun t post => wpR 200 0 t (nI 0) (nI 0) post) (j + 1) (Sm1 ++ V) r j2 S' → ∀ t, CSt t0 t i Sm → ∀ post : Int32 → CS → Prop, (∀ t', CSt t0 t' j2 S' → if r = 0 then (post (0 : Int32) t') else (wp_Reader_addStep t' (141 : Int32) (fun  t10 => post (1 : Int32) t10))) → wp_Reader_readRule t post := fun r j2 S' g t ht post k => hc1 1 j _ h7 t ht post (fun t1 ht1 => itF (by decide) (C_pass hC ht1 h2 (c := 141) (by omega) (fun _ t2 ht2 => itF (by decide) (g t2 ht2 _ k)) (fun e => absurd hif e)))
      rcases P2 with ⟨j2, V2, Sm2, y3, g1, g2, g3, g4, g5, g6, g7, g8⟩ | ⟨j2, S', g1, g2, g3, g4⟩
      · rw [List.length_nil] at g5
        have hlen2 : (Sm2 ++ V2).length = Sm2.length + V2.length := List.length_append
        refine Or.inl ⟨j2, V2, Sm2, y3, 1, 141, by omega, g2, g3, Or.inr ⟨by decide, rfl⟩, good_if g6, by omega, fun post e1 e2 k => bad_tok0 hC (Or.inr rfl) g4 (Or.inl ⟨rfl, by decide⟩) g3 e1 e2 (fun z => absurd z (by decide)) k, fun t ht post k => hc2 1 j2 _ g7 t ht post (fun t1 ht1 => itF (by decide) (C_addSt (c := 141) ht1 (by omega) (fun t2 ht2 => k t2 ht2))), fun post k => m1 post (g8 post k)⟩
      · exact Or.inr ⟨j2, S', by omega, g2, fun t ht post k => hc2 0 j2 S' g3 t ht post (fun t1 ht1 => itT rfl (k t1 ht1)), fun post k => m1 post (g4 post k)⟩
    · have hV1 := okVs_le h3 (show 1 ≤ 3 + 1 by omega)
      exact Or.inl ⟨j, V, Sm1, z3, 0, 1, h1, h2, hV1, Or.inl ⟨rfl, rfl⟩, good_give h6, by omega, fun post e1 e2 k => bad_tok0 hC (Or.inl rfl) h4 (Or.inr ⟨rfl, rfl⟩) hV1 e1 e2 (fun _ => hif) k, fun t ht post k => hc1 1 j _ h7 t ht post (fun t1 ht1 => itF (by decide) (C_pass hC ht1 h2 (c := 141) (by omega) (fun e => absurd e hif) (fun _ => itT rfl (C_addSt (c := 1) ht1 (by omega) (fun t2 ht2 => k t2 ht2))))), h8⟩
  · exact Or.inr ⟨j, S', h1, h2, fun t ht post k => hc1 0 j S' h3 t ht post (fun t1 ht1 => itT rfl (k t1 ht1)), h4⟩
theorem rd63f (hC : Cx t0 σ0 b n cnt tk a) {t : CS} {j : Nat} {S : List Nat} {x : Int32} {post : Int32 → CS → Prop} (ht : CSt t0 t j S) (hj : j ≤ cnt) (hx : x = 0 ∨ tk j ≠ 0) (k : post (nI (ps b n j)) t) : wp_Reader_read_63 post t x := by
  have hb := tk_b hC hj
  refine itE (fun _ => C_start hC ht hj k) (fun z => C_tok hC ht hj (itF (fun q => ?_) (C_start hC ht hj k)))
  rcases hx with e | e
  · exact z e
  · exact e ((nI_eq (a := tk j) (b := 0) (by omega) (by omega)).mp q)
theorem rd22f (hC : Cx t0 σ0 b n cnt tk a) {t : CS} {j nn : Nat} {S : List Nat} {x q : Int32} {post : Int32 → CS → Prop} (ht : CSt t0 t j S) (hj : j ≤ cnt) (hx : x = 0 ∨ (tk j ≠ 0 ∧ tk j ≠ 59)) (k : post (nI (ps b n j)) t) : wp_Reader_read_22 post (nn + 1) t x q := by
  have hb := tk_b hC hj
  have h63 : wp_Reader_read_63 post t x := rd63f hC ht hj (by rcases hx with e | e; exact Or.inl e; exact Or.inr e.1) k
  refine itE (fun _ => h63) (fun _ => itE (fun _ => h63) (fun z => C_tok hC ht hj (itF (fun y => ?_) h63)))
  rcases hx with e | e
  · exact z e
  · exact e.2 ((nI_eq (a := tk j) (b := 59) (by omega) (by omega)).mp y)
theorem rd22e (hC : Cx t0 σ0 b n cnt tk a) {t : CS} {j nn : Nat} {S : List Nat} {x q : Int32} {post : Int32 → CS → Prop} (ht : CSt t0 t j S) (hj : j ≤ cnt) (hx : ¬ x = 0) (h0 : tk j = 0) (k : post (-1) t) : wp_Reader_read_22 post (nn + 1) t x q := by
  have h63 : wp_Reader_read_63 post t x := itF hx (C_tok hC ht hj (itT (by rw [h0]; rfl) k))
  refine itE (fun _ => h63) (fun _ => itF hx (C_tok hC ht hj (itF ?_ h63)))
  rw [h0]; decide
theorem rd22s (hC : Cx t0 σ0 b n cnt tk a) {t : CS} {j nn q : Nat} {S : List Nat} {x : Int32} {post : Int32 → CS → Prop} (ht : CSt t0 t j S) (hj : j ≤ cnt) (hx : ¬ x = 0) (hq : q < 201) (h0 : tk j = 59) (k : ∀ t', CSt t0 t' (j + 1) S → wp_Reader_readRule t' (fun r t1 => wp_Reader_read_22 post nn t1 r (nI (q + 1)))) : wp_Reader_read_22 post (nn + 1) t x (nI q) := by
  refine itF (nI_ge (a := q) (b := 201) hq (by omega)) (itF hx (C_tok hC ht hj (itT (by rw [h0]; rfl) (nm_e ?_))))
  have k := k _ (C_inc ht)
  rw [← nI_1 q] at k
  have e : (fun (r : Int32) (t1 : CS) => wp_Reader_read_22 post nn t1 r (nI q + 1)) = (fun r14 t13 => ∀ x15 : Int32, x15 = nI q + (1 : Int32) → (wp_Reader_read_22 post nn t13 r14 x15)) := by
    funext r t1
    exact propext ⟨fun h x e => by rw [e]; exact h, fun h => h _ rfl⟩
  rw [e] at k
  exact k
theorem rules (hC : Cx t0 σ0 b n cnt tk a) : ∀ d i Sm q, cnt - i ≤ d → i ≤ cnt → Sm.length ≤ i → good Sm 0 → q ≤ i → ∃ nn,
    (∃ S, good S 0 ∧ S.length ≤ cnt + 1 ∧ CG t0 (fun t post => wp_Reader_readRule t (fun r t1 => wp_Reader_read_22 post nn t1 r (nI q))) i Sm (-1) cnt S ∧ ∀ post, (∀ σ, MSt σ0 b n cnt tk a σ cnt [] S → post (-1) σ) → ME σ0 b n cnt tk a post i [] Sm 1 0 0) ∨
    (∃ j S', j ≤ cnt ∧ CG t0 (fun t post => wp_Reader_readRule t (fun r t1 => wp_Reader_read_22 post nn t1 r (nI q))) i Sm (nI (ps b n j)) j S' ∧ ∀ post, FA σ0 b n cnt tk a post j → ME σ0 b n cnt tk a post i [] Sm 1 0 0) := by
  have hcn : cnt ≤ 200 := Nat.le_trans hC.2.1 hC.1.1
  intro d
  induction d using Nat.strongRecOn with
  | _ d ih =>
    intro i Sm q hd hi hl hg hq
    rcases rule hC hi hl hg with ⟨j, V, Sm', x3, x4, c, h1, h2, h3, h4, h5, h6, h7, h8, h9⟩ | ⟨j, S', h1, h2, h3, h4⟩
    · have hlen : (Sm' ++ V ++ [c]).length = Sm'.length + V.length + 1 := by
        rw [List.length_append, List.length_append]; rfl
      by_cases e0 : tk j = 0
      · have ej : j = cnt := by
          by_cases z : j < cnt
          · have := (hC.2.2.2.2.1 j z).2.2.1
            unfold okTk at this
            omega
          · omega
        subst ej
        exact ⟨1, Or.inl ⟨_, h5, by rw [hlen]; omega, fun t ht post k => h8 t ht _ (fun t1 ht1 => rd22e hC ht1 h2 (by decide) e0 (k t1 ht1)), fun post k => h9 post (R_end hC e0 h3 (by omega) h4 k)⟩⟩
      by_cases e59 : tk j = 59
      · have hjn : j < cnt := tk_in hC h2 e0
        have hs : ∀ post, ME σ0 b n cnt tk a post (j + 1) [] (Sm' ++ V ++ [c]) 1 0 0 → ME σ0 b n cnt tk a post i [] Sm 1 0 0 := fun post k => h9 post (R_semi hC hjn e59 h3 (by omega) h4 k)
        obtain ⟨nn, P⟩ := ih (cnt - (j + 1)) (by omega) (j + 1) (Sm' ++ V ++ [c]) (q + 1) (Nat.le_refl _) hjn (by rw [hlen]; omega) h5 (by omega)
        refine ⟨nn + 1, ?_⟩
        rcases P with ⟨S, g1, g2, g3, g4⟩ | ⟨j2, S', g1, g2, g3⟩
        · exact Or.inl ⟨S, g1, g2, fun t ht post k => h8 t ht _ (fun t1 ht1 => rd22s hC ht1 h2 (by decide) (by omega) e59 (fun t2 ht2 => g3 t2 ht2 post k)), fun post k => hs post (g4 post k)⟩
        · exact Or.inr ⟨j2, S', g1, fun t ht post k => h8 t ht _ (fun t1 ht1 => rd22s hC ht1 h2 (by decide) (by omega) e59 (fun t2 ht2 => g2 t2 ht2 post k)), fun post k => hs post (g3 post k)⟩
      · exact ⟨1, Or.inr ⟨j, _, h2, fun t ht post k => h8 t ht _ (fun t1 ht1 => rd22f hC ht1 h2 (Or.inr ⟨e0, e59⟩) (k t1 ht1)), fun post k => h9 post (h7 post e0 e59 k)⟩⟩
    · exact ⟨1, Or.inr ⟨j, S', h2, fun t ht post k => h3 t ht _ (fun t1 ht1 => rd22f hC ht1 h2 (Or.inl rfl) (k t1 ht1)), h4⟩⟩
end Rle
