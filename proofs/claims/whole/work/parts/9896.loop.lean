/-! a row of operators of one level -/
def PTs (t0 : CS) (σ0 : MS) (b : Nat → Nat) (n cnt : Nat) (tk : Nat → Nat) (a : Nat) (f : Nat) : Prop := ∀ (L o i : Nat) (K Sm : List Nat) (D : Nat) (x3 x4 : Int32), 105 ≤ f + 8 * o + L → L ≤ 6 → o ≤ 12 → opn K = o → i ≤ cnt → K.length + Sm.length ≤ i → good Sm D → bz x4 → (topT K ≤ L ∨ (L = 2 ∧ topT K = 3)) → (L ≤ 1 → may x4 K = 1) → ((L ≤ 2 ∧ x3 = 1) ∨ (3 ≤ L ∧ (x3 = 0 ∨ tk i ≠ 144))) → OUT t0 σ0 b n cnt tk a (fun t post => wpR f 0 t (nI L) (nI o) post) L i K Sm D x4 (fun post => ME σ0 b n cnt tk a post i K Sm 1 x3 x4)
section Lop
variable {t0 : CS} {σ0 : MS} {b : Nat → Nat} {n cnt : Nat} {tk : Nat → Nat} {a : Nat}
theorem map_snoc (V K : List Nat) (c : Nat) : (V ++ [c]).map mof ++ K = V.map mof ++ (mof c :: K) := by
  rw [List.map_append, List.append_assoc]; rfl
theorem lop (hC : Cx t0 σ0 b n cnt tk a) {f : Nat} (IH : PTs t0 σ0 b n cnt tk a f) {L o : Nat} {K : List Nat} {x4 : Int32} (hL : L ≤ 5) (ho : o ≤ 12) (hK : opn K = o) (hf : 105 ≤ f + 8 * o + (L + 1)) (hx4 : bz x4) (hT : topT K ≤ L ∨ L = 2) (hmay : L ≤ 1 → may x4 K = 1) {mx : Nat} : ∀ d i V Sm D x3 q, cnt - i ≤ d → i ≤ cnt → okVs V (L + 1) → StpT (L + 1) V (tk i) → V.length + K.length + Sm.length ≤ i → good (Sm ++ V) (D + 1) → ((L ≠ 3 ∧ mx = 201 ∧ q ≤ i) ∨ (L = 3 ∧ mx = 1 ∧ ((q = 0 ∧ okVs V 5) ∨ (q = 1 ∧ relTop V)))) → ∃ nn, OUT t0 σ0 b n cnt tk a (fun t post => wp_Reader_readPart_62 (wpR f) post nn t (nI L) (nI o) (nI mx) (nI q)) L i K (Sm ++ V) D x4 (fun post => ME σ0 b n cnt tk a post i (V.map mof ++ K) Sm 0 x3 x4) := by
  intro d
  induction d with
  | zero =>
    intro i V Sm D x3 q hd hi hV hS hl hg hq
    have hcn : cnt ≤ 200 := Nat.le_trans hC.2.1 hC.1.1
    have e : i = cnt := by omega
    have hlv : lv (tk i) = 9 := by rw [e, hC.2.2.2.2.2.1]; decide
    have hb := tk_b hC hi
    refine ⟨1, Or.inl ⟨i, V, Sm, x3, Nat.le_refl _, hi, hV, fun z => by omega, hl, hg, fun t ht post k => ?_, fun post k => k⟩⟩
    refine itE (fun _ => k t ht) (fun _ => C_tok hC ht hi (C_lev hb (itF ?_ (k t ht))))
    rw [if_neg (by omega)]
    exact fun z => nI_pos (n := L) (by omega) (by rw [← z]; decide)
  | succ d ih =>
    intro i V Sm D x3 q hd hi hV hS hl hg hq
    have hcn : cnt ≤ 200 := Nat.le_trans hC.2.1 hC.1.1
    have hb := tk_b hC hi
    by_cases hx : mx ≤ q
    · refine ⟨1, Or.inl ⟨i, V, Sm, x3, Nat.le_refl _, hi, hV, fun z => ?_, hl, hg, fun t ht post k => itT (nI_le hx (by omega)) (k t ht), fun post k => k⟩⟩
      rcases hq with e | ⟨e1, e2, e3 | e3⟩
      · omega
      · omega
      · have := hS z
        by_cases q3 : lv (tk i) = 3
        · exact Or.inr ⟨q3, by omega, e3.2⟩
        · left; omega
    · by_cases hlv : lv (tk i) = L
      · have hin : i < cnt := by
          by_cases z : i < cnt
          · exact z
          · have e : i = cnt := by omega
            have : lv (tk i) = 9 := by rw [e, hC.2.2.2.2.2.1]; decide
            omega
        have hlc := lv_cases (tk i)
        have hL2 : L ≠ 2 := by omega
        have hok := lv_ok (c := tk i) (by omega)
        have hmm := okV_m hok.1
        obtain ⟨y3, hy3⟩ : ∃ y3 : Int32, (lv (tk i) ≤ 1 ∧ y3 = 1) ∨ (3 ≤ lv (tk i) ∧ y3 = 0) := by
          by_cases z : lv (tk i) ≤ 1
          · exact ⟨1, Or.inl ⟨z, rfl⟩⟩
          · exact ⟨0, Or.inr ⟨by omega, rfl⟩⟩
        have hlen : (Sm ++ V).length = Sm.length + V.length := List.length_append
        have hopn : opn (mof (tk i) :: K) = o := by
          show opn K + (if mof (tk i) = 5 ∨ mof (tk i) = 30 ∨ 1000 ≤ mof (tk i) then 1 else 0) = o
          have h1 := mof_cases (tk i)
          rw [if_neg (by omega)]; exact hK
        have hmay2 : L + 1 ≤ 1 → may x4 (mof (tk i) :: K) = 1 := fun z => by
          show (if mof (tk i) = 5 then 1 else if mof (tk i) < 1000 then may x4 K else 0) = 1
          rw [if_neg (by omega), if_pos (by omega)]
          exact hmay (by omega)
        have P := IH (L + 1) o (i + 1) (mof (tk i) :: K) (Sm ++ V) (D + 1) y3 x4 hf (by omega) ho hopn (by omega) (by rw [hlen]; show K.length + 1 + _ ≤ _; omega) hg hx4 (Or.inl (by show tl (mof (tk i)) ≤ L + 1; omega)) hmay2 (by
          rcases hy3 with e | e
          · exact Or.inl ⟨by omega, e.2⟩
          · exact Or.inr ⟨by omega, Or.inl e.2⟩)
        have mst : ∀ post, ME σ0 b n cnt tk a post (i + 1) (mof (tk i) :: K) (Sm ++ V) 1 y3 x4 → ME σ0 b n cnt tk a post i (V.map mof ++ K) Sm 0 x3 x4 := fun post k => by
          refine R_op hC hin (by omega) (by omega) (by rw [hlv]; exact hV) (fun e => ?_) (by rcases hT with e | e <;> omega) hx4 (fun z => hmay (by omega)) hy3 k
          rcases hq with e2 | ⟨e1, e2, e3 | e3⟩
          · omega
          · exact e3.2
          · omega
        rcases P with ⟨j, V2, Sm2, z3, h1, h2, h3, h4, h5, h6, h7, h8⟩ | ⟨j, S', h1, h2, h3, h4⟩
        · have h5 : V2.length + (K.length + 1) + Sm2.length ≤ j := h5
          have hg2 : good (Sm2 ++ (V2 ++ [tk i])) (D + 1) := by
            rw [← List.append_assoc]
            exact good_bin h6 (Or.inl (by omega))
          have hlen2 : (V2 ++ [tk i]).length = V2.length + 1 := List.length_append
          have hlen3 : (Sm2 ++ V2).length = Sm2.length + V2.length := List.length_append
          obtain ⟨nn, Q⟩ := ih j (V2 ++ [tk i]) Sm2 D z3 (q + 1) (by omega) h2 (okVs_snoc (okVs_le h3 (by omega)) hok.1 (by omega)) (fun z => by
            rcases h4 z with e | ⟨e1, e2, e3⟩
            · exact Or.inl e
            · exact Or.inr ⟨e1, e2, relTop_app _ e3⟩) (by omega) hg2 (by
            rcases hq with e2 | ⟨e1, e2, e3 | e3⟩
            · exact Or.inl ⟨e2.1, e2.2.1, by omega⟩
            · refine Or.inr ⟨e1, e2, Or.inr ⟨by omega, V2, tk i, [], rfl, okVs_le h3 (by omega), by omega⟩⟩
            · omega)
          refine ⟨nn + 1, OUT_lev i (by omega) Q (fun r j2 S2 _ g t ht post k => ?_) (fun post k => mst post (h8 post (by rw [map_snoc] at k; exact k)))⟩
          refine itF (nI_ge (Nat.lt_of_not_le hx) (by omega)) (C_tok hC ht hi (C_lev hb (itT ?_ (C_tok hC ht hi (nm_e ?_)))))
          · rw [if_pos (by omega), hlv]
          rw [nI_1 L]
          refine h7 _ (C_inc ht) _ (fun t1 ht1 => itF (by decide) (C_addSt ht1 (by omega) (fun t2 ht2 => nm_r (nI_1 q) (g t2 ?_ post k))))
          rw [List.append_assoc] at ht2
          exact ht2
        · refine ⟨1, Or.inr ⟨j, S', by omega, h2, fun t ht post k => ?_, fun post k => mst post (h4 post k)⟩⟩
          refine itF (nI_ge (Nat.lt_of_not_le hx) (by omega)) (C_tok hC ht hi (C_lev hb (itT ?_ (C_tok hC ht hi (nm_e ?_)))))
          · rw [if_pos (by omega), hlv]
          rw [nI_1 L]
          exact h3 _ (C_inc ht) _ (fun t1 ht1 => itT rfl (k t1 ht1))
      · refine ⟨1, Or.inl ⟨i, V, Sm, x3, Nat.le_refl _, hi, hV, fun z => ?_, hl, hg, fun t ht post k => ?_, fun post k => k⟩⟩
        · rcases hS z with e | ⟨e1, e2, e3⟩
          · left; omega
          · exact Or.inr ⟨e1, by omega, e3⟩
        · refine itF (nI_ge (Nat.lt_of_not_le hx) (by omega)) (C_tok hC ht hi (C_lev hb (itF ?_ (k t ht))))
          by_cases z : lv (tk i) ≤ 5
          · rw [if_pos z]
            exact fun e => hlv ((nI_eq (by omega) (by omega)).mp e)
          · rw [if_neg z]
            exact fun z => nI_pos (n := L) (by omega) (by rw [← z]; decide)
end Lop
