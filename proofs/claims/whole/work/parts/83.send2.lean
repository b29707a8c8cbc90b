/-! send: the model's loop beside the class's -/
def SX (t : CS) (σ : MS) (l f a : Nat) (ch : List Nat) (i : Nat) : Prop := IZ t σ ∧ IC t ∧ IS t ∧ IPl t σ ∧ IRn t σ ∧ IMi t σ ∧ IMn t σ ∧ IRw t σ ∧ IDi t σ ∧ ITp t σ ∧ ILw t σ ∧ ILd t σ ∧ (∃ D : Nat, σ 1 0 / 600 = nI D ∧ IFu t σ D ∧ IPh t σ (47520 * (D : Int))) ∧ ∃ T, σ 1 0 = nI T ∧ T ≤ 99999 ∧ T < a ∧ a ≤ 101000 ∧ (∀ k, k < tN t 2 → k ≠ l → gng t σ T 200 k) ∧ σ 58 l = nI ch.length ∧ tT t (l + 11) = ch.take i ∧ (∀ k, k < i → σ 59 (8 * l + k) = nI (ch.getD k 0)) ∧ tF t 82 l = 1 ∧ σ 50 l = 1 ∧ σ 53 l = nI f ∧ σ 54 l = nI a ∧ tF t 81 l = nI a ∧ (∀ m ∈ ch, m < tN t 3 ∧ σ 11 m = nI f) ∧ (∀ m ∈ ch.take i, σ 16 m = nI a ∧ σ 18 m = nI l ∧ m ∉ tT t (f + 7)) ∧ ∀ m ∈ ch.drop i, m ∈ tT t (f + 7)
def mSt (σ : MS) (l : Nat) (a w : Int32) (i j : Nat) (g h : Nat → Int32) : MS := up2 (up2 (up2 (sR (sR (up2 σ 59 (8 * l + i) (nI j)) 20 g) 21 h) 16 j a) 15 j (σ 15 j + w)) 18 j (nI l)
section Send2
variable {t : CS} {σ : MS}
theorem SX_step {l f a : Nat} {ch : List Nat} {i : Nat} {w : Int32} {g h' : Nat → Int32} (hf : f < 4) (hl : l < tN t 2) (hnd : ch.Nodup) (h8 : ch.length ≤ 8) (hi : i < ch.length) (h : SX t σ l f a ch i) (ho : outR σ f ((tT t (f + 7)).eraseIdx (pos (tT t (f + 7)) (ch.getD i 0))) g h') : SX (cSt f l w t (ch.getD i 0)) (mSt σ l (nI a) w i (ch.getD i 0) g h') l f a ch (i + 1) := by
  obtain ⟨hz, hc, hs, hp, hr, hm, hn, hw, hd, htp, hlw, hld, hfu, T, e1, e2, e3, e4, hg, x58, xT, x59, x82, x50, x53, x54, x81, xm, xt, xd⟩ := h
  have hdr : ch.drop i = ch.getD i 0 :: ch.drop (i + 1) := by
    have e : ch.getD i 0 = ch[i] := by rw [List.getD_eq_getElem?_getD, List.getElem?_eq_getElem hi]; rfl
    rw [e]; exact List.drop_eq_getElem_cons hi
  have hnd2 : (ch.drop i).Nodup := List.Pairwise.sublist (List.drop_sublist _ _) hnd
  rw [hdr] at hnd2
  have hnd3 := List.nodup_cons.mp hnd2
  have hj : ch.getD i 0 ∈ tT t (f + 7) := xd _ (by rw [hdr]; exact List.mem_cons_self)
  have hjm : ch.getD i 0 ∈ ch := getD_mem hi
  obtain ⟨hj3, hj11⟩ := xm _ hjm
  have hwf := hw f hf
  have hlt : (tT t (l + 11)).length ≤ 8 := by rw [xT, List.length_take]; omega
  generalize hjj : ch.getD i 0 = j at *
  obtain ⟨o1, o2, o3, o4⟩ := ho
  refine ⟨?_, cSt_C hc (by omega) hf, ?_, hp, hr, hm, ⟨?_, ?_⟩, ?_, hd, htp, hlw, hld, hfu, T, e1, e2, e3, e4, ?_, x58, ?_, ?_, x82, x50, x53, x54, x81, xm, ?_, ?_⟩
  · unfold IZ at hz ⊢
    rw [cSt_T (by omega) (by omega), cSt_T (by omega) (by omega), cSt_T (by omega) (by omega), cSt_T (by omega) (by omega), cSt_T (by omega) (by omega)]
    exact hz
  · unfold IS at hs ⊢
    rw [cSt_T (by omega) (by omega), cSt_T (by omega) (by omega)]
    exact hs
  · intro k hk
    obtain ⟨n1, n2, n3, n4, n5, n6, n7, n8, n9, n10, n11⟩ := hn.1 k hk
    refine ⟨n1, n2, n3, n4, ?_, ?_, n7, ?_, n9, n10, n11⟩
    · show upd (tF t 101) j (tF t 101 j + w) k = upd (σ 15) j (σ 15 j + w) k
      by_cases e : k = j
      · subst e; rw [pk_us, pk_us, n5]
      · rw [pk_un e, pk_un e]; exact n5
    · show upd (tF t 102) j (tF t 81 l) k = upd (σ 16) j (nI a) k
      by_cases e : k = j
      · subst e; rw [pk_us, pk_us]; exact x81
      · rw [pk_un e, pk_un e]; exact n6
    · show upd (tF t 104) j (nI l) k = upd (σ 18) j (nI l) k
      by_cases e : k = j
      · subst e; rw [pk_us, pk_us]
      · rw [pk_un e, pk_un e]; exact n8
  · intro k hk
    obtain ⟨z1, z2, z3, z4, z5⟩ := hn.2 k hk
    have hk : tN t 3 ≤ k := hk
    have e : k ≠ j := by omega
    refine ⟨z1, ?_, ?_, z4, z5⟩
    · show upd (σ 15) j (σ 15 j + w) k = 0
      rw [pk_un e]; exact z2
    · show upd (σ 16) j (nI a) k = 0
      rw [pk_un e]; exact z3
  · intro f' hf'
    show g f' = nI (tT (cSt f l w t j) (f' + 7)).length ∧ (∀ k, k < (tT (cSt f l w t j) (f' + 7)).length → h' (60 * f' + k) = nI ((tT (cSt f l w t j) (f' + 7)).getD k 0)) ∧ (tT (cSt f l w t j) (f' + 7)).Nodup ∧ ∀ m ∈ tT (cSt f l w t j) (f' + 7), m < tN t 3 ∧ σ 11 m = nI f'
    by_cases e : f' = f
    · subst e
      rw [cSt_R hf']
      exact ⟨o1, o3, List.Pairwise.sublist (List.eraseIdx_sublist _ _) hwf.2.2.1, fun m hmm => hwf.2.2.2 m (List.mem_of_mem_eraseIdx hmm)⟩
    · rw [cSt_T (by omega) (by omega), o2 f' e]
      obtain ⟨w1, w2, w3, w4⟩ := hw f' hf'
      have hb := hz.b3
      have hl60 : (tT t (f' + 7)).length ≤ 60 := nodup_le w3 (fun x hx => Nat.lt_of_lt_of_le (w4 x hx).1 hb)
      exact ⟨w1, fun k hk => by rw [o4 f' k e (by omega)]; exact w2 k hk, w3, w4⟩
  · intro k hk hkl
    have hgk := hg k hk hkl
    have hne : tF t 82 k = 1 → ∀ m ∈ tT t (k + 11), m ≠ j := fun hfl m hm e => by
      subst e
      obtain ⟨-, -, -, -, -, q6⟩ := hgk
      rcases q6 with ⟨-, q, -⟩ | ⟨-, f2, a2, q1, -, -, -, -, q2, q3⟩
      · rw [hfl] at q; exact absurd q (by decide)
      · have : f2 = f := (nI_eq (by omega) (by omega)).mp ((q2 m hm).symm.trans hj11)
        subst this
        rcases q3 with ⟨-, -, -, q3⟩ | ⟨q, -⟩
        · exact (q3 m hm).2.2 hj
        · rw [hfl] at q; exact absurd q (by decide)
    refine gng_congr hgk rfl (fun q hq => ?_) (cSt_T (by omega) (by omega)) (Nat.le_refl _) rfl rfl rfl rfl rfl (fun _ _ => rfl) (fun hfl m hm _ => ⟨?_, ?_, fun f' hf' hx => ?_⟩)
    · show upd (σ 59) (8 * l + i) (nI j) (8 * k + q) = σ 59 (8 * k + q)
      rw [pk_un (by omega)]
    · show upd (σ 16) j (nI a) m = σ 16 m
      rw [pk_un (hne hfl m hm)]
    · show upd (σ 18) j (nI l) m = σ 18 m
      rw [pk_un (hne hfl m hm)]
    · by_cases e : f' = f
      · subst e
        rw [cSt_R hf']
        exact fun q => hx (List.mem_of_mem_eraseIdx q)
      · rw [cSt_T (by omega) (by omega)]; exact hx
  · rw [cSt_G hf, xT, take_getD_snoc hi, hjj]
  · intro k hk
    show upd (σ 59) (8 * l + i) (nI j) (8 * l + k) = nI (ch.getD k 0)
    by_cases e : k = i
    · subst e; rw [pk_us, hjj]
    · rw [pk_un (by omega)]; exact x59 k (by omega)
  · intro m hm
    rw [take_getD_snoc hi, hjj] at hm
    show upd (σ 16) j (nI a) m = nI a ∧ upd (σ 18) j (nI l) m = nI l ∧ m ∉ tT (cSt f l w t j) (f + 7)
    rw [cSt_R hf]
    by_cases e : m = j
    · subst e
      rw [pk_us, pk_us]
      exact ⟨rfl, rfl, fun q => ((mem_erz hwf.2.2.1 hj).mp q).2 rfl⟩
    · rw [pk_un e, pk_un e]
      rcases List.mem_append.mp hm with q | q
      · obtain ⟨y1, y2, y3⟩ := xt m q
        exact ⟨y1, y2, fun q => y3 (List.mem_of_mem_eraseIdx q)⟩
      · exact absurd (List.mem_singleton.mp q) e
  · intro m hm
    rw [cSt_R hf]
    exact (mem_erz hwf.2.2.1 hj).mpr ⟨xd m (by rw [hdr]; exact List.mem_cons_of_mem _ hm), fun e => hnd3.1 (e ▸ hm)⟩
theorem SX_end {l f a : Nat} {ch : List Nat} (hf : f < 4) (hl : l < tN t 2) (hnd : ch.Nodup) (h8 : ch.length ≤ 8) (hne : ch ≠ []) (h : SX t σ l f a ch ch.length) : Inv t σ := by
  obtain ⟨hz, hc, hs, hp, hr, hm, hn, hw, hd, htp, hlw, hld, hfu, T, e1, e2, e3, e4, hg, x58, xT, x59, x82, x50, x53, x54, x81, xm, xt, xd⟩ := h
  rw [List.take_length] at xT xt
  refine ⟨hz, hc, hs, hp, hr, hm, hn, hw, hd, htp, hlw, hld, ⟨T, e1, e2, fun k hk => ?_⟩, hfu⟩
  by_cases e : k = l
  · subst e
    unfold gng
    rw [xT]
    exact ⟨x58, h8, x59, hnd, fun m hm => (xm m hm).1, Or.inr ⟨hne, f, a, hf, x53, e4, x54, x81, fun m hm => (xm m hm).2, Or.inl ⟨x82, Or.inl e3, Or.inl x50, xt⟩⟩⟩
  · exact hg k hk e
theorem M_sendLoop {l f a T : Nat} {w : Int32} {ch : List Nat} (hf : f < 4) (hnd : ch.Nodup) (h8 : ch.length ≤ 8) (hne : ch ≠ []) (ha : nI T + w = nI a) : ∀ d i t σ, i + d = ch.length → l < tN t 2 → SX t σ l f a ch i → σ 1 0 = nI T → σ 60 0 = nI ch.length → tkR (σ 61) ch → wp_M_send_173 (fun v σ1 => nI ch.length = v ∧ Inv (cFo f l w t (ch.drop i)) σ1) (d + 1) σ (nI l) w (nI i) := by
  intro d
  induction d with
  | zero =>
    intro i t σ hi hl h hT h60 htk
    have e : i = ch.length := by omega
    subst e
    refine itT ?_ ⟨h60.symm, ?_⟩
    · rw [h60]; exact nI_le (Nat.le_refl _) (by omega)
    · rw [List.drop_eq_nil_of_le (Nat.le_refl _)]
      exact SX_end hf hl hnd h8 hne h
  | succ d ih =>
    intro i t σ hi hl h hT h60 htk
    have hil : i < ch.length := by omega
    obtain ⟨hz, hc, hs, hp, hr, hm, hn, hw, hd, htp, hlw, hld, hfu, T2, e1, e2, e3, e4, hg, x58, xT, x59, x82, x50, x53, x54, x81, xm, xt, xd⟩ := id h
    have hdr : ch.drop i = ch.getD i 0 :: ch.drop (i + 1) := by
      have e : ch.getD i 0 = ch[i] := by rw [List.getD_eq_getElem?_getD, List.getElem?_eq_getElem hil]; rfl
      rw [e]; exact List.drop_eq_getElem_cons hil
    have hb2 := hz.b2
    have hb3 := hz.b3
    obtain ⟨hj3, hj11⟩ := xm _ (getD_mem hil)
    have hj : ch.getD i 0 ∈ tT t (f + 7) := xd _ (by rw [hdr]; exact List.mem_cons_self)
    have hcj : (nI (ch.getD i 0)).toNatClampNeg = ch.getD i 0 := nI_clamp (by omega)
    have hvj : vp_in (nI (ch.getD i 0)) 60 := vp_in_nI (by omega) (by omega)
    have hrow := IRw.row hz hw hf
    refine itF ?_ ⟨vp_in_nI (by omega) (by omega), ?_⟩
    · rw [h60]; exact nI_ge hil (by omega)
    rw [nI_clamp (n := i) (by omega), htk i hil]
    refine nm_e ?_
    rw [i8, nI_clamp (n := 8 * l + i) (by omega)]
    refine ⟨vp_in_nI (by omega) (by omega), nm_e ?_⟩
    refine M_goesOut (σ := up2 σ 59 (8 * l + i) (nI (ch.getD i 0))) hf (by omega) hj11 hrow hj (fun g h' ho => ⟨hvj, ?_⟩)
    rw [hcj]
    refine nm_e ⟨hvj, hvj, ?_⟩
    refine nm_e ⟨hvj, ?_⟩
    refine nm_e ?_
    rintro x14 rfl
    rw [nI_1]
    have hst := SX_step (w := w) hf hl hnd h8 hil h ho
    have es : up2 (up2 (up2 (sR (sR (up2 σ 59 (8 * l + i) (nI (ch.getD i 0))) 20 g) 21 h') 16 (ch.getD i 0) (σ 1 0 + w)) 15 (ch.getD i 0) (σ 15 (ch.getD i 0) + w)) 18 (ch.getD i 0) (nI l) = mSt σ l (nI a) w i (ch.getD i 0) g h' := by
      unfold mSt
      rw [hT, ha]
    show wp_M_send_173 _ (d + 1) (up2 (up2 (up2 (sR (sR (up2 σ 59 (8 * l + i) (nI (ch.getD i 0))) 20 g) 21 h') 16 (ch.getD i 0) (σ 1 0 + w)) 15 (ch.getD i 0) (σ 15 (ch.getD i 0) + w)) 18 (ch.getD i 0) (nI l)) (nI l) w (nI (i + 1))
    rw [es, hdr]
    exact ih (i + 1) _ _ (by omega) hl hst hT h60 htk
end Send2
