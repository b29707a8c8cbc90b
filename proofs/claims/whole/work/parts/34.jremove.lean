/-! ArrayList: remove (gen/jlist4.txt) -/
abbrev rmF : Room := { frames := 1, cells := 0, slots := 0, locals := 200 }
abbrev rmRm : Room := { frames := 3, cells := 0, slots := 0, locals := 300 }
theorem vcomm {f : Nat → va_E} {a d : Nat} (h : a ≠ d) (X0 X Y R1 : va_E) : va_up (va_up (va_up (va_up f a X0) d R1) a X) d Y = va_up (va_up f a X) d Y := funext (fun j => by
  by_cases hd : j = d
  · rw [hd, va_up_self, va_up_self]
  · rw [va_up_ne _ _ hd, va_up_ne _ _ hd]
    by_cases ha : j = a
    · rw [ha, va_up_self, va_up_self]
    · rw [va_up_ne _ _ ha, va_up_ne _ _ ha, va_up_ne _ _ hd, va_up_ne _ _ ha])
theorem obj_ne_row {Z : Nat → ClassId} {f : Nat → va_E} {a d cap ci : Nat} {fs : List Value} {row : Nat → Option Nat} (h1 : f a = .inr (ci, fs)) (h2 : f d = cRow Z cap row) : a ≠ d := fun q => by
  rw [q, h2] at h1
  unfold cRow at h1
  cases h1
set_option maxHeartbeats 4000000 in
set_option maxRecDepth 100000 in
theorem c_fastRemove (l : Launch) (D : va_G) (Z : Nat → ClassId) (E : Nat → Nat) (L : List Nat) (f : Nat → va_E) {a d cap q : Nat} {md : Int32} {row : Nat → Option Nat} (j : Nat) (ha : a ∈ L) (hf : f a = .inr (0, [.int md, .ref d, .int (nI (q + 1))])) (hd : d ∈ L) (hfd : f d = cRow Z cap row) (hj : j < q + 1) (hn : q + 1 ≤ cap) (hb31 : q + 1 < 2 ^ 31) (hel : ∀ m, m < q + 1 → ∀ y, row m = some y → okE L f y) (sz : Nat) : Met l yJx4a65c_fastRemove_b59b0 (Wd yJx4a65c_fastRemove_b59b0 cJx4a65c_fastRemove_b59b0 4 none) rmF (va_Pc [.ref a, .ref d, .int (nI j)] (pPre D Z E L f sz)) (va_Qv (fun (u : P2) => ∃ row', u = (L, va_up (va_up f a (.inr (0, [.int (md + 1), .ref d, .int (nI q)]))) d (cRow Z cap row')) ∧ ∀ m, m < q → row' m = if m < j then row m else row (m + 1)) (pPost D Z (cAs L sz)) (cAs L sz)) 0 0 (cAs L sz) := by
  refine pMet (Qc := fun A => va_Qv (fun (u : P2) => ∃ row', u = (L, va_up (va_up f a (.inr (0, [.int (md + 1), .ref d, .int (nI q)]))) d (cRow Z cap row')) ∧ ∀ m, m < q → row' m = if m < j then row m else row (m + 1)) (pPost D Z A) A) (by decide) rfl _ (Nat.le_of_ble_eq_true rfl) (fun p e s m args below meth c A C hr hk ls hl hH => ?_) sz
  obtain ⟨⟨hx, hb, hml, hown, hts⟩, hK⟩ := id C
  have hl : lv_has ls 4 [(0, .ref a), (1, .ref d), (2, .int (nI j))] := hl
  have had : a ≠ d := obj_ne_row hf hfd
  refine lv_aload_n hx hb dJx4a65c_fastRemove_b59b0_0 rfl (lv_at hl 0 rfl) ?_
  refine lv_dup hx hb dJx4a65c_fastRemove_b59b0_1 rfl ?_
  refine pg C hH ha hf (T := TJx4a65c) (N := 3) rfl ixJx4a65c 0 (by decide) rfl wd_50 (u_same (hts _ wd_51)) rfl dJx4a65c_fastRemove_b59b0_2 ?_
  refine lv_iconst (v := 1) hx hb dJx4a65c_fastRemove_b59b0_5 (by decide) ?_
  refine lv_iadd hx hb dJx4a65c_fastRemove_b59b0_6 ?_
  refine pp C hH ha hf (T := TJx4a65c) (N := 3) rfl ixJx4a65c tyJx4a65c tyJx4a65c_ok nmJx4a65c 0 (by decide) rfl wd_50 (u_same (hts _ wd_51)) pfI rfl rfl (Nat.le_of_ble_eq_true rfl) dJx4a65c_fastRemove_b59b0_7 (fun H locs hH => ?_)
  have hH : PH D A s.heap L (va_up f a (.inr (0, [.int (md + 1), .ref d, .int (nI (q + 1))]))) H locs := hH
  have hf1 := va_up_self f a (.inr (0, [.int (md + 1), .ref d, .int (nI (q + 1))]))
  have hfd1 : va_up f a (.inr (0, [.int (md + 1), .ref d, .int (nI (q + 1))])) d = cRow Z cap row := by rw [va_up_ne _ _ had.symm]; exact hfd
  refine lv_aload_n hx hb dJx4a65c_fastRemove_b59b0_10 rfl (lv_at hl 0 rfl) ?_
  refine pg C hH ha hf1 (T := TJx4a65c) (N := 3) rfl ixJx4a65c 2 (by decide) rfl wd_48 (fun _ h => h) rfl dJx4a65c_fastRemove_b59b0_11 ?_
  refine lv_iconst (v := 1) hx hb dJx4a65c_fastRemove_b59b0_14 (by decide) ?_
  refine lv_isub hx hb dJx4a65c_fastRemove_b59b0_15 ?_
  rw [nI_pred]
  refine lv_dup hx hb dJx4a65c_fastRemove_b59b0_16 rfl ?_
  refine lv_istore_n (lv' := [(3, .int (nI q)), (0, .ref a), (1, .ref d), (2, .int (nI j))]) hx hb dJx4a65c_fastRemove_b59b0_17 rfl hl (by decide) rfl (fun ls hl => ?_)
  refine lv_iload_n hx hb dJx4a65c_fastRemove_b59b0_18 rfl (lv_at hl 3 rfl) ?_
  have tail : ∀ (row1 : Nat → Option Nat) (H : Heap) (locs : List Loc), PH D A s.heap L (va_up (va_up f a (.inr (0, [.int (md + 1), .ref d, .int (nI (q + 1))]))) d (cRow Z cap row1)) H locs → (∀ m, m < q → row1 m = if m < j then row m else row (m + 1)) → W p l e rmF s m args below meth c H locs 0 0 (MQ below (va_Qv (fun (u : P2) => ∃ row', u = (L, va_up (va_up f a (.inr (0, [.int (md + 1), .ref d, .int (nI q)]))) d (cRow Z cap row')) ∧ ∀ m, m < q → row' m = if m < j then row m else row (m + 1)) (pPost D Z A) A) args s 0 0 A) (F0 m 34 ls []) := by
    intro row1 H locs hP hrow
    refine lv_aload_n hx hb dJx4a65c_fastRemove_b59b0_34 rfl (lv_at hl 2 rfl) ?_
    refine lv_aload_n hx hb dJx4a65c_fastRemove_b59b0_35 rfl (lv_at hl 1 rfl) ?_
    refine lv_iload_n hx hb dJx4a65c_fastRemove_b59b0_36 rfl (lv_at hl 0 rfl) ?_
    refine lv_dup_x1 hx hb dJx4a65c_fastRemove_b59b0_37 rfl rfl ?_
    refine pp C hP ha (by rw [va_up_ne _ _ had]; exact hf1) (T := TJx4a65c) (N := 3) rfl ixJx4a65c tyJx4a65c tyJx4a65c_ok nmJx4a65c 2 (by decide) rfl wd_48 (fun _ h => h) pfI rfl rfl (Nat.le_of_ble_eq_true rfl) dJx4a65c_fastRemove_b59b0_38 (fun H locs hP => ?_)
    refine lv_null hx hb dJx4a65c_fastRemove_b59b0_41 ?_
    refine pastN C hP hd (by rw [va_up_ne _ _ had.symm]; exact va_up_self _ _ _) (vin (by omega) (by omega)) dJx4a65c_fastRemove_b59b0_42 (fun H locs hP => ?_)
    rw [vcomm had, nI_clamp (show q < 2 ^ 31 by omega)] at hP
    refine prv C hr hk hP (Nat.zero_le _) (Nat.zero_le _) ⟨va_up row1 q none, rfl, fun m hm => ?_⟩ dJx4a65c_fastRemove_b59b0_43
    rw [va_up_ne _ _ (Nat.ne_of_lt hm)]
    exact hrow m hm
  refine lv_icmp_le (tgt := 34) hx hb dJx4a65c_fastRemove_b59b0_19 (by decide) (fun c1 => ?_) (fun c1 => ?_)
  · have hqj : q ≤ j := (nI_leI (by omega) (by omega)).mp c1
    refine tail row H locs ?_ (fun m hm => by rw [if_pos (by omega)])
    have e0 : va_up (va_up f a (.inr (0, [.int (md + 1), .ref d, .int (nI (q + 1))]))) d (cRow Z cap row) = va_up f a (.inr (0, [.int (md + 1), .ref d, .int (nI (q + 1))])) := funext (fun x => by
      by_cases hxd : x = d
      · rw [hxd, va_up_self, hfd1]
      · rw [va_up_ne _ _ hxd])
    rw [e0]
    exact hH
  · have hqj : j < q := Nat.lt_of_not_le (fun h => c1 (nI_le h (by omega)))
    refine lv_aload_n hx hb dJx4a65c_fastRemove_b59b0_22 rfl (lv_at hl 2 rfl) ?_
    refine lv_iload_n hx hb dJx4a65c_fastRemove_b59b0_23 rfl (lv_at hl 3 rfl) ?_
    refine lv_iconst (v := 1) hx hb dJx4a65c_fastRemove_b59b0_24 (by decide) ?_
    refine lv_iadd hx hb dJx4a65c_fastRemove_b59b0_25 ?_
    refine lv_aload_n hx hb dJx4a65c_fastRemove_b59b0_26 rfl (lv_at hl 2 rfl) ?_
    refine lv_iload_n hx hb dJx4a65c_fastRemove_b59b0_27 rfl (lv_at hl 3 rfl) ?_
    refine lv_iload_n hx hb dJx4a65c_fastRemove_b59b0_28 rfl (lv_at hl 0 rfl) ?_
    refine lv_iload_n hx hb dJx4a65c_fastRemove_b59b0_29 rfl (lv_at hl 3 rfl) ?_
    refine lv_isub hx hb dJx4a65c_fastRemove_b59b0_30 ?_
    rw [nI_1, pk_sub (Nat.le_of_lt hqj)]
    have e1 : (nI (j + 1)).toNatClampNeg = j + 1 := nI_clamp (by omega)
    have e2 : (nI j).toNatClampNeg = j := nI_clamp (by omega)
    have e3 : (nI (q - j)).toNatClampNeg = q - j := nI_clamp (by omega)
    refine pcopy C hH hl.1 wd_466 hd hfd1 hd hfd1 (nI_pos (by omega)) (nI_pos (by omega)) (nI_pos (by omega)) (by rw [e1, e3]; omega) (by rw [e2, e3]; omega) (fun x hx y hy => ?_) (Nat.le_refl _) (Nat.le_of_ble_eq_true rfl) dJx4a65c_fastRemove_b59b0_31 (fun H locs hP => ?_)
    · rw [e1] at hy
      rw [e3] at hx
      exact ((hel (j + 1 + x) (by omega) y hy).up0 hf).any C hH
    · rw [e1, e2, e3] at hP
      refine tail _ H locs hP (fun m hm => ?_)
      by_cases hmj : m < j
      · rw [if_pos hmj, pk_cpy_out (Or.inl hmj)]
      · rw [if_neg hmj, pk_cpy_in (by omega) (by omega)]
        exact congrArg row (by omega)
theorem erase_getD (xs : List Nat) (j m : Nat) : (xs.eraseIdx j).getD m 0 = if m < j then xs.getD m 0 else xs.getD (m + 1) 0 := by
  rw [List.getD_eq_getElem?_getD, List.getElem?_eraseIdx]
  split <;> rw [List.getD_eq_getElem?_getD]
set_option maxHeartbeats 4000000 in
set_option maxRecDepth 100000 in
theorem c_L_remove (l : Launch) (D : va_G) (Z : Nat → ClassId) (E : Nat → Nat) (ad : Nat → Nat → Nat) (t : CS) (k : Nat) (i : Int32) (hk6 : k < cnt t 6) (hi : vp_in i (tT t k).length) (hbig : (tT t k).length < 2 ^ 31) (hel : ∀ x ∈ tT t k, x < cnt t (ek k)) (L : List Nat) (sz : Nat) : Met l yJx4a65c_remove_915e3 (Wd yJx4a65c_remove_915e3 cJx4a65c_remove_915e3 4 (some (.object "java/lang/Object"))) rmRm (va_Pc [.ref (ad 6 k), .int i] (cPre D Z E ad L sz t)) (va_Qq (oQ (ek k) ad (fun o t1 => o = some ((tT t k).getD i.toNatClampNeg 0) ∧ t1 = sT t k ((tT t k).eraseIdx i.toNatClampNeg))) (cPost D Z E ad (cAs L sz)) (cAs L sz)) 0 0 (cAs L sz) := by
  refine cMet (Qc := fun A => va_Qq (oQ (ek k) ad (fun o t1 => o = some ((tT t k).getD i.toNatClampNeg 0) ∧ t1 = sT t k ((tT t k).eraseIdx i.toNatClampNeg))) (cPost D Z E ad A) A) (by decide) rfl _ (Nat.le_of_ble_eq_true rfl) (fun p e s m args below meth c A C hr hk ls hl hH => ?_) L sz
  obtain ⟨⟨hx, hb, hml, hown, hts⟩, hK⟩ := id C
  have hl : lv_has ls 4 [(0, .ref (ad 6 k)), (1, .int i)] := hl
  obtain ⟨L, f, hP, hR⟩ := hH
  obtain ⟨h1, h2, ea, md, h3, h4⟩ := id hR
  obtain ⟨a1, a2, a3, a4⟩ := h3 k hk6
  obtain ⟨j, hj, rfl⟩ := vp_in_of hi hbig
  have hcap : tK t k ≠ 0 := fun h => by rw [a3 h] at hj; exact absurd hj (Nat.not_lt_zero _)
  obtain ⟨b1, row, b2, b3, b4⟩ := a4 hcap
  rw [if_neg hcap] at a2
  have ej : (nI j).toNatClampNeg = j := nI_clamp (by omega)
  obtain ⟨q, hq⟩ : ∃ q, (tT t k).length = q + 1 := ⟨(tT t k).length - 1, by omega⟩
  have hgetok : ∀ x, x < q + 1 → ∀ y, row x = some y → okE L f y := fun x hx y hy => by
    rw [b4 x (by omega)] at hy
    cases hy
    refine okE.of hR (ek_lt k) (hel _ ?_)
    rw [List.getD_eq_getElem?_getD, List.getElem?_eq_getElem (by omega)]
    exact List.getElem_mem _
  refine lv_iload_n hx hb dJx4a65c_remove_915e3_0 rfl (lv_at hl 1 rfl) ?_
  refine lv_aload_n hx hb dJx4a65c_remove_915e3_1 rfl (lv_at hl 0 rfl) ?_
  refine pg C hP a1 a2 (T := TJx4a65c) (N := 3) rfl ixJx4a65c 2 (by decide) rfl wd_48 (fun _ h => h) rfl dJx4a65c_remove_915e3_2 ?_
  refine pcSi C hP [.int (nI j), .int (nI (tT t k).length)] (c_J15 l D Z E L f _ _ (nI_pos (by omega)) (nI_lt hj hbig)) (cwTS 2 hts wd_324 wd_325 wd_16 wd_326 rfl rfl (by decide +kernel) ⟨Nat.le_of_ble_eq_true rfl, Nat.le_of_ble_eq_true rfl⟩) rfl hl.1 rfl (Nat.le_of_ble_eq_true rfl) dJx4a65c_remove_915e3_5 ⟨Nat.le_refl _, Nat.le_refl _⟩ (fun r u H locs hw hP => ?_)
  obtain ⟨rfl, rfl⟩ := hw
  refine lv_pop hx hb dJx4a65c_remove_915e3_8 rfl ?_
  refine lv_aload_n hx hb dJx4a65c_remove_915e3_9 rfl (lv_at hl 0 rfl) ?_
  refine pg C hP a1 a2 (T := TJx4a65c) (N := 3) rfl ixJx4a65c 1 (by decide) rfl wd_47 (fun _ h => h) rfl dJx4a65c_remove_915e3_10 ?_
  refine lv_astore_n (lv' := [(2, .ref (ea k)), (0, .ref (ad 6 k)), (1, .int (nI j))]) hx hb dJx4a65c_remove_915e3_13 rfl hl (by decide) rfl (fun ls hl => ?_)
  refine lv_aload_n hx hb dJx4a65c_remove_915e3_14 rfl (lv_at hl 0 rfl) ?_
  refine lv_iload_n hx hb dJx4a65c_remove_915e3_15 rfl (lv_at hl 2 rfl) ?_
  refine pald C hP b1 b2 (vin (by omega) (by omega)) dJx4a65c_remove_915e3_16 ?_
  rw [ej, b4 j hj]
  refine lq_astore_n (lv' := [(3, va_rf (some (ad (ek k) ((tT t k).getD j 0)))), (2, .ref (ea k)), (0, .ref (ad 6 k)), (1, .int (nI j))]) hx hb dJx4a65c_remove_915e3_17 rfl hl (by decide) rfl (fun ls hl => ?_)
  refine lv_aload_n hx hb dJx4a65c_remove_915e3_18 rfl (lv_at hl 2 rfl) ?_
  refine lv_aload_n hx hb dJx4a65c_remove_915e3_19 rfl (lv_at hl 1 rfl) ?_
  refine lv_iload_n hx hb dJx4a65c_remove_915e3_20 rfl (lv_at hl 3 rfl) ?_
  refine pcVv C hP (precv C hP a1 a2 (q := (RJx4a65c, TJx4a65c, 3)) rfl) [.ref (ea k), .int (nI j)] (c_fastRemove l D Z E L f (q := q) j a1 (by rw [← hq]; exact a2) b1 b2 (by omega) (by omega) (by omega) hgetok) (cwTV 2 hts wd_462 wd_464 ws_8 wd_4 wd_465 rfl rfl (by decide +kernel) ⟨Nat.le_of_ble_eq_true rfl, Nat.le_of_ble_eq_true rfl⟩) rfl hl.1 rfl (Nat.le_of_ble_eq_true rfl) dJx4a65c_remove_915e3_21 ⟨Nat.le_refl _, Nat.le_refl _⟩ (fun u H locs hw hP => ?_)
  obtain ⟨row', rfl, hrow⟩ := hw
  have hP : PH D A s.heap L (va_up (va_up f (ad 6 k) (.inr (0, [.int (md k + 1), .ref (ea k), .int (nI q)]))) (ea k) (cRow Z (tK t k) row')) H locs := hP
  refine lq_aload_n hx hb dJx4a65c_remove_915e3_24 rfl (lv_at hl 0 rfl) ?_
  have hne : ad 6 k ≠ ea k := obj_ne_row a2 b2
  have hlen : ((tT t k).eraseIdx j).length = q := by rw [List.length_eraseIdx, if_pos hj]; omega
  refine crq (ek k) C hr hk ⟨L, _, hP, ?_⟩ (Nat.zero_le _) (Nat.zero_le _) (o := some ((tT t k).getD j 0)) ⟨rfl, rfl⟩ dJx4a65c_remove_915e3_25
  rw [← sKT_id t k ((tT t k).eraseIdx j)]
  refine CR_list h1 h2 h3 h4 k hk6 (ea k) (md k + 1) (tK t k) _ (fun _ h => h) (fun x _ hx1 hx2 => by rw [va_up_ne _ _ (hx2 hcap), va_up_ne _ _ hx1]) ⟨a1, ?_, fun h => absurd h hcap, fun _ => ⟨b1, row', va_up_self _ _ _, by omega, fun m hm => ?_⟩⟩ (fun _ => Or.inl ⟨rfl, hcap⟩)
  · rw [va_up_ne _ _ hne, va_up_self, if_neg hcap, hlen]
  · rw [hrow m (by omega), erase_getD]
    by_cases hmj : m < j
    · rw [if_pos hmj, if_pos hmj, b4 m (by omega)]
    · rw [if_neg hmj, if_neg hmj, b4 (m + 1) (by omega)]
