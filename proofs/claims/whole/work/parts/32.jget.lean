/-! ArrayList's methods: contracts (gen/jlist2.txt) -/
abbrev rmJ0 : Room := { frames := 0, cells := 0, slots := 0, locals := 0 }
abbrev rmJ1 : Room := { frames := 1, cells := 0, slots := 0, locals := 22 }
abbrev rmJ2 : Room := { frames := 2, cells := 0, slots := 0, locals := 60 }
theorem vin {j N : Nat} (h : j < N) (hj : j < 2 ^ 31) : vp_in (nI j) N := fun q => q.elim (nI_pos hj) (fun q => by rw [nI_clamp hj] at q; omega)
abbrev P2 : Type := List Nat × (Nat → va_E)
set_option maxHeartbeats 4000000 in
set_option maxRecDepth 100000 in
theorem c_J3 (l : Launch) (D : va_G) (Z : Nat → ClassId) (E : Nat → Nat) (L : List Nat) (f : Nat → va_E) (i n : Int32) (o : Option Nat) (h1 : ¬ i < 0) (h2 : i < n) (sz : Nat) : Met l yJ3_checkIndex_8e157 (Wd yJ3_checkIndex_8e157 cJ3_checkIndex_8e157 3 (some .int)) rmJ0 (va_Pc [.int i, .int n, va_rf o] (pPre D Z E L f sz)) (va_Qi (fun r (u : P2) => r = i ∧ u = (L, f)) (pPost D Z (cAs L sz)) (cAs L sz)) 0 0 (cAs L sz) := by
  refine pMet (Qc := fun A => va_Qi (fun r (u : P2) => r = i ∧ u = (L, f)) (pPost D Z A) A) (by decide) rfl _ (by cases o <;> exact Nat.le_of_ble_eq_true rfl) (fun p e s m args below meth c A C hr hk ls hl hH => ?_) sz
  obtain ⟨⟨hx, hb, hml, hown, hts⟩, hK⟩ := id C
  have hl : lv_has ls 3 [(0, .int i), (1, .int n), (2, va_rf o)] := hl
  refine lv_iload_n hx hb dJ3_checkIndex_8e157_0 rfl (lv_at hl 0 rfl) ?_
  refine lv_if_lt (tgt := 9) hx hb dJ3_checkIndex_8e157_1 (by decide) (fun c1 => absurd c1 h1) (fun _ => ?_)
  refine lv_iload_n hx hb dJ3_checkIndex_8e157_4 rfl (lv_at hl 0 rfl) ?_
  refine lv_iload_n hx hb dJ3_checkIndex_8e157_5 rfl (lv_at hl 1 rfl) ?_
  refine lv_icmp_lt (tgt := 16) hx hb dJ3_checkIndex_8e157_6 (by decide) (fun _ => ?_) (fun c1 => absurd h2 c1)
  refine lv_iload_n hx hb dJ3_checkIndex_8e157_16 rfl (lv_at hl 0 rfl) ?_
  exact pri C hr hk hH (Nat.zero_le _) (Nat.zero_le _) ⟨rfl, rfl⟩ dJ3_checkIndex_8e157_17
set_option maxHeartbeats 4000000 in
set_option maxRecDepth 100000 in
theorem c_J15 (l : Launch) (D : va_G) (Z : Nat → ClassId) (E : Nat → Nat) (L : List Nat) (f : Nat → va_E) (i n : Int32) (h1 : ¬ i < 0) (h2 : i < n) (sz : Nat) : Met l yJ15_checkIndex_7cf53 (Wd yJ15_checkIndex_7cf53 cJ15_checkIndex_7cf53 2 (some .int)) rmJ1 (va_Pc [.int i, .int n] (pPre D Z E L f sz)) (va_Qi (fun r (u : P2) => r = i ∧ u = (L, f)) (pPost D Z (cAs L sz)) (cAs L sz)) 0 0 (cAs L sz) := by
  refine pMet (Qc := fun A => va_Qi (fun r (u : P2) => r = i ∧ u = (L, f)) (pPost D Z A) A) (by decide) rfl _ (Nat.le_of_ble_eq_true rfl) (fun p e s m args below meth c A C hr hk ls hl hH => ?_) sz
  obtain ⟨⟨hx, hb, hml, hown, hts⟩, hK⟩ := id C
  have hl : lv_has ls 2 [(0, .int i), (1, .int n)] := hl
  refine lv_iload_n hx hb dJ15_checkIndex_7cf53_0 rfl (lv_at hl 0 rfl) ?_
  refine lv_iload_n hx hb dJ15_checkIndex_7cf53_1 rfl (lv_at hl 1 rfl) ?_
  refine lv_null hx hb dJ15_checkIndex_7cf53_2 ?_
  refine pcSi C hH [.int i, .int n, va_rf none] (c_J3 l D Z E L f i n none h1 h2) (cwTS 3 hts wd_327 wd_328 wd_17 wd_329 rfl rfl (by decide +kernel) ⟨Nat.le_of_ble_eq_true rfl, Nat.le_of_ble_eq_true rfl⟩) rfl hl.1 rfl (Nat.le_of_ble_eq_true rfl) dJ15_checkIndex_7cf53_3 ⟨Nat.le_refl _, Nat.le_refl _⟩ (fun r u H locs hw hH => ?_)
  obtain ⟨rfl, rfl⟩ := hw
  exact pri C hr hk hH (Nat.zero_le _) (Nat.zero_le _) ⟨rfl, rfl⟩ dJ15_checkIndex_7cf53_6
set_option maxHeartbeats 4000000 in
set_option maxRecDepth 100000 in
theorem c_elementData (l : Launch) (D : va_G) (Z : Nat → ClassId) (E : Nat → Nat) (L : List Nat) (f : Nat → va_E) {a d cap : Nat} {md n : Int32} {row : Nat → Option Nat} (i : Int32) (ha : a ∈ L) (hf : f a = .inr (0, [.int md, .ref d, .int n])) (hd : d ∈ L) (hfd : f d = cRow Z cap row) (hi : vp_in i cap) (sz : Nat) : Met l yJx4a65c_elementData_915e3 (Wd yJx4a65c_elementData_915e3 cJx4a65c_elementData_915e3 2 (some (.object "java/lang/Object"))) rmJ0 (va_Pc [.ref a, .int i] (pPre D Z E L f sz)) (va_Qq (fun r (u : P2) => r = row i.toNatClampNeg ∧ u = (L, f)) (pPost D Z (cAs L sz)) (cAs L sz)) 0 0 (cAs L sz) := by
  refine pMet (Qc := fun A => va_Qq (fun r (u : P2) => r = row i.toNatClampNeg ∧ u = (L, f)) (pPost D Z A) A) (by decide) rfl _ (Nat.le_of_ble_eq_true rfl) (fun p e s m args below meth c A C hr hk ls hl hH => ?_) sz
  obtain ⟨⟨hx, hb, hml, hown, hts⟩, hK⟩ := id C
  have hl : lv_has ls 2 [(0, .ref a), (1, .int i)] := hl
  refine lv_aload_n hx hb dJx4a65c_elementData_915e3_0 rfl (lv_at hl 0 rfl) ?_
  refine pg C hH ha hf (T := TJx4a65c) (N := 3) rfl ixJx4a65c 1 (by decide) rfl wd_47 (fun _ h => h) rfl dJx4a65c_elementData_915e3_1 ?_
  refine lv_iload_n hx hb dJx4a65c_elementData_915e3_4 rfl (lv_at hl 1 rfl) ?_
  refine pald C hH hd hfd hi dJx4a65c_elementData_915e3_5 ?_
  exact prq C hr (Or.inl ⟨_, rfl⟩) hk hH (Nat.zero_le _) (Nat.zero_le _) ⟨rfl, rfl⟩ dJx4a65c_elementData_915e3_6
set_option maxHeartbeats 4000000 in
set_option maxRecDepth 100000 in
theorem c_L_size (l : Launch) (D : va_G) (Z : Nat → ClassId) (E : Nat → Nat) (ad : Nat → Nat → Nat) (t : CS) (k : Nat) (hk6 : k < cnt t 6) (L : List Nat) (sz : Nat) : Met l yJx4a65c_size_8abf5 (Wd yJx4a65c_size_8abf5 cJx4a65c_size_8abf5 1 (some .int)) rmJ0 (va_Pc [.ref (ad 6 k)] (cPre D Z E ad L sz t)) (va_Qi (fun r t1 => r = nI (tT t k).length ∧ t1 = t) (cPost D Z E ad (cAs L sz)) (cAs L sz)) 0 0 (cAs L sz) := by
  refine cMet (Qc := fun A => va_Qi (fun r t1 => r = nI (tT t k).length ∧ t1 = t) (cPost D Z E ad A) A) (by decide) rfl _ (Nat.le_of_ble_eq_true rfl) (fun p e s m args below meth c A C hr hk ls hl hH => ?_) L sz
  obtain ⟨⟨hx, hb, hml, hown, hts⟩, hK⟩ := id C
  have hl : lv_has ls 1 [(0, .ref (ad 6 k))] := hl
  obtain ⟨L, f, hP, hR⟩ := id hH
  obtain ⟨-, -, ea, md, h3, -⟩ := id hR
  obtain ⟨a1, a2, a3, a4⟩ := h3 k hk6
  refine lv_aload_n hx hb dJx4a65c_size_8abf5_0 rfl (lv_at hl 0 rfl) ?_
  refine pg C hP a1 a2 (T := TJx4a65c) (N := 3) rfl ixJx4a65c 2 (by decide) rfl wd_48 (fun _ h => h) rfl dJx4a65c_size_8abf5_1 ?_
  exact cri C hr hk hH (Nat.zero_le _) (Nat.zero_le _) ⟨rfl, rfl⟩ dJx4a65c_size_8abf5_4
theorem ek_lt (k : Nat) : ek k < 5 := by
  unfold ek
  split <;> decide
set_option maxHeartbeats 4000000 in
set_option maxRecDepth 100000 in
theorem c_L_get (l : Launch) (D : va_G) (Z : Nat → ClassId) (E : Nat → Nat) (ad : Nat → Nat → Nat) (t : CS) (k : Nat) (i : Int32) (hk6 : k < cnt t 6) (hi : vp_in i (tT t k).length) (hbig : (tT t k).length < 2 ^ 31) (L : List Nat) (sz : Nat) : Met l yJx4a65c_get_915e3 (Wd yJx4a65c_get_915e3 cJx4a65c_get_915e3 2 (some (.object "java/lang/Object"))) rmJ2 (va_Pc [.ref (ad 6 k), .int i] (cPre D Z E ad L sz t)) (va_Qq (oQ (ek k) ad (fun o t1 => o = some ((tT t k).getD i.toNatClampNeg 0) ∧ t1 = t)) (cPost D Z E ad (cAs L sz)) (cAs L sz)) 0 0 (cAs L sz) := by
  refine cMet (Qc := fun A => va_Qq (oQ (ek k) ad (fun o t1 => o = some ((tT t k).getD i.toNatClampNeg 0) ∧ t1 = t)) (cPost D Z E ad A) A) (by decide) rfl _ (Nat.le_of_ble_eq_true rfl) (fun p e s m args below meth c A C hr hk ls hl hH => ?_) L sz
  obtain ⟨⟨hx, hb, hml, hown, hts⟩, hK⟩ := id C
  have hl : lv_has ls 2 [(0, .ref (ad 6 k)), (1, .int i)] := hl
  obtain ⟨L, f, hP, hR⟩ := hH
  obtain ⟨-, -, ea, md, h3, -⟩ := id hR
  obtain ⟨a1, a2, a3, a4⟩ := h3 k hk6
  obtain ⟨j, hj, rfl⟩ := vp_in_of hi hbig
  have hcap : tK t k ≠ 0 := fun h => by rw [a3 h] at hj; exact absurd hj (Nat.not_lt_zero _)
  obtain ⟨b1, row, b2, b3, b4⟩ := a4 hcap
  rw [if_neg hcap] at a2
  have ej : (nI j).toNatClampNeg = j := nI_clamp (by omega)
  refine lv_iload_n hx hb dJx4a65c_get_915e3_0 rfl (lv_at hl 1 rfl) ?_
  refine lv_aload_n hx hb dJx4a65c_get_915e3_1 rfl (lv_at hl 0 rfl) ?_
  refine pg C hP a1 a2 (T := TJx4a65c) (N := 3) rfl ixJx4a65c 2 (by decide) rfl wd_48 (fun _ h => h) rfl dJx4a65c_get_915e3_2 ?_
  refine pcSi C hP [.int (nI j), .int (nI (tT t k).length)] (c_J15 l D Z E L f _ _ (nI_pos (by omega)) (nI_lt hj hbig)) (cwTS 2 hts wd_324 wd_325 wd_16 wd_326 rfl rfl (by decide +kernel) ⟨Nat.le_of_ble_eq_true rfl, Nat.le_of_ble_eq_true rfl⟩) rfl hl.1 rfl (Nat.le_of_ble_eq_true rfl) dJx4a65c_get_915e3_5 ⟨Nat.le_refl _, Nat.le_refl _⟩ (fun r u H locs hw hP => ?_)
  obtain ⟨rfl, rfl⟩ := hw
  refine lv_pop hx hb dJx4a65c_get_915e3_8 rfl ?_
  refine lv_aload_n hx hb dJx4a65c_get_915e3_9 rfl (lv_at hl 0 rfl) ?_
  refine lv_iload_n hx hb dJx4a65c_get_915e3_10 rfl (lv_at hl 1 rfl) ?_
  refine pcVq C hP (precv C hP a1 a2 (q := (RJx4a65c, TJx4a65c, 3)) rfl) [.int (nI j)] (c_elementData l D Z E L f (nI j) a1 a2 b1 b2 (vin (by omega) (by omega))) (cwTV 1 hts wd_330 wd_331 wd_332 wd_4 wd_333 rfl rfl (by decide +kernel) ⟨Nat.le_of_ble_eq_true rfl, Nat.le_of_ble_eq_true rfl⟩) rfl hl.1 rfl (Nat.le_of_ble_eq_true rfl) dJx4a65c_get_915e3_11 ⟨Nat.le_refl _, Nat.le_refl _⟩ (fun r u H locs hw hP => ?_)
  obtain ⟨rfl, rfl⟩ := hw
  rw [ej, b4 j hj]
  exact crq (ek k) C hr hk ⟨L, f, hP, hR⟩ (Nat.zero_le _) (Nat.zero_le _) (o := some ((tT t k).getD j 0)) ⟨rfl, rfl⟩ dJx4a65c_get_915e3_14
