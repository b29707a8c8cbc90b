/-! the words' text, and fill (gen/jlist8.txt) -/
theorem lv_args_q (i : Nat) (o : Option Nat) (vs : List Value) : lv_args i (va_rf o :: vs) = (i, va_rf o) :: lv_args (i + 1) vs := by
  rw [lv_args, if_neg (by rw [lq_cat]; decide)]
theorem crn {p : Program} {l : Launch} {e : Env} {R : Room} {s : State} {m : MethodId} {args : Array Value} {below : List Frame} {meth : Method} {c : Code} {H : Heap} {locs : List Loc} {cells slots pc nL : Nat} {ls : Array Slot} {D : va_G} {Z : Nat → ClassId} {E : Nat → Nat} {ad : Nat → Nat → Nat} {t : CS} {A : Nat → Prop} {cc : ByteArray} {own : String} {ty : FieldType} (C : CC p s m args c cc nL own D Z E A) (hr : meth.sig.returnType = some ty) (hk : meth.locks = false) (hH : CH D Z E ad A s.heap t H locs) {mc ms : Nat} (h1 : cells ≤ mc) (h2 : slots ≤ ms) {post : Int32 → CS → Prop} {v : Int32} (hz : narrow ty (.int v) = .int v) (hp : post v t) (hdg : decode cc pc = .ok (.ireturn, 1)) : CWi p l e R s m args below meth c D Z E ad A mc ms post H locs cells slots (F0 m pc ls [.int v]) := by
  refine W.widen h1 h2 (W.zret C.1.1 C.1.2.1 hr hz (fun u hu hW => ⟨⟨v, t, rfl, hp, cEnd C hH u hu hW⟩, ?_⟩) ?_ hdg hk)
  · obtain ⟨L, f, hP, hR⟩ := hH
    exact hP.2.2.2.2
  · obtain ⟨L, f, hP, hR⟩ := hH
    exact hP.2.2.F hu
theorem chS {D : va_G} {Z : Nat → ClassId} {E : Nat → Nat} {ad : Nat → Nat → Nat} {A : Nat → Prop} {H0 H : Heap} {t : CS} {locs : List Loc} (h : CH D Z E ad A H0 t H locs) : va_S A H0 H locs := by
  obtain ⟨L, f, hP, -⟩ := h
  exact hP.2.2
abbrev rmS1 : Room := { frames := 1, cells := 0, slots := 0, locals := 30 }
abbrev rmS2 : Room := { frames := 2, cells := 0, slots := 0, locals := 80 }
abbrev rmS3 : Room := { frames := 3, cells := 0, slots := 0, locals := 130 }
abbrev rmS4 : Room := { frames := 4, cells := 0, slots := 0, locals := 180 }
theorem wb_ok : ∀ i, i < 90 → (((wordBytes.getD i 0) &&& 255).toUInt32 % 65536).toInt32 = wordBytes.getD i 0 ∧ narrow .char (.int (wordBytes.getD i 0)) = .int (wordBytes.getD i 0) := by decide +kernel
set_option maxHeartbeats 4000000 in
set_option maxRecDepth 100000 in
theorem c_S_coder (l : Launch) (D : va_G) (Z : Nat → ClassId) (E : Nat → Nat) (ad : Nat → Nat → Nat) (t : CS) (L : List Nat) (sz : Nat) : Met l yJ0_coder_7d493 (Wd yJ0_coder_7d493 cJ0_coder_7d493 1 (some .byte)) rmJ0 (va_Pc [.ref (E 2)] (cPre D Z E ad L sz t)) (va_Qi (fun r t1 => r = 0 ∧ t1 = t) (cPost D Z E ad (cAs L sz)) (cAs L sz)) 0 0 (cAs L sz) := by
  refine cMet (Qc := fun A => va_Qi (fun r t1 => r = 0 ∧ t1 = t) (cPost D Z E ad A) A) (by decide) rfl _ (Nat.le_of_ble_eq_true rfl) (fun p e s m args below meth c A C hr hk ls hl hH => ?_) L sz
  obtain ⟨⟨hx, hb, hml, hown, hts⟩, hK⟩ := id C
  obtain ⟨-, -, hZ, hS, -⟩ := id C.2.2.1
  have hl : lv_has ls 1 [(0, .ref (E 2))] := hl
  refine va_gets hx hb hZ (chS hH) hown (hts _ wd_541) (fun _ h => h) dJ0_coder_7d493_0 ?_
  refine lv_if_eq (tgt := 13) hx hb dJ0_coder_7d493_3 (by decide) (fun c1 => absurd c1 (by decide)) (fun _ => ?_)
  refine lv_aload_n hx hb dJ0_coder_7d493_6 rfl (lv_at hl 0 rfl) ?_
  refine vk_getf hx hb (hS.1 0 (by decide)).2.1 (chS hH) hown (hts _ wd_1595) (fun _ h => h) dJ0_coder_7d493_7 ?_
  refine lv_goto (tgt := 14) hx hb dJ0_coder_7d493_10 (by decide) ?_
  exact crn C hr hk hH (Nat.zero_le _) (Nat.zero_le _) (by decide +kernel) ⟨rfl, rfl⟩ dJ0_coder_7d493_14
set_option maxHeartbeats 4000000 in
set_option maxRecDepth 100000 in
theorem c_S_length (l : Launch) (D : va_G) (Z : Nat → ClassId) (E : Nat → Nat) (ad : Nat → Nat → Nat) (t : CS) (L : List Nat) (sz : Nat) : Met l yJ0_length_8abf5 (Wd yJ0_length_8abf5 cJ0_length_8abf5 1 (some .int)) rmS1 (va_Pc [.ref (E 2)] (cPre D Z E ad L sz t)) (va_Qi (fun r t1 => r = 90 ∧ t1 = t) (cPost D Z E ad (cAs L sz)) (cAs L sz)) 0 0 (cAs L sz) := by
  refine cMet (Qc := fun A => va_Qi (fun r t1 => r = 90 ∧ t1 = t) (cPost D Z E ad A) A) (by decide) rfl _ (Nat.le_of_ble_eq_true rfl) (fun p e s m args below meth c A C hr hk ls hl hH => ?_) L sz
  obtain ⟨⟨hx, hb, hml, hown, hts⟩, hK⟩ := id C
  obtain ⟨-, -, hZ, hS, -⟩ := id C.2.2.1
  have hl : lv_has ls 1 [(0, .ref (E 2))] := hl
  refine lv_aload_n hx hb dJ0_length_8abf5_0 rfl (lv_at hl 0 rfl) ?_
  refine vk_getf hx hb (hS.1 0 (by decide)).2.2.1 (chS hH) hown (hts _ wd_1594) (fun _ h => h) dJ0_length_8abf5_1 ?_
  refine va_tlen hx hb (hS.1 0 (by decide)).2.2.2 (chS hH) (v := 90) rfl dJ0_length_8abf5_4 ?_
  refine lv_aload_n hx hb dJ0_length_8abf5_5 rfl (lv_at hl 0 rfl) ?_
  refine ccVi0 C hH (vk_recv hS (i := 0) (by decide) (chS hH)) [] (c_S_coder l D Z E ad t) (cwTV 0 hts wd_537 wd_538 wd_539 wd_19 wd_540 rfl rfl (by decide +kernel) ⟨Nat.le_of_ble_eq_true rfl, Nat.le_of_ble_eq_true rfl⟩) rfl hl.1 rfl (Nat.le_of_ble_eq_true rfl) dJ0_length_8abf5_6 ⟨Nat.zero_le _, Nat.zero_le _⟩ (fun r t1 H locs hw hH => ?_)
  obtain ⟨rfl, e1⟩ := hw
  rw [e1] at hH
  refine lv_ishr hx hb dJ0_length_8abf5_9 ?_
  rw [sb_shr0]
  exact cri C hr hk hH (Nat.zero_le _) (Nat.zero_le _) ⟨rfl, rfl⟩ dJ0_length_8abf5_10
set_option maxHeartbeats 4000000 in
set_option maxRecDepth 100000 in
theorem c_S_isLatin1 (l : Launch) (D : va_G) (Z : Nat → ClassId) (E : Nat → Nat) (ad : Nat → Nat → Nat) (t : CS) (L : List Nat) (sz : Nat) : Met l yJ0_isLatin1_aae02 (Wd yJ0_isLatin1_aae02 cJ0_isLatin1_aae02 1 (some .boolean)) rmJ0 (va_Pc [.ref (E 2)] (cPre D Z E ad L sz t)) (va_Qi (fun r t1 => r = 1 ∧ t1 = t) (cPost D Z E ad (cAs L sz)) (cAs L sz)) 0 0 (cAs L sz) := by
  refine cMet (Qc := fun A => va_Qi (fun r t1 => r = 1 ∧ t1 = t) (cPost D Z E ad A) A) (by decide) rfl _ (Nat.le_of_ble_eq_true rfl) (fun p e s m args below meth c A C hr hk ls hl hH => ?_) L sz
  obtain ⟨⟨hx, hb, hml, hown, hts⟩, hK⟩ := id C
  obtain ⟨-, -, hZ, hS, -⟩ := id C.2.2.1
  have hl : lv_has ls 1 [(0, .ref (E 2))] := hl
  refine va_gets hx hb hZ (chS hH) hown (hts _ wd_541) (fun _ h => h) dJ0_isLatin1_aae02_0 ?_
  refine lv_if_eq (tgt := 17) hx hb dJ0_isLatin1_aae02_3 (by decide) (fun c1 => absurd c1 (by decide)) (fun _ => ?_)
  refine lv_aload_n hx hb dJ0_isLatin1_aae02_6 rfl (lv_at hl 0 rfl) ?_
  refine vk_getf hx hb (hS.1 0 (by decide)).2.1 (chS hH) hown (hts _ wd_1595) (fun _ h => h) dJ0_isLatin1_aae02_7 ?_
  refine lv_if_ne (tgt := 17) hx hb dJ0_isLatin1_aae02_10 (by decide) (fun c1 => absurd rfl c1) (fun _ => ?_)
  refine lv_iconst (v := 1) hx hb dJ0_isLatin1_aae02_13 (by decide) ?_
  refine lv_goto (tgt := 18) hx hb dJ0_isLatin1_aae02_14 (by decide) ?_
  exact crz C hr hk hH (Nat.zero_le _) (Nat.zero_le _) bz1 ⟨rfl, rfl⟩ dJ0_isLatin1_aae02_18
set_option maxHeartbeats 4000000 in
set_option maxRecDepth 100000 in
theorem c_S_checkIndex (l : Launch) (D : va_G) (Z : Nat → ClassId) (E : Nat → Nat) (ad : Nat → Nat → Nat) (t : CS) (i n : Int32) (h1 : ¬ i < 0) (h2 : i < n) (L : List Nat) (sz : Nat) : Met l yJ0_checkIndex_df160 (Wd yJ0_checkIndex_df160 cJ0_checkIndex_df160 2 none) rmS1 (va_Pc [.int i, .int n] (cPre D Z E ad L sz t)) (va_Qv (fun t1 => t1 = t) (cPost D Z E ad (cAs L sz)) (cAs L sz)) 0 0 (cAs L sz) := by
  refine cMet (Qc := fun A => va_Qv (fun t1 => t1 = t) (cPost D Z E ad A) A) (by decide) rfl _ (Nat.le_of_ble_eq_true rfl) (fun p e s m args below meth c A C hr hk ls hl hH => ?_) L sz
  obtain ⟨⟨hx, hb, hml, hown, hts⟩, hK⟩ := id C
  obtain ⟨-, -, -, -, -, -, -, -, -, -, -, -, -, hq⟩ := id C.2.2.1
  have hl : lv_has ls 2 [(0, .int i), (1, .int n)] := hl
  obtain ⟨o, ho⟩ : ∃ o : Option Nat, va_Z "jdk/internal/util/Preconditions" "SIOOBE_FORMATTER" "Ljava/util/function/BiFunction;" (va_rf o) A s s.heap := by
    rcases hq with h | ⟨x, h⟩
    · exact ⟨none, h⟩
    · exact ⟨some x, h⟩
  refine lv_iload_n hx hb dJ0_checkIndex_df160_0 rfl (lv_at hl 0 rfl) ?_
  refine lv_iload_n hx hb dJ0_checkIndex_df160_1 rfl (lv_at hl 1 rfl) ?_
  refine va_gets hx hb ho (chS hH) hown (hts _ wd_557) (fun _ h => h) dJ0_checkIndex_df160_2 ?_
  obtain ⟨L, f, hP, hR⟩ := hH
  refine pcSi C hP [.int i, .int n, va_rf o] (c_J3 l D Z E L f i n o h1 h2) (cwTS 3 hts wd_559 wd_328 wd_17 wd_329 rfl rfl (by decide +kernel) ⟨Nat.le_of_ble_eq_true rfl, Nat.le_of_ble_eq_true rfl⟩) rfl hl.1 rfl (Nat.le_of_ble_eq_true rfl) dJ0_checkIndex_df160_5 ⟨Nat.le_refl _, Nat.le_refl _⟩ (fun r u H locs hw hP => ?_)
  obtain ⟨rfl, rfl⟩ := hw
  refine lv_pop hx hb dJ0_checkIndex_df160_8 rfl ?_
  exact crv C hr hk ⟨L, f, hP, hR⟩ (Nat.zero_le _) (Nat.zero_le _) rfl dJ0_checkIndex_df160_9
set_option maxHeartbeats 4000000 in
set_option maxRecDepth 100000 in
theorem c_S1_charAt (l : Launch) (D : va_G) (Z : Nat → ClassId) (E : Nat → Nat) (ad : Nat → Nat → Nat) (t : CS) (i : Int32) (hi : vp_in i 90) (L : List Nat) (sz : Nat) : Met l yJ1_charAt_3b067 (Wd yJ1_charAt_3b067 cJ1_charAt_3b067 2 (some .char)) rmS2 (va_Pc [.ref (E 3), .int i] (cPre D Z E ad L sz t)) (va_Qi (fun r t1 => r = wordBytes.getD i.toNatClampNeg 0 ∧ t1 = t) (cPost D Z E ad (cAs L sz)) (cAs L sz)) 0 0 (cAs L sz) := by
  refine cMet (Qc := fun A => va_Qi (fun r t1 => r = wordBytes.getD i.toNatClampNeg 0 ∧ t1 = t) (cPost D Z E ad A) A) (by decide) rfl _ (Nat.le_of_ble_eq_true rfl) (fun p e s m args below meth c A C hr hk ls hl hH => ?_) L sz
  obtain ⟨⟨hx, hb, hml, hown, hts⟩, hK⟩ := id C
  obtain ⟨-, -, hZ, hS, -⟩ := id C.2.2.1
  have hl : lv_has ls 2 [(0, .ref (E 3)), (1, .int i)] := hl
  have hlt : i.toNatClampNeg < 90 := Nat.lt_of_not_le (fun h => hi (Or.inr h))
  refine lv_iload_n hx hb dJ1_charAt_3b067_0 rfl (lv_at hl 1 rfl) ?_
  refine lv_aload_n hx hb dJ1_charAt_3b067_1 rfl (lv_at hl 0 rfl) ?_
  refine va_tlen hx hb (hS.1 0 (by decide)).2.2.2 (chS hH) (v := 90) rfl dJ1_charAt_3b067_2 ?_
  obtain ⟨j, hj, rfl⟩ := vp_in_of hi (by decide)
  refine ccSv C hH [.int (nI j), .int 90] (c_S_checkIndex l D Z E ad t (nI j) 90 (nI_pos (by omega)) (show nI j < nI 90 from nI_lt hj (by decide))) (cwTS 2 hts wd_554 wd_555 wd_19 wd_556 rfl rfl (by decide +kernel) ⟨Nat.le_of_ble_eq_true rfl, Nat.le_of_ble_eq_true rfl⟩) rfl hl.1 rfl (Nat.le_of_ble_eq_true rfl) dJ1_charAt_3b067_3 ⟨Nat.le_refl _, Nat.le_refl _⟩ (fun t1 H locs hw hH => ?_)
  rw [hw] at hH
  refine lv_aload_n hx hb dJ1_charAt_3b067_6 rfl (lv_at hl 0 rfl) ?_
  refine lv_iload_n hx hb dJ1_charAt_3b067_7 rfl (lv_at hl 1 rfl) ?_
  refine va_tb hx hb (hS.1 0 (by decide)).2.2.2 (chS hH) hi (v := .int (wordBytes.getD (nI j).toNatClampNeg 0)) rfl dJ1_charAt_3b067_8 ?_
  refine lv_sipush (v := 255) hx hb dJ1_charAt_3b067_9 (by decide) ?_
  refine lv_iand hx hb dJ1_charAt_3b067_12 ?_
  refine lv_i2c hx hb dJ1_charAt_3b067_13 (wb_ok _ hlt).1 ?_
  exact crn C hr hk hH (Nat.zero_le _) (Nat.zero_le _) (wb_ok _ hlt).2 ⟨rfl, rfl⟩ dJ1_charAt_3b067_14
set_option maxHeartbeats 4000000 in
set_option maxRecDepth 100000 in
theorem c_S_charAt (l : Launch) (D : va_G) (Z : Nat → ClassId) (E : Nat → Nat) (ad : Nat → Nat → Nat) (t : CS) (i : Int32) (hi : vp_in i 90) (L : List Nat) (sz : Nat) : Met l yJ0_charAt_5068e (Wd yJ0_charAt_5068e cJ0_charAt_5068e 2 (some .char)) rmS3 (va_Pc [.ref (E 2), .int i] (cPre D Z E ad L sz t)) (va_Qi (fun r t1 => r = wordBytes.getD i.toNatClampNeg 0 ∧ t1 = t) (cPost D Z E ad (cAs L sz)) (cAs L sz)) 0 0 (cAs L sz) := by
  refine cMet (Qc := fun A => va_Qi (fun r t1 => r = wordBytes.getD i.toNatClampNeg 0 ∧ t1 = t) (cPost D Z E ad A) A) (by decide) rfl _ (Nat.le_of_ble_eq_true rfl) (fun p e s m args below meth c A C hr hk ls hl hH => ?_) L sz
  obtain ⟨⟨hx, hb, hml, hown, hts⟩, hK⟩ := id C
  obtain ⟨-, -, hZ, hS, -⟩ := id C.2.2.1
  have hl : lv_has ls 2 [(0, .ref (E 2)), (1, .int i)] := hl
  have hlt : i.toNatClampNeg < 90 := Nat.lt_of_not_le (fun h => hi (Or.inr h))
  refine lv_aload_n hx hb dJ0_charAt_5068e_0 rfl (lv_at hl 0 rfl) ?_
  refine ccVi0 C hH (vk_recv hS (i := 0) (by decide) (chS hH)) [] (c_S_isLatin1 l D Z E ad t) (cwTV 0 hts wd_547 wd_548 wd_549 wd_19 wd_550 rfl rfl (by decide +kernel) ⟨Nat.le_of_ble_eq_true rfl, Nat.le_of_ble_eq_true rfl⟩) rfl hl.1 rfl (Nat.le_of_ble_eq_true rfl) dJ0_charAt_5068e_1 ⟨Nat.zero_le _, Nat.zero_le _⟩ (fun r t1 H locs hw hH => ?_)
  obtain ⟨rfl, e1⟩ := hw
  rw [e1] at hH
  refine lv_if_eq (tgt := 16) hx hb dJ0_charAt_5068e_4 (by decide) (fun c1 => absurd c1 (by decide)) (fun _ => ?_)
  refine lv_aload_n hx hb dJ0_charAt_5068e_7 rfl (lv_at hl 0 rfl) ?_
  refine vk_getf hx hb (hS.1 0 (by decide)).2.2.1 (chS hH) hown (hts _ wd_1594) (fun _ h => h) dJ0_charAt_5068e_8 ?_
  refine lv_iload_n hx hb dJ0_charAt_5068e_11 rfl (lv_at hl 1 rfl) ?_
  refine ccSi0 C hH [.ref (E 3), .int i] (c_S1_charAt l D Z E ad t i hi) (cwTS 2 hts wd_551 wd_552 wd_20 wd_553 rfl rfl (by decide +kernel) ⟨Nat.le_of_ble_eq_true rfl, Nat.le_of_ble_eq_true rfl⟩) rfl hl.1 rfl (Nat.le_of_ble_eq_true rfl) dJ0_charAt_5068e_12 ⟨Nat.zero_le _, Nat.zero_le _⟩ (fun r t2 H locs hw hH => ?_)
  obtain ⟨rfl, e2⟩ := hw
  rw [e2] at hH
  exact crn C hr hk hH (Nat.zero_le _) (Nat.zero_le _) (wb_ok _ hlt).2 ⟨rfl, rfl⟩ dJ0_charAt_5068e_15
def sRow (t : CS) (id : Nat) (g : Nat → Int32) : CS := (t.1, va_up t.2.1 id g, t.2.2)
def sFill (t : CS) (id : Nat) (v : Int32) : CS := sRow t id (fun j => if j < alen t id then v else tA t id j)
theorem sRow_st (t : CS) (g : Nat → Int32) (i : Nat) (v : Int32) : sA (sRow t 6 g) 6 i v = sRow t 6 (upd g i v) := by
  show (t.1, up2 (va_up t.2.1 6 g) 6 i v, t.2.2) = (t.1, va_up t.2.1 6 (upd g i v), t.2.2)
  rw [show up2 (va_up t.2.1 6 g) 6 i v = va_up t.2.1 6 (upd g i v) from funext (fun j => by
    unfold up2 va_up
    by_cases h : j = 6
    · rw [if_pos h, if_pos h, if_pos rfl]
    · rw [if_neg h, if_neg h, if_neg h])]
theorem sRow_self (t : CS) : sRow t 6 (tA t 6) = t := by
  show (t.1, va_up t.2.1 6 (t.2.1 6), t.2.2) = t
  rw [show va_up t.2.1 6 (t.2.1 6) = t.2.1 from funext (fun j => by unfold va_up; split <;> simp_all)]
set_option maxHeartbeats 4000000 in
set_option maxRecDepth 100000 in
theorem b_fill {p : Program} {l : Launch} {e : Env} {s : State} {m : MethodId} {args : Array Value} {below : List Frame} {meth : Method} {c : Code} {D : va_G} {Z : Nat → ClassId} {E : Nat → Nat} {ad : Nat → Nat → Nat} {A : Nat → Prop} (C : CC p s m args c cJ7_fill_53178 4 RJ7 D Z E A) (hr : meth.sig.returnType = none) (hk : meth.locks = false) (t : CS) (v : Int32) : ∀ (d i : Nat) (H : Heap) (locs : List Loc) (ls : Array Slot), i + d = 13 → CH D Z E ad A s.heap (sRow t 6 (fun j => if j < i then v else tA t 6 j)) H locs → lv_has ls 4 [(0, .ref (ad 7 6)), (1, .int v), (2, .int (nI i)), (3, .int (nI 13))] → CWv p l e rmJ0 s m args below meth c D Z E ad A 0 0 (fun t1 => t1 = sFill t 6 v) H locs 0 0 (F0 m 5 ls []) := by
  obtain ⟨⟨hx, hb, hml, hown, hts⟩, hK⟩ := id C
  intro d
  induction d with
  | zero =>
    intro i H locs ls hi hH hl
    refine lv_iload_n hx hb dJ7_fill_53178_5 rfl (lv_at hl 2 rfl) ?_
    refine lv_iload_n hx hb dJ7_fill_53178_6 rfl (lv_at hl 3 rfl) ?_
    refine lv_icmp_ge (tgt := 20) hx hb dJ7_fill_53178_7 (by decide) (fun _ => ?_) (fun c1 => absurd (nI_le (by omega) (by omega)) c1)
    have e : i = 13 := by omega
    subst e
    exact crv C hr hk hH (Nat.zero_le _) (Nat.zero_le _) rfl dJ7_fill_53178_20
  | succ d ih =>
    intro i H locs ls hi hH hl
    refine lv_iload_n hx hb dJ7_fill_53178_5 rfl (lv_at hl 2 rfl) ?_
    refine lv_iload_n hx hb dJ7_fill_53178_6 rfl (lv_at hl 3 rfl) ?_
    refine lv_icmp_ge (tgt := 20) hx hb dJ7_fill_53178_7 (by decide) (fun c1 => absurd c1 (nI_ge (by omega) (by omega))) (fun _ => ?_)
    refine lv_aload_n hx hb dJ7_fill_53178_10 rfl (lv_at hl 0 rfl) ?_
    refine lv_iload_n hx hb dJ7_fill_53178_11 rfl (lv_at hl 2 rfl) ?_
    refine lv_iload_n hx hb dJ7_fill_53178_12 rfl (lv_at hl 1 rfl) ?_
    refine cas C hH 6 (Nat.lt_of_lt_of_le (show 6 < 8 by decide) (Nat.le_add_left _ _)) rfl (show vp_in (nI i) 13 from vin (by omega) (by omega)) dJ7_fill_53178_13 (fun H locs hH => ?_)
    rw [nI_clamp (show i < 2 ^ 31 by omega), sRow_st, show upd (fun j => if j < i then v else tA t 6 j) i v = (fun j => if j < i + 1 then v else tA t 6 j) from funext (fun j => by
      unfold upd
      by_cases h : j = i
      · rw [if_pos h, if_pos (by omega)]
      · rw [if_neg h]
        show (if j < i then v else tA t 6 j) = _
        by_cases h2 : j < i
        · rw [if_pos h2, if_pos (by omega)]
        · rw [if_neg h2, if_neg (by omega)])] at hH
    refine lv_iinc (v := nI (i + 1)) (lv' := [(2, .int (nI (i + 1))), (0, .ref (ad 7 6)), (1, .int v), (3, .int (nI 13))]) hx hb dJ7_fill_53178_14 hl (k := 2) rfl (nI_1 i) (by decide) rfl (fun ls hl => ?_)
    refine lv_goto (tgt := 5) hx hb dJ7_fill_53178_17 (by decide) ?_
    exact ih (i + 1) H locs ls (by omega) hH (lv_sub hl [1, 2, 0, 3] rfl)
set_option maxHeartbeats 4000000 in
set_option maxRecDepth 100000 in
theorem c_fill (l : Launch) (D : va_G) (Z : Nat → ClassId) (E : Nat → Nat) (ad : Nat → Nat → Nat) (t : CS) (v : Int32) (L : List Nat) (sz : Nat) : Met l yJ7_fill_53178 (Wd yJ7_fill_53178 cJ7_fill_53178 4 none) rmJ0 (va_Pc [.ref (ad 7 6), .int v] (cPre D Z E ad L sz t)) (va_Qv (fun t1 => t1 = sFill t 6 v) (cPost D Z E ad (cAs L sz)) (cAs L sz)) 0 0 (cAs L sz) := by
  refine cMet (Qc := fun A => va_Qv (fun t1 => t1 = sFill t 6 v) (cPost D Z E ad A) A) (by decide) rfl _ (Nat.le_of_ble_eq_true rfl) (fun p e s m args below meth c A C hr hk ls hl hH => ?_) L sz
  obtain ⟨⟨hx, hb, hml, hown, hts⟩, hK⟩ := id C
  have hl : lv_has ls 4 [(0, .ref (ad 7 6)), (1, .int v)] := hl
  refine lv_iconst (v := 0) hx hb dJ7_fill_53178_0 (by decide) ?_
  refine lv_istore_n (lv' := [(2, .int 0), (0, .ref (ad 7 6)), (1, .int v)]) hx hb dJ7_fill_53178_1 rfl hl (by decide) rfl (fun ls hl => ?_)
  refine lv_aload_n hx hb dJ7_fill_53178_2 rfl (lv_at hl 1 rfl) ?_
  refine cal C hH 6 (Nat.lt_of_lt_of_le (show 6 < 8 by decide) (Nat.le_add_left _ _)) dJ7_fill_53178_3 ?_
  refine lv_istore_n (lv' := [(3, .int (nI 13)), (2, .int 0), (0, .ref (ad 7 6)), (1, .int v)]) hx hb dJ7_fill_53178_4 rfl hl (by decide) rfl (fun ls hl => ?_)
  exact b_fill C hr hk t v 13 0 s.heap [] ls rfl (by rw [show (fun j => if j < 0 then v else tA t 6 j) = tA t 6 from funext (fun j => if_neg (Nat.not_lt_zero _)), sRow_self]; exact hH) (lv_sub hl [2, 3, 1, 0] rfl)
section SRows
variable {p : Program} {l : Launch} {e : Env} {R : Room} {s : State} {m : MethodId} {args : Array Value} {below : List Frame} {meth : Method} {c : Code} {H : Heap} {locs : List Loc} {cells slots : Nat} {Q : State → Prop} {pc nL : Nat} {ls : Array Slot} {rest : List Value} {D : va_G} {Z : Nat → ClassId} {E : Nat → Nat} {ad : Nat → Nat → Nat} {t : CS} {A : Nat → Prop} {cc : ByteArray} {own : String} {idx : Nat}
theorem sLen (C : CC p s m args c cc nL own D Z E A) (hH : CH D Z E ad A s.heap t H locs) (h1 : Cond.methodLink own idx yJ0_length_8abf5 ∈ TB) (hsz : ls.size = nL) (hro : (rest.map fun v => v.category).sum ≤ 8) (hdg : decode cc pc = .ok (.invokevirtual idx, 3)) (hc : cells ≤ R.cells ∧ slots ≤ R.slots) (hR : 2 ≤ R.frames ∧ 50 ≤ R.locals)
    (kk : ∀ (H1 : Heap) (locs1 : List Loc), CH D Z E ad A s.heap t H1 locs1 → W p l e R s m args below meth c H1 locs1 cells slots Q (F0 m (pc + 3) ls (.int 90 :: rest))) : W p l e R s m args below meth c H locs cells slots Q (F0 m pc ls (.ref (E 2) :: rest)) := by
  obtain ⟨-, -, hZ, hS, -⟩ := id C.2.2.1
  exact ccVi0 C hH (vk_recv hS (i := 0) (by decide) (chS hH)) [] (c_S_length l D Z E ad t) (cwTV 0 C.1.2.2.2.2 h1 wd_534 wd_535 wd_19 wd_536 rfl rfl (by decide +kernel) ⟨hR.1, hR.2⟩) rfl hsz rfl hro hdg hc (fun r t1 H1 locs1 hp h => by obtain ⟨rfl, rfl⟩ := hp; exact kk H1 locs1 h)
theorem sChar (C : CC p s m args c cc nL own D Z E A) (hH : CH D Z E ad A s.heap t H locs) {i : Int32} (hi : vp_in i 90) (h1 : Cond.methodLink own idx yJ0_charAt_5068e ∈ TB) (hsz : ls.size = nL) (hro : (rest.map fun v => v.category).sum ≤ 8) (hdg : decode cc pc = .ok (.invokevirtual idx, 3)) (hc : cells ≤ R.cells ∧ slots ≤ R.slots) (hR : 4 ≤ R.frames ∧ 151 ≤ R.locals)
    (kk : ∀ (H1 : Heap) (locs1 : List Loc), CH D Z E ad A s.heap t H1 locs1 → W p l e R s m args below meth c H1 locs1 cells slots Q (F0 m (pc + 3) ls (.int (wordBytes.getD i.toNatClampNeg 0) :: rest))) : W p l e R s m args below meth c H locs cells slots Q (F0 m pc ls (.int i :: .ref (E 2) :: rest)) := by
  obtain ⟨-, -, hZ, hS, -⟩ := id C.2.2.1
  exact ccVi0 C hH (vk_recv hS (i := 0) (by decide) (chS hH)) [.int i] (c_S_charAt l D Z E ad t i hi) (cwTV 1 C.1.2.2.2.2 h1 wd_544 wd_545 wd_19 wd_546 rfl rfl (by decide +kernel) ⟨hR.1, hR.2⟩) rfl hsz rfl hro hdg hc (fun r t1 H1 locs1 hp h => by obtain ⟨rfl, rfl⟩ := hp; exact kk H1 locs1 h)
theorem aFill (C : CC p s m args c cc nL own D Z E A) (hH : CH D Z E ad A s.heap t H locs) (id : Nat) (hid : id = 6 := by rfl) {v : Int32} (h1 : Cond.methodLink own idx yJ7_fill_53178 ∈ TB) (hsz : ls.size = nL) (hro : (rest.map fun v => v.category).sum ≤ 8) (hdg : decode cc pc = .ok (.invokestatic idx, 3)) (hc : cells ≤ R.cells ∧ slots ≤ R.slots) (hR : 1 ≤ R.frames ∧ 23 ≤ R.locals)
    (kk : ∀ (H1 : Heap) (locs1 : List Loc), CH D Z E ad A s.heap (sFill t id v) H1 locs1 → W p l e R s m args below meth c H1 locs1 cells slots Q (F0 m (pc + 3) ls rest)) : W p l e R s m args below meth c H locs cells slots Q (F0 m pc ls (.int v :: .ref (ad 7 id) :: rest)) := by
  subst hid
  exact ccSv C hH [.ref (ad 7 6), .int v] (c_fill l D Z E ad t v) (cwTS 2 C.1.2.2.2.2 h1 wd_716 wd_8 wd_717 rfl rfl (by decide +kernel) ⟨hR.1, hR.2⟩) rfl hsz rfl hro hdg hc (fun t1 H1 locs1 hp h => by subst hp; exact kk H1 locs1 h)
end SRows
