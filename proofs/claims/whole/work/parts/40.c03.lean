/-! PorterTurns.setOut -/
abbrev rm_C_setOut (mc ms : Nat) : Room := { frames := 7, cells := mc, slots := ms, locals := 521 }
def wp_C_setOut_100 (mc ms : Nat) (post : CS → Prop) : Nat → Nat → Nat → CS → Nat → Nat → Int32 → Int32 → Prop
  | 0 => fun _ _ _ _ _ _ _ => False
  | n + 1 => fun uc us t x1_ x2_ x3_ x4_ => if (nI (tT t 5).length) ≤ x4_ then (post t) else (vp_in x4_ (tT t 5).length ∧ ((tT t 5).length < 2 ^ 31 ∧ (∀ j4 : Nat, j4 = ((tT t 5).getD x4_.toNatClampNeg 0) → (j4 < tN t 3 ∧ (x1_ < tN t 0 ∧ (wp_Fel_dropFromRow t x1_ (nI j4) (fun r8 t7 => x2_ < tN t7 2 ∧ (j4 < tN t7 3 ∧ (∀ t11 : CS, t11 = sF t7 102 j4 (tF t7 81 x2_) → (j4 < tN t11 3 ∧ (∀ t13 : CS, t13 = sF t11 101 j4 ((tF t11 101 j4) + x3_) → (x2_ < tN t13 2 ∧ (j4 < tN t13 3 ∧ (∀ t16 : CS, t16 = sF t13 104 j4 (nI x2_) → (x2_ < tN t16 2 ∧ ((x2_ + 11) < tN t16 2 + 11 ∧ (tK t16 (x2_ + 11) < 2 ^ 20 ∧ (elOk t16 (x2_ + 11) ∧ (j4 < tN t16 3 ∧ (((uc + aC (tT t16 (x2_ + 11)).length (tK t16 (x2_ + 11))) ≤ mc ∧ (us + aS (tT t16 (x2_ + 11)).length (tK t16 (x2_ + 11))) ≤ ms) ∧ (∀ c23 s24 : Nat, c23 = (uc + aC (tT t16 (x2_ + 11)).length (tK t16 (x2_ + 11))) → s24 = (us + aS (tT t16 (x2_ + 11)).length (tK t16 (x2_ + 11))) → (∀ t25 : CS, t25 = lAdd t16 (x2_ + 11) j4 → (∀ x26 : Int32, x26 = x4_ + (1 : Int32) → (wp_C_setOut_100 mc ms post n c23 s24 t25 x1_ x2_ x3_ x26))))))))))))))))))))))))
set_option maxHeartbeats 4000000 in
set_option maxRecDepth 100000 in
theorem b_C_setOut_100 {p : Program} {l : Launch} {e : Env} {s : State} {m : MethodId} {args : Array Value} {below : List Frame} {meth : Method} {c : Code} {D : va_G} {Z : Nat → ClassId} {E : Nat → Nat} {ad : Nat → Nat → Nat} {A : Nat → Prop} (C : CC p s m args c cX10_setOut 6 RX10 D Z E A) (hr : meth.sig.returnType = none) (hk : meth.locks = false) {mc ms : Nat} {post : CS → Prop} : ∀ (n : Nat) (uc us : Nat) (t : CS) (x1_ : Nat) (x2_ : Nat) (x3_ : Int32) (x4_ : Int32), wp_C_setOut_100 mc ms post n uc us t x1_ x2_ x3_ x4_ → (uc ≤ mc ∧ us ≤ ms) → ∀ (H : Heap) (locs : List Loc) (ls : Array Slot), CH D Z E ad A s.heap t H locs → lv_has ls 6 [(0, .ref (ad 5 0)), (1, .ref (ad 0 x1_)), (2, .ref (ad 2 x2_)), (3, .int x3_), (4, .int x4_)] → CWv p l e (rm_C_setOut mc ms) s m args below meth c D Z E ad A mc ms post H locs uc us (F0 m 100 ls []) := by
  obtain ⟨⟨hx, hb, hml, hown, hts⟩, hK⟩ := id C
  intro n
  induction n with
  | zero => intro uc us t x1_ x2_ x3_ x4_ hw; exact hw.elim
  | succ n ih =>
    intro uc us t x1_ x2_ x3_ x4_ hw hu H locs ls hH hl
    unfold wp_C_setOut_100 at hw
    refine lv_iload hx hb dX10_setOut_100 (lv_at hl 4 rfl) ?_
    refine lv_aload_n hx hb dX10_setOut_102 rfl (lv_at hl 0 rfl) ?_
    refine cg C hH 5 0 (by decide) (Nat.le_of_ble_eq_true rfl) rfl rfl ixX10 9 (by decide) rfl wd_245 rfl dX10_setOut_103 ?_
    refine lSize C hH 5 (Nat.lt_of_lt_of_le (show 5 < 11 by decide) (Nat.le_add_left _ _)) wd_283 hl.1 (Nat.le_of_ble_eq_true rfl) dX10_setOut_106 hu ⟨Nat.le_of_ble_eq_true rfl, Nat.le_of_ble_eq_true rfl⟩ (fun H locs hH => ?_)
    refine lv_icmp_ge (tgt := 181) hx hb dX10_setOut_109 (by decide) (fun c1 => ?_) (fun c1 => ?_)
    · have hw := ifp c1 hw
      exact crv C hr hk hH hu.1 hu.2 hw dX10_setOut_181
    · have hw := ifn c1 hw
      refine lv_aload_n hx hb dX10_setOut_112 rfl (lv_at hl 0 rfl) ?_
      refine cg C hH 5 0 (by decide) (Nat.le_of_ble_eq_true rfl) rfl rfl ixX10 9 (by decide) rfl wd_245 rfl dX10_setOut_113 ?_
      refine lv_iload hx hb dX10_setOut_116 (lv_at hl 4 rfl) ?_
      obtain ⟨h2, hw⟩ := hw
      obtain ⟨h3, hw⟩ := hw
      refine lGet C hH 5 (Nat.lt_of_lt_of_le (show 5 < 11 by decide) (Nat.le_add_left _ _)) h2 h3 wd_320 hl.1 (Nat.le_of_ble_eq_true rfl) dX10_setOut_118 hu ⟨Nat.le_of_ble_eq_true rfl, Nat.le_of_ble_eq_true rfl⟩ (fun H locs hH => ?_)
      obtain ⟨j4, ej4⟩ : ∃ x : Nat, x = ((tT t 5).getD x4_.toNatClampNeg 0) := ⟨_, rfl⟩
      rw [← ej4]
      have hw := hw j4 ej4
      obtain ⟨h5, hw⟩ := hw
      refine cCast C hH 3 j4 (by decide) h5 rfl rfl wd_374 dX10_setOut_121 ?_
      refine lv_astore (lv' := [(5, .ref (ad 3 j4)), (0, .ref (ad 5 0)), (1, .ref (ad 0 x1_)), (2, .ref (ad 2 x2_)), (3, .int x3_), (4, .int x4_)]) hx hb dX10_setOut_124 hl (by decide) rfl (fun ls hl => ?_)
      refine lv_aload_n hx hb dX10_setOut_126 rfl (lv_at hl 2 rfl) ?_
      refine lv_aload hx hb dX10_setOut_127 (lv_at hl 0 rfl) ?_
      refine cg C hH 3 j4 (by decide) h5 rfl rfl ixX3 0 (by decide) rfl wd_383 rfl dX10_setOut_129 ?_
      obtain ⟨h6, hw⟩ := hw
      refine ccVi0 C hH (crecv C hH 0 x1_ (by decide) h6 rfl rfl (q := (RX0, TX0, 10))) [.int (nI j4)] (c_Fel_dropFromRow l D Z E ad t x1_ (nI j4) _ hw) (cwTV 1 hts wd_453 wd_454 wd_455 wd_5 wd_456 rfl rfl (by decide +kernel) ⟨Nat.le_of_ble_eq_true rfl, Nat.le_of_ble_eq_true rfl⟩) rfl hl.1 rfl (Nat.le_of_ble_eq_true rfl) dX10_setOut_132 hu (fun r8 t7 H locs hw hH => ?_)
      refine lv_pop hx hb dX10_setOut_135 rfl ?_
      refine lv_aload hx hb dX10_setOut_136 (lv_at hl 0 rfl) ?_
      refine lv_aload_n hx hb dX10_setOut_138 rfl (lv_at hl 3 rfl) ?_
      obtain ⟨h9, hw⟩ := hw
      refine cg C hH 2 x2_ (by decide) h9 rfl rfl ixX2 17 (by decide) rfl wd_814 rfl dX10_setOut_139 ?_
      obtain ⟨h10, hw⟩ := hw
      refine cp C hH 3 j4 102 (by decide) h10 rfl rfl ixX3 tyX3_ok nmX3 6 (by decide) (by decide) rfl rfl wd_398 pfI rfl rfl (Nat.le_of_ble_eq_true rfl) (hs_102_Man Z ad t7 j4 _) dX10_setOut_142 (fun H locs hH => ?_)
      obtain ⟨t11, et11⟩ : ∃ x : CS, x = sF t7 102 j4 (tF t7 81 x2_) := ⟨_, rfl⟩
      rw [← et11] at hH
      have hw := hw t11 et11
      refine lv_aload hx hb dX10_setOut_145 (lv_at hl 0 rfl) ?_
      refine lv_dup hx hb dX10_setOut_147 rfl ?_
      obtain ⟨h12, hw⟩ := hw
      refine cg C hH 3 j4 (by decide) h12 rfl rfl ixX3 5 (by decide) rfl wd_396 rfl dX10_setOut_148 ?_
      refine lv_iload_n hx hb dX10_setOut_151 rfl (lv_at hl 4 rfl) ?_
      refine lv_iadd hx hb dX10_setOut_152 ?_
      refine cp C hH 3 j4 101 (by decide) h12 rfl rfl ixX3 tyX3_ok nmX3 5 (by decide) (by decide) rfl rfl wd_396 pfI rfl rfl (Nat.le_of_ble_eq_true rfl) (hs_101_Man Z ad t11 j4 _) dX10_setOut_153 (fun H locs hH => ?_)
      obtain ⟨t13, et13⟩ : ∃ x : CS, x = sF t11 101 j4 ((tF t11 101 j4) + x3_) := ⟨_, rfl⟩
      rw [← et13] at hH
      have hw := hw t13 et13
      refine lv_aload hx hb dX10_setOut_156 (lv_at hl 0 rfl) ?_
      refine lv_aload_n hx hb dX10_setOut_158 rfl (lv_at hl 3 rfl) ?_
      obtain ⟨h14, hw⟩ := hw
      refine cg C hH 2 x2_ (by decide) h14 rfl rfl ixX2 0 (by decide) rfl wd_780 rfl dX10_setOut_159 ?_
      obtain ⟨h15, hw⟩ := hw
      refine cp C hH 3 j4 104 (by decide) h15 rfl rfl ixX3 tyX3_ok nmX3 8 (by decide) (by decide) rfl rfl wd_402 pfI rfl rfl (Nat.le_of_ble_eq_true rfl) (hs_104_Man Z ad t13 j4 _) dX10_setOut_162 (fun H locs hH => ?_)
      obtain ⟨t16, et16⟩ : ∃ x : CS, x = sF t13 104 j4 (nI x2_) := ⟨_, rfl⟩
      rw [← et16] at hH
      have hw := hw t16 et16
      refine lv_aload_n hx hb dX10_setOut_165 rfl (lv_at hl 3 rfl) ?_
      obtain ⟨h17, hw⟩ := hw
      refine cg C hH 2 x2_ (by decide) h17 rfl rfl ixX2 10 (by decide) rfl wd_804 rfl dX10_setOut_166 ?_
      refine lv_aload hx hb dX10_setOut_169 (lv_at hl 0 rfl) ?_
      obtain ⟨h18, hw⟩ := hw
      obtain ⟨h19, hw⟩ := hw
      obtain ⟨h20, hw⟩ := hw
      obtain ⟨h21, hw⟩ := hw
      obtain ⟨hu, hw⟩ := hw
      refine lAddR C hH (x2_ + 11) j4 h18 h19 h20 h21 wd_103 hl.1 (Nat.le_of_ble_eq_true rfl) dX10_setOut_171 hu ⟨Nat.le_of_ble_eq_true rfl, Nat.le_of_ble_eq_true rfl⟩ (fun H locs hH => ?_)
      obtain ⟨c23, ec23⟩ : ∃ x : Nat, x = (uc + aC (tT t16 (x2_ + 11)).length (tK t16 (x2_ + 11))) := ⟨_, rfl⟩
      obtain ⟨s24, es24⟩ : ∃ x : Nat, x = (us + aS (tT t16 (x2_ + 11)).length (tK t16 (x2_ + 11))) := ⟨_, rfl⟩
      have hw := hw c23 s24 ec23 es24
      rw [← ec23, ← es24] at hu ⊢
      obtain ⟨t25, et25⟩ : ∃ x : CS, x = lAdd t16 (x2_ + 11) j4 := ⟨_, rfl⟩
      rw [← et25] at hH
      have hw := hw t25 et25
      refine lv_pop hx hb dX10_setOut_174 rfl ?_
      obtain ⟨x26, ex26⟩ : ∃ y : Int32, y = x4_ + (1 : Int32) := ⟨_, rfl⟩
      have hw := hw x26 ex26
      refine lv_iinc (v := x26) (lv' := [(4, .int x26), (5, .ref (ad 3 j4)), (0, .ref (ad 5 0)), (1, .ref (ad 0 x1_)), (2, .ref (ad 2 x2_)), (3, .int x3_)]) hx hb dX10_setOut_175 hl (k := 5) rfl (by rw [ex26]; rfl) (by decide) rfl (fun ls hl => ?_)
      refine lv_goto (tgt := 100) hx hb dX10_setOut_178 (by decide) ?_
      exact ih c23 s24 t25 x1_ x2_ x3_ x26 hw hu _ _ _ hH (lv_sub hl [2, 3, 4, 5, 0] rfl)
def wp_C_setOut (mc ms : Nat) (t : CS) (a1 : Nat) (a2 : Nat) (post : CS → Prop) : Prop := a1 < tN t 0 ∧ (wp_C_saying t (nI a1) (1 : Int32) (some a2) none (fun r29 t28 => a2 < tN t28 2 ∧ (∀ t31 : CS, t31 = sF t28 78 a2 (if (0 : Int32) < (if r29 < (100000 : Int32) then r29 else (100000 : Int32)) then (if r29 < (100000 : Int32) then r29 else (100000 : Int32)) else (0 : Int32)) → (a1 < tN t31 0 ∧ (wp_C_saying t31 (nI a1) (4 : Int32) (some a2) none (fun r34 t33 => a2 < tN t33 2 ∧ (∀ t36 : CS, t36 = sF t33 79 a2 (if (0 : Int32) < (if r34 < (100 : Int32) then r34 else (100 : Int32)) then (if r34 < (100 : Int32) then r34 else (100 : Int32)) else (0 : Int32)) → (a2 < tN t36 2 ∧ (wp_C_wayMinutes t36 (tG t36 0 a2) (tG t36 1 a2) (fun r39 t38 => a2 < tN t38 2 ∧ (∀ t41 : CS, t41 = sF t38 75 a2 (1 : Int32) → (a1 < tN t41 0 ∧ (a2 < tN t41 2 ∧ (∀ t44 : CS, t44 = sF t41 77 a2 (nI a1) → (a2 < tN t44 2 ∧ (∀ t46 : CS, t46 = sF t44 76 a2 (tF t44 171 0) → (a2 < tN t46 2 ∧ (∀ t48 : CS, t48 = sF t46 81 a2 ((tF t46 171 0) + r39) → (a2 < tN t48 2 ∧ (∀ t50 : CS, t50 = sF t48 82 a2 (1 : Int32) → (∃ nn : Nat, wp_C_setOut_100 mc ms post nn 0 0 t50 a1 a2 r39 (0 : Int32))))))))))))))))))))))
set_option maxHeartbeats 4000000 in
set_option maxRecDepth 100000 in
theorem c_C_setOut (l : Launch) (D : va_G) (Z : Nat → ClassId) (E : Nat → Nat) (ad : Nat → Nat → Nat) (mc ms : Nat) (t : CS) (a1 : Nat) (a2 : Nat) (post : CS → Prop) (hw : wp_C_setOut mc ms t a1 a2 post) (L : List Nat) (sz : Nat) : Met l yX10_setOut (Wd yX10_setOut cX10_setOut 6 (none)) (rm_C_setOut mc ms) (va_Pc [.ref (ad 5 0), .ref (ad 0 a1), .ref (ad 2 a2)] (cPre D Z E ad L sz t)) (va_Qv post (cPost D Z E ad (cAs L sz)) (cAs L sz)) mc ms (cAs L sz) := by
  refine cMet (Qc := fun A => va_Qv post (cPost D Z E ad A) A) (by decide) rfl _ (Nat.le_of_ble_eq_true rfl) (fun p e s m args below meth c A C hr hk ls hl hH => ?_) L sz
  obtain ⟨⟨hx, hb, hml, hown, hts⟩, hK⟩ := id C
  have hl : lv_has ls 6 [(0, .ref (ad 5 0)), (1, .ref (ad 0 a1)), (2, .ref (ad 2 a2))] := hl
  have hu : 0 ≤ mc ∧ 0 ≤ ms := ⟨Nat.zero_le _, Nat.zero_le _⟩
  unfold wp_C_setOut at hw
  refine lv_aload_n hx hb dX10_setOut_0 rfl (lv_at hl 2 rfl) ?_
  refine lv_iconst (v := 0) hx hb dX10_setOut_1 (by decide) ?_
  refine lv_ldc (own := RX10) (index := 98) (v := 100000) hx hb hown (hts _ wd_338) dX10_setOut_2 ?_
  refine lv_aload_n hx hb dX10_setOut_4 rfl (lv_at hl 0 rfl) ?_
  refine lv_aload_n hx hb dX10_setOut_5 rfl (lv_at hl 1 rfl) ?_
  obtain ⟨h27, hw⟩ := hw
  refine cg C hH 0 a1 (by decide) h27 rfl rfl ixX0 0 (by decide) rfl wd_68 rfl dX10_setOut_6 ?_
  refine lv_iconst (v := 1) hx hb dX10_setOut_9 (by decide) ?_
  refine lv_aload_n hx hb dX10_setOut_10 rfl (lv_at hl 2 rfl) ?_
  refine lv_null hx hb dX10_setOut_11 ?_
  refine ccVi0 C hH (crecv C hH 5 0 (by decide) (Nat.le_of_ble_eq_true rfl) rfl rfl (q := (RX10, TX10, 13))) [.int (nI a1), .int (1 : Int32), va_rf ((some a2).map (ad 2)), va_rf (none.map (ad 3))] (c_C_saying l D Z E ad t (nI a1) (1 : Int32) (some a2) none _ hw) (cwTV 4 hts wd_704 wd_706 ws_23 wd_1 wd_707 rfl rfl (by decide +kernel) ⟨Nat.le_of_ble_eq_true rfl, Nat.le_of_ble_eq_true rfl⟩) rfl hl.1 rfl (Nat.le_of_ble_eq_true rfl) dX10_setOut_12 hu (fun r29 t28 H locs hw hH => ?_)
  refine va_mmin hx hb (by rw [hml, hl.1]) hown (hts _ wd_879) (hts _ wd_155) (hts _ wd_7) (hts _ wd_156) (Nat.le_of_ble_eq_true rfl) (Nat.le_of_ble_eq_true rfl) hu.1 hu.2 dX10_setOut_15 ?_
  refine va_mmax hx hb (by rw [hml, hl.1]) hown (hts _ wd_730) (hts _ wd_123) (hts _ wd_7) (hts _ wd_124) (Nat.le_of_ble_eq_true rfl) (Nat.le_of_ble_eq_true rfl) hu.1 hu.2 dX10_setOut_18 ?_
  obtain ⟨h30, hw⟩ := hw
  refine cp C hH 2 a2 78 (by decide) h30 rfl rfl ixX2 tyX2_ok nmX2 14 (by decide) (by decide) rfl rfl wd_811 pfI rfl rfl (Nat.le_of_ble_eq_true rfl) (hs_78_Load Z ad t28 a2 _) dX10_setOut_21 (fun H locs hH => ?_)
  obtain ⟨t31, et31⟩ : ∃ x : CS, x = sF t28 78 a2 (if (0 : Int32) < (if r29 < (100000 : Int32) then r29 else (100000 : Int32)) then (if r29 < (100000 : Int32) then r29 else (100000 : Int32)) else (0 : Int32)) := ⟨_, rfl⟩
  rw [← et31] at hH
  have hw := hw t31 et31
  refine lv_aload_n hx hb dX10_setOut_24 rfl (lv_at hl 2 rfl) ?_
  refine lv_iconst (v := 0) hx hb dX10_setOut_25 (by decide) ?_
  refine lv_bipush (v := 100) hx hb dX10_setOut_26 (by decide) ?_
  refine lv_aload_n hx hb dX10_setOut_28 rfl (lv_at hl 0 rfl) ?_
  refine lv_aload_n hx hb dX10_setOut_29 rfl (lv_at hl 1 rfl) ?_
  obtain ⟨h32, hw⟩ := hw
  refine cg C hH 0 a1 (by decide) h32 rfl rfl ixX0 0 (by decide) rfl wd_68 rfl dX10_setOut_30 ?_
  refine lv_iconst (v := 4) hx hb dX10_setOut_33 (by decide) ?_
  refine lv_aload_n hx hb dX10_setOut_34 rfl (lv_at hl 2 rfl) ?_
  refine lv_null hx hb dX10_setOut_35 ?_
  refine ccVi0 C hH (crecv C hH 5 0 (by decide) (Nat.le_of_ble_eq_true rfl) rfl rfl (q := (RX10, TX10, 13))) [.int (nI a1), .int (4 : Int32), va_rf ((some a2).map (ad 2)), va_rf (none.map (ad 3))] (c_C_saying l D Z E ad t31 (nI a1) (4 : Int32) (some a2) none _ hw) (cwTV 4 hts wd_704 wd_706 ws_23 wd_1 wd_707 rfl rfl (by decide +kernel) ⟨Nat.le_of_ble_eq_true rfl, Nat.le_of_ble_eq_true rfl⟩) rfl hl.1 rfl (Nat.le_of_ble_eq_true rfl) dX10_setOut_36 hu (fun r34 t33 H locs hw hH => ?_)
  refine va_mmin hx hb (by rw [hml, hl.1]) hown (hts _ wd_879) (hts _ wd_155) (hts _ wd_7) (hts _ wd_156) (Nat.le_of_ble_eq_true rfl) (Nat.le_of_ble_eq_true rfl) hu.1 hu.2 dX10_setOut_39 ?_
  refine va_mmax hx hb (by rw [hml, hl.1]) hown (hts _ wd_730) (hts _ wd_123) (hts _ wd_7) (hts _ wd_124) (Nat.le_of_ble_eq_true rfl) (Nat.le_of_ble_eq_true rfl) hu.1 hu.2 dX10_setOut_42 ?_
  obtain ⟨h35, hw⟩ := hw
  refine cp C hH 2 a2 79 (by decide) h35 rfl rfl ixX2 tyX2_ok nmX2 15 (by decide) (by decide) rfl rfl wd_812 pfI rfl rfl (Nat.le_of_ble_eq_true rfl) (hs_79_Load Z ad t33 a2 _) dX10_setOut_45 (fun H locs hH => ?_)
  obtain ⟨t36, et36⟩ : ∃ x : CS, x = sF t33 79 a2 (if (0 : Int32) < (if r34 < (100 : Int32) then r34 else (100 : Int32)) then (if r34 < (100 : Int32) then r34 else (100 : Int32)) else (0 : Int32)) := ⟨_, rfl⟩
  rw [← et36] at hH
  have hw := hw t36 et36
  refine lv_aload_n hx hb dX10_setOut_48 rfl (lv_at hl 0 rfl) ?_
  refine lv_aload_n hx hb dX10_setOut_49 rfl (lv_at hl 2 rfl) ?_
  obtain ⟨h37, hw⟩ := hw
  refine cg C hH 2 a2 (by decide) h37 rfl rfl ixX2 3 (by decide) rfl wd_788 rfl dX10_setOut_50 ?_
  refine lv_aload_n hx hb dX10_setOut_53 rfl (lv_at hl 2 rfl) ?_
  refine cg C hH 2 a2 (by decide) h37 rfl rfl ixX2 4 (by decide) rfl wd_790 rfl dX10_setOut_54 ?_
  refine ccVi0 C hH (crecv C hH 5 0 (by decide) (Nat.le_of_ble_eq_true rfl) rfl rfl (q := (RX10, TX10, 13))) [.ref (ad 4 (tG t36 0 a2)), .ref (ad 4 (tG t36 1 a2))] (c_C_wayMinutes l D Z E ad t36 (tG t36 0 a2) (tG t36 1 a2) _ hw) (cwTV 2 hts wd_358 wd_360 ws_4 wd_1 wd_361 rfl rfl (by decide +kernel) ⟨Nat.le_of_ble_eq_true rfl, Nat.le_of_ble_eq_true rfl⟩) rfl hl.1 rfl (Nat.le_of_ble_eq_true rfl) dX10_setOut_57 hu (fun r39 t38 H locs hw hH => ?_)
  refine lv_istore_n (lv' := [(3, .int r39), (0, .ref (ad 5 0)), (1, .ref (ad 0 a1)), (2, .ref (ad 2 a2))]) hx hb dX10_setOut_60 rfl hl (by decide) rfl (fun ls hl => ?_)
  refine lv_aload_n hx hb dX10_setOut_61 rfl (lv_at hl 3 rfl) ?_
  refine lv_iconst (v := 1) hx hb dX10_setOut_62 (by decide) ?_
  obtain ⟨h40, hw⟩ := hw
  refine cp C hH 2 a2 75 (by decide) h40 rfl rfl ixX2 tyX2_ok nmX2 11 (by decide) (by decide) rfl rfl wd_806 pfI rfl rfl (Nat.le_of_ble_eq_true rfl) (hs_75_Load Z ad t38 a2 _) dX10_setOut_63 (fun H locs hH => ?_)
  obtain ⟨t41, et41⟩ : ∃ x : CS, x = sF t38 75 a2 (1 : Int32) := ⟨_, rfl⟩
  rw [← et41] at hH
  have hw := hw t41 et41
  refine lv_aload_n hx hb dX10_setOut_66 rfl (lv_at hl 3 rfl) ?_
  refine lv_aload_n hx hb dX10_setOut_67 rfl (lv_at hl 2 rfl) ?_
  obtain ⟨h42, hw⟩ := hw
  refine cg C hH 0 a1 (by decide) h42 rfl rfl ixX0 0 (by decide) rfl wd_68 rfl dX10_setOut_68 ?_
  obtain ⟨h43, hw⟩ := hw
  refine cp C hH 2 a2 77 (by decide) h43 rfl rfl ixX2 tyX2_ok nmX2 13 (by decide) (by decide) rfl rfl wd_810 pfI rfl rfl (Nat.le_of_ble_eq_true rfl) (hs_77_Load Z ad t41 a2 _) dX10_setOut_71 (fun H locs hH => ?_)
  obtain ⟨t44, et44⟩ : ∃ x : CS, x = sF t41 77 a2 (nI a1) := ⟨_, rfl⟩
  rw [← et44] at hH
  have hw := hw t44 et44
  refine lv_aload_n hx hb dX10_setOut_74 rfl (lv_at hl 3 rfl) ?_
  refine lv_aload_n hx hb dX10_setOut_75 rfl (lv_at hl 1 rfl) ?_
  refine cg C hH 5 0 (by decide) (Nat.le_of_ble_eq_true rfl) rfl rfl ixX10 11 (by decide) rfl wd_247 rfl dX10_setOut_76 ?_
  obtain ⟨h45, hw⟩ := hw
  refine cp C hH 2 a2 76 (by decide) h45 rfl rfl ixX2 tyX2_ok nmX2 12 (by decide) (by decide) rfl rfl wd_808 pfI rfl rfl (Nat.le_of_ble_eq_true rfl) (hs_76_Load Z ad t44 a2 _) dX10_setOut_79 (fun H locs hH => ?_)
  obtain ⟨t46, et46⟩ : ∃ x : CS, x = sF t44 76 a2 (tF t44 171 0) := ⟨_, rfl⟩
  rw [← et46] at hH
  have hw := hw t46 et46
  refine lv_aload_n hx hb dX10_setOut_82 rfl (lv_at hl 3 rfl) ?_
  refine lv_aload_n hx hb dX10_setOut_83 rfl (lv_at hl 1 rfl) ?_
  refine cg C hH 5 0 (by decide) (Nat.le_of_ble_eq_true rfl) rfl rfl ixX10 11 (by decide) rfl wd_247 rfl dX10_setOut_84 ?_
  refine lv_iload_n hx hb dX10_setOut_87 rfl (lv_at hl 0 rfl) ?_
  refine lv_iadd hx hb dX10_setOut_88 ?_
  obtain ⟨h47, hw⟩ := hw
  refine cp C hH 2 a2 81 (by decide) h47 rfl rfl ixX2 tyX2_ok nmX2 17 (by decide) (by decide) rfl rfl wd_814 pfI rfl rfl (Nat.le_of_ble_eq_true rfl) (hs_81_Load Z ad t46 a2 _) dX10_setOut_89 (fun H locs hH => ?_)
  obtain ⟨t48, et48⟩ : ∃ x : CS, x = sF t46 81 a2 ((tF t46 171 0) + r39) := ⟨_, rfl⟩
  rw [← et48] at hH
  have hw := hw t48 et48
  refine lv_aload_n hx hb dX10_setOut_92 rfl (lv_at hl 3 rfl) ?_
  refine lv_iconst (v := 1) hx hb dX10_setOut_93 (by decide) ?_
  obtain ⟨h49, hw⟩ := hw
  refine cp C hH 2 a2 82 (by decide) h49 rfl rfl ixX2 tyX2_ok nmX2 18 (by decide) (by decide) rfl rfl wd_815 pfZ bz1.nar bz1.fit (Nat.le_of_ble_eq_true rfl) (hs_82_Load Z ad t48 a2 _) dX10_setOut_94 (fun H locs hH => ?_)
  obtain ⟨t50, et50⟩ : ∃ x : CS, x = sF t48 82 a2 (1 : Int32) := ⟨_, rfl⟩
  rw [← et50] at hH
  have hw := hw t50 et50
  refine lv_iconst (v := 0) hx hb dX10_setOut_97 (by decide) ?_
  refine lv_istore (lv' := [(4, .int (0 : Int32)), (3, .int r39), (0, .ref (ad 5 0)), (1, .ref (ad 0 a1)), (2, .ref (ad 2 a2))]) hx hb dX10_setOut_98 hl (by decide) rfl (fun ls hl => ?_)
  obtain ⟨nn, hw⟩ := hw
  exact b_C_setOut_100 C hr hk  nn 0 0 t50 a1 a2 r39 (0 : Int32) hw hu _ _ _ hH (lv_sub hl [2, 3, 4, 1, 0] rfl)
/-! PorterTurns.send -/
abbrev rm_C_send (mc ms : Nat) : Room := { frames := 9, cells := mc, slots := ms, locals := 574 }
def wp_C_send_56 (mc ms : Nat) (post : Int32 → CS → Prop) (uc us : Nat) (t : CS) (x3_ : Nat) (x4_ : Nat) (x5_ : Int32) : Prop := if x5_ = 0 then (x3_ < tN t 0 ∧ (∀ t3 : CS, t3 = sF t 3 x3_ (tF t 172 0) → (∃ c5 s6 : Nat, (uc + c5 ≤ mc ∧ us + s6 ≤ ms) ∧ (wp_C_setOut c5 s6 t3 x3_ x4_ (fun  t4 => x4_ < tN t4 2 ∧ ((x4_ + 11) < tN t4 2 + 11 ∧ (post (nI (tT t4 (x4_ + 11)).length) t4))))))) else (post ((-10 : Int32) - x5_) t)
set_option maxHeartbeats 4000000 in
set_option maxRecDepth 100000 in
theorem b_C_send_56 {p : Program} {l : Launch} {e : Env} {s : State} {m : MethodId} {args : Array Value} {below : List Frame} {meth : Method} {c : Code} {D : va_G} {Z : Nat → ClassId} {E : Nat → Nat} {ad : Nat → Nat → Nat} {A : Nat → Prop} (C : CC p s m args c cX10_send 6 RX10 D Z E A) (hr : meth.sig.returnType = some .int) (hk : meth.locks = false) {mc ms : Nat} {post : Int32 → CS → Prop} : ∀ (uc us : Nat) (t : CS) (x3_ : Nat) (x4_ : Nat) (x5_ : Int32), wp_C_send_56 mc ms post uc us t x3_ x4_ x5_ → (uc ≤ mc ∧ us ≤ ms) → ∀ (H : Heap) (locs : List Loc) (ls : Array Slot), CH D Z E ad A s.heap t H locs → lv_has ls 6 [(0, .ref (ad 5 0)), (3, .ref (ad 0 x3_)), (4, .ref (ad 2 x4_)), (5, .int x5_)] → CWi p l e (rm_C_send mc ms) s m args below meth c D Z E ad A mc ms post H locs uc us (F0 m 56 ls []) := by
  obtain ⟨⟨hx, hb, hml, hown, hts⟩, hK⟩ := id C
  intro uc us t x3_ x4_ x5_ hw hu H locs ls hH hl
  unfold wp_C_send_56 at hw
  refine lv_iload hx hb dX10_send_56 (lv_at hl 3 rfl) ?_
  refine lv_if_eq (tgt := 67) hx hb dX10_send_58 (by decide) (fun c1 => ?_) (fun c1 => ?_)
  · have hw := ifp c1 hw
    refine lv_aload_n hx hb dX10_send_67 rfl (lv_at hl 1 rfl) ?_
    refine lv_aload_n hx hb dX10_send_68 rfl (lv_at hl 0 rfl) ?_
    refine cg C hH 5 0 (by decide) (Nat.le_of_ble_eq_true rfl) rfl rfl ixX10 12 (by decide) rfl wd_248 rfl dX10_send_69 ?_
    obtain ⟨h2, hw⟩ := hw
    refine cp C hH 0 x3_ 3 (by decide) h2 rfl rfl ixX0 tyX0_ok nmX0 3 (by decide) (by decide) rfl rfl wd_72 pfI rfl rfl (Nat.le_of_ble_eq_true rfl) (hs_3_Fellowship Z ad t x3_ _) dX10_send_72 (fun H locs hH => ?_)
    obtain ⟨t3, et3⟩ : ∃ x : CS, x = sF t 3 x3_ (tF t 172 0) := ⟨_, rfl⟩
    rw [← et3] at hH
    have hw := hw t3 et3
    refine lv_aload_n hx hb dX10_send_75 rfl (lv_at hl 0 rfl) ?_
    refine lv_aload_n hx hb dX10_send_76 rfl (lv_at hl 1 rfl) ?_
    refine lv_aload hx hb dX10_send_77 (lv_at hl 2 rfl) ?_
    obtain ⟨c5, s6, hu, hw⟩ := hw
    refine ccVv C hH (crecv C hH 5 0 (by decide) (Nat.le_of_ble_eq_true rfl) rfl rfl (q := (RX10, TX10, 13))) [.ref (ad 0 x3_), .ref (ad 2 x4_)] (c_C_setOut l D Z E ad c5 s6 t3 x3_ x4_ _ hw) (cwTV 2 hts wd_900 wd_902 ws_32 wd_1 wd_903 rfl rfl (by decide +kernel) ⟨Nat.le_of_ble_eq_true rfl, Nat.le_of_ble_eq_true rfl⟩) rfl hl.1 rfl (Nat.le_of_ble_eq_true rfl) dX10_send_79 hu (fun  t4 H locs hw hH => ?_)
    refine lv_aload hx hb dX10_send_82 (lv_at hl 2 rfl) ?_
    obtain ⟨h7, hw⟩ := hw
    refine cg C hH 2 x4_ (by decide) h7 rfl rfl ixX2 10 (by decide) rfl wd_804 rfl dX10_send_84 ?_
    obtain ⟨h8, hw⟩ := hw
    refine lSize C hH (x4_ + 11) h8 wd_283 hl.1 (Nat.le_of_ble_eq_true rfl) dX10_send_87 hu ⟨Nat.le_of_ble_eq_true rfl, Nat.le_of_ble_eq_true rfl⟩ (fun H locs hH => ?_)
    exact cri C hr hk hH hu.1 hu.2 hw dX10_send_90
  · have hw := ifn c1 hw
    refine lv_bipush (v := -10) hx hb dX10_send_61 (by decide) ?_
    refine lv_iload hx hb dX10_send_63 (lv_at hl 3 rfl) ?_
    refine lv_isub hx hb dX10_send_65 ?_
    exact cri C hr hk hH hu.1 hu.2 hw dX10_send_66
def wp_C_send (mc ms : Nat) (t : CS) (a1 : Int32) (a2 : Int32) (post : Int32 → CS → Prop) : Prop := wp_C_fellowshipAt t a1 (fun o10 t9 => wp_C_loadAt t9 a2 (fun o12 t11 => oM o10 (post (-1 : Int32) t11) (fun j13 => oM o12 (post (-1 : Int32) t11) (fun j14 => wp_C_hindrance t11 j13 j14 (fun r16 t15 => if r16 = 0 then (j13 < tN t15 0 ∧ (∃ c21 s22 : Nat, (0 + c21 ≤ mc ∧ 0 + s22 ≤ ms) ∧ (wp_C_chooseGang c21 s22 t15 j13 j14 (tF t15 2 j13) (fun r20 t19 => if r20 = 0 then (wp_C_send_56 mc ms post (0 + c21) (0 + s22) t19 j13 j14 (6 : Int32)) else (wp_C_send_56 mc ms post (0 + c21) (0 + s22) t19 j13 j14 r16))))) else (wp_C_send_56 mc ms post 0 0 t15 j13 j14 r16))))))
set_option maxHeartbeats 4000000 in
set_option maxRecDepth 100000 in
theorem c_C_send (l : Launch) (D : va_G) (Z : Nat → ClassId) (E : Nat → Nat) (ad : Nat → Nat → Nat) (mc ms : Nat) (t : CS) (a1 : Int32) (a2 : Int32) (post : Int32 → CS → Prop) (hw : wp_C_send mc ms t a1 a2 post) (L : List Nat) (sz : Nat) : Met l yX10_send (Wd yX10_send cX10_send 6 (some .int)) (rm_C_send mc ms) (va_Pc [.ref (ad 5 0), .int a1, .int a2] (cPre D Z E ad L sz t)) (va_Qi post (cPost D Z E ad (cAs L sz)) (cAs L sz)) mc ms (cAs L sz) := by
  refine cMet (Qc := fun A => va_Qi post (cPost D Z E ad A) A) (by decide) rfl _ (Nat.le_of_ble_eq_true rfl) (fun p e s m args below meth c A C hr hk ls hl hH => ?_) L sz
  obtain ⟨⟨hx, hb, hml, hown, hts⟩, hK⟩ := id C
  have hl : lv_has ls 6 [(0, .ref (ad 5 0)), (1, .int a1), (2, .int a2)] := hl
  have hu : 0 ≤ mc ∧ 0 ≤ ms := ⟨Nat.zero_le _, Nat.zero_le _⟩
  unfold wp_C_send at hw
  refine lv_aload_n hx hb dX10_send_0 rfl (lv_at hl 0 rfl) ?_
  refine lv_iload_n hx hb dX10_send_1 rfl (lv_at hl 1 rfl) ?_
  refine ccVq0 C hH (crecv C hH 5 0 (by decide) (Nat.le_of_ble_eq_true rfl) rfl rfl (q := (RX10, TX10, 13))) [.int a1] (c_C_fellowshipAt l D Z E ad t a1 _ hw) (cwTV 1 hts wd_370 wd_372 ws_5 wd_1 wd_373 rfl rfl (by decide +kernel) ⟨Nat.le_of_ble_eq_true rfl, Nat.le_of_ble_eq_true rfl⟩) rfl hl.1 rfl (Nat.le_of_ble_eq_true rfl) dX10_send_2 hu (fun o10 t9 H locs hw hH => ?_)
  refine lq_astore_n (lv' := [(3, va_rf (o10.map (ad 0))), (0, .ref (ad 5 0)), (1, .int a1), (2, .int a2)]) hx hb dX10_send_5 rfl hl (by decide) rfl (fun ls hl => ?_)
  refine lv_aload_n hx hb dX10_send_6 rfl (lv_at hl 1 rfl) ?_
  refine lv_iload_n hx hb dX10_send_7 rfl (lv_at hl 3 rfl) ?_
  refine ccVq0 C hH (crecv C hH 5 0 (by decide) (Nat.le_of_ble_eq_true rfl) rfl rfl (q := (RX10, TX10, 13))) [.int a2] (c_C_loadAt l D Z E ad t9 a2 _ hw) (cwTV 1 hts wd_698 wd_700 ws_22 wd_1 wd_701 rfl rfl (by decide +kernel) ⟨Nat.le_of_ble_eq_true rfl, Nat.le_of_ble_eq_true rfl⟩) rfl hl.1 rfl (Nat.le_of_ble_eq_true rfl) dX10_send_8 hu (fun o12 t11 H locs hw hH => ?_)
  refine lq_astore (i := 4) (lv' := [(4, va_rf (o12.map (ad 2))), (3, va_rf (o10.map (ad 0))), (0, .ref (ad 5 0)), (1, .int a1), (2, .int a2)]) hx hb dX10_send_11 hl (by decide) (by simp [lq_cat]) (fun ls hl => ?_)
  refine lq_aload_n hx hb dX10_send_13 rfl (lv_at hl 1 rfl) ?_
  cases o10 with
  | none =>
    have hw := oM_none hw
    have hl : lv_has ls 6 [(4, va_rf (o12.map (ad 2))), (3, va_rf (none.map (ad 0))), (0, .ref (ad 5 0)), (1, .int a1), (2, .int a2)] := hl
    refine lv_ifnullN (tgt := 22) hx hb dX10_send_14 (by decide) ?_
    refine lv_iconst (v := -1) hx hb dX10_send_22 (by decide) ?_
    exact cri C hr hk hH hu.1 hu.2 hw dX10_send_23
  | some j13 =>
    have hw := oM_some hw
    have hl : lv_has ls 6 [(4, va_rf (o12.map (ad 2))), (3, .ref (ad 0 j13)), (0, .ref (ad 5 0)), (1, .int a1), (2, .int a2)] := hl
    refine lv_ifnull hx hb dX10_send_14 ?_
    refine lq_aload hx hb dX10_send_17 (lv_at hl 0 rfl) ?_
    cases o12 with
    | none =>
      have hw := oM_none hw
      have hl : lv_has ls 6 [(4, va_rf (none.map (ad 2))), (3, .ref (ad 0 j13)), (0, .ref (ad 5 0)), (1, .int a1), (2, .int a2)] := hl
      refine lv_ifnonnullN hx hb dX10_send_19 ?_
      refine lv_iconst (v := -1) hx hb dX10_send_22 (by decide) ?_
      exact cri C hr hk hH hu.1 hu.2 hw dX10_send_23
    | some j14 =>
      have hw := oM_some hw
      have hl : lv_has ls 6 [(4, .ref (ad 2 j14)), (3, .ref (ad 0 j13)), (0, .ref (ad 5 0)), (1, .int a1), (2, .int a2)] := hl
      refine lv_ifnonnull (tgt := 24) hx hb dX10_send_19 (by decide) ?_
      refine lv_aload_n hx hb dX10_send_24 rfl (lv_at hl 2 rfl) ?_
      refine lv_aload_n hx hb dX10_send_25 rfl (lv_at hl 1 rfl) ?_
      refine lv_aload hx hb dX10_send_26 (lv_at hl 0 rfl) ?_
      refine ccVi0 C hH (crecv C hH 5 0 (by decide) (Nat.le_of_ble_eq_true rfl) rfl rfl (q := (RX10, TX10, 13))) [.ref (ad 0 j13), .ref (ad 2 j14)] (c_C_hindrance l D Z E ad t11 j13 j14 _ hw) (cwTV 2 hts wd_867 wd_869 ws_29 wd_1 wd_870 rfl rfl (by decide +kernel) ⟨Nat.le_of_ble_eq_true rfl, Nat.le_of_ble_eq_true rfl⟩) rfl hl.1 rfl (Nat.le_of_ble_eq_true rfl) dX10_send_28 hu (fun r16 t15 H locs hw hH => ?_)
      refine lv_istore (lv' := [(5, .int r16), (4, .ref (ad 2 j14)), (3, .ref (ad 0 j13)), (0, .ref (ad 5 0)), (1, .int a1), (2, .int a2)]) hx hb dX10_send_31 hl (by decide) rfl (fun ls hl => ?_)
      refine lv_iload hx hb dX10_send_33 (lv_at hl 0 rfl) ?_
      refine lv_if_ne (tgt := 56) hx hb dX10_send_35 (by decide) (fun c17 => ?_) (fun c17 => ?_)
      · have hw := ifn c17 hw
        exact b_C_send_56 C hr hk  0 0 t15 j13 j14 r16 hw hu _ _ _ hH (lv_sub hl [3, 2, 1, 0] rfl)
      · have hw := ifp c17 hw
        refine lv_aload_n hx hb dX10_send_38 rfl (lv_at hl 3 rfl) ?_
        refine lv_aload_n hx hb dX10_send_39 rfl (lv_at hl 2 rfl) ?_
        refine lv_aload hx hb dX10_send_40 (lv_at hl 1 rfl) ?_
        refine lv_aload_n hx hb dX10_send_42 rfl (lv_at hl 2 rfl) ?_
        obtain ⟨h18, hw⟩ := hw
        refine cg C hH 0 j13 (by decide) h18 rfl rfl ixX0 2 (by decide) rfl wd_71 rfl dX10_send_43 ?_
        obtain ⟨c21, s22, hu, hw⟩ := hw
        refine ccVi C hH (crecv C hH 5 0 (by decide) (Nat.le_of_ble_eq_true rfl) rfl rfl (q := (RX10, TX10, 13))) [.ref (ad 0 j13), .ref (ad 2 j14), .int (tF t15 2 j13)] (c_C_chooseGang l D Z E ad c21 s22 t15 j13 j14 (tF t15 2 j13) _ hw) (cwTV 3 hts wd_875 wd_877 ws_30 wd_1 wd_878 rfl rfl (by decide +kernel) ⟨Nat.le_of_ble_eq_true rfl, Nat.le_of_ble_eq_true rfl⟩) rfl hl.1 rfl (Nat.le_of_ble_eq_true rfl) dX10_send_46 hu (fun r20 t19 H locs hw hH => ?_)
        refine lv_if_ne (tgt := 56) hx hb dX10_send_49 (by decide) (fun c23 => ?_) (fun c23 => ?_)
        · have hw := ifn c23 hw
          exact b_C_send_56 C hr hk  (0 + c21) (0 + s22) t19 j13 j14 r16 hw hu _ _ _ hH (lv_sub hl [3, 2, 1, 0] rfl)
        · have hw := ifp c23 hw
          refine lv_bipush (v := 6) hx hb dX10_send_52 (by decide) ?_
          refine lv_istore (lv' := [(5, .int (6 : Int32)), (4, .ref (ad 2 j14)), (3, .ref (ad 0 j13)), (0, .ref (ad 5 0)), (1, .int a1), (2, .int a2)]) hx hb dX10_send_54 hl (by decide) rfl (fun ls hl => ?_)
          exact b_C_send_56 C hr hk  (0 + c21) (0 + s22) t19 j13 j14 (6 : Int32) hw hu _ _ _ hH (lv_sub hl [3, 2, 1, 0] rfl)
/-! PorterTurns.off -/
abbrev rm_C_off : Room := { frames := 4, cells := 0, slots := 0, locals := 102 }
def wp_C_off (t : CS) (a1 : Int32) (post : Int32 → CS → Prop) : Prop := wp_C_loadAt t a1 (fun o2 t1 => oM o2 (post (-1 : Int32) t1) (fun j3 => j3 < tN t1 2 ∧ (if (tF t1 75 j3) = 0 then (∀ t6 : CS, t6 = sF t1 75 j3 (4 : Int32) → (j3 < tN t6 2 ∧ (∀ t8 : CS, t8 = sF t6 76 j3 (tF t6 171 0) → (post (1 : Int32) t8)))) else (post (-2 : Int32) t1))))
set_option maxHeartbeats 4000000 in
set_option maxRecDepth 100000 in
theorem c_C_off (l : Launch) (D : va_G) (Z : Nat → ClassId) (E : Nat → Nat) (ad : Nat → Nat → Nat) (t : CS) (a1 : Int32) (post : Int32 → CS → Prop) (hw : wp_C_off t a1 post) (L : List Nat) (sz : Nat) : Met l yX10_off (Wd yX10_off cX10_off 3 (some .int)) rm_C_off (va_Pc [.ref (ad 5 0), .int a1] (cPre D Z E ad L sz t)) (va_Qi post (cPost D Z E ad (cAs L sz)) (cAs L sz)) 0 0 (cAs L sz) := by
  refine cMet (Qc := fun A => va_Qi post (cPost D Z E ad A) A) (by decide) rfl _ (Nat.le_of_ble_eq_true rfl) (fun p e s m args below meth c A C hr hk ls hl hH => ?_) L sz
  obtain ⟨⟨hx, hb, hml, hown, hts⟩, hK⟩ := id C
  have hl : lv_has ls 3 [(0, .ref (ad 5 0)), (1, .int a1)] := hl
  unfold wp_C_off at hw
  refine lv_aload_n hx hb dX10_off_0 rfl (lv_at hl 0 rfl) ?_
  refine lv_iload_n hx hb dX10_off_1 rfl (lv_at hl 1 rfl) ?_
  refine ccVq0 C hH (crecv C hH 5 0 (by decide) (Nat.le_of_ble_eq_true rfl) rfl rfl (q := (RX10, TX10, 13))) [.int a1] (c_C_loadAt l D Z E ad t a1 _ hw) (cwTV 1 hts wd_698 wd_700 ws_22 wd_1 wd_701 rfl rfl (by decide +kernel) ⟨Nat.le_of_ble_eq_true rfl, Nat.le_of_ble_eq_true rfl⟩) rfl hl.1 rfl (Nat.le_of_ble_eq_true rfl) dX10_off_2 ⟨Nat.zero_le _, Nat.zero_le _⟩ (fun o2 t1 H locs hw hH => ?_)
  refine lq_astore_n (lv' := [(2, va_rf (o2.map (ad 2))), (0, .ref (ad 5 0)), (1, .int a1)]) hx hb dX10_off_5 rfl hl (by decide) rfl (fun ls hl => ?_)
  refine lq_aload_n hx hb dX10_off_6 rfl (lv_at hl 0 rfl) ?_
  cases o2 with
  | none =>
    have hw := oM_none hw
    have hl : lv_has ls 3 [(2, va_rf (none.map (ad 2))), (0, .ref (ad 5 0)), (1, .int a1)] := hl
    refine lv_ifnonnullN hx hb dX10_off_7 ?_
    refine lv_iconst (v := -1) hx hb dX10_off_10 (by decide) ?_
    exact cri C hr hk hH (Nat.zero_le _) (Nat.zero_le _) hw dX10_off_11
  | some j3 =>
    have hw := oM_some hw
    have hl : lv_has ls 3 [(2, .ref (ad 2 j3)), (0, .ref (ad 5 0)), (1, .int a1)] := hl
    refine lv_ifnonnull (tgt := 12) hx hb dX10_off_7 (by decide) ?_
    refine lv_aload_n hx hb dX10_off_12 rfl (lv_at hl 0 rfl) ?_
    obtain ⟨h4, hw⟩ := hw
    refine cg C hH 2 j3 (by decide) h4 rfl rfl ixX2 11 (by decide) rfl wd_806 rfl dX10_off_13 ?_
    refine lv_if_eq (tgt := 22) hx hb dX10_off_16 (by decide) (fun c5 => ?_) (fun c5 => ?_)
    · have hw := ifp c5 hw
      refine lv_aload_n hx hb dX10_off_22 rfl (lv_at hl 0 rfl) ?_
      refine lv_iconst (v := 4) hx hb dX10_off_23 (by decide) ?_
      refine cp C hH 2 j3 75 (by decide) h4 rfl rfl ixX2 tyX2_ok nmX2 11 (by decide) (by decide) rfl rfl wd_806 pfI rfl rfl (Nat.le_of_ble_eq_true rfl) (hs_75_Load Z ad t1 j3 _) dX10_off_24 (fun H locs hH => ?_)
      obtain ⟨t6, et6⟩ : ∃ x : CS, x = sF t1 75 j3 (4 : Int32) := ⟨_, rfl⟩
      rw [← et6] at hH
      have hw := hw t6 et6
      refine lv_aload_n hx hb dX10_off_27 rfl (lv_at hl 0 rfl) ?_
      refine lv_aload_n hx hb dX10_off_28 rfl (lv_at hl 1 rfl) ?_
      refine cg C hH 5 0 (by decide) (Nat.le_of_ble_eq_true rfl) rfl rfl ixX10 11 (by decide) rfl wd_247 rfl dX10_off_29 ?_
      obtain ⟨h7, hw⟩ := hw
      refine cp C hH 2 j3 76 (by decide) h7 rfl rfl ixX2 tyX2_ok nmX2 12 (by decide) (by decide) rfl rfl wd_808 pfI rfl rfl (Nat.le_of_ble_eq_true rfl) (hs_76_Load Z ad t6 j3 _) dX10_off_32 (fun H locs hH => ?_)
      obtain ⟨t8, et8⟩ : ∃ x : CS, x = sF t6 76 j3 (tF t6 171 0) := ⟨_, rfl⟩
      rw [← et8] at hH
      have hw := hw t8 et8
      refine lv_iconst (v := 1) hx hb dX10_off_35 (by decide) ?_
      exact cri C hr hk hH (Nat.zero_le _) (Nat.zero_le _) hw dX10_off_36
    · have hw := ifn c5 hw
      refine lv_bipush (v := -2) hx hb dX10_off_19 (by decide) ?_
      exact cri C hr hk hH (Nat.zero_le _) (Nat.zero_le _) hw dX10_off_21
/-! PorterTurns$Load.carrier -/
abbrev rm_Load_carrier : Room := { frames := 3, cells := 0, slots := 0, locals := 81 }
def wp_Load_carrier_2 (post : Option Nat → CS → Prop) : Nat → CS → Nat → Int32 → Int32 → Prop
  | 0 => fun _ _ _ _ => False
  | n + 1 => fun t x0_ x1_ x2_ => x0_ < tN t 2 ∧ ((x0_ + 11) < tN t 2 + 11 ∧ (if (nI (tT t (x0_ + 11)).length) ≤ x2_ then (post none t) else (vp_in x2_ (tT t (x0_ + 11)).length ∧ ((tT t (x0_ + 11)).length < 2 ^ 31 ∧ (∀ j6 : Nat, j6 = ((tT t (x0_ + 11)).getD x2_.toNatClampNeg 0) → (j6 < tN t 3 ∧ (if (nI j6) = x1_ then (∀ j10 : Nat, j10 = ((tT t (x0_ + 11)).getD x2_.toNatClampNeg 0) → (j10 < tN t 3 ∧ (post (some j10) t))) else (∀ x9 : Int32, x9 = x2_ + (1 : Int32) → (wp_Load_carrier_2 post n t x0_ x1_ x9)))))))))
set_option maxHeartbeats 4000000 in
set_option maxRecDepth 100000 in
theorem b_Load_carrier_2 {p : Program} {l : Launch} {e : Env} {s : State} {m : MethodId} {args : Array Value} {below : List Frame} {meth : Method} {c : Code} {D : va_G} {Z : Nat → ClassId} {E : Nat → Nat} {ad : Nat → Nat → Nat} {A : Nat → Prop} (C : CC p s m args c cX2_carrier 3 RX2 D Z E A) (hr : meth.sig.returnType = some (.object "PorterTurns$Man")) (hk : meth.locks = false) {post : Option Nat → CS → Prop} : ∀ (n : Nat) (t : CS) (x0_ : Nat) (x1_ : Int32) (x2_ : Int32), wp_Load_carrier_2 post n t x0_ x1_ x2_ → ∀ (H : Heap) (locs : List Loc) (ls : Array Slot), CH D Z E ad A s.heap t H locs → lv_has ls 3 [(0, .ref (ad 2 x0_)), (1, .int x1_), (2, .int x2_)] → CWq 3 p l e rm_Load_carrier s m args below meth c D Z E ad A 0 0 post H locs 0 0 (F0 m 2 ls []) := by
  obtain ⟨⟨hx, hb, hml, hown, hts⟩, hK⟩ := id C
  intro n
  induction n with
  | zero => intro t x0_ x1_ x2_ hw; exact hw.elim
  | succ n ih =>
    intro t x0_ x1_ x2_ hw H locs ls hH hl
    unfold wp_Load_carrier_2 at hw
    refine lv_iload_n hx hb dX2_carrier_2 rfl (lv_at hl 2 rfl) ?_
    refine lv_aload_n hx hb dX2_carrier_3 rfl (lv_at hl 0 rfl) ?_
    obtain ⟨h1, hw⟩ := hw
    refine cg C hH 2 x0_ (by decide) h1 rfl rfl ixX2 10 (by decide) rfl wd_803 rfl dX2_carrier_4 ?_
    obtain ⟨h2, hw⟩ := hw
    refine lSize C hH (x0_ + 11) h2 wd_916 hl.1 (Nat.le_of_ble_eq_true rfl) dX2_carrier_7 ⟨Nat.zero_le _, Nat.zero_le _⟩ ⟨Nat.le_of_ble_eq_true rfl, Nat.le_of_ble_eq_true rfl⟩ (fun H locs hH => ?_)
    refine lv_icmp_ge (tgt := 49) hx hb dX2_carrier_10 (by decide) (fun c3 => ?_) (fun c3 => ?_)
    · have hw := ifp c3 hw
      refine lv_null hx hb dX2_carrier_49 ?_
      exact crq 3 C hr hk hH (Nat.zero_le _) (Nat.zero_le _) (o := none) hw dX2_carrier_50
    · have hw := ifn c3 hw
      refine lv_aload_n hx hb dX2_carrier_13 rfl (lv_at hl 0 rfl) ?_
      refine cg C hH 2 x0_ (by decide) h1 rfl rfl ixX2 10 (by decide) rfl wd_803 rfl dX2_carrier_14 ?_
      refine lv_iload_n hx hb dX2_carrier_17 rfl (lv_at hl 2 rfl) ?_
      obtain ⟨h4, hw⟩ := hw
      obtain ⟨h5, hw⟩ := hw
      refine lGet C hH (x0_ + 11) h2 h4 h5 wd_917 hl.1 (Nat.le_of_ble_eq_true rfl) dX2_carrier_18 ⟨Nat.zero_le _, Nat.zero_le _⟩ ⟨Nat.le_of_ble_eq_true rfl, Nat.le_of_ble_eq_true rfl⟩ (fun H locs hH => ?_)
      obtain ⟨j6, ej6⟩ : ∃ x : Nat, x = ((tT t (x0_ + 11)).getD x2_.toNatClampNeg 0) := ⟨_, rfl⟩
      rw [← ej6]
      have hw := hw j6 ej6
      obtain ⟨h7, hw⟩ := hw
      refine cCast C hH 3 j6 (by decide) h7 rfl rfl wd_918 dX2_carrier_21 ?_
      refine cg C hH 3 j6 (by decide) h7 rfl rfl ixX3 0 (by decide) rfl wd_382 rfl dX2_carrier_24 ?_
      refine lv_iload_n hx hb dX2_carrier_27 rfl (lv_at hl 1 rfl) ?_
      refine lv_icmp_ne (tgt := 43) hx hb dX2_carrier_28 (by decide) (fun c8 => ?_) (fun c8 => ?_)
      · have hw := ifn c8 hw
        obtain ⟨x9, ex9⟩ : ∃ y : Int32, y = x2_ + (1 : Int32) := ⟨_, rfl⟩
        have hw := hw x9 ex9
        refine lv_iinc (v := x9) (lv' := [(2, .int x9), (0, .ref (ad 2 x0_)), (1, .int x1_)]) hx hb dX2_carrier_43 hl (k := 2) rfl (by rw [ex9]; rfl) (by decide) rfl (fun ls hl => ?_)
        refine lv_goto (tgt := 2) hx hb dX2_carrier_46 (by decide) ?_
        exact ih t x0_ x1_ x9 hw _ _ _ hH (lv_sub hl [1, 2, 0] rfl)
      · have hw := ifp c8 hw
        refine lv_aload_n hx hb dX2_carrier_31 rfl (lv_at hl 0 rfl) ?_
        refine cg C hH 2 x0_ (by decide) h1 rfl rfl ixX2 10 (by decide) rfl wd_803 rfl dX2_carrier_32 ?_
        refine lv_iload_n hx hb dX2_carrier_35 rfl (lv_at hl 2 rfl) ?_
        refine lGet C hH (x0_ + 11) h2 h4 h5 wd_917 hl.1 (Nat.le_of_ble_eq_true rfl) dX2_carrier_36 ⟨Nat.zero_le _, Nat.zero_le _⟩ ⟨Nat.le_of_ble_eq_true rfl, Nat.le_of_ble_eq_true rfl⟩ (fun H locs hH => ?_)
        obtain ⟨j10, ej10⟩ : ∃ x : Nat, x = ((tT t (x0_ + 11)).getD x2_.toNatClampNeg 0) := ⟨_, rfl⟩
        rw [← ej10]
        have hw := hw j10 ej10
        obtain ⟨h11, hw⟩ := hw
        refine cCast C hH 3 j10 (by decide) h11 rfl rfl wd_918 dX2_carrier_39 ?_
        exact crq 3 C hr hk hH (Nat.zero_le _) (Nat.zero_le _) (o := (some j10)) hw dX2_carrier_42
def wp_Load_carrier (t : CS) (i0 : Nat) (a1 : Int32) (post : Option Nat → CS → Prop) : Prop := ∃ nn : Nat, wp_Load_carrier_2 post nn t i0 a1 (0 : Int32)
set_option maxHeartbeats 4000000 in
set_option maxRecDepth 100000 in
theorem c_Load_carrier (l : Launch) (D : va_G) (Z : Nat → ClassId) (E : Nat → Nat) (ad : Nat → Nat → Nat) (t : CS) (i0 : Nat) (a1 : Int32) (post : Option Nat → CS → Prop) (hw : wp_Load_carrier t i0 a1 post) (L : List Nat) (sz : Nat) : Met l yX2_carrier (Wd yX2_carrier cX2_carrier 3 (some (.object "PorterTurns$Man"))) rm_Load_carrier (va_Pc [.ref (ad 2 i0), .int a1] (cPre D Z E ad L sz t)) (va_Qq (oQ 3 ad post) (cPost D Z E ad (cAs L sz)) (cAs L sz)) 0 0 (cAs L sz) := by
  refine cMet (Qc := fun A => va_Qq (oQ 3 ad post) (cPost D Z E ad A) A) (by decide) rfl _ (Nat.le_of_ble_eq_true rfl) (fun p e s m args below meth c A C hr hk ls hl hH => ?_) L sz
  obtain ⟨⟨hx, hb, hml, hown, hts⟩, hK⟩ := id C
  have hl : lv_has ls 3 [(0, .ref (ad 2 i0)), (1, .int a1)] := hl
  unfold wp_Load_carrier at hw
  refine lv_iconst (v := 0) hx hb dX2_carrier_0 (by decide) ?_
  refine lv_istore_n (lv' := [(2, .int (0 : Int32)), (0, .ref (ad 2 i0)), (1, .int a1)]) hx hb dX2_carrier_1 rfl hl (by decide) rfl (fun ls hl => ?_)
  obtain ⟨nn, hw⟩ := hw
  exact b_Load_carrier_2 C hr hk  nn t i0 a1 (0 : Int32) hw _ _ _ hH (lv_sub hl [1, 2, 0] rfl)
/-! PorterTurns$Fellowship.takeIn -/
abbrev rm_Fel_takeIn : Room := { frames := 0, cells := 0, slots := 0, locals := 0 }
def wp_Fel_takeIn (t : CS) (i0 : Nat) (a1 : Int32) (post : CS → Prop) : Prop := i0 < tN t 0 ∧ (∀ t2 : CS, t2 = sF t 4 i0 ((tF t 4 i0) + a1) → (i0 < tN t2 0 ∧ (∀ t4 : CS, t4 = sF t2 5 i0 ((tF t2 5 i0) + a1) → (post t4))))
set_option maxHeartbeats 4000000 in
set_option maxRecDepth 100000 in
theorem c_Fel_takeIn (l : Launch) (D : va_G) (Z : Nat → ClassId) (E : Nat → Nat) (ad : Nat → Nat → Nat) (t : CS) (i0 : Nat) (a1 : Int32) (post : CS → Prop) (hw : wp_Fel_takeIn t i0 a1 post) (L : List Nat) (sz : Nat) : Met l yX0_takeIn (Wd yX0_takeIn cX0_takeIn 2 (none)) rm_Fel_takeIn (va_Pc [.ref (ad 0 i0), .int a1] (cPre D Z E ad L sz t)) (va_Qv post (cPost D Z E ad (cAs L sz)) (cAs L sz)) 0 0 (cAs L sz) := by
  refine cMet (Qc := fun A => va_Qv post (cPost D Z E ad A) A) (by decide) rfl _ (Nat.le_of_ble_eq_true rfl) (fun p e s m args below meth c A C hr hk ls hl hH => ?_) L sz
  obtain ⟨⟨hx, hb, hml, hown, hts⟩, hK⟩ := id C
  have hl : lv_has ls 2 [(0, .ref (ad 0 i0)), (1, .int a1)] := hl
  unfold wp_Fel_takeIn at hw
  refine lv_aload_n hx hb dX0_takeIn_0 rfl (lv_at hl 0 rfl) ?_
  refine lv_dup hx hb dX0_takeIn_1 rfl ?_
  obtain ⟨h1, hw⟩ := hw
  refine cg C hH 0 i0 (by decide) h1 rfl rfl ixX0 4 (by decide) rfl wd_73 rfl dX0_takeIn_2 ?_
  refine lv_iload_n hx hb dX0_takeIn_5 rfl (lv_at hl 1 rfl) ?_
  refine lv_iadd hx hb dX0_takeIn_6 ?_
  refine cp C hH 0 i0 4 (by decide) h1 rfl rfl ixX0 tyX0_ok nmX0 4 (by decide) (by decide) rfl rfl wd_73 pfI rfl rfl (Nat.le_of_ble_eq_true rfl) (hs_4_Fellowship Z ad t i0 _) dX0_takeIn_7 (fun H locs hH => ?_)
  obtain ⟨t2, et2⟩ : ∃ x : CS, x = sF t 4 i0 ((tF t 4 i0) + a1) := ⟨_, rfl⟩
  rw [← et2] at hH
  have hw := hw t2 et2
  refine lv_aload_n hx hb dX0_takeIn_10 rfl (lv_at hl 0 rfl) ?_
  refine lv_dup hx hb dX0_takeIn_11 rfl ?_
  obtain ⟨h3, hw⟩ := hw
  refine cg C hH 0 i0 (by decide) h3 rfl rfl ixX0 5 (by decide) rfl wd_75 rfl dX0_takeIn_12 ?_
  refine lv_iload_n hx hb dX0_takeIn_15 rfl (lv_at hl 1 rfl) ?_
  refine lv_iadd hx hb dX0_takeIn_16 ?_
  refine cp C hH 0 i0 5 (by decide) h3 rfl rfl ixX0 tyX0_ok nmX0 5 (by decide) (by decide) rfl rfl wd_75 pfI rfl rfl (Nat.le_of_ble_eq_true rfl) (hs_5_Fellowship Z ad t2 i0 _) dX0_takeIn_17 (fun H locs hH => ?_)
  obtain ⟨t4, et4⟩ : ∃ x : CS, x = sF t2 5 i0 ((tF t2 5 i0) + a1) := ⟨_, rfl⟩
  rw [← et4] at hH
  have hw := hw t4 et4
  exact crv C hr hk hH (Nat.zero_le _) (Nat.zero_le _) hw dX0_takeIn_20
/-! PorterTurns.takeFines -/
abbrev rm_C_takeFines : Room := { frames := 5, cells := 0, slots := 0, locals := 132 }
def wp_C_takeFines_20 (post : Int32 → CS → Prop) : Nat → CS → Nat → Nat → Int32 → Int32 → Prop
  | 0 => fun _ _ _ _ _ => False
  | n + 1 => fun t x1_ x2_ x3_ x4_ => x1_ < tN t 2 ∧ ((x1_ + 11) < tN t 2 + 11 ∧ (if (nI (tT t (x1_ + 11)).length) ≤ x4_ then (x2_ < tN t 0 ∧ (wp_Fel_takeIn t x2_ x3_ (fun  t5 => post x3_ t5))) else (vp_in x4_ (tT t (x1_ + 11)).length ∧ ((tT t (x1_ + 11)).length < 2 ^ 31 ∧ (∀ j8 : Nat, j8 = ((tT t (x1_ + 11)).getD x4_.toNatClampNeg 0) → (j8 < tN t 3 ∧ (x2_ < tN t 0 ∧ (wp_C_saying t (nI x2_) (3 : Int32) (some x1_) (some j8) (fun r12 t11 => ∀ x13 : Int32, x13 = (if (0 : Int32) < (if r12 < (tF t 100 j8) then r12 else (tF t 100 j8)) then (if r12 < (tF t 100 j8) then r12 else (tF t 100 j8)) else (0 : Int32)) → (j8 < tN t11 3 ∧ (∀ t15 : CS, t15 = sF t11 100 j8 ((tF t11 100 j8) - x13) → (∀ x16 : Int32, x16 = (x3_ + x13) → (∀ x17 : Int32, x17 = x4_ + (1 : Int32) → (wp_C_takeFines_20 post n t15 x1_ x2_ x16 x17))))))))))))))
set_option maxHeartbeats 4000000 in
set_option maxRecDepth 100000 in
theorem b_C_takeFines_20 {p : Program} {l : Launch} {e : Env} {s : State} {m : MethodId} {args : Array Value} {below : List Frame} {meth : Method} {c : Code} {D : va_G} {Z : Nat → ClassId} {E : Nat → Nat} {ad : Nat → Nat → Nat} {A : Nat → Prop} (C : CC p s m args c cX10_takeFines 7 RX10 D Z E A) (hr : meth.sig.returnType = some .int) (hk : meth.locks = false) {post : Int32 → CS → Prop} : ∀ (n : Nat) (t : CS) (x1_ : Nat) (x2_ : Nat) (x3_ : Int32) (x4_ : Int32), wp_C_takeFines_20 post n t x1_ x2_ x3_ x4_ → ∀ (H : Heap) (locs : List Loc) (ls : Array Slot), CH D Z E ad A s.heap t H locs → lv_has ls 7 [(0, .ref (ad 5 0)), (1, .ref (ad 2 x1_)), (2, .ref (ad 0 x2_)), (3, .int x3_), (4, .int x4_)] → CWi p l e rm_C_takeFines s m args below meth c D Z E ad A 0 0 post H locs 0 0 (F0 m 20 ls []) := by
  obtain ⟨⟨hx, hb, hml, hown, hts⟩, hK⟩ := id C
  intro n
  induction n with
  | zero => intro t x1_ x2_ x3_ x4_ hw; exact hw.elim
  | succ n ih =>
    intro t x1_ x2_ x3_ x4_ hw H locs ls hH hl
    unfold wp_C_takeFines_20 at hw
    refine lv_iload hx hb dX10_takeFines_20 (lv_at hl 4 rfl) ?_
    refine lv_aload_n hx hb dX10_takeFines_22 rfl (lv_at hl 1 rfl) ?_
    obtain ⟨h1, hw⟩ := hw
    refine cg C hH 2 x1_ (by decide) h1 rfl rfl ixX2 10 (by decide) rfl wd_804 rfl dX10_takeFines_23 ?_
    obtain ⟨h2, hw⟩ := hw
    refine lSize C hH (x1_ + 11) h2 wd_283 hl.1 (Nat.le_of_ble_eq_true rfl) dX10_takeFines_26 ⟨Nat.zero_le _, Nat.zero_le _⟩ ⟨Nat.le_of_ble_eq_true rfl, Nat.le_of_ble_eq_true rfl⟩ (fun H locs hH => ?_)
    refine lv_icmp_ge (tgt := 95) hx hb dX10_takeFines_29 (by decide) (fun c3 => ?_) (fun c3 => ?_)
    · have hw := ifp c3 hw
      refine lv_aload_n hx hb dX10_takeFines_95 rfl (lv_at hl 2 rfl) ?_
      refine lv_iload_n hx hb dX10_takeFines_96 rfl (lv_at hl 3 rfl) ?_
      obtain ⟨h4, hw⟩ := hw
      refine ccVv0 C hH (crecv C hH 0 x2_ (by decide) h4 rfl rfl (q := (RX0, TX0, 10))) [.int x3_] (c_Fel_takeIn l D Z E ad t x2_ x3_ _ hw) (cwTV 1 hts wd_923 wd_924 wd_925 wd_5 wd_926 rfl rfl (by decide +kernel) ⟨Nat.le_of_ble_eq_true rfl, Nat.le_of_ble_eq_true rfl⟩) rfl hl.1 rfl (Nat.le_of_ble_eq_true rfl) dX10_takeFines_97 ⟨Nat.zero_le _, Nat.zero_le _⟩ (fun  t5 H locs hw hH => ?_)
      refine lv_iload_n hx hb dX10_takeFines_100 rfl (lv_at hl 3 rfl) ?_
      exact cri C hr hk hH (Nat.zero_le _) (Nat.zero_le _) hw dX10_takeFines_101
    · have hw := ifn c3 hw
      refine lv_aload_n hx hb dX10_takeFines_32 rfl (lv_at hl 1 rfl) ?_
      refine cg C hH 2 x1_ (by decide) h1 rfl rfl ixX2 10 (by decide) rfl wd_804 rfl dX10_takeFines_33 ?_
      refine lv_iload hx hb dX10_takeFines_36 (lv_at hl 4 rfl) ?_
      obtain ⟨h6, hw⟩ := hw
      obtain ⟨h7, hw⟩ := hw
      refine lGet C hH (x1_ + 11) h2 h6 h7 wd_320 hl.1 (Nat.le_of_ble_eq_true rfl) dX10_takeFines_38 ⟨Nat.zero_le _, Nat.zero_le _⟩ ⟨Nat.le_of_ble_eq_true rfl, Nat.le_of_ble_eq_true rfl⟩ (fun H locs hH => ?_)
      obtain ⟨j8, ej8⟩ : ∃ x : Nat, x = ((tT t (x1_ + 11)).getD x4_.toNatClampNeg 0) := ⟨_, rfl⟩
      rw [← ej8]
      have hw := hw j8 ej8
      obtain ⟨h9, hw⟩ := hw
      refine cCast C hH 3 j8 (by decide) h9 rfl rfl wd_374 dX10_takeFines_41 ?_
      refine lv_astore (lv' := [(5, .ref (ad 3 j8)), (0, .ref (ad 5 0)), (1, .ref (ad 2 x1_)), (2, .ref (ad 0 x2_)), (3, .int x3_), (4, .int x4_)]) hx hb dX10_takeFines_44 hl (by decide) rfl (fun ls hl => ?_)
      refine lv_iconst (v := 0) hx hb dX10_takeFines_46 (by decide) ?_
      refine lv_aload hx hb dX10_takeFines_47 (lv_at hl 0 rfl) ?_
      refine cg C hH 3 j8 (by decide) h9 rfl rfl ixX3 4 (by decide) rfl wd_393 rfl dX10_takeFines_49 ?_
      refine lv_aload_n hx hb dX10_takeFines_52 rfl (lv_at hl 1 rfl) ?_
      refine lv_aload_n hx hb dX10_takeFines_53 rfl (lv_at hl 3 rfl) ?_
      obtain ⟨h10, hw⟩ := hw
      refine cg C hH 0 x2_ (by decide) h10 rfl rfl ixX0 0 (by decide) rfl wd_68 rfl dX10_takeFines_54 ?_
      refine lv_iconst (v := 3) hx hb dX10_takeFines_57 (by decide) ?_
      refine lv_aload_n hx hb dX10_takeFines_58 rfl (lv_at hl 2 rfl) ?_
      refine lv_aload hx hb dX10_takeFines_59 (lv_at hl 0 rfl) ?_
      refine ccVi0 C hH (crecv C hH 5 0 (by decide) (Nat.le_of_ble_eq_true rfl) rfl rfl (q := (RX10, TX10, 13))) [.int (nI x2_), .int (3 : Int32), va_rf ((some x1_).map (ad 2)), va_rf ((some j8).map (ad 3))] (c_C_saying l D Z E ad t (nI x2_) (3 : Int32) (some x1_) (some j8) _ hw) (cwTV 4 hts wd_704 wd_706 ws_23 wd_1 wd_707 rfl rfl (by decide +kernel) ⟨Nat.le_of_ble_eq_true rfl, Nat.le_of_ble_eq_true rfl⟩) rfl hl.1 rfl (Nat.le_of_ble_eq_true rfl) dX10_takeFines_61 ⟨Nat.zero_le _, Nat.zero_le _⟩ (fun r12 t11 H locs hw hH => ?_)
      refine va_mmin hx hb (by rw [hml, hl.1]) hown (hts _ wd_879) (hts _ wd_155) (hts _ wd_7) (hts _ wd_156) (Nat.le_of_ble_eq_true rfl) (Nat.le_of_ble_eq_true rfl) (show 0 ≤ 0 ∧ 0 ≤ 0 from ⟨Nat.zero_le _, Nat.zero_le _⟩).1 (show 0 ≤ 0 ∧ 0 ≤ 0 from ⟨Nat.zero_le _, Nat.zero_le _⟩).2 dX10_takeFines_64 ?_
      refine va_mmax hx hb (by rw [hml, hl.1]) hown (hts _ wd_730) (hts _ wd_123) (hts _ wd_7) (hts _ wd_124) (Nat.le_of_ble_eq_true rfl) (Nat.le_of_ble_eq_true rfl) (show 0 ≤ 0 ∧ 0 ≤ 0 from ⟨Nat.zero_le _, Nat.zero_le _⟩).1 (show 0 ≤ 0 ∧ 0 ≤ 0 from ⟨Nat.zero_le _, Nat.zero_le _⟩).2 dX10_takeFines_67 ?_
      refine lv_topi (fun x13 ex13 => ?_)
      have hw := hw x13 ex13
      refine lv_istore (lv' := [(6, .int x13), (5, .ref (ad 3 j8)), (0, .ref (ad 5 0)), (1, .ref (ad 2 x1_)), (2, .ref (ad 0 x2_)), (3, .int x3_), (4, .int x4_)]) hx hb dX10_takeFines_70 hl (by decide) rfl (fun ls hl => ?_)
      refine lv_aload hx hb dX10_takeFines_72 (lv_at hl 1 rfl) ?_
      refine lv_dup hx hb dX10_takeFines_74 rfl ?_
      obtain ⟨h14, hw⟩ := hw
      refine cg C hH 3 j8 (by decide) h14 rfl rfl ixX3 4 (by decide) rfl wd_393 rfl dX10_takeFines_75 ?_
      refine lv_iload hx hb dX10_takeFines_78 (lv_at hl 0 rfl) ?_
      refine lv_isub hx hb dX10_takeFines_80 ?_
      refine cp C hH 3 j8 100 (by decide) h14 rfl rfl ixX3 tyX3_ok nmX3 4 (by decide) (by decide) rfl rfl wd_393 pfI rfl rfl (Nat.le_of_ble_eq_true rfl) (hs_100_Man Z ad t11 j8 _) dX10_takeFines_81 (fun H locs hH => ?_)
      obtain ⟨t15, et15⟩ : ∃ x : CS, x = sF t11 100 j8 ((tF t11 100 j8) - x13) := ⟨_, rfl⟩
      rw [← et15] at hH
      have hw := hw t15 et15
      refine lv_iload_n hx hb dX10_takeFines_84 rfl (lv_at hl 5 rfl) ?_
      refine lv_iload hx hb dX10_takeFines_85 (lv_at hl 0 rfl) ?_
      refine lv_iadd hx hb dX10_takeFines_87 ?_
      refine lv_topi (fun x16 ex16 => ?_)
      have hw := hw x16 ex16
      refine lv_istore_n (lv' := [(3, .int x16), (6, .int x13), (5, .ref (ad 3 j8)), (0, .ref (ad 5 0)), (1, .ref (ad 2 x1_)), (2, .ref (ad 0 x2_)), (4, .int x4_)]) hx hb dX10_takeFines_88 rfl hl (by decide) rfl (fun ls hl => ?_)
      obtain ⟨x17, ex17⟩ : ∃ y : Int32, y = x4_ + (1 : Int32) := ⟨_, rfl⟩
      have hw := hw x17 ex17
      refine lv_iinc (v := x17) (lv' := [(4, .int x17), (3, .int x16), (6, .int x13), (5, .ref (ad 3 j8)), (0, .ref (ad 5 0)), (1, .ref (ad 2 x1_)), (2, .ref (ad 0 x2_))]) hx hb dX10_takeFines_89 hl (k := 6) rfl (by rw [ex17]; rfl) (by decide) rfl (fun ls hl => ?_)
      refine lv_goto (tgt := 20) hx hb dX10_takeFines_92 (by decide) ?_
      exact ih t15 x1_ x2_ x16 x17 hw _ _ _ hH (lv_sub hl [4, 5, 6, 1, 0] rfl)
def wp_C_takeFines (t : CS) (a1 : Nat) (post : Int32 → CS → Prop) : Prop := a1 < tN t 2 ∧ (wp_C_fellowshipAt t (tF t 77 a1) (fun o20 t19 => oM o20 (post (0 : Int32) t19) (fun j21 => ∃ nn : Nat, wp_C_takeFines_20 post nn t19 a1 j21 (0 : Int32) (0 : Int32))))
set_option maxHeartbeats 4000000 in
set_option maxRecDepth 100000 in
theorem c_C_takeFines (l : Launch) (D : va_G) (Z : Nat → ClassId) (E : Nat → Nat) (ad : Nat → Nat → Nat) (t : CS) (a1 : Nat) (post : Int32 → CS → Prop) (hw : wp_C_takeFines t a1 post) (L : List Nat) (sz : Nat) : Met l yX10_takeFines (Wd yX10_takeFines cX10_takeFines 7 (some .int)) rm_C_takeFines (va_Pc [.ref (ad 5 0), .ref (ad 2 a1)] (cPre D Z E ad L sz t)) (va_Qi post (cPost D Z E ad (cAs L sz)) (cAs L sz)) 0 0 (cAs L sz) := by
  refine cMet (Qc := fun A => va_Qi post (cPost D Z E ad A) A) (by decide) rfl _ (Nat.le_of_ble_eq_true rfl) (fun p e s m args below meth c A C hr hk ls hl hH => ?_) L sz
  obtain ⟨⟨hx, hb, hml, hown, hts⟩, hK⟩ := id C
  have hl : lv_has ls 7 [(0, .ref (ad 5 0)), (1, .ref (ad 2 a1))] := hl
  unfold wp_C_takeFines at hw
  refine lv_aload_n hx hb dX10_takeFines_0 rfl (lv_at hl 0 rfl) ?_
  refine lv_aload_n hx hb dX10_takeFines_1 rfl (lv_at hl 1 rfl) ?_
  obtain ⟨h18, hw⟩ := hw
  refine cg C hH 2 a1 (by decide) h18 rfl rfl ixX2 13 (by decide) rfl wd_810 rfl dX10_takeFines_2 ?_
  refine ccVq0 C hH (crecv C hH 5 0 (by decide) (Nat.le_of_ble_eq_true rfl) rfl rfl (q := (RX10, TX10, 13))) [.int (tF t 77 a1)] (c_C_fellowshipAt l D Z E ad t (tF t 77 a1) _ hw) (cwTV 1 hts wd_370 wd_372 ws_5 wd_1 wd_373 rfl rfl (by decide +kernel) ⟨Nat.le_of_ble_eq_true rfl, Nat.le_of_ble_eq_true rfl⟩) rfl hl.1 rfl (Nat.le_of_ble_eq_true rfl) dX10_takeFines_5 ⟨Nat.zero_le _, Nat.zero_le _⟩ (fun o20 t19 H locs hw hH => ?_)
  refine lq_astore_n (lv' := [(2, va_rf (o20.map (ad 0))), (0, .ref (ad 5 0)), (1, .ref (ad 2 a1))]) hx hb dX10_takeFines_8 rfl hl (by decide) rfl (fun ls hl => ?_)
  refine lq_aload_n hx hb dX10_takeFines_9 rfl (lv_at hl 0 rfl) ?_
  cases o20 with
  | none =>
    have hw := oM_none hw
    have hl : lv_has ls 7 [(2, va_rf (none.map (ad 0))), (0, .ref (ad 5 0)), (1, .ref (ad 2 a1))] := hl
    refine lv_ifnonnullN hx hb dX10_takeFines_10 ?_
    refine lv_iconst (v := 0) hx hb dX10_takeFines_13 (by decide) ?_
    exact cri C hr hk hH (Nat.zero_le _) (Nat.zero_le _) hw dX10_takeFines_14
  | some j21 =>
    have hw := oM_some hw
    have hl : lv_has ls 7 [(2, .ref (ad 0 j21)), (0, .ref (ad 5 0)), (1, .ref (ad 2 a1))] := hl
    refine lv_ifnonnull (tgt := 15) hx hb dX10_takeFines_10 (by decide) ?_
    refine lv_iconst (v := 0) hx hb dX10_takeFines_15 (by decide) ?_
    refine lv_istore_n (lv' := [(3, .int (0 : Int32)), (2, .ref (ad 0 j21)), (0, .ref (ad 5 0)), (1, .ref (ad 2 a1))]) hx hb dX10_takeFines_16 rfl hl (by decide) rfl (fun ls hl => ?_)
    refine lv_iconst (v := 0) hx hb dX10_takeFines_17 (by decide) ?_
    refine lv_istore (lv' := [(4, .int (0 : Int32)), (3, .int (0 : Int32)), (2, .ref (ad 0 j21)), (0, .ref (ad 5 0)), (1, .ref (ad 2 a1))]) hx hb dX10_takeFines_18 hl (by decide) rfl (fun ls hl => ?_)
    obtain ⟨nn, hw⟩ := hw
    exact b_C_takeFines_20 C hr hk  nn t19 a1 j21 (0 : Int32) (0 : Int32) hw _ _ _ hH (lv_sub hl [3, 4, 2, 1, 0] rfl)
/-! PorterTurns.fall -/
abbrev rm_C_fall : Room := { frames := 6, cells := 0, slots := 0, locals := 158 }
def wp_C_fall_73 (post : Int32 → CS → Prop) (t : CS) (x4_ : Nat) : Prop := wp_C_takeFines t x4_ (fun r2 t1 => post r2 t1)
set_option maxHeartbeats 4000000 in
set_option maxRecDepth 100000 in
theorem b_C_fall_73 {p : Program} {l : Launch} {e : Env} {s : State} {m : MethodId} {args : Array Value} {below : List Frame} {meth : Method} {c : Code} {D : va_G} {Z : Nat → ClassId} {E : Nat → Nat} {ad : Nat → Nat → Nat} {A : Nat → Prop} (C : CC p s m args c cX10_fall 6 RX10 D Z E A) (hr : meth.sig.returnType = some .int) (hk : meth.locks = false) {post : Int32 → CS → Prop} : ∀ (t : CS) (x4_ : Nat), wp_C_fall_73 post t x4_ → ∀ (H : Heap) (locs : List Loc) (ls : Array Slot), CH D Z E ad A s.heap t H locs → lv_has ls 6 [(0, .ref (ad 5 0)), (4, .ref (ad 2 x4_))] → CWi p l e rm_C_fall s m args below meth c D Z E ad A 0 0 post H locs 0 0 (F0 m 73 ls []) := by
  obtain ⟨⟨hx, hb, hml, hown, hts⟩, hK⟩ := id C
  intro t x4_ hw H locs ls hH hl
  unfold wp_C_fall_73 at hw
  refine lv_aload_n hx hb dX10_fall_73 rfl (lv_at hl 0 rfl) ?_
  refine lv_aload hx hb dX10_fall_74 (lv_at hl 1 rfl) ?_
  refine ccVi0 C hH (crecv C hH 5 0 (by decide) (Nat.le_of_ble_eq_true rfl) rfl rfl (q := (RX10, TX10, 13))) [.ref (ad 2 x4_)] (c_C_takeFines l D Z E ad t x4_ _ hw) (cwTV 1 hts wd_919 wd_921 ws_33 wd_1 wd_922 rfl rfl (by decide +kernel) ⟨Nat.le_of_ble_eq_true rfl, Nat.le_of_ble_eq_true rfl⟩) rfl hl.1 rfl (Nat.le_of_ble_eq_true rfl) dX10_fall_76 ⟨Nat.zero_le _, Nat.zero_le _⟩ (fun r2 t1 H locs hw hH => ?_)
  exact cri C hr hk hH (Nat.zero_le _) (Nat.zero_le _) hw dX10_fall_79
def wp_C_fall_44 (post : Int32 → CS → Prop) (t : CS) (x3_ : Int32) (x4_ : Nat) (x5_ : Option Nat) : Prop := x4_ < tN t 2 ∧ (if (tF t 75 x4_) = (1 : Int32) then (∀ t5 : CS, t5 = sF t 75 x4_ (3 : Int32) → (oM x5_ (wp_C_fall_73 post t5 x4_) (fun j6 => j6 < tN t5 3 ∧ (∀ t8 : CS, t8 = sF t5 103 j6 x3_ → (wp_C_fall_73 post t8 x4_))))) else (post (-2 : Int32) t))
set_option maxHeartbeats 4000000 in
set_option maxRecDepth 100000 in
theorem b_C_fall_44 {p : Program} {l : Launch} {e : Env} {s : State} {m : MethodId} {args : Array Value} {below : List Frame} {meth : Method} {c : Code} {D : va_G} {Z : Nat → ClassId} {E : Nat → Nat} {ad : Nat → Nat → Nat} {A : Nat → Prop} (C : CC p s m args c cX10_fall 6 RX10 D Z E A) (hr : meth.sig.returnType = some .int) (hk : meth.locks = false) {post : Int32 → CS → Prop} : ∀ (t : CS) (x3_ : Int32) (x4_ : Nat) (x5_ : Option Nat), wp_C_fall_44 post t x3_ x4_ x5_ → ∀ (H : Heap) (locs : List Loc) (ls : Array Slot), CH D Z E ad A s.heap t H locs → lv_has ls 6 [(0, .ref (ad 5 0)), (3, .int x3_), (4, .ref (ad 2 x4_)), (5, va_rf (x5_.map (ad 3)))] → CWi p l e rm_C_fall s m args below meth c D Z E ad A 0 0 post H locs 0 0 (F0 m 44 ls []) := by
  obtain ⟨⟨hx, hb, hml, hown, hts⟩, hK⟩ := id C
  intro t x3_ x4_ x5_ hw H locs ls hH hl
  unfold wp_C_fall_44 at hw
  refine lv_aload hx hb dX10_fall_44 (lv_at hl 2 rfl) ?_
  obtain ⟨h3, hw⟩ := hw
  refine cg C hH 2 x4_ (by decide) h3 rfl rfl ixX2 11 (by decide) rfl wd_806 rfl dX10_fall_46 ?_
  refine lv_iconst (v := 1) hx hb dX10_fall_49 (by decide) ?_
  refine lv_icmp_eq (tgt := 56) hx hb dX10_fall_50 (by decide) (fun c4 => ?_) (fun c4 => ?_)
  · have hw := ifp c4 hw
    refine lv_aload hx hb dX10_fall_56 (lv_at hl 2 rfl) ?_
    refine lv_iconst (v := 3) hx hb dX10_fall_58 (by decide) ?_
    refine cp C hH 2 x4_ 75 (by decide) h3 rfl rfl ixX2 tyX2_ok nmX2 11 (by decide) (by decide) rfl rfl wd_806 pfI rfl rfl (Nat.le_of_ble_eq_true rfl) (hs_75_Load Z ad t x4_ _) dX10_fall_59 (fun H locs hH => ?_)
    obtain ⟨t5, et5⟩ : ∃ x : CS, x = sF t 75 x4_ (3 : Int32) := ⟨_, rfl⟩
    rw [← et5] at hH
    have hw := hw t5 et5
    refine lq_aload hx hb dX10_fall_62 (lv_at hl 3 rfl) ?_
    cases x5_ with
    | none =>
      have hw := oM_none hw
      have hl : lv_has ls 6 [(0, .ref (ad 5 0)), (3, .int x3_), (4, .ref (ad 2 x4_)), (5, va_rf (none.map (ad 3)))] := hl
      refine lv_ifnullN (tgt := 73) hx hb dX10_fall_64 (by decide) ?_
      exact b_C_fall_73 C hr hk  t5 x4_ hw _ _ _ hH (lv_sub hl [0, 2] rfl)
    | some j6 =>
      have hw := oM_some hw
      have hl : lv_has ls 6 [(0, .ref (ad 5 0)), (3, .int x3_), (4, .ref (ad 2 x4_)), (5, .ref (ad 3 j6))] := hl
      refine lv_ifnull hx hb dX10_fall_64 ?_
      refine lv_aload hx hb dX10_fall_67 (lv_at hl 3 rfl) ?_
      refine lv_iload_n hx hb dX10_fall_69 rfl (lv_at hl 1 rfl) ?_
      obtain ⟨h7, hw⟩ := hw
      refine cp C hH 3 j6 103 (by decide) h7 rfl rfl ixX3 tyX3_ok nmX3 7 (by decide) (by decide) rfl rfl wd_400 pfI rfl rfl (Nat.le_of_ble_eq_true rfl) (hs_103_Man Z ad t5 j6 _) dX10_fall_70 (fun H locs hH => ?_)
      obtain ⟨t8, et8⟩ : ∃ x : CS, x = sF t5 103 j6 x3_ := ⟨_, rfl⟩
      rw [← et8] at hH
      have hw := hw t8 et8
      exact b_C_fall_73 C hr hk  t8 x4_ hw _ _ _ hH (lv_sub hl [0, 2] rfl)
  · have hw := ifn c4 hw
    refine lv_bipush (v := -2) hx hb dX10_fall_53 (by decide) ?_
    exact cri C hr hk hH (Nat.zero_le _) (Nat.zero_le _) hw dX10_fall_55
def wp_C_fall (t : CS) (a1 : Int32) (a2 : Int32) (a3 : Int32) (post : Int32 → CS → Prop) : Prop := wp_C_loadAt t a1 (fun o10 t9 => oM o10 (post (-1 : Int32) t9) (fun j11 => j11 < tN t9 2 ∧ (wp_Load_carrier t9 j11 a2 (fun o14 t13 => if a2 = (-1 : Int32) then (wp_C_fall_44 post t13 a3 j11 o14) else (oM o14 (post (-1 : Int32) t13) (fun j16 => wp_C_within t13 a3 (0 : Int32) (200000 : Int32) (fun r18 t17 => if r18 = 0 then (post (-1 : Int32) t17) else (wp_C_fall_44 post t17 a3 j11 (some j16)))))))))
set_option maxHeartbeats 4000000 in
set_option maxRecDepth 100000 in
theorem c_C_fall (l : Launch) (D : va_G) (Z : Nat → ClassId) (E : Nat → Nat) (ad : Nat → Nat → Nat) (t : CS) (a1 : Int32) (a2 : Int32) (a3 : Int32) (post : Int32 → CS → Prop) (hw : wp_C_fall t a1 a2 a3 post) (L : List Nat) (sz : Nat) : Met l yX10_fall (Wd yX10_fall cX10_fall 6 (some .int)) rm_C_fall (va_Pc [.ref (ad 5 0), .int a1, .int a2, .int a3] (cPre D Z E ad L sz t)) (va_Qi post (cPost D Z E ad (cAs L sz)) (cAs L sz)) 0 0 (cAs L sz) := by
  refine cMet (Qc := fun A => va_Qi post (cPost D Z E ad A) A) (by decide) rfl _ (Nat.le_of_ble_eq_true rfl) (fun p e s m args below meth c A C hr hk ls hl hH => ?_) L sz
  obtain ⟨⟨hx, hb, hml, hown, hts⟩, hK⟩ := id C
  have hl : lv_has ls 6 [(0, .ref (ad 5 0)), (1, .int a1), (2, .int a2), (3, .int a3)] := hl
  unfold wp_C_fall at hw
  refine lv_aload_n hx hb dX10_fall_0 rfl (lv_at hl 0 rfl) ?_
  refine lv_iload_n hx hb dX10_fall_1 rfl (lv_at hl 1 rfl) ?_
  refine ccVq0 C hH (crecv C hH 5 0 (by decide) (Nat.le_of_ble_eq_true rfl) rfl rfl (q := (RX10, TX10, 13))) [.int a1] (c_C_loadAt l D Z E ad t a1 _ hw) (cwTV 1 hts wd_698 wd_700 ws_22 wd_1 wd_701 rfl rfl (by decide +kernel) ⟨Nat.le_of_ble_eq_true rfl, Nat.le_of_ble_eq_true rfl⟩) rfl hl.1 rfl (Nat.le_of_ble_eq_true rfl) dX10_fall_2 ⟨Nat.zero_le _, Nat.zero_le _⟩ (fun o10 t9 H locs hw hH => ?_)
  refine lq_astore (lv' := [(4, va_rf (o10.map (ad 2))), (0, .ref (ad 5 0)), (1, .int a1), (2, .int a2), (3, .int a3)]) hx hb dX10_fall_5 hl (by decide) rfl (fun ls hl => ?_)
  refine lq_aload hx hb dX10_fall_7 (lv_at hl 0 rfl) ?_
  cases o10 with
  | none =>
    have hw := oM_none hw
    have hl : lv_has ls 6 [(4, va_rf (none.map (ad 2))), (0, .ref (ad 5 0)), (1, .int a1), (2, .int a2), (3, .int a3)] := hl
    refine lv_ifnonnullN hx hb dX10_fall_9 ?_
    refine lv_iconst (v := -1) hx hb dX10_fall_12 (by decide) ?_
    exact cri C hr hk hH (Nat.zero_le _) (Nat.zero_le _) hw dX10_fall_13
  | some j11 =>
    have hw := oM_some hw
    have hl : lv_has ls 6 [(4, .ref (ad 2 j11)), (0, .ref (ad 5 0)), (1, .int a1), (2, .int a2), (3, .int a3)] := hl
    refine lv_ifnonnull (tgt := 14) hx hb dX10_fall_9 (by decide) ?_
    refine lv_aload hx hb dX10_fall_14 (lv_at hl 0 rfl) ?_
    refine lv_iload_n hx hb dX10_fall_16 rfl (lv_at hl 3 rfl) ?_
    obtain ⟨h12, hw⟩ := hw
    refine ccVq0 C hH (crecv C hH 2 j11 (by decide) h12 rfl rfl (q := (RX2, TX2, 19))) [.int a2] (c_Load_carrier l D Z E ad t9 j11 a2 _ hw) (cwTV 1 hts wd_912 wd_913 wd_914 wd_24 wd_915 rfl rfl (by decide +kernel) ⟨Nat.le_of_ble_eq_true rfl, Nat.le_of_ble_eq_true rfl⟩) rfl hl.1 rfl (Nat.le_of_ble_eq_true rfl) dX10_fall_17 ⟨Nat.zero_le _, Nat.zero_le _⟩ (fun o14 t13 H locs hw hH => ?_)
    refine lq_astore (lv' := [(5, va_rf (o14.map (ad 3))), (4, .ref (ad 2 j11)), (0, .ref (ad 5 0)), (1, .int a1), (2, .int a2), (3, .int a3)]) hx hb dX10_fall_20 hl (by decide) rfl (fun ls hl => ?_)
    refine lv_iload_n hx hb dX10_fall_22 rfl (lv_at hl 4 rfl) ?_
    refine lv_iconst (v := -1) hx hb dX10_fall_23 (by decide) ?_
    refine lv_icmp_eq (tgt := 44) hx hb dX10_fall_24 (by decide) (fun c15 => ?_) (fun c15 => ?_)
    · have hw := ifp c15 hw
      exact b_C_fall_44 C hr hk  t13 a3 j11 o14 hw _ _ _ hH (lv_sub hl [2, 5, 1, 0] rfl)
    · have hw := ifn c15 hw
      refine lq_aload hx hb dX10_fall_27 (lv_at hl 0 rfl) ?_
      cases o14 with
      | none =>
        have hw := oM_none hw
        have hl : lv_has ls 6 [(5, va_rf (none.map (ad 3))), (4, .ref (ad 2 j11)), (0, .ref (ad 5 0)), (1, .int a1), (2, .int a2), (3, .int a3)] := hl
        refine lv_ifnullN (tgt := 42) hx hb dX10_fall_29 (by decide) ?_
        refine lv_iconst (v := -1) hx hb dX10_fall_42 (by decide) ?_
        exact cri C hr hk hH (Nat.zero_le _) (Nat.zero_le _) hw dX10_fall_43
      | some j16 =>
        have hw := oM_some hw
        have hl : lv_has ls 6 [(5, .ref (ad 3 j16)), (4, .ref (ad 2 j11)), (0, .ref (ad 5 0)), (1, .int a1), (2, .int a2), (3, .int a3)] := hl
        refine lv_ifnull hx hb dX10_fall_29 ?_
        refine lv_iload_n hx hb dX10_fall_32 rfl (lv_at hl 5 rfl) ?_
        refine lv_iconst (v := 0) hx hb dX10_fall_33 (by decide) ?_
        refine lv_ldc (own := RX10) (index := 232) (v := 200000) hx hb hown (hts _ wd_769) dX10_fall_34 ?_
        refine ccSi0 C hH [.int a3, .int (0 : Int32), .int (200000 : Int32)] (c_C_within l D Z E ad t13 a3 (0 : Int32) (200000 : Int32) _ hw) (cwTS 3 hts wd_280 wd_281 wd_1 wd_282 rfl rfl (by decide +kernel) ⟨Nat.le_of_ble_eq_true rfl, Nat.le_of_ble_eq_true rfl⟩) rfl hl.1 rfl (Nat.le_of_ble_eq_true rfl) dX10_fall_36 ⟨Nat.zero_le _, Nat.zero_le _⟩ (fun r18 t17 H locs hw hH => ?_)
        refine lv_if_ne (tgt := 44) hx hb dX10_fall_39 (by decide) (fun c19 => ?_) (fun c19 => ?_)
        · have hw := ifn c19 hw
          exact b_C_fall_44 C hr hk  t17 a3 j11 (some j16) hw _ _ _ hH (lv_sub hl [2, 5, 1, 0] rfl)
        · have hw := ifp c19 hw
          refine lv_iconst (v := -1) hx hb dX10_fall_42 (by decide) ?_
          exact cri C hr hk hH (Nat.zero_le _) (Nat.zero_le _) hw dX10_fall_43
/-! PorterTurns$Load.waitedBy -/
abbrev rm_Load_waitedBy : Room := { frames := 0, cells := 0, slots := 0, locals := 0 }
def wp_Load_waitedBy (t : CS) (i0 : Nat) (a1 : Int32) (post : Int32 → CS → Prop) : Prop := i0 < tN t 2 ∧ (if (tF t 75 i0) = 0 then (post (a1 - (tF t 73 i0)) t) else (post ((tF t 76 i0) - (tF t 73 i0)) t))
set_option maxHeartbeats 4000000 in
set_option maxRecDepth 100000 in
theorem c_Load_waitedBy (l : Launch) (D : va_G) (Z : Nat → ClassId) (E : Nat → Nat) (ad : Nat → Nat → Nat) (t : CS) (i0 : Nat) (a1 : Int32) (post : Int32 → CS → Prop) (hw : wp_Load_waitedBy t i0 a1 post) (L : List Nat) (sz : Nat) : Met l yX2_waitedBy (Wd yX2_waitedBy cX2_waitedBy 2 (some .int)) rm_Load_waitedBy (va_Pc [.ref (ad 2 i0), .int a1] (cPre D Z E ad L sz t)) (va_Qi post (cPost D Z E ad (cAs L sz)) (cAs L sz)) 0 0 (cAs L sz) := by
  refine cMet (Qc := fun A => va_Qi post (cPost D Z E ad A) A) (by decide) rfl _ (Nat.le_of_ble_eq_true rfl) (fun p e s m args below meth c A C hr hk ls hl hH => ?_) L sz
  obtain ⟨⟨hx, hb, hml, hown, hts⟩, hK⟩ := id C
  have hl : lv_has ls 2 [(0, .ref (ad 2 i0)), (1, .int a1)] := hl
  unfold wp_Load_waitedBy at hw
  refine lv_aload_n hx hb dX2_waitedBy_0 rfl (lv_at hl 0 rfl) ?_
  obtain ⟨h1, hw⟩ := hw
  refine cg C hH 2 i0 (by decide) h1 rfl rfl ixX2 11 (by decide) rfl wd_805 rfl dX2_waitedBy_1 ?_
  refine lv_if_ne (tgt := 11) hx hb dX2_waitedBy_4 (by decide) (fun c2 => ?_) (fun c2 => ?_)
  · have hw := ifn c2 hw
    refine lv_aload_n hx hb dX2_waitedBy_11 rfl (lv_at hl 0 rfl) ?_
    refine cg C hH 2 i0 (by decide) h1 rfl rfl ixX2 12 (by decide) rfl wd_807 rfl dX2_waitedBy_12 ?_
    refine lv_aload_n hx hb dX2_waitedBy_15 rfl (lv_at hl 0 rfl) ?_
    refine cg C hH 2 i0 (by decide) h1 rfl rfl ixX2 9 (by decide) rfl wd_801 rfl dX2_waitedBy_16 ?_
    refine lv_isub hx hb dX2_waitedBy_19 ?_
    exact cri C hr hk hH (Nat.zero_le _) (Nat.zero_le _) hw dX2_waitedBy_20
  · have hw := ifp c2 hw
    refine lv_iload_n hx hb dX2_waitedBy_7 rfl (lv_at hl 1 rfl) ?_
    refine lv_goto (tgt := 15) hx hb dX2_waitedBy_8 (by decide) ?_
    refine lv_aload_n hx hb dX2_waitedBy_15 rfl (lv_at hl 0 rfl) ?_
    refine cg C hH 2 i0 (by decide) h1 rfl rfl ixX2 9 (by decide) rfl wd_801 rfl dX2_waitedBy_16 ?_
    refine lv_isub hx hb dX2_waitedBy_19 ?_
    exact cri C hr hk hH (Nat.zero_le _) (Nat.zero_le _) hw dX2_waitedBy_20
/-! PorterTurns.told -/
abbrev rm_C_told : Room := { frames := 4, cells := 0, slots := 0, locals := 102 }
def wp_C_told (t : CS) (a1 : Int32) (a2 : Int32) (post : Int32 → CS → Prop) : Prop := wp_C_loadAt t a1 (fun o2 t1 => oM o2 (post (-2 : Int32) t1) (fun j3 => if a2 = (0 : Int32) then (j3 < tN t1 2 ∧ (post (tF t1 65 j3) t1)) else (if a2 = (1 : Int32) then (j3 < tN t1 2 ∧ (post (tF t1 66 j3) t1)) else (if a2 = (2 : Int32) then (j3 < tN t1 2 ∧ ((tG t1 0 j3) < tN t1 4 ∧ (post (nI (tG t1 0 j3)) t1))) else (if a2 = (3 : Int32) then (j3 < tN t1 2 ∧ ((tG t1 1 j3) < tN t1 4 ∧ (post (nI (tG t1 1 j3)) t1))) else (if a2 = (4 : Int32) then (j3 < tN t1 2 ∧ (post (tF t1 71 j3) t1)) else (if a2 = (5 : Int32) then (j3 < tN t1 2 ∧ (post (tF t1 72 j3) t1)) else (if a2 = (6 : Int32) then (j3 < tN t1 2 ∧ (post (tF t1 75 j3) t1)) else (if a2 = (7 : Int32) then (j3 < tN t1 2 ∧ (post (tF t1 77 j3) t1)) else (if a2 = (8 : Int32) then (j3 < tN t1 2 ∧ ((j3 + 11) < tN t1 2 + 11 ∧ (post (nI (tT t1 (j3 + 11)).length) t1))) else (if a2 = (9 : Int32) then (j3 < tN t1 2 ∧ (post (tF t1 78 j3) t1)) else (if a2 = (10 : Int32) then (j3 < tN t1 2 ∧ (post (tF t1 80 j3) t1)) else (if a2 = (11 : Int32) then (j3 < tN t1 2 ∧ (wp_Load_waitedBy t1 j3 (tF t1 171 0) (fun r32 t31 => post r32 t31))) else (if a2 = (12 : Int32) then (j3 < tN t1 2 ∧ (if (tF t1 75 j3) = (1 : Int32) then (post (tF t1 81 j3) t1) else (if (tF t1 75 j3) = (2 : Int32) then (post (tF t1 81 j3) t1) else (post (-1 : Int32) t1)))) else (post (-2 : Int32) t1)))))))))))))))
set_option maxHeartbeats 4000000 in
set_option maxRecDepth 100000 in
theorem c_C_told (l : Launch) (D : va_G) (Z : Nat → ClassId) (E : Nat → Nat) (ad : Nat → Nat → Nat) (t : CS) (a1 : Int32) (a2 : Int32) (post : Int32 → CS → Prop) (hw : wp_C_told t a1 a2 post) (L : List Nat) (sz : Nat) : Met l yX10_told (Wd yX10_told cX10_told 4 (some .int)) rm_C_told (va_Pc [.ref (ad 5 0), .int a1, .int a2] (cPre D Z E ad L sz t)) (va_Qi post (cPost D Z E ad (cAs L sz)) (cAs L sz)) 0 0 (cAs L sz) := by
  refine cMet (Qc := fun A => va_Qi post (cPost D Z E ad A) A) (by decide) rfl _ (Nat.le_of_ble_eq_true rfl) (fun p e s m args below meth c A C hr hk ls hl hH => ?_) L sz
  obtain ⟨⟨hx, hb, hml, hown, hts⟩, hK⟩ := id C
  have hl : lv_has ls 4 [(0, .ref (ad 5 0)), (1, .int a1), (2, .int a2)] := hl
  unfold wp_C_told at hw
  refine lv_aload_n hx hb dX10_told_0 rfl (lv_at hl 0 rfl) ?_
  refine lv_iload_n hx hb dX10_told_1 rfl (lv_at hl 1 rfl) ?_
  refine ccVq0 C hH (crecv C hH 5 0 (by decide) (Nat.le_of_ble_eq_true rfl) rfl rfl (q := (RX10, TX10, 13))) [.int a1] (c_C_loadAt l D Z E ad t a1 _ hw) (cwTV 1 hts wd_698 wd_700 ws_22 wd_1 wd_701 rfl rfl (by decide +kernel) ⟨Nat.le_of_ble_eq_true rfl, Nat.le_of_ble_eq_true rfl⟩) rfl hl.1 rfl (Nat.le_of_ble_eq_true rfl) dX10_told_2 ⟨Nat.zero_le _, Nat.zero_le _⟩ (fun o2 t1 H locs hw hH => ?_)
  refine lq_astore_n (lv' := [(3, va_rf (o2.map (ad 2))), (0, .ref (ad 5 0)), (1, .int a1), (2, .int a2)]) hx hb dX10_told_5 rfl hl (by decide) rfl (fun ls hl => ?_)
  refine lq_aload_n hx hb dX10_told_6 rfl (lv_at hl 0 rfl) ?_
  cases o2 with
  | none =>
    have hw := oM_none hw
    have hl : lv_has ls 4 [(3, va_rf (none.map (ad 2))), (0, .ref (ad 5 0)), (1, .int a1), (2, .int a2)] := hl
    refine lv_ifnonnullN hx hb dX10_told_7 ?_
    refine lv_bipush (v := -2) hx hb dX10_told_10 (by decide) ?_
    exact cri C hr hk hH (Nat.zero_le _) (Nat.zero_le _) hw dX10_told_12
  | some j3 =>
    have hw := oM_some hw
    have hl : lv_has ls 4 [(3, .ref (ad 2 j3)), (0, .ref (ad 5 0)), (1, .int a1), (2, .int a2)] := hl
    refine lv_ifnonnull (tgt := 13) hx hb dX10_told_7 (by decide) ?_
    refine lv_iload_n hx hb dX10_told_13 rfl (lv_at hl 3 rfl) ?_
    by_cases c4 : a2 = (0 : Int32)
    · have hw := ifp c4 hw
      refine lv_tableIn (tgt := 80) hx hb dX10_told_14 (by rw [c4]; decide) (by rw [c4]; decide) (by rw [c4]; rfl) (by decide) ?_
      refine lv_aload_n hx hb dX10_told_80 rfl (lv_at hl 0 rfl) ?_
      obtain ⟨h5, hw⟩ := hw
      refine cg C hH 2 j3 (by decide) h5 rfl rfl ixX2 1 (by decide) rfl wd_783 rfl dX10_told_81 ?_
      exact cri C hr hk hH (Nat.zero_le _) (Nat.zero_le _) hw dX10_told_84
    have hw := ifn c4 hw
    by_cases c6 : a2 = (1 : Int32)
    · have hw := ifp c6 hw
      refine lv_tableIn (tgt := 85) hx hb dX10_told_14 (by rw [c6]; decide) (by rw [c6]; decide) (by rw [c6]; rfl) (by decide) ?_
      refine lv_aload_n hx hb dX10_told_85 rfl (lv_at hl 0 rfl) ?_
      obtain ⟨h7, hw⟩ := hw
      refine cg C hH 2 j3 (by decide) h7 rfl rfl ixX2 2 (by decide) rfl wd_786 rfl dX10_told_86 ?_
      exact cri C hr hk hH (Nat.zero_le _) (Nat.zero_le _) hw dX10_told_89
    have hw := ifn c6 hw
    by_cases c8 : a2 = (2 : Int32)
    · have hw := ifp c8 hw
      refine lv_tableIn (tgt := 90) hx hb dX10_told_14 (by rw [c8]; decide) (by rw [c8]; decide) (by rw [c8]; rfl) (by decide) ?_
      refine lv_aload_n hx hb dX10_told_90 rfl (lv_at hl 0 rfl) ?_
      obtain ⟨h9, hw⟩ := hw
      refine cg C hH 2 j3 (by decide) h9 rfl rfl ixX2 3 (by decide) rfl wd_788 rfl dX10_told_91 ?_
      obtain ⟨h10, hw⟩ := hw
      refine cg C hH 4 (tG t1 0 j3) (by decide) h10 rfl rfl ixX4 0 (by decide) rfl wd_294 rfl dX10_told_94 ?_
      exact cri C hr hk hH (Nat.zero_le _) (Nat.zero_le _) hw dX10_told_97
    have hw := ifn c8 hw
    by_cases c11 : a2 = (3 : Int32)
    · have hw := ifp c11 hw
      refine lv_tableIn (tgt := 98) hx hb dX10_told_14 (by rw [c11]; decide) (by rw [c11]; decide) (by rw [c11]; rfl) (by decide) ?_
      refine lv_aload_n hx hb dX10_told_98 rfl (lv_at hl 0 rfl) ?_
      obtain ⟨h12, hw⟩ := hw
      refine cg C hH 2 j3 (by decide) h12 rfl rfl ixX2 4 (by decide) rfl wd_790 rfl dX10_told_99 ?_
      obtain ⟨h13, hw⟩ := hw
      refine cg C hH 4 (tG t1 1 j3) (by decide) h13 rfl rfl ixX4 0 (by decide) rfl wd_294 rfl dX10_told_102 ?_
      exact cri C hr hk hH (Nat.zero_le _) (Nat.zero_le _) hw dX10_told_105
    have hw := ifn c11 hw
    by_cases c14 : a2 = (4 : Int32)
    · have hw := ifp c14 hw
      refine lv_tableIn (tgt := 106) hx hb dX10_told_14 (by rw [c14]; decide) (by rw [c14]; decide) (by rw [c14]; rfl) (by decide) ?_
      refine lv_aload_n hx hb dX10_told_106 rfl (lv_at hl 0 rfl) ?_
      obtain ⟨h15, hw⟩ := hw
      refine cg C hH 2 j3 (by decide) h15 rfl rfl ixX2 7 (by decide) rfl wd_798 rfl dX10_told_107 ?_
      exact cri C hr hk hH (Nat.zero_le _) (Nat.zero_le _) hw dX10_told_110
    have hw := ifn c14 hw
    by_cases c16 : a2 = (5 : Int32)
    · have hw := ifp c16 hw
      refine lv_tableIn (tgt := 111) hx hb dX10_told_14 (by rw [c16]; decide) (by rw [c16]; decide) (by rw [c16]; rfl) (by decide) ?_
      refine lv_aload_n hx hb dX10_told_111 rfl (lv_at hl 0 rfl) ?_
      obtain ⟨h17, hw⟩ := hw
      refine cg C hH 2 j3 (by decide) h17 rfl rfl ixX2 8 (by decide) rfl wd_800 rfl dX10_told_112 ?_
      exact cri C hr hk hH (Nat.zero_le _) (Nat.zero_le _) hw dX10_told_115
    have hw := ifn c16 hw
    by_cases c18 : a2 = (6 : Int32)
    · have hw := ifp c18 hw
      refine lv_tableIn (tgt := 116) hx hb dX10_told_14 (by rw [c18]; decide) (by rw [c18]; decide) (by rw [c18]; rfl) (by decide) ?_
      refine lv_aload_n hx hb dX10_told_116 rfl (lv_at hl 0 rfl) ?_
      obtain ⟨h19, hw⟩ := hw
      refine cg C hH 2 j3 (by decide) h19 rfl rfl ixX2 11 (by decide) rfl wd_806 rfl dX10_told_117 ?_
      exact cri C hr hk hH (Nat.zero_le _) (Nat.zero_le _) hw dX10_told_120
    have hw := ifn c18 hw
    by_cases c20 : a2 = (7 : Int32)
    · have hw := ifp c20 hw
      refine lv_tableIn (tgt := 121) hx hb dX10_told_14 (by rw [c20]; decide) (by rw [c20]; decide) (by rw [c20]; rfl) (by decide) ?_
      refine lv_aload_n hx hb dX10_told_121 rfl (lv_at hl 0 rfl) ?_
      obtain ⟨h21, hw⟩ := hw
      refine cg C hH 2 j3 (by decide) h21 rfl rfl ixX2 13 (by decide) rfl wd_810 rfl dX10_told_122 ?_
      exact cri C hr hk hH (Nat.zero_le _) (Nat.zero_le _) hw dX10_told_125
    have hw := ifn c20 hw
    by_cases c22 : a2 = (8 : Int32)
    · have hw := ifp c22 hw
      refine lv_tableIn (tgt := 126) hx hb dX10_told_14 (by rw [c22]; decide) (by rw [c22]; decide) (by rw [c22]; rfl) (by decide) ?_
      refine lv_aload_n hx hb dX10_told_126 rfl (lv_at hl 0 rfl) ?_
      obtain ⟨h23, hw⟩ := hw
      refine cg C hH 2 j3 (by decide) h23 rfl rfl ixX2 10 (by decide) rfl wd_804 rfl dX10_told_127 ?_
      obtain ⟨h24, hw⟩ := hw
      refine lSize C hH (j3 + 11) h24 wd_283 hl.1 (Nat.le_of_ble_eq_true rfl) dX10_told_130 ⟨Nat.zero_le _, Nat.zero_le _⟩ ⟨Nat.le_of_ble_eq_true rfl, Nat.le_of_ble_eq_true rfl⟩ (fun H locs hH => ?_)
      exact cri C hr hk hH (Nat.zero_le _) (Nat.zero_le _) hw dX10_told_133
    have hw := ifn c22 hw
    by_cases c25 : a2 = (9 : Int32)
    · have hw := ifp c25 hw
      refine lv_tableIn (tgt := 134) hx hb dX10_told_14 (by rw [c25]; decide) (by rw [c25]; decide) (by rw [c25]; rfl) (by decide) ?_
      refine lv_aload_n hx hb dX10_told_134 rfl (lv_at hl 0 rfl) ?_
      obtain ⟨h26, hw⟩ := hw
      refine cg C hH 2 j3 (by decide) h26 rfl rfl ixX2 14 (by decide) rfl wd_811 rfl dX10_told_135 ?_
      exact cri C hr hk hH (Nat.zero_le _) (Nat.zero_le _) hw dX10_told_138
    have hw := ifn c25 hw
    by_cases c27 : a2 = (10 : Int32)
    · have hw := ifp c27 hw
      refine lv_tableIn (tgt := 139) hx hb dX10_told_14 (by rw [c27]; decide) (by rw [c27]; decide) (by rw [c27]; rfl) (by decide) ?_
      refine lv_aload_n hx hb dX10_told_139 rfl (lv_at hl 0 rfl) ?_
      obtain ⟨h28, hw⟩ := hw
      refine cg C hH 2 j3 (by decide) h28 rfl rfl ixX2 16 (by decide) rfl wd_813 rfl dX10_told_140 ?_
      exact cri C hr hk hH (Nat.zero_le _) (Nat.zero_le _) hw dX10_told_143
    have hw := ifn c27 hw
    by_cases c29 : a2 = (11 : Int32)
    · have hw := ifp c29 hw
      refine lv_tableIn (tgt := 144) hx hb dX10_told_14 (by rw [c29]; decide) (by rw [c29]; decide) (by rw [c29]; rfl) (by decide) ?_
      refine lv_aload_n hx hb dX10_told_144 rfl (lv_at hl 0 rfl) ?_
      refine lv_aload_n hx hb dX10_told_145 rfl (lv_at hl 1 rfl) ?_
      refine cg C hH 5 0 (by decide) (Nat.le_of_ble_eq_true rfl) rfl rfl ixX10 11 (by decide) rfl wd_247 rfl dX10_told_146 ?_
      obtain ⟨h30, hw⟩ := hw
      refine ccVi0 C hH (crecv C hH 2 j3 (by decide) h30 rfl rfl (q := (RX2, TX2, 19))) [.int (tF t1 171 0)] (c_Load_waitedBy l D Z E ad t1 j3 (tF t1 171 0) _ hw) (cwTV 1 hts wd_931 wd_932 wd_933 wd_24 wd_934 rfl rfl (by decide +kernel) ⟨Nat.le_of_ble_eq_true rfl, Nat.le_of_ble_eq_true rfl⟩) rfl hl.1 rfl (Nat.le_of_ble_eq_true rfl) dX10_told_149 ⟨Nat.zero_le _, Nat.zero_le _⟩ (fun r32 t31 H locs hw hH => ?_)
      exact cri C hr hk hH (Nat.zero_le _) (Nat.zero_le _) hw dX10_told_152
    have hw := ifn c29 hw
    by_cases c33 : a2 = (12 : Int32)
    · have hw := ifp c33 hw
      refine lv_tableIn (tgt := 153) hx hb dX10_told_14 (by rw [c33]; decide) (by rw [c33]; decide) (by rw [c33]; rfl) (by decide) ?_
      refine lv_aload_n hx hb dX10_told_153 rfl (lv_at hl 0 rfl) ?_
      obtain ⟨h34, hw⟩ := hw
      refine cg C hH 2 j3 (by decide) h34 rfl rfl ixX2 11 (by decide) rfl wd_806 rfl dX10_told_154 ?_
      refine lv_iconst (v := 1) hx hb dX10_told_157 (by decide) ?_
      refine lv_icmp_eq (tgt := 169) hx hb dX10_told_158 (by decide) (fun c35 => ?_) (fun c35 => ?_)
      · have hw := ifp c35 hw
        refine lv_aload_n hx hb dX10_told_169 rfl (lv_at hl 0 rfl) ?_
        refine cg C hH 2 j3 (by decide) h34 rfl rfl ixX2 17 (by decide) rfl wd_814 rfl dX10_told_170 ?_
        refine lv_goto (tgt := 177) hx hb dX10_told_173 (by decide) ?_
        exact cri C hr hk hH (Nat.zero_le _) (Nat.zero_le _) hw dX10_told_177
      · have hw := ifn c35 hw
        refine lv_aload_n hx hb dX10_told_161 rfl (lv_at hl 0 rfl) ?_
        refine cg C hH 2 j3 (by decide) h34 rfl rfl ixX2 11 (by decide) rfl wd_806 rfl dX10_told_162 ?_
        refine lv_iconst (v := 2) hx hb dX10_told_165 (by decide) ?_
        refine lv_icmp_ne (tgt := 176) hx hb dX10_told_166 (by decide) (fun c36 => ?_) (fun c36 => ?_)
        · have hw := ifn c36 hw
          refine lv_iconst (v := -1) hx hb dX10_told_176 (by decide) ?_
          exact cri C hr hk hH (Nat.zero_le _) (Nat.zero_le _) hw dX10_told_177
        · have hw := ifp c36 hw
          refine lv_aload_n hx hb dX10_told_169 rfl (lv_at hl 0 rfl) ?_
          refine cg C hH 2 j3 (by decide) h34 rfl rfl ixX2 17 (by decide) rfl wd_814 rfl dX10_told_170 ?_
          refine lv_goto (tgt := 177) hx hb dX10_told_173 (by decide) ?_
          exact cri C hr hk hH (Nat.zero_le _) (Nat.zero_le _) hw dX10_told_177
    have hw := ifn c33 hw
    refine lv_tableOut (tgt := 178) hx hb dX10_told_14 (by have := sw_ne c4 0 (by decide); have := sw_ne c6 1 (by decide); have := sw_ne c8 2 (by decide); have := sw_ne c11 3 (by decide); have := sw_ne c14 4 (by decide); have := sw_ne c16 5 (by decide); have := sw_ne c18 6 (by decide); have := sw_ne c20 7 (by decide); have := sw_ne c22 8 (by decide); have := sw_ne c25 9 (by decide); have := sw_ne c27 10 (by decide); have := sw_ne c29 11 (by decide); have := sw_ne c33 12 (by decide); omega) (by decide) ?_
    refine lv_bipush (v := -2) hx hb dX10_told_178 (by decide) ?_
    exact cri C hr hk hH (Nat.zero_le _) (Nat.zero_le _) hw dX10_told_180
/-! PorterTurns.gang -/
abbrev rm_C_gang : Room := { frames := 4, cells := 0, slots := 0, locals := 102 }
def wp_C_gang (t : CS) (a1 : Int32) (a2 : Int32) (post : Int32 → CS → Prop) : Prop := wp_C_loadAt t a1 (fun o2 t1 => oM o2 (post (-1 : Int32) t1) (fun j3 => if a2 < 0 then (post (-1 : Int32) t1) else (j3 < tN t1 2 ∧ ((j3 + 11) < tN t1 2 + 11 ∧ (if a2 < (nI (tT t1 (j3 + 11)).length) then (vp_in a2 (tT t1 (j3 + 11)).length ∧ ((tT t1 (j3 + 11)).length < 2 ^ 31 ∧ (∀ j10 : Nat, j10 = ((tT t1 (j3 + 11)).getD a2.toNatClampNeg 0) → (j10 < tN t1 3 ∧ (post (nI j10) t1))))) else (post (-1 : Int32) t1))))))
set_option maxHeartbeats 4000000 in
set_option maxRecDepth 100000 in
theorem c_C_gang (l : Launch) (D : va_G) (Z : Nat → ClassId) (E : Nat → Nat) (ad : Nat → Nat → Nat) (t : CS) (a1 : Int32) (a2 : Int32) (post : Int32 → CS → Prop) (hw : wp_C_gang t a1 a2 post) (L : List Nat) (sz : Nat) : Met l yX10_gang (Wd yX10_gang cX10_gang 4 (some .int)) rm_C_gang (va_Pc [.ref (ad 5 0), .int a1, .int a2] (cPre D Z E ad L sz t)) (va_Qi post (cPost D Z E ad (cAs L sz)) (cAs L sz)) 0 0 (cAs L sz) := by
  refine cMet (Qc := fun A => va_Qi post (cPost D Z E ad A) A) (by decide) rfl _ (Nat.le_of_ble_eq_true rfl) (fun p e s m args below meth c A C hr hk ls hl hH => ?_) L sz
  obtain ⟨⟨hx, hb, hml, hown, hts⟩, hK⟩ := id C
  have hl : lv_has ls 4 [(0, .ref (ad 5 0)), (1, .int a1), (2, .int a2)] := hl
  unfold wp_C_gang at hw
  refine lv_aload_n hx hb dX10_gang_0 rfl (lv_at hl 0 rfl) ?_
  refine lv_iload_n hx hb dX10_gang_1 rfl (lv_at hl 1 rfl) ?_
  refine ccVq0 C hH (crecv C hH 5 0 (by decide) (Nat.le_of_ble_eq_true rfl) rfl rfl (q := (RX10, TX10, 13))) [.int a1] (c_C_loadAt l D Z E ad t a1 _ hw) (cwTV 1 hts wd_698 wd_700 ws_22 wd_1 wd_701 rfl rfl (by decide +kernel) ⟨Nat.le_of_ble_eq_true rfl, Nat.le_of_ble_eq_true rfl⟩) rfl hl.1 rfl (Nat.le_of_ble_eq_true rfl) dX10_gang_2 ⟨Nat.zero_le _, Nat.zero_le _⟩ (fun o2 t1 H locs hw hH => ?_)
  refine lq_astore_n (lv' := [(3, va_rf (o2.map (ad 2))), (0, .ref (ad 5 0)), (1, .int a1), (2, .int a2)]) hx hb dX10_gang_5 rfl hl (by decide) rfl (fun ls hl => ?_)
  refine lq_aload_n hx hb dX10_gang_6 rfl (lv_at hl 0 rfl) ?_
  cases o2 with
  | none =>
    have hw := oM_none hw
    have hl : lv_has ls 4 [(3, va_rf (none.map (ad 2))), (0, .ref (ad 5 0)), (1, .int a1), (2, .int a2)] := hl
    refine lv_ifnullN (tgt := 25) hx hb dX10_gang_7 (by decide) ?_
    refine lv_iconst (v := -1) hx hb dX10_gang_25 (by decide) ?_
    exact cri C hr hk hH (Nat.zero_le _) (Nat.zero_le _) hw dX10_gang_26
  | some j3 =>
    have hw := oM_some hw
    have hl : lv_has ls 4 [(3, .ref (ad 2 j3)), (0, .ref (ad 5 0)), (1, .int a1), (2, .int a2)] := hl
    refine lv_ifnull hx hb dX10_gang_7 ?_
    refine lv_iload_n hx hb dX10_gang_10 rfl (lv_at hl 3 rfl) ?_
    refine lv_if_lt (tgt := 25) hx hb dX10_gang_11 (by decide) (fun c4 => ?_) (fun c4 => ?_)
    · have hw := ifp c4 hw
      refine lv_iconst (v := -1) hx hb dX10_gang_25 (by decide) ?_
      exact cri C hr hk hH (Nat.zero_le _) (Nat.zero_le _) hw dX10_gang_26
    · have hw := ifn c4 hw
      refine lv_iload_n hx hb dX10_gang_14 rfl (lv_at hl 3 rfl) ?_
      refine lv_aload_n hx hb dX10_gang_15 rfl (lv_at hl 0 rfl) ?_
      obtain ⟨h5, hw⟩ := hw
      refine cg C hH 2 j3 (by decide) h5 rfl rfl ixX2 10 (by decide) rfl wd_804 rfl dX10_gang_16 ?_
      obtain ⟨h6, hw⟩ := hw
      refine lSize C hH (j3 + 11) h6 wd_283 hl.1 (Nat.le_of_ble_eq_true rfl) dX10_gang_19 ⟨Nat.zero_le _, Nat.zero_le _⟩ ⟨Nat.le_of_ble_eq_true rfl, Nat.le_of_ble_eq_true rfl⟩ (fun H locs hH => ?_)
      refine lv_icmp_lt (tgt := 27) hx hb dX10_gang_22 (by decide) (fun c7 => ?_) (fun c7 => ?_)
      · have hw := ifp c7 hw
        refine lv_aload_n hx hb dX10_gang_27 rfl (lv_at hl 0 rfl) ?_
        refine cg C hH 2 j3 (by decide) h5 rfl rfl ixX2 10 (by decide) rfl wd_804 rfl dX10_gang_28 ?_
        refine lv_iload_n hx hb dX10_gang_31 rfl (lv_at hl 3 rfl) ?_
        obtain ⟨h8, hw⟩ := hw
        obtain ⟨h9, hw⟩ := hw
        refine lGet C hH (j3 + 11) h6 h8 h9 wd_320 hl.1 (Nat.le_of_ble_eq_true rfl) dX10_gang_32 ⟨Nat.zero_le _, Nat.zero_le _⟩ ⟨Nat.le_of_ble_eq_true rfl, Nat.le_of_ble_eq_true rfl⟩ (fun H locs hH => ?_)
        obtain ⟨j10, ej10⟩ : ∃ x : Nat, x = ((tT t1 (j3 + 11)).getD a2.toNatClampNeg 0) := ⟨_, rfl⟩
        rw [← ej10]
        have hw := hw j10 ej10
        obtain ⟨h11, hw⟩ := hw
        refine cCast C hH 3 j10 (by decide) h11 rfl rfl wd_374 dX10_gang_35 ?_
        refine cg C hH 3 j10 (by decide) h11 rfl rfl ixX3 0 (by decide) rfl wd_383 rfl dX10_gang_38 ?_
        exact cri C hr hk hH (Nat.zero_le _) (Nat.zero_le _) hw dX10_gang_41
      · have hw := ifn c7 hw
        refine lv_iconst (v := -1) hx hb dX10_gang_25 (by decide) ?_
        exact cri C hr hk hH (Nat.zero_le _) (Nat.zero_le _) hw dX10_gang_26
/-! PorterTurns.nextStop -/
abbrev rm_C_nextStop : Room := { frames := 3, cells := 0, slots := 0, locals := 81 }
def wp_C_nextStop_59 (k17 : CS → Int32 → Int32 → Prop) (post : Int32 → CS → Prop) (t : CS) (x2_ : Int32) (x3_ : Int32) : Prop := ∀ x1 : Int32, x1 = x3_ + (1 : Int32) → (k17 t x2_ x1)
set_option maxHeartbeats 4000000 in
set_option maxRecDepth 100000 in
theorem b_C_nextStop_59 {p : Program} {l : Launch} {e : Env} {s : State} {m : MethodId} {args : Array Value} {below : List Frame} {meth : Method} {c : Code} {D : va_G} {Z : Nat → ClassId} {E : Nat → Nat} {ad : Nat → Nat → Nat} {A : Nat → Prop} (C : CC p s m args c cX10_nextStop 5 RX10 D Z E A) (hr : meth.sig.returnType = some .int) (hk : meth.locks = false) {post : Int32 → CS → Prop} {k17 : CS → Int32 → Int32 → Prop} (hk17 : ∀ (t : CS) (y2 : Int32) (y3 : Int32), k17 t y2 y3 → ∀ (H : Heap) (locs : List Loc) (ls : Array Slot), CH D Z E ad A s.heap t H locs → lv_has ls 5 [(0, .ref (ad 5 0)), (2, .int y2), (3, .int y3)] → CWi p l e rm_C_nextStop s m args below meth c D Z E ad A 0 0 post H locs 0 0 (F0 m 17 ls [])) : ∀ (t : CS) (x2_ : Int32) (x3_ : Int32), wp_C_nextStop_59 k17 post t x2_ x3_ → ∀ (H : Heap) (locs : List Loc) (ls : Array Slot), CH D Z E ad A s.heap t H locs → lv_has ls 5 [(0, .ref (ad 5 0)), (2, .int x2_), (3, .int x3_)] → CWi p l e rm_C_nextStop s m args below meth c D Z E ad A 0 0 post H locs 0 0 (F0 m 59 ls []) := by
  obtain ⟨⟨hx, hb, hml, hown, hts⟩, hK⟩ := id C
  intro t x2_ x3_ hw H locs ls hH hl
  unfold wp_C_nextStop_59 at hw
  obtain ⟨x1, ex1⟩ : ∃ y : Int32, y = x3_ + (1 : Int32) := ⟨_, rfl⟩
  have hw := hw x1 ex1
  refine lv_iinc (v := x1) (lv' := [(3, .int x1), (0, .ref (ad 5 0)), (2, .int x2_)]) hx hb dX10_nextStop_59 hl (k := 2) rfl (by rw [ex1]; rfl) (by decide) rfl (fun ls hl => ?_)
  refine lv_goto (tgt := 17) hx hb dX10_nextStop_62 (by decide) ?_
  exact hk17 t x2_ x1 hw _ _ _ hH (lv_sub hl [1, 2, 0] rfl)
def wp_C_nextStop_17 (post : Int32 → CS → Prop) : Nat → CS → Int32 → Int32 → Prop
  | 0 => fun _ _ _ => False
  | n + 1 => fun t x2_ x3_ => if (nI (tT t 2).length) ≤ x3_ then (post x2_ t) else (vp_in x3_ (tT t 2).length ∧ ((tT t 2).length < 2 ^ 31 ∧ (∀ j5 : Nat, j5 = ((tT t 2).getD x3_.toNatClampNeg 0) → (j5 < tN t 2 ∧ (if (tF t 82 j5) = 0 then (wp_C_nextStop_59 (wp_C_nextStop_17 post n) post t x2_ x3_) else (∀ x8 : Int32, x8 = (if (tF t 81 j5) < x2_ then (tF t 81 j5) else x2_) → (wp_C_nextStop_59 (wp_C_nextStop_17 post n) post t x8 x3_)))))))
set_option maxHeartbeats 4000000 in
set_option maxRecDepth 100000 in
theorem b_C_nextStop_17 {p : Program} {l : Launch} {e : Env} {s : State} {m : MethodId} {args : Array Value} {below : List Frame} {meth : Method} {c : Code} {D : va_G} {Z : Nat → ClassId} {E : Nat → Nat} {ad : Nat → Nat → Nat} {A : Nat → Prop} (C : CC p s m args c cX10_nextStop 5 RX10 D Z E A) (hr : meth.sig.returnType = some .int) (hk : meth.locks = false) {post : Int32 → CS → Prop} : ∀ (n : Nat) (t : CS) (x2_ : Int32) (x3_ : Int32), wp_C_nextStop_17 post n t x2_ x3_ → ∀ (H : Heap) (locs : List Loc) (ls : Array Slot), CH D Z E ad A s.heap t H locs → lv_has ls 5 [(0, .ref (ad 5 0)), (2, .int x2_), (3, .int x3_)] → CWi p l e rm_C_nextStop s m args below meth c D Z E ad A 0 0 post H locs 0 0 (F0 m 17 ls []) := by
  obtain ⟨⟨hx, hb, hml, hown, hts⟩, hK⟩ := id C
  intro n
  induction n with
  | zero => intro t x2_ x3_ hw; exact hw.elim
  | succ n ih =>
    intro t x2_ x3_ hw H locs ls hH hl
    unfold wp_C_nextStop_17 at hw
    refine lv_iload_n hx hb dX10_nextStop_17 rfl (lv_at hl 2 rfl) ?_
    refine lv_aload_n hx hb dX10_nextStop_18 rfl (lv_at hl 0 rfl) ?_
    refine cg C hH 5 0 (by decide) (Nat.le_of_ble_eq_true rfl) rfl rfl ixX10 2 (by decide) rfl wd_238 rfl dX10_nextStop_19 ?_
    refine lSize C hH 2 (Nat.lt_of_lt_of_le (show 2 < 11 by decide) (Nat.le_add_left _ _)) wd_283 hl.1 (Nat.le_of_ble_eq_true rfl) dX10_nextStop_22 ⟨Nat.zero_le _, Nat.zero_le _⟩ ⟨Nat.le_of_ble_eq_true rfl, Nat.le_of_ble_eq_true rfl⟩ (fun H locs hH => ?_)
    refine lv_icmp_ge (tgt := 65) hx hb dX10_nextStop_25 (by decide) (fun c2 => ?_) (fun c2 => ?_)
    · have hw := ifp c2 hw
      refine lv_iload_n hx hb dX10_nextStop_65 rfl (lv_at hl 1 rfl) ?_
      exact cri C hr hk hH (Nat.zero_le _) (Nat.zero_le _) hw dX10_nextStop_66
    · have hw := ifn c2 hw
      refine lv_aload_n hx hb dX10_nextStop_28 rfl (lv_at hl 0 rfl) ?_
      refine cg C hH 5 0 (by decide) (Nat.le_of_ble_eq_true rfl) rfl rfl ixX10 2 (by decide) rfl wd_238 rfl dX10_nextStop_29 ?_
      refine lv_iload_n hx hb dX10_nextStop_32 rfl (lv_at hl 2 rfl) ?_
      obtain ⟨h3, hw⟩ := hw
      obtain ⟨h4, hw⟩ := hw
      refine lGet C hH 2 (Nat.lt_of_lt_of_le (show 2 < 11 by decide) (Nat.le_add_left _ _)) h3 h4 wd_320 hl.1 (Nat.le_of_ble_eq_true rfl) dX10_nextStop_33 ⟨Nat.zero_le _, Nat.zero_le _⟩ ⟨Nat.le_of_ble_eq_true rfl, Nat.le_of_ble_eq_true rfl⟩ (fun H locs hH => ?_)
      obtain ⟨j5, ej5⟩ : ∃ x : Nat, x = ((tT t 2).getD x3_.toNatClampNeg 0) := ⟨_, rfl⟩
      rw [← ej5]
      have hw := hw j5 ej5
      obtain ⟨h6, hw⟩ := hw
      refine cCast C hH 2 j5 (by decide) h6 rfl rfl wd_702 dX10_nextStop_36 ?_
      refine lv_astore (lv' := [(4, .ref (ad 2 j5)), (0, .ref (ad 5 0)), (2, .int x2_), (3, .int x3_)]) hx hb dX10_nextStop_39 hl (by decide) rfl (fun ls hl => ?_)
      refine lv_aload hx hb dX10_nextStop_41 (lv_at hl 0 rfl) ?_
      refine cg C hH 2 j5 (by decide) h6 rfl rfl ixX2 18 (by decide) rfl wd_815 rfl dX10_nextStop_43 ?_
      refine lv_if_eq (tgt := 59) hx hb dX10_nextStop_46 (by decide) (fun c7 => ?_) (fun c7 => ?_)
      · have hw := ifp c7 hw
        exact b_C_nextStop_59 C hr hk ih t x2_ x3_ hw _ _ _ hH (lv_sub hl [1, 2, 3] rfl)
      · have hw := ifn c7 hw
        refine lv_iload_n hx hb dX10_nextStop_49 rfl (lv_at hl 2 rfl) ?_
        refine lv_aload hx hb dX10_nextStop_50 (lv_at hl 0 rfl) ?_
        refine cg C hH 2 j5 (by decide) h6 rfl rfl ixX2 17 (by decide) rfl wd_814 rfl dX10_nextStop_52 ?_
        refine va_mmin hx hb (by rw [hml, hl.1]) hown (hts _ wd_879) (hts _ wd_155) (hts _ wd_7) (hts _ wd_156) (Nat.le_of_ble_eq_true rfl) (Nat.le_of_ble_eq_true rfl) (show 0 ≤ 0 ∧ 0 ≤ 0 from ⟨Nat.zero_le _, Nat.zero_le _⟩).1 (show 0 ≤ 0 ∧ 0 ≤ 0 from ⟨Nat.zero_le _, Nat.zero_le _⟩).2 dX10_nextStop_55 ?_
        refine lv_topi (fun x8 ex8 => ?_)
        have hw := hw x8 ex8
        refine lv_istore_n (lv' := [(2, .int x8), (4, .ref (ad 2 j5)), (0, .ref (ad 5 0)), (3, .int x3_)]) hx hb dX10_nextStop_58 rfl hl (by decide) rfl (fun ls hl => ?_)
        exact b_C_nextStop_59 C hr hk ih t x8 x3_ hw _ _ _ hH (lv_sub hl [2, 0, 3] rfl)
def wp_C_nextStop (t : CS) (a1 : Int32) (post : Int32 → CS → Prop) : Prop := wp_C_today t  (fun r10 t9 => ∀ x11 : Int32, x11 = (if ((r10 + (1 : Int32)) * (600 : Int32)) < a1 then ((r10 + (1 : Int32)) * (600 : Int32)) else a1) → (∃ nn : Nat, wp_C_nextStop_17 post nn t9 x11 (0 : Int32)))
set_option maxHeartbeats 4000000 in
set_option maxRecDepth 100000 in
theorem c_C_nextStop (l : Launch) (D : va_G) (Z : Nat → ClassId) (E : Nat → Nat) (ad : Nat → Nat → Nat) (t : CS) (a1 : Int32) (post : Int32 → CS → Prop) (hw : wp_C_nextStop t a1 post) (L : List Nat) (sz : Nat) : Met l yX10_nextStop (Wd yX10_nextStop cX10_nextStop 5 (some .int)) rm_C_nextStop (va_Pc [.ref (ad 5 0), .int a1] (cPre D Z E ad L sz t)) (va_Qi post (cPost D Z E ad (cAs L sz)) (cAs L sz)) 0 0 (cAs L sz) := by
  refine cMet (Qc := fun A => va_Qi post (cPost D Z E ad A) A) (by decide) rfl _ (Nat.le_of_ble_eq_true rfl) (fun p e s m args below meth c A C hr hk ls hl hH => ?_) L sz
  obtain ⟨⟨hx, hb, hml, hown, hts⟩, hK⟩ := id C
  have hl : lv_has ls 5 [(0, .ref (ad 5 0)), (1, .int a1)] := hl
  unfold wp_C_nextStop at hw
  refine lv_iload_n hx hb dX10_nextStop_0 rfl (lv_at hl 1 rfl) ?_
  refine lv_aload_n hx hb dX10_nextStop_1 rfl (lv_at hl 0 rfl) ?_
  refine ccVi0 C hH (crecv C hH 5 0 (by decide) (Nat.le_of_ble_eq_true rfl) rfl rfl (q := (RX10, TX10, 13))) [] (c_C_today l D Z E ad t  _ hw) (cwTV 0 hts wd_636 wd_638 ws_20 wd_1 wd_639 rfl rfl (by decide +kernel) ⟨Nat.le_of_ble_eq_true rfl, Nat.le_of_ble_eq_true rfl⟩) rfl hl.1 rfl (Nat.le_of_ble_eq_true rfl) dX10_nextStop_2 ⟨Nat.zero_le _, Nat.zero_le _⟩ (fun r10 t9 H locs hw hH => ?_)
  refine lv_iconst (v := 1) hx hb dX10_nextStop_5 (by decide) ?_
  refine lv_iadd hx hb dX10_nextStop_6 ?_
  refine lv_sipush (v := 600) hx hb dX10_nextStop_7 (by decide) ?_
  refine lv_imul hx hb dX10_nextStop_10 ?_
  refine va_mmin hx hb (by rw [hml, hl.1]) hown (hts _ wd_879) (hts _ wd_155) (hts _ wd_7) (hts _ wd_156) (Nat.le_of_ble_eq_true rfl) (Nat.le_of_ble_eq_true rfl) (show 0 ≤ 0 ∧ 0 ≤ 0 from ⟨Nat.zero_le _, Nat.zero_le _⟩).1 (show 0 ≤ 0 ∧ 0 ≤ 0 from ⟨Nat.zero_le _, Nat.zero_le _⟩).2 dX10_nextStop_11 ?_
  refine lv_topi (fun x11 ex11 => ?_)
  have hw := hw x11 ex11
  refine lv_istore_n (lv' := [(2, .int x11), (0, .ref (ad 5 0)), (1, .int a1)]) hx hb dX10_nextStop_14 rfl hl (by decide) rfl (fun ls hl => ?_)
  refine lv_iconst (v := 0) hx hb dX10_nextStop_15 (by decide) ?_
  refine lv_istore_n (lv' := [(3, .int (0 : Int32)), (2, .int x11), (0, .ref (ad 5 0)), (1, .int a1)]) hx hb dX10_nextStop_16 rfl hl (by decide) rfl (fun ls hl => ?_)
  obtain ⟨nn, hw⟩ := hw
  exact b_C_nextStop_17 C hr hk  nn t9 x11 (0 : Int32) hw _ _ _ hH (lv_sub hl [2, 1, 0] rfl)
/-! PorterTurns$Man.getsHelpAt -/
abbrev rm_Man_getsHelpAt : Room := { frames := 1, cells := 0, slots := 0, locals := 21 }
def wp_Man_getsHelpAt (t : CS) (i0 : Nat) (a1 : Int32) (post : Int32 → CS → Prop) : Prop := i0 < tN t 3 ∧ (wp_Man_hurtAt t i0 a1 (fun r3 t2 => if r3 = 0 then (post (0 : Int32) t2) else (i0 < tN t2 3 ∧ (if (tF t2 105 i0) = 0 then (post (1 : Int32) t2) else (post (0 : Int32) t2)))))
set_option maxHeartbeats 4000000 in
set_option maxRecDepth 100000 in
theorem c_Man_getsHelpAt (l : Launch) (D : va_G) (Z : Nat → ClassId) (E : Nat → Nat) (ad : Nat → Nat → Nat) (t : CS) (i0 : Nat) (a1 : Int32) (post : Int32 → CS → Prop) (hw : wp_Man_getsHelpAt t i0 a1 post) (L : List Nat) (sz : Nat) : Met l yX3_getsHelpAt (Wd yX3_getsHelpAt cX3_getsHelpAt 2 (some .boolean)) rm_Man_getsHelpAt (va_Pc [.ref (ad 3 i0), .int a1] (cPre D Z E ad L sz t)) (va_Qi post (cPost D Z E ad (cAs L sz)) (cAs L sz)) 0 0 (cAs L sz) := by
  refine cMet (Qc := fun A => va_Qi post (cPost D Z E ad A) A) (by decide) rfl _ (Nat.le_of_ble_eq_true rfl) (fun p e s m args below meth c A C hr hk ls hl hH => ?_) L sz
  obtain ⟨⟨hx, hb, hml, hown, hts⟩, hK⟩ := id C
  have hl : lv_has ls 2 [(0, .ref (ad 3 i0)), (1, .int a1)] := hl
  unfold wp_Man_getsHelpAt at hw
  refine lv_aload_n hx hb dX3_getsHelpAt_0 rfl (lv_at hl 0 rfl) ?_
  refine lv_iload_n hx hb dX3_getsHelpAt_1 rfl (lv_at hl 1 rfl) ?_
  obtain ⟨h1, hw⟩ := hw
  refine ccVi0 C hH (crecv C hH 3 i0 (by decide) h1 rfl rfl (q := (RX3, TX3, 10))) [.int a1] (c_Man_hurtAt l D Z E ad t i0 a1 _ hw) (cwTV 1 hts wd_893 wd_723 wd_724 wd_18 wd_725 rfl rfl (by decide +kernel) ⟨Nat.le_of_ble_eq_true rfl, Nat.le_of_ble_eq_true rfl⟩) rfl hl.1 rfl (Nat.le_of_ble_eq_true rfl) dX3_getsHelpAt_2 ⟨Nat.zero_le _, Nat.zero_le _⟩ (fun r3 t2 H locs hw hH => ?_)
  refine lv_if_eq (tgt := 19) hx hb dX3_getsHelpAt_5 (by decide) (fun c4 => ?_) (fun c4 => ?_)
  · have hw := ifp c4 hw
    refine lv_iconst (v := 0) hx hb dX3_getsHelpAt_19 (by decide) ?_
    exact crz C hr hk hH (Nat.zero_le _) (Nat.zero_le _) bz0 hw dX3_getsHelpAt_20
  · have hw := ifn c4 hw
    refine lv_aload_n hx hb dX3_getsHelpAt_8 rfl (lv_at hl 0 rfl) ?_
    obtain ⟨h5, hw⟩ := hw
    refine cg C hH 3 i0 (by decide) h5 rfl rfl ixX3 9 (by decide) rfl wd_403 rfl dX3_getsHelpAt_9 ?_
    refine lv_if_ne (tgt := 19) hx hb dX3_getsHelpAt_12 (by decide) (fun c6 => ?_) (fun c6 => ?_)
    · have hw := ifn c6 hw
      refine lv_iconst (v := 0) hx hb dX3_getsHelpAt_19 (by decide) ?_
      exact crz C hr hk hH (Nat.zero_le _) (Nat.zero_le _) bz0 hw dX3_getsHelpAt_20
    · have hw := ifp c6 hw
      refine lv_iconst (v := 1) hx hb dX3_getsHelpAt_15 (by decide) ?_
      refine lv_goto (tgt := 20) hx hb dX3_getsHelpAt_16 (by decide) ?_
      exact crz C hr hk hH (Nat.zero_le _) (Nat.zero_le _) bz1 hw dX3_getsHelpAt_20
/-! PorterTurns$Fellowship.payOut -/
abbrev rm_Fel_payOut : Room := { frames := 0, cells := 0, slots := 0, locals := 0 }
def wp_Fel_payOut (t : CS) (i0 : Nat) (a1 : Nat) (a2 : Int32) (post : CS → Prop) : Prop := i0 < tN t 0 ∧ (if (tF t 4 i0) < a2 then (post t) else (∀ t3 : CS, t3 = sF t 4 i0 ((tF t 4 i0) - a2) → (i0 < tN t3 0 ∧ (∀ t5 : CS, t5 = sF t3 7 i0 ((tF t3 7 i0) + a2) → (a1 < tN t5 3 ∧ (∀ t7 : CS, t7 = sF t5 100 a1 ((tF t5 100 a1) + a2) → (post t7)))))))
set_option maxHeartbeats 4000000 in
set_option maxRecDepth 100000 in
theorem c_Fel_payOut (l : Launch) (D : va_G) (Z : Nat → ClassId) (E : Nat → Nat) (ad : Nat → Nat → Nat) (t : CS) (i0 : Nat) (a1 : Nat) (a2 : Int32) (post : CS → Prop) (hw : wp_Fel_payOut t i0 a1 a2 post) (L : List Nat) (sz : Nat) : Met l yX0_payOut (Wd yX0_payOut cX0_payOut 3 (none)) rm_Fel_payOut (va_Pc [.ref (ad 0 i0), .ref (ad 3 a1), .int a2] (cPre D Z E ad L sz t)) (va_Qv post (cPost D Z E ad (cAs L sz)) (cAs L sz)) 0 0 (cAs L sz) := by
  refine cMet (Qc := fun A => va_Qv post (cPost D Z E ad A) A) (by decide) rfl _ (Nat.le_of_ble_eq_true rfl) (fun p e s m args below meth c A C hr hk ls hl hH => ?_) L sz
  obtain ⟨⟨hx, hb, hml, hown, hts⟩, hK⟩ := id C
  have hl : lv_has ls 3 [(0, .ref (ad 0 i0)), (1, .ref (ad 3 a1)), (2, .int a2)] := hl
  unfold wp_Fel_payOut at hw
  refine lv_iload_n hx hb dX0_payOut_0 rfl (lv_at hl 2 rfl) ?_
  refine lv_aload_n hx hb dX0_payOut_1 rfl (lv_at hl 0 rfl) ?_
  obtain ⟨h1, hw⟩ := hw
  refine cg C hH 0 i0 (by decide) h1 rfl rfl ixX0 4 (by decide) rfl wd_73 rfl dX0_payOut_2 ?_
  refine lv_icmp_gt (tgt := 38) hx hb dX0_payOut_5 (by decide) (fun c2 => ?_) (fun c2 => ?_)
  · have hw := ifp c2 hw
    exact crv C hr hk hH (Nat.zero_le _) (Nat.zero_le _) hw dX0_payOut_38
  · have hw := ifn c2 hw
    refine lv_aload_n hx hb dX0_payOut_8 rfl (lv_at hl 0 rfl) ?_
    refine lv_dup hx hb dX0_payOut_9 rfl ?_
    refine cg C hH 0 i0 (by decide) h1 rfl rfl ixX0 4 (by decide) rfl wd_73 rfl dX0_payOut_10 ?_
    refine lv_iload_n hx hb dX0_payOut_13 rfl (lv_at hl 2 rfl) ?_
    refine lv_isub hx hb dX0_payOut_14 ?_
    refine cp C hH 0 i0 4 (by decide) h1 rfl rfl ixX0 tyX0_ok nmX0 4 (by decide) (by decide) rfl rfl wd_73 pfI rfl rfl (Nat.le_of_ble_eq_true rfl) (hs_4_Fellowship Z ad t i0 _) dX0_payOut_15 (fun H locs hH => ?_)
    obtain ⟨t3, et3⟩ : ∃ x : CS, x = sF t 4 i0 ((tF t 4 i0) - a2) := ⟨_, rfl⟩
    rw [← et3] at hH
    have hw := hw t3 et3
    refine lv_aload_n hx hb dX0_payOut_18 rfl (lv_at hl 0 rfl) ?_
    refine lv_dup hx hb dX0_payOut_19 rfl ?_
    obtain ⟨h4, hw⟩ := hw
    refine cg C hH 0 i0 (by decide) h4 rfl rfl ixX0 7 (by decide) rfl wd_78 rfl dX0_payOut_20 ?_
    refine lv_iload_n hx hb dX0_payOut_23 rfl (lv_at hl 2 rfl) ?_
    refine lv_iadd hx hb dX0_payOut_24 ?_
    refine cp C hH 0 i0 7 (by decide) h4 rfl rfl ixX0 tyX0_ok nmX0 7 (by decide) (by decide) rfl rfl wd_78 pfI rfl rfl (Nat.le_of_ble_eq_true rfl) (hs_7_Fellowship Z ad t3 i0 _) dX0_payOut_25 (fun H locs hH => ?_)
    obtain ⟨t5, et5⟩ : ∃ x : CS, x = sF t3 7 i0 ((tF t3 7 i0) + a2) := ⟨_, rfl⟩
    rw [← et5] at hH
    have hw := hw t5 et5
    refine lv_aload_n hx hb dX0_payOut_28 rfl (lv_at hl 1 rfl) ?_
    refine lv_dup hx hb dX0_payOut_29 rfl ?_
    obtain ⟨h6, hw⟩ := hw
    refine cg C hH 3 a1 (by decide) h6 rfl rfl ixX3 4 (by decide) rfl wd_392 rfl dX0_payOut_30 ?_
    refine lv_iload_n hx hb dX0_payOut_33 rfl (lv_at hl 2 rfl) ?_
    refine lv_iadd hx hb dX0_payOut_34 ?_
    refine cp C hH 3 a1 100 (by decide) h6 rfl rfl ixX3 tyX3_ok nmX3 4 (by decide) (by decide) rfl rfl wd_392 pfI rfl rfl (Nat.le_of_ble_eq_true rfl) (hs_100_Man Z ad t5 a1 _) dX0_payOut_35 (fun H locs hH => ?_)
    obtain ⟨t7, et7⟩ : ∃ x : CS, x = sF t5 100 a1 ((tF t5 100 a1) + a2) := ⟨_, rfl⟩
    rw [← et7] at hH
    have hw := hw t7 et7
    exact crv C hr hk hH (Nat.zero_le _) (Nat.zero_le _) hw dX0_payOut_38
/-! PorterTurns.payHelp -/
abbrev rm_C_payHelp : Room := { frames := 3, cells := 0, slots := 0, locals := 81 }
def wp_C_payHelp_56 (k2 : CS → Nat → Int32 → Prop) (post : CS → Prop) (t : CS) (x1_ : Nat) (x2_ : Int32) : Prop := ∀ x1 : Int32, x1 = x2_ + (1 : Int32) → (k2 t x1_ x1)
set_option maxHeartbeats 4000000 in
set_option maxRecDepth 100000 in
theorem b_C_payHelp_56 {p : Program} {l : Launch} {e : Env} {s : State} {m : MethodId} {args : Array Value} {below : List Frame} {meth : Method} {c : Code} {D : va_G} {Z : Nat → ClassId} {E : Nat → Nat} {ad : Nat → Nat → Nat} {A : Nat → Prop} (C : CC p s m args c cX10_payHelp 4 RX10 D Z E A) (hr : meth.sig.returnType = none) (hk : meth.locks = false) {post : CS → Prop} {k2 : CS → Nat → Int32 → Prop} (hk2 : ∀ (t : CS) (y1 : Nat) (y2 : Int32), k2 t y1 y2 → ∀ (H : Heap) (locs : List Loc) (ls : Array Slot), CH D Z E ad A s.heap t H locs → lv_has ls 4 [(0, .ref (ad 5 0)), (1, .ref (ad 0 y1)), (2, .int y2)] → CWv p l e rm_C_payHelp s m args below meth c D Z E ad A 0 0 post H locs 0 0 (F0 m 2 ls [])) : ∀ (t : CS) (x1_ : Nat) (x2_ : Int32), wp_C_payHelp_56 k2 post t x1_ x2_ → ∀ (H : Heap) (locs : List Loc) (ls : Array Slot), CH D Z E ad A s.heap t H locs → lv_has ls 4 [(0, .ref (ad 5 0)), (1, .ref (ad 0 x1_)), (2, .int x2_)] → CWv p l e rm_C_payHelp s m args below meth c D Z E ad A 0 0 post H locs 0 0 (F0 m 56 ls []) := by
  obtain ⟨⟨hx, hb, hml, hown, hts⟩, hK⟩ := id C
  intro t x1_ x2_ hw H locs ls hH hl
  unfold wp_C_payHelp_56 at hw
  obtain ⟨x1, ex1⟩ : ∃ y : Int32, y = x2_ + (1 : Int32) := ⟨_, rfl⟩
  have hw := hw x1 ex1
  refine lv_iinc (v := x1) (lv' := [(2, .int x1), (0, .ref (ad 5 0)), (1, .ref (ad 0 x1_))]) hx hb dX10_payHelp_56 hl (k := 2) rfl (by rw [ex1]; rfl) (by decide) rfl (fun ls hl => ?_)
  refine lv_goto (tgt := 2) hx hb dX10_payHelp_59 (by decide) ?_
  exact hk2 t x1_ x1 hw _ _ _ hH (lv_sub hl [1, 2, 0] rfl)
def wp_C_payHelp_2 (post : CS → Prop) : Nat → CS → Nat → Int32 → Prop
  | 0 => fun _ _ _ => False
  | n + 1 => fun t x1_ x2_ => if (nI (tT t 1).length) ≤ x2_ then (post t) else (vp_in x2_ (tT t 1).length ∧ ((tT t 1).length < 2 ^ 31 ∧ (∀ j5 : Nat, j5 = ((tT t 1).getD x2_.toNatClampNeg 0) → (j5 < tN t 3 ∧ (x1_ < tN t 0 ∧ (if (tF t 97 j5) = (nI x1_) then (wp_Man_getsHelpAt t j5 (tF t 171 0) (fun r10 t9 => if r10 = 0 then (wp_C_payHelp_56 (wp_C_payHelp_2 post n) post t9 x1_ x2_) else (x1_ < tN t9 0 ∧ (wp_Fel_payOut t9 x1_ j5 (tF t9 8 x1_) (fun  t13 => wp_C_payHelp_56 (wp_C_payHelp_2 post n) post t13 x1_ x2_))))) else (wp_C_payHelp_56 (wp_C_payHelp_2 post n) post t x1_ x2_)))))))
set_option maxHeartbeats 4000000 in
set_option maxRecDepth 100000 in
theorem b_C_payHelp_2 {p : Program} {l : Launch} {e : Env} {s : State} {m : MethodId} {args : Array Value} {below : List Frame} {meth : Method} {c : Code} {D : va_G} {Z : Nat → ClassId} {E : Nat → Nat} {ad : Nat → Nat → Nat} {A : Nat → Prop} (C : CC p s m args c cX10_payHelp 4 RX10 D Z E A) (hr : meth.sig.returnType = none) (hk : meth.locks = false) {post : CS → Prop} : ∀ (n : Nat) (t : CS) (x1_ : Nat) (x2_ : Int32), wp_C_payHelp_2 post n t x1_ x2_ → ∀ (H : Heap) (locs : List Loc) (ls : Array Slot), CH D Z E ad A s.heap t H locs → lv_has ls 4 [(0, .ref (ad 5 0)), (1, .ref (ad 0 x1_)), (2, .int x2_)] → CWv p l e rm_C_payHelp s m args below meth c D Z E ad A 0 0 post H locs 0 0 (F0 m 2 ls []) := by
  obtain ⟨⟨hx, hb, hml, hown, hts⟩, hK⟩ := id C
  intro n
  induction n with
  | zero => intro t x1_ x2_ hw; exact hw.elim
  | succ n ih =>
    intro t x1_ x2_ hw H locs ls hH hl
    unfold wp_C_payHelp_2 at hw
    refine lv_iload_n hx hb dX10_payHelp_2 rfl (lv_at hl 2 rfl) ?_
    refine lv_aload_n hx hb dX10_payHelp_3 rfl (lv_at hl 0 rfl) ?_
    refine cg C hH 5 0 (by decide) (Nat.le_of_ble_eq_true rfl) rfl rfl ixX10 1 (by decide) rfl wd_237 rfl dX10_payHelp_4 ?_
    refine lSize C hH 1 (Nat.lt_of_lt_of_le (show 1 < 11 by decide) (Nat.le_add_left _ _)) wd_283 hl.1 (Nat.le_of_ble_eq_true rfl) dX10_payHelp_7 ⟨Nat.zero_le _, Nat.zero_le _⟩ ⟨Nat.le_of_ble_eq_true rfl, Nat.le_of_ble_eq_true rfl⟩ (fun H locs hH => ?_)
    refine lv_icmp_ge (tgt := 62) hx hb dX10_payHelp_10 (by decide) (fun c2 => ?_) (fun c2 => ?_)
    · have hw := ifp c2 hw
      exact crv C hr hk hH (Nat.zero_le _) (Nat.zero_le _) hw dX10_payHelp_62
    · have hw := ifn c2 hw
      refine lv_aload_n hx hb dX10_payHelp_13 rfl (lv_at hl 0 rfl) ?_
      refine cg C hH 5 0 (by decide) (Nat.le_of_ble_eq_true rfl) rfl rfl ixX10 1 (by decide) rfl wd_237 rfl dX10_payHelp_14 ?_
      refine lv_iload_n hx hb dX10_payHelp_17 rfl (lv_at hl 2 rfl) ?_
      obtain ⟨h3, hw⟩ := hw
      obtain ⟨h4, hw⟩ := hw
      refine lGet C hH 1 (Nat.lt_of_lt_of_le (show 1 < 11 by decide) (Nat.le_add_left _ _)) h3 h4 wd_320 hl.1 (Nat.le_of_ble_eq_true rfl) dX10_payHelp_18 ⟨Nat.zero_le _, Nat.zero_le _⟩ ⟨Nat.le_of_ble_eq_true rfl, Nat.le_of_ble_eq_true rfl⟩ (fun H locs hH => ?_)
      obtain ⟨j5, ej5⟩ : ∃ x : Nat, x = ((tT t 1).getD x2_.toNatClampNeg 0) := ⟨_, rfl⟩
      rw [← ej5]
      have hw := hw j5 ej5
      obtain ⟨h6, hw⟩ := hw
      refine cCast C hH 3 j5 (by decide) h6 rfl rfl wd_374 dX10_payHelp_21 ?_
      refine lv_astore_n (lv' := [(3, .ref (ad 3 j5)), (0, .ref (ad 5 0)), (1, .ref (ad 0 x1_)), (2, .int x2_)]) hx hb dX10_payHelp_24 rfl hl (by decide) rfl (fun ls hl => ?_)
      refine lv_aload_n hx hb dX10_payHelp_25 rfl (lv_at hl 0 rfl) ?_
      refine cg C hH 3 j5 (by decide) h6 rfl rfl ixX3 1 (by decide) rfl wd_385 rfl dX10_payHelp_26 ?_
      refine lv_aload_n hx hb dX10_payHelp_29 rfl (lv_at hl 2 rfl) ?_
      obtain ⟨h7, hw⟩ := hw
      refine cg C hH 0 x1_ (by decide) h7 rfl rfl ixX0 0 (by decide) rfl wd_68 rfl dX10_payHelp_30 ?_
      refine lv_icmp_ne (tgt := 56) hx hb dX10_payHelp_33 (by decide) (fun c8 => ?_) (fun c8 => ?_)
      · have hw := ifn c8 hw
        exact b_C_payHelp_56 C hr hk ih t x1_ x2_ hw _ _ _ hH (lv_sub hl [1, 2, 3] rfl)
      · have hw := ifp c8 hw
        refine lv_aload_n hx hb dX10_payHelp_36 rfl (lv_at hl 0 rfl) ?_
        refine lv_aload_n hx hb dX10_payHelp_37 rfl (lv_at hl 1 rfl) ?_
        refine cg C hH 5 0 (by decide) (Nat.le_of_ble_eq_true rfl) rfl rfl ixX10 11 (by decide) rfl wd_247 rfl dX10_payHelp_38 ?_
        refine ccVi0 C hH (crecv C hH 3 j5 (by decide) h6 rfl rfl (q := (RX3, TX3, 10))) [.int (tF t 171 0)] (c_Man_getsHelpAt l D Z E ad t j5 (tF t 171 0) _ hw) (cwTV 1 hts wd_956 wd_957 wd_958 wd_18 wd_959 rfl rfl (by decide +kernel) ⟨Nat.le_of_ble_eq_true rfl, Nat.le_of_ble_eq_true rfl⟩) rfl hl.1 rfl (Nat.le_of_ble_eq_true rfl) dX10_payHelp_41 ⟨Nat.zero_le _, Nat.zero_le _⟩ (fun r10 t9 H locs hw hH => ?_)
        refine lv_if_eq (tgt := 56) hx hb dX10_payHelp_44 (by decide) (fun c11 => ?_) (fun c11 => ?_)
        · have hw := ifp c11 hw
          exact b_C_payHelp_56 C hr hk ih t9 x1_ x2_ hw _ _ _ hH (lv_sub hl [1, 2, 3] rfl)
        · have hw := ifn c11 hw
          refine lv_aload_n hx hb dX10_payHelp_47 rfl (lv_at hl 2 rfl) ?_
          refine lv_aload_n hx hb dX10_payHelp_48 rfl (lv_at hl 0 rfl) ?_
          refine lv_aload_n hx hb dX10_payHelp_49 rfl (lv_at hl 2 rfl) ?_
          obtain ⟨h12, hw⟩ := hw
          refine cg C hH 0 x1_ (by decide) h12 rfl rfl ixX0 8 (by decide) rfl wd_80 rfl dX10_payHelp_50 ?_
          refine ccVv0 C hH (crecv C hH 0 x1_ (by decide) h12 rfl rfl (q := (RX0, TX0, 10))) [.ref (ad 3 j5), .int (tF t9 8 x1_)] (c_Fel_payOut l D Z E ad t9 x1_ j5 (tF t9 8 x1_) _ hw) (cwTV 2 hts wd_960 wd_961 wd_962 wd_5 wd_963 rfl rfl (by decide +kernel) ⟨Nat.le_of_ble_eq_true rfl, Nat.le_of_ble_eq_true rfl⟩) rfl hl.1 rfl (Nat.le_of_ble_eq_true rfl) dX10_payHelp_53 ⟨Nat.zero_le _, Nat.zero_le _⟩ (fun  t13 H locs hw hH => ?_)
          exact b_C_payHelp_56 C hr hk ih t13 x1_ x2_ hw _ _ _ hH (lv_sub hl [1, 2, 3] rfl)
def wp_C_payHelp (t : CS) (a1 : Nat) (post : CS → Prop) : Prop := ∃ nn : Nat, wp_C_payHelp_2 post nn t a1 (0 : Int32)
set_option maxHeartbeats 4000000 in
set_option maxRecDepth 100000 in
theorem c_C_payHelp (l : Launch) (D : va_G) (Z : Nat → ClassId) (E : Nat → Nat) (ad : Nat → Nat → Nat) (t : CS) (a1 : Nat) (post : CS → Prop) (hw : wp_C_payHelp t a1 post) (L : List Nat) (sz : Nat) : Met l yX10_payHelp (Wd yX10_payHelp cX10_payHelp 4 (none)) rm_C_payHelp (va_Pc [.ref (ad 5 0), .ref (ad 0 a1)] (cPre D Z E ad L sz t)) (va_Qv post (cPost D Z E ad (cAs L sz)) (cAs L sz)) 0 0 (cAs L sz) := by
  refine cMet (Qc := fun A => va_Qv post (cPost D Z E ad A) A) (by decide) rfl _ (Nat.le_of_ble_eq_true rfl) (fun p e s m args below meth c A C hr hk ls hl hH => ?_) L sz
  obtain ⟨⟨hx, hb, hml, hown, hts⟩, hK⟩ := id C
  have hl : lv_has ls 4 [(0, .ref (ad 5 0)), (1, .ref (ad 0 a1))] := hl
  unfold wp_C_payHelp at hw
  refine lv_iconst (v := 0) hx hb dX10_payHelp_0 (by decide) ?_
  refine lv_istore_n (lv' := [(2, .int (0 : Int32)), (0, .ref (ad 5 0)), (1, .ref (ad 0 a1))]) hx hb dX10_payHelp_1 rfl hl (by decide) rfl (fun ls hl => ?_)
  obtain ⟨nn, hw⟩ := hw
  exact b_C_payHelp_2 C hr hk  nn t a1 (0 : Int32) hw _ _ _ hH (lv_sub hl [1, 2, 0] rfl)
