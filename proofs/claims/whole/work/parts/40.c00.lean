/-! PorterTurns.placeAt -/
abbrev rm_C_placeAt : Room := { frames := 3, cells := 0, slots := 0, locals := 81 }
def wp_C_placeAt (t : CS) (a1 : Int32) (post : Option Nat → CS → Prop) : Prop := if a1 < 0 then (post none t) else (if (nI (tT t 0).length) ≤ a1 then (post none t) else (vp_in a1 (tT t 0).length ∧ ((tT t 0).length < 2 ^ 31 ∧ (∀ j5 : Nat, j5 = ((tT t 0).getD a1.toNatClampNeg 0) → (j5 < tN t 4 ∧ (post (some j5) t))))))
set_option maxHeartbeats 4000000 in
set_option maxRecDepth 100000 in
theorem c_C_placeAt (l : Launch) (D : va_G) (Z : Nat → ClassId) (E : Nat → Nat) (ad : Nat → Nat → Nat) (t : CS) (a1 : Int32) (post : Option Nat → CS → Prop) (hw : wp_C_placeAt t a1 post) (L : List Nat) (sz : Nat) : Met l yX10_placeAt (Wd yX10_placeAt cX10_placeAt 2 (some (.object "PorterTurns$Place"))) rm_C_placeAt (va_Pc [.ref (ad 5 0), .int a1] (cPre D Z E ad L sz t)) (va_Qq (oQ 4 ad post) (cPost D Z E ad (cAs L sz)) (cAs L sz)) 0 0 (cAs L sz) := by
  refine cMet (Qc := fun A => va_Qq (oQ 4 ad post) (cPost D Z E ad A) A) (by decide) rfl _ (Nat.le_of_ble_eq_true rfl) (fun p e s m args below meth c A C hr hk ls hl hH => ?_) L sz
  obtain ⟨⟨hx, hb, hml, hown, hts⟩, hK⟩ := id C
  have hl : lv_has ls 2 [(0, .ref (ad 5 0)), (1, .int a1)] := hl
  unfold wp_C_placeAt at hw
  refine lv_iload_n hx hb dX10_placeAt_0 rfl (lv_at hl 1 rfl) ?_
  refine lv_if_lt (tgt := 29) hx hb dX10_placeAt_1 (by decide) (fun c1 => ?_) (fun c1 => ?_)
  · have hw := ifp c1 hw
    refine lv_null hx hb dX10_placeAt_29 ?_
    exact crq 4 C hr hk hH (Nat.zero_le _) (Nat.zero_le _) (o := none) hw dX10_placeAt_30
  · have hw := ifn c1 hw
    refine lv_iload_n hx hb dX10_placeAt_4 rfl (lv_at hl 1 rfl) ?_
    refine lv_aload_n hx hb dX10_placeAt_5 rfl (lv_at hl 0 rfl) ?_
    refine cg C hH 5 0 (by decide) (Nat.le_of_ble_eq_true rfl) rfl rfl ixX10 0 (by decide) rfl wd_236 rfl dX10_placeAt_6 ?_
    refine lSize C hH 0 (Nat.lt_of_lt_of_le (show 0 < 11 by decide) (Nat.le_add_left _ _)) wd_283 hl.1 (Nat.le_of_ble_eq_true rfl) dX10_placeAt_9 ⟨Nat.zero_le _, Nat.zero_le _⟩ ⟨Nat.le_of_ble_eq_true rfl, Nat.le_of_ble_eq_true rfl⟩ (fun H locs hH => ?_)
    refine lv_icmp_ge (tgt := 29) hx hb dX10_placeAt_12 (by decide) (fun c2 => ?_) (fun c2 => ?_)
    · have hw := ifp c2 hw
      refine lv_null hx hb dX10_placeAt_29 ?_
      exact crq 4 C hr hk hH (Nat.zero_le _) (Nat.zero_le _) (o := none) hw dX10_placeAt_30
    · have hw := ifn c2 hw
      refine lv_aload_n hx hb dX10_placeAt_15 rfl (lv_at hl 0 rfl) ?_
      refine cg C hH 5 0 (by decide) (Nat.le_of_ble_eq_true rfl) rfl rfl ixX10 0 (by decide) rfl wd_236 rfl dX10_placeAt_16 ?_
      refine lv_iload_n hx hb dX10_placeAt_19 rfl (lv_at hl 1 rfl) ?_
      obtain ⟨h3, hw⟩ := hw
      obtain ⟨h4, hw⟩ := hw
      refine lGet C hH 0 (Nat.lt_of_lt_of_le (show 0 < 11 by decide) (Nat.le_add_left _ _)) h3 h4 wd_320 hl.1 (Nat.le_of_ble_eq_true rfl) dX10_placeAt_20 ⟨Nat.zero_le _, Nat.zero_le _⟩ ⟨Nat.le_of_ble_eq_true rfl, Nat.le_of_ble_eq_true rfl⟩ (fun H locs hH => ?_)
      obtain ⟨j5, ej5⟩ : ∃ x : Nat, x = ((tT t 0).getD a1.toNatClampNeg 0) := ⟨_, rfl⟩
      rw [← ej5]
      have hw := hw j5 ej5
      obtain ⟨h6, hw⟩ := hw
      refine cCast C hH 4 j5 (by decide) h6 rfl rfl wd_287 dX10_placeAt_23 ?_
      refine lv_goto (tgt := 30) hx hb dX10_placeAt_26 (by decide) ?_
      exact crq 4 C hr hk hH (Nat.zero_le _) (Nat.zero_le _) (o := (some j5)) hw dX10_placeAt_30
/-! PorterTurns.tide -/
abbrev rm_C_tide : Room := { frames := 4, cells := 0, slots := 0, locals := 102 }
def wp_C_tide (t : CS) (a1 : Int32) (a2 : Int32) (a3 : Int32) (post : Int32 → CS → Prop) : Prop := wp_C_placeAt t a1 (fun o2 t1 => oM o2 (post (-1 : Int32) t1) (fun j3 => if a2 < 0 then (post (-1 : Int32) t1) else (if a3 < a2 then (post (-1 : Int32) t1) else (if a3 ≤ (600 : Int32) then (j3 < tN t1 4 ∧ (∀ t8 : CS, t8 = sF t1 131 j3 a2 → (j3 < tN t8 4 ∧ (∀ t10 : CS, t10 = sF t8 132 j3 a3 → (post (1 : Int32) t10))))) else (post (-1 : Int32) t1)))))
set_option maxHeartbeats 4000000 in
set_option maxRecDepth 100000 in
theorem c_C_tide (l : Launch) (D : va_G) (Z : Nat → ClassId) (E : Nat → Nat) (ad : Nat → Nat → Nat) (t : CS) (a1 : Int32) (a2 : Int32) (a3 : Int32) (post : Int32 → CS → Prop) (hw : wp_C_tide t a1 a2 a3 post) (L : List Nat) (sz : Nat) : Met l yX10_tide (Wd yX10_tide cX10_tide 5 (some .int)) rm_C_tide (va_Pc [.ref (ad 5 0), .int a1, .int a2, .int a3] (cPre D Z E ad L sz t)) (va_Qi post (cPost D Z E ad (cAs L sz)) (cAs L sz)) 0 0 (cAs L sz) := by
  refine cMet (Qc := fun A => va_Qi post (cPost D Z E ad A) A) (by decide) rfl _ (Nat.le_of_ble_eq_true rfl) (fun p e s m args below meth c A C hr hk ls hl hH => ?_) L sz
  obtain ⟨⟨hx, hb, hml, hown, hts⟩, hK⟩ := id C
  have hl : lv_has ls 5 [(0, .ref (ad 5 0)), (1, .int a1), (2, .int a2), (3, .int a3)] := hl
  unfold wp_C_tide at hw
  refine lv_aload_n hx hb dX10_tide_0 rfl (lv_at hl 0 rfl) ?_
  refine lv_iload_n hx hb dX10_tide_1 rfl (lv_at hl 1 rfl) ?_
  refine ccVq0 C hH (crecv C hH 5 0 (by decide) (Nat.le_of_ble_eq_true rfl) rfl rfl (q := (RX10, TX10, 13))) [.int a1] (c_C_placeAt l D Z E ad t a1 _ hw) (cwTV 1 hts wd_316 wd_318 ws_3 wd_1 wd_319 rfl rfl (by decide +kernel) ⟨Nat.le_of_ble_eq_true rfl, Nat.le_of_ble_eq_true rfl⟩) rfl hl.1 rfl (Nat.le_of_ble_eq_true rfl) dX10_tide_2 ⟨Nat.zero_le _, Nat.zero_le _⟩ (fun o2 t1 H locs hw hH => ?_)
  refine lq_astore (lv' := [(4, va_rf (o2.map (ad 4))), (0, .ref (ad 5 0)), (1, .int a1), (2, .int a2), (3, .int a3)]) hx hb dX10_tide_5 hl (by decide) rfl (fun ls hl => ?_)
  refine lq_aload hx hb dX10_tide_7 (lv_at hl 0 rfl) ?_
  cases o2 with
  | none =>
    have hw := oM_none hw
    have hl : lv_has ls 5 [(4, va_rf (none.map (ad 4))), (0, .ref (ad 5 0)), (1, .int a1), (2, .int a2), (3, .int a3)] := hl
    refine lv_ifnullN (tgt := 28) hx hb dX10_tide_9 (by decide) ?_
    refine lv_iconst (v := -1) hx hb dX10_tide_28 (by decide) ?_
    exact cri C hr hk hH (Nat.zero_le _) (Nat.zero_le _) hw dX10_tide_29
  | some j3 =>
    have hw := oM_some hw
    have hl : lv_has ls 5 [(4, .ref (ad 4 j3)), (0, .ref (ad 5 0)), (1, .int a1), (2, .int a2), (3, .int a3)] := hl
    refine lv_ifnull hx hb dX10_tide_9 ?_
    refine lv_iload_n hx hb dX10_tide_12 rfl (lv_at hl 3 rfl) ?_
    refine lv_if_lt (tgt := 28) hx hb dX10_tide_13 (by decide) (fun c4 => ?_) (fun c4 => ?_)
    · have hw := ifp c4 hw
      refine lv_iconst (v := -1) hx hb dX10_tide_28 (by decide) ?_
      exact cri C hr hk hH (Nat.zero_le _) (Nat.zero_le _) hw dX10_tide_29
    · have hw := ifn c4 hw
      refine lv_iload_n hx hb dX10_tide_16 rfl (lv_at hl 3 rfl) ?_
      refine lv_iload_n hx hb dX10_tide_17 rfl (lv_at hl 4 rfl) ?_
      refine lv_icmp_gt (tgt := 28) hx hb dX10_tide_18 (by decide) (fun c5 => ?_) (fun c5 => ?_)
      · have hw := ifp c5 hw
        refine lv_iconst (v := -1) hx hb dX10_tide_28 (by decide) ?_
        exact cri C hr hk hH (Nat.zero_le _) (Nat.zero_le _) hw dX10_tide_29
      · have hw := ifn c5 hw
        refine lv_iload_n hx hb dX10_tide_21 rfl (lv_at hl 4 rfl) ?_
        refine lv_sipush (v := 600) hx hb dX10_tide_22 (by decide) ?_
        refine lv_icmp_le (tgt := 30) hx hb dX10_tide_25 (by decide) (fun c6 => ?_) (fun c6 => ?_)
        · have hw := ifp c6 hw
          refine lv_aload hx hb dX10_tide_30 (lv_at hl 0 rfl) ?_
          refine lv_iload_n hx hb dX10_tide_32 rfl (lv_at hl 3 rfl) ?_
          obtain ⟨h7, hw⟩ := hw
          refine cp C hH 4 j3 131 (by decide) h7 rfl rfl ixX4 tyX4_ok nmX4 3 (by decide) (by decide) rfl rfl wd_297 pfI rfl rfl (Nat.le_of_ble_eq_true rfl) (hs_131_Place Z ad t1 j3 _) dX10_tide_33 (fun H locs hH => ?_)
          obtain ⟨t8, et8⟩ : ∃ x : CS, x = sF t1 131 j3 a2 := ⟨_, rfl⟩
          rw [← et8] at hH
          have hw := hw t8 et8
          refine lv_aload hx hb dX10_tide_36 (lv_at hl 0 rfl) ?_
          refine lv_iload_n hx hb dX10_tide_38 rfl (lv_at hl 4 rfl) ?_
          obtain ⟨h9, hw⟩ := hw
          refine cp C hH 4 j3 132 (by decide) h9 rfl rfl ixX4 tyX4_ok nmX4 4 (by decide) (by decide) rfl rfl wd_299 pfI rfl rfl (Nat.le_of_ble_eq_true rfl) (hs_132_Place Z ad t8 j3 _) dX10_tide_39 (fun H locs hH => ?_)
          obtain ⟨t10, et10⟩ : ∃ x : CS, x = sF t8 132 j3 a3 := ⟨_, rfl⟩
          rw [← et10] at hH
          have hw := hw t10 et10
          refine lv_iconst (v := 1) hx hb dX10_tide_42 (by decide) ?_
          exact cri C hr hk hH (Nat.zero_le _) (Nat.zero_le _) hw dX10_tide_43
        · have hw := ifn c6 hw
          refine lv_iconst (v := -1) hx hb dX10_tide_28 (by decide) ?_
          exact cri C hr hk hH (Nat.zero_le _) (Nat.zero_le _) hw dX10_tide_29
/-! PorterTurns$Sky.addSpan -/
abbrev rm_Sky_addSpan : Room := { frames := 0, cells := 0, slots := 0, locals := 0 }
def wp_Sky_addSpan (t : CS) (a1 : Int32) (a2 : Int32) (post : CS → Prop) : Prop := if (tF t 162 1) < 0 then (post t) else (if (20 : Int32) ≤ (tF t 162 1) then (post t) else (vp_in (tF t 162 1) 20 ∧ (∀ t4 : CS, t4 = sA t 0 (tF t 162 1).toNatClampNeg a1 → (vp_in (tF t4 162 1) 20 ∧ (∀ t6 : CS, t6 = sA t4 1 (tF t4 162 1).toNatClampNeg a2 → (∀ t7 : CS, t7 = sF t6 162 1 ((tF t6 162 1) + (1 : Int32)) → (post t7)))))))
set_option maxHeartbeats 4000000 in
set_option maxRecDepth 100000 in
theorem c_Sky_addSpan (l : Launch) (D : va_G) (Z : Nat → ClassId) (E : Nat → Nat) (ad : Nat → Nat → Nat) (t : CS) (a1 : Int32) (a2 : Int32) (post : CS → Prop) (hw : wp_Sky_addSpan t a1 a2 post) (L : List Nat) (sz : Nat) : Met l yX7_addSpan (Wd yX7_addSpan cX7_addSpan 3 (none)) rm_Sky_addSpan (va_Pc [.ref (ad 5 1), .int a1, .int a2] (cPre D Z E ad L sz t)) (va_Qv post (cPost D Z E ad (cAs L sz)) (cAs L sz)) 0 0 (cAs L sz) := by
  refine cMet (Qc := fun A => va_Qv post (cPost D Z E ad A) A) (by decide) rfl _ (Nat.le_of_ble_eq_true rfl) (fun p e s m args below meth c A C hr hk ls hl hH => ?_) L sz
  obtain ⟨⟨hx, hb, hml, hown, hts⟩, hK⟩ := id C
  have hl : lv_has ls 3 [(0, .ref (ad 5 1)), (1, .int a1), (2, .int a2)] := hl
  unfold wp_Sky_addSpan at hw
  refine lv_aload_n hx hb dX7_addSpan_0 rfl (lv_at hl 0 rfl) ?_
  refine cg C hH 5 1 (by decide) (Nat.le_of_ble_eq_true rfl) rfl rfl ixX7 2 (by decide) rfl wd_170 rfl dX7_addSpan_1 ?_
  refine lv_if_lt (tgt := 46) hx hb dX7_addSpan_4 (by decide) (fun c1 => ?_) (fun c1 => ?_)
  · have hw := ifp c1 hw
    exact crv C hr hk hH (Nat.zero_le _) (Nat.zero_le _) hw dX7_addSpan_46
  · have hw := ifn c1 hw
    refine lv_aload_n hx hb dX7_addSpan_7 rfl (lv_at hl 0 rfl) ?_
    refine cg C hH 5 1 (by decide) (Nat.le_of_ble_eq_true rfl) rfl rfl ixX7 2 (by decide) rfl wd_170 rfl dX7_addSpan_8 ?_
    refine lv_bipush (v := 20) hx hb dX7_addSpan_11 (by decide) ?_
    refine lv_icmp_ge (tgt := 46) hx hb dX7_addSpan_13 (by decide) (fun c2 => ?_) (fun c2 => ?_)
    · have hw := ifp c2 hw
      exact crv C hr hk hH (Nat.zero_le _) (Nat.zero_le _) hw dX7_addSpan_46
    · have hw := ifn c2 hw
      refine lv_aload_n hx hb dX7_addSpan_16 rfl (lv_at hl 0 rfl) ?_
      refine cg C hH 5 1 (by decide) (Nat.le_of_ble_eq_true rfl) rfl rfl ixX7 0 (by decide) rfl wd_168 rfl dX7_addSpan_17 ?_
      refine lv_aload_n hx hb dX7_addSpan_20 rfl (lv_at hl 0 rfl) ?_
      refine cg C hH 5 1 (by decide) (Nat.le_of_ble_eq_true rfl) rfl rfl ixX7 2 (by decide) rfl wd_170 rfl dX7_addSpan_21 ?_
      refine lv_iload_n hx hb dX7_addSpan_24 rfl (lv_at hl 1 rfl) ?_
      obtain ⟨h3, hw⟩ := hw
      refine cas C hH 0 (Nat.lt_of_lt_of_le (show 0 < 8 by decide) (Nat.le_add_left _ _)) rfl h3 dX7_addSpan_25 (fun H locs hH => ?_)
      obtain ⟨t4, et4⟩ : ∃ x : CS, x = sA t 0 (tF t 162 1).toNatClampNeg a1 := ⟨_, rfl⟩
      rw [← et4] at hH
      have hw := hw t4 et4
      refine lv_aload_n hx hb dX7_addSpan_26 rfl (lv_at hl 0 rfl) ?_
      refine cg C hH 5 1 (by decide) (Nat.le_of_ble_eq_true rfl) rfl rfl ixX7 1 (by decide) rfl wd_169 rfl dX7_addSpan_27 ?_
      refine lv_aload_n hx hb dX7_addSpan_30 rfl (lv_at hl 0 rfl) ?_
      refine cg C hH 5 1 (by decide) (Nat.le_of_ble_eq_true rfl) rfl rfl ixX7 2 (by decide) rfl wd_170 rfl dX7_addSpan_31 ?_
      refine lv_iload_n hx hb dX7_addSpan_34 rfl (lv_at hl 2 rfl) ?_
      obtain ⟨h5, hw⟩ := hw
      refine cas C hH 1 (Nat.lt_of_lt_of_le (show 1 < 8 by decide) (Nat.le_add_left _ _)) rfl h5 dX7_addSpan_35 (fun H locs hH => ?_)
      obtain ⟨t6, et6⟩ : ∃ x : CS, x = sA t4 1 (tF t4 162 1).toNatClampNeg a2 := ⟨_, rfl⟩
      rw [← et6] at hH
      have hw := hw t6 et6
      refine lv_aload_n hx hb dX7_addSpan_36 rfl (lv_at hl 0 rfl) ?_
      refine lv_dup hx hb dX7_addSpan_37 rfl ?_
      refine cg C hH 5 1 (by decide) (Nat.le_of_ble_eq_true rfl) rfl rfl ixX7 2 (by decide) rfl wd_170 rfl dX7_addSpan_38 ?_
      refine lv_iconst (v := 1) hx hb dX7_addSpan_41 (by decide) ?_
      refine lv_iadd hx hb dX7_addSpan_42 ?_
      refine cp C hH 5 1 162 (by decide) (Nat.le_of_ble_eq_true rfl) rfl rfl ixX7 tyX7_ok nmX7 2 (by decide) (by decide) rfl rfl wd_170 pfI rfl rfl (Nat.le_of_ble_eq_true rfl) (hs_162_Sky Z ad t6 _) dX7_addSpan_43 (fun H locs hH => ?_)
      obtain ⟨t7, et7⟩ : ∃ x : CS, x = sF t6 162 1 ((tF t6 162 1) + (1 : Int32)) := ⟨_, rfl⟩
      rw [← et7] at hH
      have hw := hw t7 et7
      exact crv C hr hk hH (Nat.zero_le _) (Nat.zero_le _) hw dX7_addSpan_46
/-! PorterTurns.rain -/
abbrev rm_C_rain : Room := { frames := 1, cells := 0, slots := 0, locals := 22 }
def wp_C_rain (t : CS) (a1 : Int32) (a2 : Int32) (post : Int32 → CS → Prop) : Prop := if a1 < (tF t 171 0) then (post (-1 : Int32) t) else (if a2 ≤ a1 then (post (-1 : Int32) t) else (if a2 ≤ (100000 : Int32) then (if (tF t 162 1) < (20 : Int32) then (wp_Sky_addSpan t a1 a2 (fun  t5 => post (tF t5 162 1) t5)) else (post (-3 : Int32) t)) else (post (-1 : Int32) t)))
set_option maxHeartbeats 4000000 in
set_option maxRecDepth 100000 in
theorem c_C_rain (l : Launch) (D : va_G) (Z : Nat → ClassId) (E : Nat → Nat) (ad : Nat → Nat → Nat) (t : CS) (a1 : Int32) (a2 : Int32) (post : Int32 → CS → Prop) (hw : wp_C_rain t a1 a2 post) (L : List Nat) (sz : Nat) : Met l yX10_rain (Wd yX10_rain cX10_rain 3 (some .int)) rm_C_rain (va_Pc [.ref (ad 5 0), .int a1, .int a2] (cPre D Z E ad L sz t)) (va_Qi post (cPost D Z E ad (cAs L sz)) (cAs L sz)) 0 0 (cAs L sz) := by
  refine cMet (Qc := fun A => va_Qi post (cPost D Z E ad A) A) (by decide) rfl _ (Nat.le_of_ble_eq_true rfl) (fun p e s m args below meth c A C hr hk ls hl hH => ?_) L sz
  obtain ⟨⟨hx, hb, hml, hown, hts⟩, hK⟩ := id C
  have hl : lv_has ls 3 [(0, .ref (ad 5 0)), (1, .int a1), (2, .int a2)] := hl
  unfold wp_C_rain at hw
  refine lv_iload_n hx hb dX10_rain_0 rfl (lv_at hl 1 rfl) ?_
  refine lv_aload_n hx hb dX10_rain_1 rfl (lv_at hl 0 rfl) ?_
  refine cg C hH 5 0 (by decide) (Nat.le_of_ble_eq_true rfl) rfl rfl ixX10 11 (by decide) rfl wd_247 rfl dX10_rain_2 ?_
  refine lv_icmp_lt (tgt := 19) hx hb dX10_rain_5 (by decide) (fun c1 => ?_) (fun c1 => ?_)
  · have hw := ifp c1 hw
    refine lv_iconst (v := -1) hx hb dX10_rain_19 (by decide) ?_
    exact cri C hr hk hH (Nat.zero_le _) (Nat.zero_le _) hw dX10_rain_20
  · have hw := ifn c1 hw
    refine lv_iload_n hx hb dX10_rain_8 rfl (lv_at hl 1 rfl) ?_
    refine lv_iload_n hx hb dX10_rain_9 rfl (lv_at hl 2 rfl) ?_
    refine lv_icmp_ge (tgt := 19) hx hb dX10_rain_10 (by decide) (fun c2 => ?_) (fun c2 => ?_)
    · have hw := ifp c2 hw
      refine lv_iconst (v := -1) hx hb dX10_rain_19 (by decide) ?_
      exact cri C hr hk hH (Nat.zero_le _) (Nat.zero_le _) hw dX10_rain_20
    · have hw := ifn c2 hw
      refine lv_iload_n hx hb dX10_rain_13 rfl (lv_at hl 2 rfl) ?_
      refine lv_ldc (own := RX10) (index := 98) (v := 100000) hx hb hown (hts _ wd_338) dX10_rain_14 ?_
      refine lv_icmp_le (tgt := 21) hx hb dX10_rain_16 (by decide) (fun c3 => ?_) (fun c3 => ?_)
      · have hw := ifp c3 hw
        refine lv_aload_n hx hb dX10_rain_21 rfl (lv_at hl 0 rfl) ?_
        refine cg C hH 5 0 (by decide) (Nat.le_of_ble_eq_true rfl) rfl rfl ixX10 5 (by decide) rfl wd_241 rfl dX10_rain_22 ?_
        refine cg C hH 5 1 (by decide) (Nat.le_of_ble_eq_true rfl) rfl rfl ixX7 2 (by decide) rfl wd_171 rfl dX10_rain_25 ?_
        refine lv_bipush (v := 20) hx hb dX10_rain_28 (by decide) ?_
        refine lv_icmp_lt (tgt := 36) hx hb dX10_rain_30 (by decide) (fun c4 => ?_) (fun c4 => ?_)
        · have hw := ifp c4 hw
          refine lv_aload_n hx hb dX10_rain_36 rfl (lv_at hl 0 rfl) ?_
          refine cg C hH 5 0 (by decide) (Nat.le_of_ble_eq_true rfl) rfl rfl ixX10 5 (by decide) rfl wd_241 rfl dX10_rain_37 ?_
          refine lv_iload_n hx hb dX10_rain_40 rfl (lv_at hl 1 rfl) ?_
          refine lv_iload_n hx hb dX10_rain_41 rfl (lv_at hl 2 rfl) ?_
          refine ccVv0 C hH (crecv C hH 5 1 (by decide) (Nat.le_of_ble_eq_true rfl) rfl rfl (q := (RX7, TX7, 3))) [.int a1, .int a2] (c_Sky_addSpan l D Z E ad t a1 a2 _ hw) (cwTV 2 hts wd_339 wd_340 wd_341 wd_10 wd_342 rfl rfl (by decide +kernel) ⟨Nat.le_of_ble_eq_true rfl, Nat.le_of_ble_eq_true rfl⟩) rfl hl.1 rfl (Nat.le_of_ble_eq_true rfl) dX10_rain_42 ⟨Nat.zero_le _, Nat.zero_le _⟩ (fun  t5 H locs hw hH => ?_)
          refine lv_aload_n hx hb dX10_rain_45 rfl (lv_at hl 0 rfl) ?_
          refine cg C hH 5 0 (by decide) (Nat.le_of_ble_eq_true rfl) rfl rfl ixX10 5 (by decide) rfl wd_241 rfl dX10_rain_46 ?_
          refine cg C hH 5 1 (by decide) (Nat.le_of_ble_eq_true rfl) rfl rfl ixX7 2 (by decide) rfl wd_171 rfl dX10_rain_49 ?_
          exact cri C hr hk hH (Nat.zero_le _) (Nat.zero_le _) hw dX10_rain_52
        · have hw := ifn c4 hw
          refine lv_bipush (v := -3) hx hb dX10_rain_33 (by decide) ?_
          exact cri C hr hk hH (Nat.zero_le _) (Nat.zero_le _) hw dX10_rain_35
      · have hw := ifn c3 hw
        refine lv_iconst (v := -1) hx hb dX10_rain_19 (by decide) ?_
        exact cri C hr hk hH (Nat.zero_le _) (Nat.zero_le _) hw dX10_rain_20
/-! PorterTurns$Place.farTo -/
abbrev rm_Place_farTo : Room := { frames := 1, cells := 0, slots := 0, locals := 24 }
def wp_Place_farTo (t : CS) (i0 : Nat) (a1 : Nat) (post : Int32 → CS → Prop) : Prop := a1 < tN t 4 ∧ (i0 < tN t 4 ∧ (post (if 0 ≤ ((tF t 129 a1) - (tF t 129 i0)) then ((tF t 129 a1) - (tF t 129 i0)) else 0 - ((tF t 129 a1) - (tF t 129 i0))) t))
set_option maxHeartbeats 4000000 in
set_option maxRecDepth 100000 in
theorem c_Place_farTo (l : Launch) (D : va_G) (Z : Nat → ClassId) (E : Nat → Nat) (ad : Nat → Nat → Nat) (t : CS) (i0 : Nat) (a1 : Nat) (post : Int32 → CS → Prop) (hw : wp_Place_farTo t i0 a1 post) (L : List Nat) (sz : Nat) : Met l yX4_farTo (Wd yX4_farTo cX4_farTo 2 (some .int)) rm_Place_farTo (va_Pc [.ref (ad 4 i0), .ref (ad 4 a1)] (cPre D Z E ad L sz t)) (va_Qi post (cPost D Z E ad (cAs L sz)) (cAs L sz)) 0 0 (cAs L sz) := by
  refine cMet (Qc := fun A => va_Qi post (cPost D Z E ad A) A) (by decide) rfl _ (Nat.le_of_ble_eq_true rfl) (fun p e s m args below meth c A C hr hk ls hl hH => ?_) L sz
  obtain ⟨⟨hx, hb, hml, hown, hts⟩, hK⟩ := id C
  have hl : lv_has ls 2 [(0, .ref (ad 4 i0)), (1, .ref (ad 4 a1))] := hl
  unfold wp_Place_farTo at hw
  refine lv_aload_n hx hb dX4_farTo_0 rfl (lv_at hl 1 rfl) ?_
  obtain ⟨h1, hw⟩ := hw
  refine cg C hH 4 a1 (by decide) h1 rfl rfl ixX4 1 (by decide) rfl wd_295 rfl dX4_farTo_1 ?_
  refine lv_aload_n hx hb dX4_farTo_4 rfl (lv_at hl 0 rfl) ?_
  obtain ⟨h2, hw⟩ := hw
  refine cg C hH 4 i0 (by decide) h2 rfl rfl ixX4 1 (by decide) rfl wd_295 rfl dX4_farTo_5 ?_
  refine lv_isub hx hb dX4_farTo_8 ?_
  refine va_mabs hx hb (by rw [hml, hl.1]) hown (hts _ wd_351) (hts _ wd_352) (hts _ wd_7) (hts _ wd_353) (Nat.le_of_ble_eq_true rfl) (Nat.le_of_ble_eq_true rfl) (show 0 ≤ 0 ∧ 0 ≤ 0 from ⟨Nat.zero_le _, Nat.zero_le _⟩).1 (show 0 ≤ 0 ∧ 0 ≤ 0 from ⟨Nat.zero_le _, Nat.zero_le _⟩).2 dX4_farTo_9 ?_
  exact cri C hr hk hH (Nat.zero_le _) (Nat.zero_le _) hw dX4_farTo_12
/-! PorterTurns$Place.upTo -/
abbrev rm_Place_upTo : Room := { frames := 0, cells := 0, slots := 0, locals := 0 }
def wp_Place_upTo (t : CS) (i0 : Nat) (a1 : Nat) (post : Int32 → CS → Prop) : Prop := a1 < tN t 4 ∧ (i0 < tN t 4 ∧ (∀ x3 : Int32, x3 = ((tF t 130 a1) - (tF t 130 i0)) → (if x3 < 0 then (post ((-x3) / (2 : Int32)) t) else (post x3 t))))
set_option maxHeartbeats 4000000 in
set_option maxRecDepth 100000 in
theorem c_Place_upTo (l : Launch) (D : va_G) (Z : Nat → ClassId) (E : Nat → Nat) (ad : Nat → Nat → Nat) (t : CS) (i0 : Nat) (a1 : Nat) (post : Int32 → CS → Prop) (hw : wp_Place_upTo t i0 a1 post) (L : List Nat) (sz : Nat) : Met l yX4_upTo (Wd yX4_upTo cX4_upTo 3 (some .int)) rm_Place_upTo (va_Pc [.ref (ad 4 i0), .ref (ad 4 a1)] (cPre D Z E ad L sz t)) (va_Qi post (cPost D Z E ad (cAs L sz)) (cAs L sz)) 0 0 (cAs L sz) := by
  refine cMet (Qc := fun A => va_Qi post (cPost D Z E ad A) A) (by decide) rfl _ (Nat.le_of_ble_eq_true rfl) (fun p e s m args below meth c A C hr hk ls hl hH => ?_) L sz
  obtain ⟨⟨hx, hb, hml, hown, hts⟩, hK⟩ := id C
  have hl : lv_has ls 3 [(0, .ref (ad 4 i0)), (1, .ref (ad 4 a1))] := hl
  unfold wp_Place_upTo at hw
  refine lv_aload_n hx hb dX4_upTo_0 rfl (lv_at hl 1 rfl) ?_
  obtain ⟨h1, hw⟩ := hw
  refine cg C hH 4 a1 (by decide) h1 rfl rfl ixX4 2 (by decide) rfl wd_296 rfl dX4_upTo_1 ?_
  refine lv_aload_n hx hb dX4_upTo_4 rfl (lv_at hl 0 rfl) ?_
  obtain ⟨h2, hw⟩ := hw
  refine cg C hH 4 i0 (by decide) h2 rfl rfl ixX4 2 (by decide) rfl wd_296 rfl dX4_upTo_5 ?_
  refine lv_isub hx hb dX4_upTo_8 ?_
  refine lv_topi (fun x3 ex3 => ?_)
  have hw := hw x3 ex3
  refine lv_istore_n (lv' := [(2, .int x3), (0, .ref (ad 4 i0)), (1, .ref (ad 4 a1))]) hx hb dX4_upTo_9 rfl hl (by decide) rfl (fun ls hl => ?_)
  refine lv_iload_n hx hb dX4_upTo_10 rfl (lv_at hl 0 rfl) ?_
  refine lv_if_lt (tgt := 18) hx hb dX4_upTo_11 (by decide) (fun c4 => ?_) (fun c4 => ?_)
  · have hw := ifp c4 hw
    refine lv_iload_n hx hb dX4_upTo_18 rfl (lv_at hl 0 rfl) ?_
    refine lv_ineg hx hb dX4_upTo_19 ?_
    refine lv_iconst (v := 2) hx hb dX4_upTo_20 (by decide) ?_
    refine lv_idiv hx hb dX4_upTo_21 (by decide) ?_
    exact cri C hr hk hH (Nat.zero_le _) (Nat.zero_le _) hw dX4_upTo_22
  · have hw := ifn c4 hw
    refine lv_iload_n hx hb dX4_upTo_14 rfl (lv_at hl 0 rfl) ?_
    refine lv_goto (tgt := 22) hx hb dX4_upTo_15 (by decide) ?_
    exact cri C hr hk hH (Nat.zero_le _) (Nat.zero_le _) hw dX4_upTo_22
/-! PorterTurns$Sky.rainsAt -/
abbrev rm_Sky_rainsAt : Room := { frames := 0, cells := 0, slots := 0, locals := 0 }
def wp_Sky_rainsAt_38 (k2 : CS → Int32 → Int32 → Prop) (post : Int32 → CS → Prop) (t : CS) (x1_ : Int32) (x2_ : Int32) : Prop := ∀ x1 : Int32, x1 = x2_ + (1 : Int32) → (k2 t x1_ x1)
set_option maxHeartbeats 4000000 in
set_option maxRecDepth 100000 in
theorem b_Sky_rainsAt_38 {p : Program} {l : Launch} {e : Env} {s : State} {m : MethodId} {args : Array Value} {below : List Frame} {meth : Method} {c : Code} {D : va_G} {Z : Nat → ClassId} {E : Nat → Nat} {ad : Nat → Nat → Nat} {A : Nat → Prop} (C : CC p s m args c cX7_rainsAt 3 RX7 D Z E A) (hr : meth.sig.returnType = some .boolean) (hk : meth.locks = false) {post : Int32 → CS → Prop} {k2 : CS → Int32 → Int32 → Prop} (hk2 : ∀ (t : CS) (y1 : Int32) (y2 : Int32), k2 t y1 y2 → ∀ (H : Heap) (locs : List Loc) (ls : Array Slot), CH D Z E ad A s.heap t H locs → lv_has ls 3 [(0, .ref (ad 5 1)), (1, .int y1), (2, .int y2)] → CWi p l e rm_Sky_rainsAt s m args below meth c D Z E ad A 0 0 post H locs 0 0 (F0 m 2 ls [])) : ∀ (t : CS) (x1_ : Int32) (x2_ : Int32), wp_Sky_rainsAt_38 k2 post t x1_ x2_ → ∀ (H : Heap) (locs : List Loc) (ls : Array Slot), CH D Z E ad A s.heap t H locs → lv_has ls 3 [(0, .ref (ad 5 1)), (1, .int x1_), (2, .int x2_)] → CWi p l e rm_Sky_rainsAt s m args below meth c D Z E ad A 0 0 post H locs 0 0 (F0 m 38 ls []) := by
  obtain ⟨⟨hx, hb, hml, hown, hts⟩, hK⟩ := id C
  intro t x1_ x2_ hw H locs ls hH hl
  unfold wp_Sky_rainsAt_38 at hw
  obtain ⟨x1, ex1⟩ : ∃ y : Int32, y = x2_ + (1 : Int32) := ⟨_, rfl⟩
  have hw := hw x1 ex1
  refine lv_iinc (v := x1) (lv' := [(2, .int x1), (0, .ref (ad 5 1)), (1, .int x1_)]) hx hb dX7_rainsAt_38 hl (k := 2) rfl (by rw [ex1]; rfl) (by decide) rfl (fun ls hl => ?_)
  refine lv_goto (tgt := 2) hx hb dX7_rainsAt_41 (by decide) ?_
  exact hk2 t x1_ x1 hw _ _ _ hH (lv_sub hl [1, 2, 0] rfl)
def wp_Sky_rainsAt_2 (post : Int32 → CS → Prop) : Nat → CS → Int32 → Int32 → Prop
  | 0 => fun _ _ _ => False
  | n + 1 => fun t x1_ x2_ => if (tF t 162 1) ≤ x2_ then (post (0 : Int32) t) else (if (20 : Int32) ≤ x2_ then (post (0 : Int32) t) else (vp_in x2_ 20 ∧ (if x1_ < (tA t 0 x2_.toNatClampNeg) then (wp_Sky_rainsAt_38 (wp_Sky_rainsAt_2 post n) post t x1_ x2_) else (if (tA t 1 x2_.toNatClampNeg) ≤ x1_ then (wp_Sky_rainsAt_38 (wp_Sky_rainsAt_2 post n) post t x1_ x2_) else (post (1 : Int32) t)))))
set_option maxHeartbeats 4000000 in
set_option maxRecDepth 100000 in
theorem b_Sky_rainsAt_2 {p : Program} {l : Launch} {e : Env} {s : State} {m : MethodId} {args : Array Value} {below : List Frame} {meth : Method} {c : Code} {D : va_G} {Z : Nat → ClassId} {E : Nat → Nat} {ad : Nat → Nat → Nat} {A : Nat → Prop} (C : CC p s m args c cX7_rainsAt 3 RX7 D Z E A) (hr : meth.sig.returnType = some .boolean) (hk : meth.locks = false) {post : Int32 → CS → Prop} : ∀ (n : Nat) (t : CS) (x1_ : Int32) (x2_ : Int32), wp_Sky_rainsAt_2 post n t x1_ x2_ → ∀ (H : Heap) (locs : List Loc) (ls : Array Slot), CH D Z E ad A s.heap t H locs → lv_has ls 3 [(0, .ref (ad 5 1)), (1, .int x1_), (2, .int x2_)] → CWi p l e rm_Sky_rainsAt s m args below meth c D Z E ad A 0 0 post H locs 0 0 (F0 m 2 ls []) := by
  obtain ⟨⟨hx, hb, hml, hown, hts⟩, hK⟩ := id C
  intro n
  induction n with
  | zero => intro t x1_ x2_ hw; exact hw.elim
  | succ n ih =>
    intro t x1_ x2_ hw H locs ls hH hl
    unfold wp_Sky_rainsAt_2 at hw
    refine lv_iload_n hx hb dX7_rainsAt_2 rfl (lv_at hl 2 rfl) ?_
    refine lv_aload_n hx hb dX7_rainsAt_3 rfl (lv_at hl 0 rfl) ?_
    refine cg C hH 5 1 (by decide) (Nat.le_of_ble_eq_true rfl) rfl rfl ixX7 2 (by decide) rfl wd_170 rfl dX7_rainsAt_4 ?_
    refine lv_icmp_ge (tgt := 44) hx hb dX7_rainsAt_7 (by decide) (fun c2 => ?_) (fun c2 => ?_)
    · have hw := ifp c2 hw
      refine lv_iconst (v := 0) hx hb dX7_rainsAt_44 (by decide) ?_
      exact crz C hr hk hH (Nat.zero_le _) (Nat.zero_le _) bz0 hw dX7_rainsAt_45
    · have hw := ifn c2 hw
      refine lv_iload_n hx hb dX7_rainsAt_10 rfl (lv_at hl 2 rfl) ?_
      refine lv_bipush (v := 20) hx hb dX7_rainsAt_11 (by decide) ?_
      refine lv_icmp_ge (tgt := 44) hx hb dX7_rainsAt_13 (by decide) (fun c3 => ?_) (fun c3 => ?_)
      · have hw := ifp c3 hw
        refine lv_iconst (v := 0) hx hb dX7_rainsAt_44 (by decide) ?_
        exact crz C hr hk hH (Nat.zero_le _) (Nat.zero_le _) bz0 hw dX7_rainsAt_45
      · have hw := ifn c3 hw
        refine lv_iload_n hx hb dX7_rainsAt_16 rfl (lv_at hl 1 rfl) ?_
        refine lv_aload_n hx hb dX7_rainsAt_17 rfl (lv_at hl 0 rfl) ?_
        refine cg C hH 5 1 (by decide) (Nat.le_of_ble_eq_true rfl) rfl rfl ixX7 0 (by decide) rfl wd_168 rfl dX7_rainsAt_18 ?_
        refine lv_iload_n hx hb dX7_rainsAt_21 rfl (lv_at hl 2 rfl) ?_
        obtain ⟨h4, hw⟩ := hw
        refine cai C hH 0 (Nat.lt_of_lt_of_le (show 0 < 8 by decide) (Nat.le_add_left _ _)) h4 dX7_rainsAt_22 ?_
        refine lv_icmp_lt (tgt := 38) hx hb dX7_rainsAt_23 (by decide) (fun c5 => ?_) (fun c5 => ?_)
        · have hw := ifp c5 hw
          exact b_Sky_rainsAt_38 C hr hk ih t x1_ x2_ hw _ _ _ hH (lv_sub hl [0, 1, 2] rfl)
        · have hw := ifn c5 hw
          refine lv_iload_n hx hb dX7_rainsAt_26 rfl (lv_at hl 1 rfl) ?_
          refine lv_aload_n hx hb dX7_rainsAt_27 rfl (lv_at hl 0 rfl) ?_
          refine cg C hH 5 1 (by decide) (Nat.le_of_ble_eq_true rfl) rfl rfl ixX7 1 (by decide) rfl wd_169 rfl dX7_rainsAt_28 ?_
          refine lv_iload_n hx hb dX7_rainsAt_31 rfl (lv_at hl 2 rfl) ?_
          refine cai C hH 1 (Nat.lt_of_lt_of_le (show 1 < 8 by decide) (Nat.le_add_left _ _)) h4 dX7_rainsAt_32 ?_
          refine lv_icmp_ge (tgt := 38) hx hb dX7_rainsAt_33 (by decide) (fun c6 => ?_) (fun c6 => ?_)
          · have hw := ifp c6 hw
            exact b_Sky_rainsAt_38 C hr hk ih t x1_ x2_ hw _ _ _ hH (lv_sub hl [0, 1, 2] rfl)
          · have hw := ifn c6 hw
            refine lv_iconst (v := 1) hx hb dX7_rainsAt_36 (by decide) ?_
            exact crz C hr hk hH (Nat.zero_le _) (Nat.zero_le _) bz1 hw dX7_rainsAt_37
def wp_Sky_rainsAt (t : CS) (a1 : Int32) (post : Int32 → CS → Prop) : Prop := ∃ nn : Nat, wp_Sky_rainsAt_2 post nn t a1 (0 : Int32)
set_option maxHeartbeats 4000000 in
set_option maxRecDepth 100000 in
theorem c_Sky_rainsAt (l : Launch) (D : va_G) (Z : Nat → ClassId) (E : Nat → Nat) (ad : Nat → Nat → Nat) (t : CS) (a1 : Int32) (post : Int32 → CS → Prop) (hw : wp_Sky_rainsAt t a1 post) (L : List Nat) (sz : Nat) : Met l yX7_rainsAt (Wd yX7_rainsAt cX7_rainsAt 3 (some .boolean)) rm_Sky_rainsAt (va_Pc [.ref (ad 5 1), .int a1] (cPre D Z E ad L sz t)) (va_Qi post (cPost D Z E ad (cAs L sz)) (cAs L sz)) 0 0 (cAs L sz) := by
  refine cMet (Qc := fun A => va_Qi post (cPost D Z E ad A) A) (by decide) rfl _ (Nat.le_of_ble_eq_true rfl) (fun p e s m args below meth c A C hr hk ls hl hH => ?_) L sz
  obtain ⟨⟨hx, hb, hml, hown, hts⟩, hK⟩ := id C
  have hl : lv_has ls 3 [(0, .ref (ad 5 1)), (1, .int a1)] := hl
  unfold wp_Sky_rainsAt at hw
  refine lv_iconst (v := 0) hx hb dX7_rainsAt_0 (by decide) ?_
  refine lv_istore_n (lv' := [(2, .int (0 : Int32)), (0, .ref (ad 5 1)), (1, .int a1)]) hx hb dX7_rainsAt_1 rfl hl (by decide) rfl (fun ls hl => ?_)
  obtain ⟨nn, hw⟩ := hw
  exact b_Sky_rainsAt_2 C hr hk  nn t a1 (0 : Int32) hw _ _ _ hH (lv_sub hl [1, 2, 0] rfl)
/-! PorterTurns.wayMinutes -/
abbrev rm_C_wayMinutes : Room := { frames := 2, cells := 0, slots := 0, locals := 45 }
def wp_C_wayMinutes (t : CS) (a1 : Nat) (a2 : Nat) (post : Int32 → CS → Prop) : Prop := a1 < tN t 4 ∧ (wp_Place_farTo t a1 a2 (fun r3 t2 => a1 < tN t2 4 ∧ (wp_Place_upTo t2 a1 a2 (fun r6 t5 => ∀ x7 : Int32, x7 = ((r3 + ((2 : Int32) * r6)) + (5 : Int32)) → (wp_Sky_rainsAt t5 (tF t5 171 0) (fun r9 t8 => if r9 = 0 then (post x7 t8) else (post (x7 + (x7 / (2 : Int32))) t8)))))))
set_option maxHeartbeats 4000000 in
set_option maxRecDepth 100000 in
theorem c_C_wayMinutes (l : Launch) (D : va_G) (Z : Nat → ClassId) (E : Nat → Nat) (ad : Nat → Nat → Nat) (t : CS) (a1 : Nat) (a2 : Nat) (post : Int32 → CS → Prop) (hw : wp_C_wayMinutes t a1 a2 post) (L : List Nat) (sz : Nat) : Met l yX10_wayMinutes (Wd yX10_wayMinutes cX10_wayMinutes 4 (some .int)) rm_C_wayMinutes (va_Pc [.ref (ad 5 0), .ref (ad 4 a1), .ref (ad 4 a2)] (cPre D Z E ad L sz t)) (va_Qi post (cPost D Z E ad (cAs L sz)) (cAs L sz)) 0 0 (cAs L sz) := by
  refine cMet (Qc := fun A => va_Qi post (cPost D Z E ad A) A) (by decide) rfl _ (Nat.le_of_ble_eq_true rfl) (fun p e s m args below meth c A C hr hk ls hl hH => ?_) L sz
  obtain ⟨⟨hx, hb, hml, hown, hts⟩, hK⟩ := id C
  have hl : lv_has ls 4 [(0, .ref (ad 5 0)), (1, .ref (ad 4 a1)), (2, .ref (ad 4 a2))] := hl
  unfold wp_C_wayMinutes at hw
  refine lv_aload_n hx hb dX10_wayMinutes_0 rfl (lv_at hl 1 rfl) ?_
  refine lv_aload_n hx hb dX10_wayMinutes_1 rfl (lv_at hl 2 rfl) ?_
  obtain ⟨h1, hw⟩ := hw
  refine ccVi0 C hH (crecv C hH 4 a1 (by decide) h1 rfl rfl (q := (RX4, TX4, 5))) [.ref (ad 4 a2)] (c_Place_farTo l D Z E ad t a1 a2 _ hw) (cwTV 1 hts wd_347 wd_348 wd_349 wd_15 wd_350 rfl rfl (by decide +kernel) ⟨Nat.le_of_ble_eq_true rfl, Nat.le_of_ble_eq_true rfl⟩) rfl hl.1 rfl (Nat.le_of_ble_eq_true rfl) dX10_wayMinutes_2 ⟨Nat.zero_le _, Nat.zero_le _⟩ (fun r3 t2 H locs hw hH => ?_)
  refine lv_iconst (v := 2) hx hb dX10_wayMinutes_5 (by decide) ?_
  refine lv_aload_n hx hb dX10_wayMinutes_6 rfl (lv_at hl 1 rfl) ?_
  refine lv_aload_n hx hb dX10_wayMinutes_7 rfl (lv_at hl 2 rfl) ?_
  obtain ⟨h4, hw⟩ := hw
  refine ccVi0 C hH (crecv C hH 4 a1 (by decide) h4 rfl rfl (q := (RX4, TX4, 5))) [.ref (ad 4 a2)] (c_Place_upTo l D Z E ad t2 a1 a2 _ hw) (cwTV 1 hts wd_354 wd_355 wd_356 wd_15 wd_357 rfl rfl (by decide +kernel) ⟨Nat.le_of_ble_eq_true rfl, Nat.le_of_ble_eq_true rfl⟩) rfl hl.1 rfl (Nat.le_of_ble_eq_true rfl) dX10_wayMinutes_8 ⟨Nat.zero_le _, Nat.zero_le _⟩ (fun r6 t5 H locs hw hH => ?_)
  refine lv_imul hx hb dX10_wayMinutes_11 ?_
  refine lv_iadd hx hb dX10_wayMinutes_12 ?_
  refine lv_iconst (v := 5) hx hb dX10_wayMinutes_13 (by decide) ?_
  refine lv_iadd hx hb dX10_wayMinutes_14 ?_
  refine lv_topi (fun x7 ex7 => ?_)
  have hw := hw x7 ex7
  refine lv_istore_n (lv' := [(3, .int x7), (0, .ref (ad 5 0)), (1, .ref (ad 4 a1)), (2, .ref (ad 4 a2))]) hx hb dX10_wayMinutes_15 rfl hl (by decide) rfl (fun ls hl => ?_)
  refine lv_aload_n hx hb dX10_wayMinutes_16 rfl (lv_at hl 1 rfl) ?_
  refine cg C hH 5 0 (by decide) (Nat.le_of_ble_eq_true rfl) rfl rfl ixX10 5 (by decide) rfl wd_241 rfl dX10_wayMinutes_17 ?_
  refine lv_aload_n hx hb dX10_wayMinutes_20 rfl (lv_at hl 1 rfl) ?_
  refine cg C hH 5 0 (by decide) (Nat.le_of_ble_eq_true rfl) rfl rfl ixX10 11 (by decide) rfl wd_247 rfl dX10_wayMinutes_21 ?_
  refine ccVi0 C hH (crecv C hH 5 1 (by decide) (Nat.le_of_ble_eq_true rfl) rfl rfl (q := (RX7, TX7, 3))) [.int (tF t5 171 0)] (c_Sky_rainsAt l D Z E ad t5 (tF t5 171 0) _ hw) (cwTV 1 hts wd_362 wd_363 wd_364 wd_10 wd_365 rfl rfl (by decide +kernel) ⟨Nat.le_of_ble_eq_true rfl, Nat.le_of_ble_eq_true rfl⟩) rfl hl.1 rfl (Nat.le_of_ble_eq_true rfl) dX10_wayMinutes_24 ⟨Nat.zero_le _, Nat.zero_le _⟩ (fun r9 t8 H locs hw hH => ?_)
  refine lv_if_eq (tgt := 38) hx hb dX10_wayMinutes_27 (by decide) (fun c10 => ?_) (fun c10 => ?_)
  · have hw := ifp c10 hw
    refine lv_iload_n hx hb dX10_wayMinutes_38 rfl (lv_at hl 0 rfl) ?_
    exact cri C hr hk hH (Nat.zero_le _) (Nat.zero_le _) hw dX10_wayMinutes_39
  · have hw := ifn c10 hw
    refine lv_iload_n hx hb dX10_wayMinutes_30 rfl (lv_at hl 0 rfl) ?_
    refine lv_iload_n hx hb dX10_wayMinutes_31 rfl (lv_at hl 0 rfl) ?_
    refine lv_iconst (v := 2) hx hb dX10_wayMinutes_32 (by decide) ?_
    refine lv_idiv hx hb dX10_wayMinutes_33 (by decide) ?_
    refine lv_iadd hx hb dX10_wayMinutes_34 ?_
    refine lv_goto (tgt := 39) hx hb dX10_wayMinutes_35 (by decide) ?_
    exact cri C hr hk hH (Nat.zero_le _) (Nat.zero_le _) hw dX10_wayMinutes_39
/-! PorterTurns.way -/
abbrev rm_C_way : Room := { frames := 4, cells := 0, slots := 0, locals := 102 }
def wp_C_way (t : CS) (a1 : Int32) (a2 : Int32) (a3 : Int32) (post : Int32 → CS → Prop) : Prop := wp_C_placeAt t a1 (fun o2 t1 => wp_C_placeAt t1 a2 (fun o4 t3 => oM o2 (post (-1 : Int32) t3) (fun j5 => oM o4 (post (-1 : Int32) t3) (fun j6 => if a1 = a2 then (post (-1 : Int32) t3) else (if a3 = (0 : Int32) then (j5 < tN t3 4 ∧ (wp_Place_farTo t3 j5 j6 (fun r11 t10 => post r11 t10))) else (if a3 = (1 : Int32) then (j5 < tN t3 4 ∧ (wp_Place_upTo t3 j5 j6 (fun r15 t14 => post r15 t14))) else (if a3 = (2 : Int32) then (wp_C_wayMinutes t3 j5 j6 (fun r18 t17 => post r18 t17)) else (post (-1 : Int32) t3))))))))
set_option maxHeartbeats 4000000 in
set_option maxRecDepth 100000 in
theorem c_C_way (l : Launch) (D : va_G) (Z : Nat → ClassId) (E : Nat → Nat) (ad : Nat → Nat → Nat) (t : CS) (a1 : Int32) (a2 : Int32) (a3 : Int32) (post : Int32 → CS → Prop) (hw : wp_C_way t a1 a2 a3 post) (L : List Nat) (sz : Nat) : Met l yX10_way (Wd yX10_way cX10_way 6 (some .int)) rm_C_way (va_Pc [.ref (ad 5 0), .int a1, .int a2, .int a3] (cPre D Z E ad L sz t)) (va_Qi post (cPost D Z E ad (cAs L sz)) (cAs L sz)) 0 0 (cAs L sz) := by
  refine cMet (Qc := fun A => va_Qi post (cPost D Z E ad A) A) (by decide) rfl _ (Nat.le_of_ble_eq_true rfl) (fun p e s m args below meth c A C hr hk ls hl hH => ?_) L sz
  obtain ⟨⟨hx, hb, hml, hown, hts⟩, hK⟩ := id C
  have hl : lv_has ls 6 [(0, .ref (ad 5 0)), (1, .int a1), (2, .int a2), (3, .int a3)] := hl
  unfold wp_C_way at hw
  refine lv_aload_n hx hb dX10_way_0 rfl (lv_at hl 0 rfl) ?_
  refine lv_iload_n hx hb dX10_way_1 rfl (lv_at hl 1 rfl) ?_
  refine ccVq0 C hH (crecv C hH 5 0 (by decide) (Nat.le_of_ble_eq_true rfl) rfl rfl (q := (RX10, TX10, 13))) [.int a1] (c_C_placeAt l D Z E ad t a1 _ hw) (cwTV 1 hts wd_316 wd_318 ws_3 wd_1 wd_319 rfl rfl (by decide +kernel) ⟨Nat.le_of_ble_eq_true rfl, Nat.le_of_ble_eq_true rfl⟩) rfl hl.1 rfl (Nat.le_of_ble_eq_true rfl) dX10_way_2 ⟨Nat.zero_le _, Nat.zero_le _⟩ (fun o2 t1 H locs hw hH => ?_)
  refine lq_astore (lv' := [(4, va_rf (o2.map (ad 4))), (0, .ref (ad 5 0)), (1, .int a1), (2, .int a2), (3, .int a3)]) hx hb dX10_way_5 hl (by decide) rfl (fun ls hl => ?_)
  refine lv_aload_n hx hb dX10_way_7 rfl (lv_at hl 1 rfl) ?_
  refine lv_iload_n hx hb dX10_way_8 rfl (lv_at hl 3 rfl) ?_
  refine ccVq0 C hH (crecv C hH 5 0 (by decide) (Nat.le_of_ble_eq_true rfl) rfl rfl (q := (RX10, TX10, 13))) [.int a2] (c_C_placeAt l D Z E ad t1 a2 _ hw) (cwTV 1 hts wd_316 wd_318 ws_3 wd_1 wd_319 rfl rfl (by decide +kernel) ⟨Nat.le_of_ble_eq_true rfl, Nat.le_of_ble_eq_true rfl⟩) rfl hl.1 rfl (Nat.le_of_ble_eq_true rfl) dX10_way_9 ⟨Nat.zero_le _, Nat.zero_le _⟩ (fun o4 t3 H locs hw hH => ?_)
  refine lq_astore (i := 5) (lv' := [(5, va_rf (o4.map (ad 4))), (4, va_rf (o2.map (ad 4))), (0, .ref (ad 5 0)), (1, .int a1), (2, .int a2), (3, .int a3)]) hx hb dX10_way_12 hl (by decide) (by simp [lq_cat]) (fun ls hl => ?_)
  refine lq_aload hx hb dX10_way_14 (lv_at hl 1 rfl) ?_
  cases o2 with
  | none =>
    have hw := oM_none hw
    have hl : lv_has ls 6 [(5, va_rf (o4.map (ad 4))), (4, va_rf (none.map (ad 4))), (0, .ref (ad 5 0)), (1, .int a1), (2, .int a2), (3, .int a3)] := hl
    refine lv_ifnullN (tgt := 29) hx hb dX10_way_16 (by decide) ?_
    refine lv_iconst (v := -1) hx hb dX10_way_29 (by decide) ?_
    exact cri C hr hk hH (Nat.zero_le _) (Nat.zero_le _) hw dX10_way_30
  | some j5 =>
    have hw := oM_some hw
    have hl : lv_has ls 6 [(5, va_rf (o4.map (ad 4))), (4, .ref (ad 4 j5)), (0, .ref (ad 5 0)), (1, .int a1), (2, .int a2), (3, .int a3)] := hl
    refine lv_ifnull hx hb dX10_way_16 ?_
    refine lq_aload hx hb dX10_way_19 (lv_at hl 0 rfl) ?_
    cases o4 with
    | none =>
      have hw := oM_none hw
      have hl : lv_has ls 6 [(5, va_rf (none.map (ad 4))), (4, .ref (ad 4 j5)), (0, .ref (ad 5 0)), (1, .int a1), (2, .int a2), (3, .int a3)] := hl
      refine lv_ifnullN (tgt := 29) hx hb dX10_way_21 (by decide) ?_
      refine lv_iconst (v := -1) hx hb dX10_way_29 (by decide) ?_
      exact cri C hr hk hH (Nat.zero_le _) (Nat.zero_le _) hw dX10_way_30
    | some j6 =>
      have hw := oM_some hw
      have hl : lv_has ls 6 [(5, .ref (ad 4 j6)), (4, .ref (ad 4 j5)), (0, .ref (ad 5 0)), (1, .int a1), (2, .int a2), (3, .int a3)] := hl
      refine lv_ifnull hx hb dX10_way_21 ?_
      refine lv_iload_n hx hb dX10_way_24 rfl (lv_at hl 3 rfl) ?_
      refine lv_iload_n hx hb dX10_way_25 rfl (lv_at hl 4 rfl) ?_
      refine lv_icmp_ne (tgt := 31) hx hb dX10_way_26 (by decide) (fun c7 => ?_) (fun c7 => ?_)
      · have hw := ifn c7 hw
        refine lv_iload_n hx hb dX10_way_31 rfl (lv_at hl 5 rfl) ?_
        by_cases c8 : a3 = (0 : Int32)
        · have hw := ifp c8 hw
          refine lv_tableIn (tgt := 60) hx hb dX10_way_32 (by rw [c8]; decide) (by rw [c8]; decide) (by rw [c8]; rfl) (by decide) ?_
          refine lv_aload hx hb dX10_way_60 (lv_at hl 1 rfl) ?_
          refine lv_aload hx hb dX10_way_62 (lv_at hl 0 rfl) ?_
          obtain ⟨h9, hw⟩ := hw
          refine ccVi0 C hH (crecv C hH 4 j5 (by decide) h9 rfl rfl (q := (RX4, TX4, 5))) [.ref (ad 4 j6)] (c_Place_farTo l D Z E ad t3 j5 j6 _ hw) (cwTV 1 hts wd_347 wd_348 wd_349 wd_15 wd_350 rfl rfl (by decide +kernel) ⟨Nat.le_of_ble_eq_true rfl, Nat.le_of_ble_eq_true rfl⟩) rfl hl.1 rfl (Nat.le_of_ble_eq_true rfl) dX10_way_64 ⟨Nat.zero_le _, Nat.zero_le _⟩ (fun r11 t10 H locs hw hH => ?_)
          exact cri C hr hk hH (Nat.zero_le _) (Nat.zero_le _) hw dX10_way_67
        have hw := ifn c8 hw
        by_cases c12 : a3 = (1 : Int32)
        · have hw := ifp c12 hw
          refine lv_tableIn (tgt := 68) hx hb dX10_way_32 (by rw [c12]; decide) (by rw [c12]; decide) (by rw [c12]; rfl) (by decide) ?_
          refine lv_aload hx hb dX10_way_68 (lv_at hl 1 rfl) ?_
          refine lv_aload hx hb dX10_way_70 (lv_at hl 0 rfl) ?_
          obtain ⟨h13, hw⟩ := hw
          refine ccVi0 C hH (crecv C hH 4 j5 (by decide) h13 rfl rfl (q := (RX4, TX4, 5))) [.ref (ad 4 j6)] (c_Place_upTo l D Z E ad t3 j5 j6 _ hw) (cwTV 1 hts wd_354 wd_355 wd_356 wd_15 wd_357 rfl rfl (by decide +kernel) ⟨Nat.le_of_ble_eq_true rfl, Nat.le_of_ble_eq_true rfl⟩) rfl hl.1 rfl (Nat.le_of_ble_eq_true rfl) dX10_way_72 ⟨Nat.zero_le _, Nat.zero_le _⟩ (fun r15 t14 H locs hw hH => ?_)
          exact cri C hr hk hH (Nat.zero_le _) (Nat.zero_le _) hw dX10_way_75
        have hw := ifn c12 hw
        by_cases c16 : a3 = (2 : Int32)
        · have hw := ifp c16 hw
          refine lv_tableIn (tgt := 76) hx hb dX10_way_32 (by rw [c16]; decide) (by rw [c16]; decide) (by rw [c16]; rfl) (by decide) ?_
          refine lv_aload_n hx hb dX10_way_76 rfl (lv_at hl 2 rfl) ?_
          refine lv_aload hx hb dX10_way_77 (lv_at hl 1 rfl) ?_
          refine lv_aload hx hb dX10_way_79 (lv_at hl 0 rfl) ?_
          refine ccVi0 C hH (crecv C hH 5 0 (by decide) (Nat.le_of_ble_eq_true rfl) rfl rfl (q := (RX10, TX10, 13))) [.ref (ad 4 j5), .ref (ad 4 j6)] (c_C_wayMinutes l D Z E ad t3 j5 j6 _ hw) (cwTV 2 hts wd_358 wd_360 ws_4 wd_1 wd_361 rfl rfl (by decide +kernel) ⟨Nat.le_of_ble_eq_true rfl, Nat.le_of_ble_eq_true rfl⟩) rfl hl.1 rfl (Nat.le_of_ble_eq_true rfl) dX10_way_81 ⟨Nat.zero_le _, Nat.zero_le _⟩ (fun r18 t17 H locs hw hH => ?_)
          exact cri C hr hk hH (Nat.zero_le _) (Nat.zero_le _) hw dX10_way_84
        have hw := ifn c16 hw
        refine lv_tableOut (tgt := 85) hx hb dX10_way_32 (by have := sw_ne c8 0 (by decide); have := sw_ne c12 1 (by decide); have := sw_ne c16 2 (by decide); omega) (by decide) ?_
        refine lv_iconst (v := -1) hx hb dX10_way_85 (by decide) ?_
        exact cri C hr hk hH (Nat.zero_le _) (Nat.zero_le _) hw dX10_way_86
      · have hw := ifp c7 hw
        refine lv_iconst (v := -1) hx hb dX10_way_29 (by decide) ?_
        exact cri C hr hk hH (Nat.zero_le _) (Nat.zero_le _) hw dX10_way_30
/-! PorterTurns.manAt -/
abbrev rm_C_manAt : Room := { frames := 3, cells := 0, slots := 0, locals := 81 }
def wp_C_manAt (t : CS) (a1 : Int32) (post : Option Nat → CS → Prop) : Prop := if a1 < 0 then (post none t) else (if (nI (tT t 1).length) ≤ a1 then (post none t) else (vp_in a1 (tT t 1).length ∧ ((tT t 1).length < 2 ^ 31 ∧ (∀ j5 : Nat, j5 = ((tT t 1).getD a1.toNatClampNeg 0) → (j5 < tN t 3 ∧ (post (some j5) t))))))
set_option maxHeartbeats 4000000 in
set_option maxRecDepth 100000 in
theorem c_C_manAt (l : Launch) (D : va_G) (Z : Nat → ClassId) (E : Nat → Nat) (ad : Nat → Nat → Nat) (t : CS) (a1 : Int32) (post : Option Nat → CS → Prop) (hw : wp_C_manAt t a1 post) (L : List Nat) (sz : Nat) : Met l yX10_manAt (Wd yX10_manAt cX10_manAt 2 (some (.object "PorterTurns$Man"))) rm_C_manAt (va_Pc [.ref (ad 5 0), .int a1] (cPre D Z E ad L sz t)) (va_Qq (oQ 3 ad post) (cPost D Z E ad (cAs L sz)) (cAs L sz)) 0 0 (cAs L sz) := by
  refine cMet (Qc := fun A => va_Qq (oQ 3 ad post) (cPost D Z E ad A) A) (by decide) rfl _ (Nat.le_of_ble_eq_true rfl) (fun p e s m args below meth c A C hr hk ls hl hH => ?_) L sz
  obtain ⟨⟨hx, hb, hml, hown, hts⟩, hK⟩ := id C
  have hl : lv_has ls 2 [(0, .ref (ad 5 0)), (1, .int a1)] := hl
  unfold wp_C_manAt at hw
  refine lv_iload_n hx hb dX10_manAt_0 rfl (lv_at hl 1 rfl) ?_
  refine lv_if_lt (tgt := 29) hx hb dX10_manAt_1 (by decide) (fun c1 => ?_) (fun c1 => ?_)
  · have hw := ifp c1 hw
    refine lv_null hx hb dX10_manAt_29 ?_
    exact crq 3 C hr hk hH (Nat.zero_le _) (Nat.zero_le _) (o := none) hw dX10_manAt_30
  · have hw := ifn c1 hw
    refine lv_iload_n hx hb dX10_manAt_4 rfl (lv_at hl 1 rfl) ?_
    refine lv_aload_n hx hb dX10_manAt_5 rfl (lv_at hl 0 rfl) ?_
    refine cg C hH 5 0 (by decide) (Nat.le_of_ble_eq_true rfl) rfl rfl ixX10 1 (by decide) rfl wd_237 rfl dX10_manAt_6 ?_
    refine lSize C hH 1 (Nat.lt_of_lt_of_le (show 1 < 11 by decide) (Nat.le_add_left _ _)) wd_283 hl.1 (Nat.le_of_ble_eq_true rfl) dX10_manAt_9 ⟨Nat.zero_le _, Nat.zero_le _⟩ ⟨Nat.le_of_ble_eq_true rfl, Nat.le_of_ble_eq_true rfl⟩ (fun H locs hH => ?_)
    refine lv_icmp_ge (tgt := 29) hx hb dX10_manAt_12 (by decide) (fun c2 => ?_) (fun c2 => ?_)
    · have hw := ifp c2 hw
      refine lv_null hx hb dX10_manAt_29 ?_
      exact crq 3 C hr hk hH (Nat.zero_le _) (Nat.zero_le _) (o := none) hw dX10_manAt_30
    · have hw := ifn c2 hw
      refine lv_aload_n hx hb dX10_manAt_15 rfl (lv_at hl 0 rfl) ?_
      refine cg C hH 5 0 (by decide) (Nat.le_of_ble_eq_true rfl) rfl rfl ixX10 1 (by decide) rfl wd_237 rfl dX10_manAt_16 ?_
      refine lv_iload_n hx hb dX10_manAt_19 rfl (lv_at hl 1 rfl) ?_
      obtain ⟨h3, hw⟩ := hw
      obtain ⟨h4, hw⟩ := hw
      refine lGet C hH 1 (Nat.lt_of_lt_of_le (show 1 < 11 by decide) (Nat.le_add_left _ _)) h3 h4 wd_320 hl.1 (Nat.le_of_ble_eq_true rfl) dX10_manAt_20 ⟨Nat.zero_le _, Nat.zero_le _⟩ ⟨Nat.le_of_ble_eq_true rfl, Nat.le_of_ble_eq_true rfl⟩ (fun H locs hH => ?_)
      obtain ⟨j5, ej5⟩ : ∃ x : Nat, x = ((tT t 1).getD a1.toNatClampNeg 0) := ⟨_, rfl⟩
      rw [← ej5]
      have hw := hw j5 ej5
      obtain ⟨h6, hw⟩ := hw
      refine cCast C hH 3 j5 (by decide) h6 rfl rfl wd_374 dX10_manAt_23 ?_
      refine lv_goto (tgt := 30) hx hb dX10_manAt_26 (by decide) ?_
      exact crq 3 C hr hk hH (Nat.zero_le _) (Nat.zero_le _) (o := (some j5)) hw dX10_manAt_30
/-! PorterTurns.fellowshipAt -/
abbrev rm_C_fellowshipAt : Room := { frames := 3, cells := 0, slots := 0, locals := 81 }
def wp_C_fellowshipAt (t : CS) (a1 : Int32) (post : Option Nat → CS → Prop) : Prop := if a1 < 0 then (post none t) else (if (nI (tT t 4).length) ≤ a1 then (post none t) else (vp_in a1 (tT t 4).length ∧ ((tT t 4).length < 2 ^ 31 ∧ (∀ j5 : Nat, j5 = ((tT t 4).getD a1.toNatClampNeg 0) → (j5 < tN t 0 ∧ (post (some j5) t))))))
set_option maxHeartbeats 4000000 in
set_option maxRecDepth 100000 in
theorem c_C_fellowshipAt (l : Launch) (D : va_G) (Z : Nat → ClassId) (E : Nat → Nat) (ad : Nat → Nat → Nat) (t : CS) (a1 : Int32) (post : Option Nat → CS → Prop) (hw : wp_C_fellowshipAt t a1 post) (L : List Nat) (sz : Nat) : Met l yX10_fellowshipAt (Wd yX10_fellowshipAt cX10_fellowshipAt 2 (some (.object "PorterTurns$Fellowship"))) rm_C_fellowshipAt (va_Pc [.ref (ad 5 0), .int a1] (cPre D Z E ad L sz t)) (va_Qq (oQ 0 ad post) (cPost D Z E ad (cAs L sz)) (cAs L sz)) 0 0 (cAs L sz) := by
  refine cMet (Qc := fun A => va_Qq (oQ 0 ad post) (cPost D Z E ad A) A) (by decide) rfl _ (Nat.le_of_ble_eq_true rfl) (fun p e s m args below meth c A C hr hk ls hl hH => ?_) L sz
  obtain ⟨⟨hx, hb, hml, hown, hts⟩, hK⟩ := id C
  have hl : lv_has ls 2 [(0, .ref (ad 5 0)), (1, .int a1)] := hl
  unfold wp_C_fellowshipAt at hw
  refine lv_iload_n hx hb dX10_fellowshipAt_0 rfl (lv_at hl 1 rfl) ?_
  refine lv_if_lt (tgt := 29) hx hb dX10_fellowshipAt_1 (by decide) (fun c1 => ?_) (fun c1 => ?_)
  · have hw := ifp c1 hw
    refine lv_null hx hb dX10_fellowshipAt_29 ?_
    exact crq 0 C hr hk hH (Nat.zero_le _) (Nat.zero_le _) (o := none) hw dX10_fellowshipAt_30
  · have hw := ifn c1 hw
    refine lv_iload_n hx hb dX10_fellowshipAt_4 rfl (lv_at hl 1 rfl) ?_
    refine lv_aload_n hx hb dX10_fellowshipAt_5 rfl (lv_at hl 0 rfl) ?_
    refine cg C hH 5 0 (by decide) (Nat.le_of_ble_eq_true rfl) rfl rfl ixX10 4 (by decide) rfl wd_240 rfl dX10_fellowshipAt_6 ?_
    refine lSize C hH 4 (Nat.lt_of_lt_of_le (show 4 < 11 by decide) (Nat.le_add_left _ _)) wd_283 hl.1 (Nat.le_of_ble_eq_true rfl) dX10_fellowshipAt_9 ⟨Nat.zero_le _, Nat.zero_le _⟩ ⟨Nat.le_of_ble_eq_true rfl, Nat.le_of_ble_eq_true rfl⟩ (fun H locs hH => ?_)
    refine lv_icmp_ge (tgt := 29) hx hb dX10_fellowshipAt_12 (by decide) (fun c2 => ?_) (fun c2 => ?_)
    · have hw := ifp c2 hw
      refine lv_null hx hb dX10_fellowshipAt_29 ?_
      exact crq 0 C hr hk hH (Nat.zero_le _) (Nat.zero_le _) (o := none) hw dX10_fellowshipAt_30
    · have hw := ifn c2 hw
      refine lv_aload_n hx hb dX10_fellowshipAt_15 rfl (lv_at hl 0 rfl) ?_
      refine cg C hH 5 0 (by decide) (Nat.le_of_ble_eq_true rfl) rfl rfl ixX10 4 (by decide) rfl wd_240 rfl dX10_fellowshipAt_16 ?_
      refine lv_iload_n hx hb dX10_fellowshipAt_19 rfl (lv_at hl 1 rfl) ?_
      obtain ⟨h3, hw⟩ := hw
      obtain ⟨h4, hw⟩ := hw
      refine lGet C hH 4 (Nat.lt_of_lt_of_le (show 4 < 11 by decide) (Nat.le_add_left _ _)) h3 h4 wd_320 hl.1 (Nat.le_of_ble_eq_true rfl) dX10_fellowshipAt_20 ⟨Nat.zero_le _, Nat.zero_le _⟩ ⟨Nat.le_of_ble_eq_true rfl, Nat.le_of_ble_eq_true rfl⟩ (fun H locs hH => ?_)
      obtain ⟨j5, ej5⟩ : ∃ x : Nat, x = ((tT t 4).getD a1.toNatClampNeg 0) := ⟨_, rfl⟩
      rw [← ej5]
      have hw := hw j5 ej5
      obtain ⟨h6, hw⟩ := hw
      refine cCast C hH 0 j5 (by decide) h6 rfl rfl wd_59 dX10_fellowshipAt_23 ?_
      refine lv_goto (tgt := 30) hx hb dX10_fellowshipAt_26 (by decide) ?_
      exact crq 0 C hr hk hH (Nat.zero_le _) (Nat.zero_le _) (o := (some j5)) hw dX10_fellowshipAt_30
/-! PorterTurns.fellowshipOf -/
abbrev rm_C_fellowshipOf : Room := { frames := 4, cells := 0, slots := 0, locals := 102 }
def wp_C_fellowshipOf (t : CS) (a1 : Option Nat) (post : Option Nat → CS → Prop) : Prop := oM a1 (post none t) (fun j1 => j1 < tN t 3 ∧ (wp_C_fellowshipAt t (tF t 97 j1) (fun o4 t3 => post o4 t3)))
set_option maxHeartbeats 4000000 in
set_option maxRecDepth 100000 in
theorem c_C_fellowshipOf (l : Launch) (D : va_G) (Z : Nat → ClassId) (E : Nat → Nat) (ad : Nat → Nat → Nat) (t : CS) (a1 : Option Nat) (post : Option Nat → CS → Prop) (hw : wp_C_fellowshipOf t a1 post) (L : List Nat) (sz : Nat) : Met l yX10_fellowshipOf (Wd yX10_fellowshipOf cX10_fellowshipOf 2 (some (.object "PorterTurns$Fellowship"))) rm_C_fellowshipOf (va_Pc [.ref (ad 5 0), va_rf (a1.map (ad 3))] (cPre D Z E ad L sz t)) (va_Qq (oQ 0 ad post) (cPost D Z E ad (cAs L sz)) (cAs L sz)) 0 0 (cAs L sz) := by
  refine cMet (Qc := fun A => va_Qq (oQ 0 ad post) (cPost D Z E ad A) A) (by decide) rfl _ (by cases a1 <;> exact Nat.le_of_ble_eq_true rfl) (fun p e s m args below meth c A C hr hk ls hl hH => ?_) L sz
  obtain ⟨⟨hx, hb, hml, hown, hts⟩, hK⟩ := id C
  have hl : lv_has ls 2 ((0, .ref (ad 5 0)) :: lv_args 1 [va_rf (a1.map (ad 3))]) := hl
  rw [lv_args_q] at hl
  have hl : lv_has ls 2 [(0, .ref (ad 5 0)), (1, va_rf (a1.map (ad 3)))] := hl
  unfold wp_C_fellowshipOf at hw
  refine lq_aload_n hx hb dX10_fellowshipOf_0 rfl (lv_at hl 1 rfl) ?_
  cases a1 with
  | none =>
    have hw := oM_none hw
    have hl : lv_has ls 2 [(0, .ref (ad 5 0)), (1, va_rf (none.map (ad 3)))] := hl
    refine lv_ifnonnullN hx hb dX10_fellowshipOf_1 ?_
    refine lv_null hx hb dX10_fellowshipOf_4 ?_
    refine lv_goto (tgt := 16) hx hb dX10_fellowshipOf_5 (by decide) ?_
    exact crq 0 C hr hk hH (Nat.zero_le _) (Nat.zero_le _) (o := none) hw dX10_fellowshipOf_16
  | some j1 =>
    have hw := oM_some hw
    have hl : lv_has ls 2 [(0, .ref (ad 5 0)), (1, .ref (ad 3 j1))] := hl
    refine lv_ifnonnull (tgt := 8) hx hb dX10_fellowshipOf_1 (by decide) ?_
    refine lv_aload_n hx hb dX10_fellowshipOf_8 rfl (lv_at hl 0 rfl) ?_
    refine lv_aload_n hx hb dX10_fellowshipOf_9 rfl (lv_at hl 1 rfl) ?_
    obtain ⟨h2, hw⟩ := hw
    refine cg C hH 3 j1 (by decide) h2 rfl rfl ixX3 1 (by decide) rfl wd_385 rfl dX10_fellowshipOf_10 ?_
    refine ccVq0 C hH (crecv C hH 5 0 (by decide) (Nat.le_of_ble_eq_true rfl) rfl rfl (q := (RX10, TX10, 13))) [.int (tF t 97 j1)] (c_C_fellowshipAt l D Z E ad t (tF t 97 j1) _ hw) (cwTV 1 hts wd_370 wd_372 ws_5 wd_1 wd_373 rfl rfl (by decide +kernel) ⟨Nat.le_of_ble_eq_true rfl, Nat.le_of_ble_eq_true rfl⟩) rfl hl.1 rfl (Nat.le_of_ble_eq_true rfl) dX10_fellowshipOf_13 ⟨Nat.zero_le _, Nat.zero_le _⟩ (fun o4 t3 H locs hw hH => ?_)
    exact crq 0 C hr hk hH (Nat.zero_le _) (Nat.zero_le _) (o := o4) hw dX10_fellowshipOf_16
/-! PorterTurns$Fellowship.placeInRow -/
abbrev rm_Fel_placeInRow : Room := { frames := 3, cells := 0, slots := 0, locals := 81 }
def wp_Fel_placeInRow_2 (post : Int32 → CS → Prop) : Nat → CS → Nat → Int32 → Int32 → Prop
  | 0 => fun _ _ _ _ => False
  | n + 1 => fun t x0_ x1_ x2_ => x0_ < tN t 0 ∧ ((x0_ + 7) < tN t 2 + 11 ∧ (if (nI (tT t (x0_ + 7)).length) ≤ x2_ then (post (-1 : Int32) t) else (vp_in x2_ (tT t (x0_ + 7)).length ∧ ((tT t (x0_ + 7)).length < 2 ^ 31 ∧ (∀ j6 : Nat, j6 = ((tT t (x0_ + 7)).getD x2_.toNatClampNeg 0) → (j6 < tN t 3 ∧ (if (nI j6) = x1_ then (post x2_ t) else (∀ x9 : Int32, x9 = x2_ + (1 : Int32) → (wp_Fel_placeInRow_2 post n t x0_ x1_ x9)))))))))
set_option maxHeartbeats 4000000 in
set_option maxRecDepth 100000 in
theorem b_Fel_placeInRow_2 {p : Program} {l : Launch} {e : Env} {s : State} {m : MethodId} {args : Array Value} {below : List Frame} {meth : Method} {c : Code} {D : va_G} {Z : Nat → ClassId} {E : Nat → Nat} {ad : Nat → Nat → Nat} {A : Nat → Prop} (C : CC p s m args c cX0_placeInRow 3 RX0 D Z E A) (hr : meth.sig.returnType = some .int) (hk : meth.locks = false) {post : Int32 → CS → Prop} : ∀ (n : Nat) (t : CS) (x0_ : Nat) (x1_ : Int32) (x2_ : Int32), wp_Fel_placeInRow_2 post n t x0_ x1_ x2_ → ∀ (H : Heap) (locs : List Loc) (ls : Array Slot), CH D Z E ad A s.heap t H locs → lv_has ls 3 [(0, .ref (ad 0 x0_)), (1, .int x1_), (2, .int x2_)] → CWi p l e rm_Fel_placeInRow s m args below meth c D Z E ad A 0 0 post H locs 0 0 (F0 m 2 ls []) := by
  obtain ⟨⟨hx, hb, hml, hown, hts⟩, hK⟩ := id C
  intro n
  induction n with
  | zero => intro t x0_ x1_ x2_ hw; exact hw.elim
  | succ n ih =>
    intro t x0_ x1_ x2_ hw H locs ls hH hl
    unfold wp_Fel_placeInRow_2 at hw
    refine lv_iload_n hx hb dX0_placeInRow_2 rfl (lv_at hl 2 rfl) ?_
    refine lv_aload_n hx hb dX0_placeInRow_3 rfl (lv_at hl 0 rfl) ?_
    obtain ⟨h1, hw⟩ := hw
    refine cg C hH 0 x0_ (by decide) h1 rfl rfl ixX0 1 (by decide) rfl wd_69 rfl dX0_placeInRow_4 ?_
    obtain ⟨h2, hw⟩ := hw
    refine lSize C hH (x0_ + 7) h2 wd_442 hl.1 (Nat.le_of_ble_eq_true rfl) dX0_placeInRow_7 ⟨Nat.zero_le _, Nat.zero_le _⟩ ⟨Nat.le_of_ble_eq_true rfl, Nat.le_of_ble_eq_true rfl⟩ (fun H locs hH => ?_)
    refine lv_icmp_ge (tgt := 39) hx hb dX0_placeInRow_10 (by decide) (fun c3 => ?_) (fun c3 => ?_)
    · have hw := ifp c3 hw
      refine lv_iconst (v := -1) hx hb dX0_placeInRow_39 (by decide) ?_
      exact cri C hr hk hH (Nat.zero_le _) (Nat.zero_le _) hw dX0_placeInRow_40
    · have hw := ifn c3 hw
      refine lv_aload_n hx hb dX0_placeInRow_13 rfl (lv_at hl 0 rfl) ?_
      refine cg C hH 0 x0_ (by decide) h1 rfl rfl ixX0 1 (by decide) rfl wd_69 rfl dX0_placeInRow_14 ?_
      refine lv_iload_n hx hb dX0_placeInRow_17 rfl (lv_at hl 2 rfl) ?_
      obtain ⟨h4, hw⟩ := hw
      obtain ⟨h5, hw⟩ := hw
      refine lGet C hH (x0_ + 7) h2 h4 h5 wd_443 hl.1 (Nat.le_of_ble_eq_true rfl) dX0_placeInRow_18 ⟨Nat.zero_le _, Nat.zero_le _⟩ ⟨Nat.le_of_ble_eq_true rfl, Nat.le_of_ble_eq_true rfl⟩ (fun H locs hH => ?_)
      obtain ⟨j6, ej6⟩ : ∃ x : Nat, x = ((tT t (x0_ + 7)).getD x2_.toNatClampNeg 0) := ⟨_, rfl⟩
      rw [← ej6]
      have hw := hw j6 ej6
      obtain ⟨h7, hw⟩ := hw
      refine cCast C hH 3 j6 (by decide) h7 rfl rfl wd_444 dX0_placeInRow_21 ?_
      refine cg C hH 3 j6 (by decide) h7 rfl rfl ixX3 0 (by decide) rfl wd_381 rfl dX0_placeInRow_24 ?_
      refine lv_iload_n hx hb dX0_placeInRow_27 rfl (lv_at hl 1 rfl) ?_
      refine lv_icmp_ne (tgt := 33) hx hb dX0_placeInRow_28 (by decide) (fun c8 => ?_) (fun c8 => ?_)
      · have hw := ifn c8 hw
        obtain ⟨x9, ex9⟩ : ∃ y : Int32, y = x2_ + (1 : Int32) := ⟨_, rfl⟩
        have hw := hw x9 ex9
        refine lv_iinc (v := x9) (lv' := [(2, .int x9), (0, .ref (ad 0 x0_)), (1, .int x1_)]) hx hb dX0_placeInRow_33 hl (k := 2) rfl (by rw [ex9]; rfl) (by decide) rfl (fun ls hl => ?_)
        refine lv_goto (tgt := 2) hx hb dX0_placeInRow_36 (by decide) ?_
        exact ih t x0_ x1_ x9 hw _ _ _ hH (lv_sub hl [1, 2, 0] rfl)
      · have hw := ifp c8 hw
        refine lv_iload_n hx hb dX0_placeInRow_31 rfl (lv_at hl 2 rfl) ?_
        exact cri C hr hk hH (Nat.zero_le _) (Nat.zero_le _) hw dX0_placeInRow_32
def wp_Fel_placeInRow (t : CS) (i0 : Nat) (a1 : Int32) (post : Int32 → CS → Prop) : Prop := ∃ nn : Nat, wp_Fel_placeInRow_2 post nn t i0 a1 (0 : Int32)
set_option maxHeartbeats 4000000 in
set_option maxRecDepth 100000 in
theorem c_Fel_placeInRow (l : Launch) (D : va_G) (Z : Nat → ClassId) (E : Nat → Nat) (ad : Nat → Nat → Nat) (t : CS) (i0 : Nat) (a1 : Int32) (post : Int32 → CS → Prop) (hw : wp_Fel_placeInRow t i0 a1 post) (L : List Nat) (sz : Nat) : Met l yX0_placeInRow (Wd yX0_placeInRow cX0_placeInRow 3 (some .int)) rm_Fel_placeInRow (va_Pc [.ref (ad 0 i0), .int a1] (cPre D Z E ad L sz t)) (va_Qi post (cPost D Z E ad (cAs L sz)) (cAs L sz)) 0 0 (cAs L sz) := by
  refine cMet (Qc := fun A => va_Qi post (cPost D Z E ad A) A) (by decide) rfl _ (Nat.le_of_ble_eq_true rfl) (fun p e s m args below meth c A C hr hk ls hl hH => ?_) L sz
  obtain ⟨⟨hx, hb, hml, hown, hts⟩, hK⟩ := id C
  have hl : lv_has ls 3 [(0, .ref (ad 0 i0)), (1, .int a1)] := hl
  unfold wp_Fel_placeInRow at hw
  refine lv_iconst (v := 0) hx hb dX0_placeInRow_0 (by decide) ?_
  refine lv_istore_n (lv' := [(2, .int (0 : Int32)), (0, .ref (ad 0 i0)), (1, .int a1)]) hx hb dX0_placeInRow_1 rfl hl (by decide) rfl (fun ls hl => ?_)
  obtain ⟨nn, hw⟩ := hw
  exact b_Fel_placeInRow_2 C hr hk  nn t i0 a1 (0 : Int32) hw _ _ _ hH (lv_sub hl [1, 2, 0] rfl)
/-! PorterTurns$Man.freeAt -/
abbrev rm_Man_freeAt : Room := { frames := 0, cells := 0, slots := 0, locals := 0 }
def wp_Man_freeAt (t : CS) (i0 : Nat) (a1 : Int32) (post : Int32 → CS → Prop) : Prop := i0 < tN t 3 ∧ (if a1 < (tF t 102 i0) then (post (0 : Int32) t) else (post (1 : Int32) t))
set_option maxHeartbeats 4000000 in
set_option maxRecDepth 100000 in
theorem c_Man_freeAt (l : Launch) (D : va_G) (Z : Nat → ClassId) (E : Nat → Nat) (ad : Nat → Nat → Nat) (t : CS) (i0 : Nat) (a1 : Int32) (post : Int32 → CS → Prop) (hw : wp_Man_freeAt t i0 a1 post) (L : List Nat) (sz : Nat) : Met l yX3_freeAt (Wd yX3_freeAt cX3_freeAt 2 (some .boolean)) rm_Man_freeAt (va_Pc [.ref (ad 3 i0), .int a1] (cPre D Z E ad L sz t)) (va_Qi post (cPost D Z E ad (cAs L sz)) (cAs L sz)) 0 0 (cAs L sz) := by
  refine cMet (Qc := fun A => va_Qi post (cPost D Z E ad A) A) (by decide) rfl _ (Nat.le_of_ble_eq_true rfl) (fun p e s m args below meth c A C hr hk ls hl hH => ?_) L sz
  obtain ⟨⟨hx, hb, hml, hown, hts⟩, hK⟩ := id C
  have hl : lv_has ls 2 [(0, .ref (ad 3 i0)), (1, .int a1)] := hl
  unfold wp_Man_freeAt at hw
  refine lv_aload_n hx hb dX3_freeAt_0 rfl (lv_at hl 0 rfl) ?_
  obtain ⟨h1, hw⟩ := hw
  refine cg C hH 3 i0 (by decide) h1 rfl rfl ixX3 6 (by decide) rfl wd_397 rfl dX3_freeAt_1 ?_
  refine lv_iload_n hx hb dX3_freeAt_4 rfl (lv_at hl 1 rfl) ?_
  refine lv_icmp_gt (tgt := 12) hx hb dX3_freeAt_5 (by decide) (fun c2 => ?_) (fun c2 => ?_)
  · have hw := ifp c2 hw
    refine lv_iconst (v := 0) hx hb dX3_freeAt_12 (by decide) ?_
    exact crz C hr hk hH (Nat.zero_le _) (Nat.zero_le _) bz0 hw dX3_freeAt_13
  · have hw := ifn c2 hw
    refine lv_iconst (v := 1) hx hb dX3_freeAt_8 (by decide) ?_
    refine lv_goto (tgt := 13) hx hb dX3_freeAt_9 (by decide) ?_
    exact crz C hr hk hH (Nat.zero_le _) (Nat.zero_le _) bz1 hw dX3_freeAt_13
/-! PorterTurns.join -/
abbrev rm_C_join (mc ms : Nat) : Room := { frames := 7, cells := mc, slots := ms, locals := 521 }
def wp_C_join (mc ms : Nat) (t : CS) (a1 : Int32) (post : Int32 → CS → Prop) : Prop := wp_C_manAt t a1 (fun o2 t1 => wp_C_fellowshipOf t1 o2 (fun o4 t3 => oM o2 (post (-1 : Int32) t3) (fun j5 => oM o4 (post (-1 : Int32) t3) (fun j6 => j6 < tN t3 0 ∧ (wp_Fel_placeInRow t3 j6 a1 (fun r9 t8 => if 0 ≤ r9 then (post (-2 : Int32) t8) else (j5 < tN t8 3 ∧ (wp_Man_freeAt t8 j5 (tF t8 171 0) (fun r13 t12 => if r13 = 0 then (post (-2 : Int32) t12) else (j5 < tN t12 3 ∧ (if (tF t12 105 j5) = 0 then (j6 < tN t12 0 ∧ ((j6 + 7) < tN t12 2 + 11 ∧ (tK t12 (j6 + 7) < 2 ^ 20 ∧ (elOk t12 (j6 + 7) ∧ (((0 + aC (tT t12 (j6 + 7)).length (tK t12 (j6 + 7))) ≤ mc ∧ (0 + aS (tT t12 (j6 + 7)).length (tK t12 (j6 + 7))) ≤ ms) ∧ (∀ c22 s23 : Nat, c22 = (0 + aC (tT t12 (j6 + 7)).length (tK t12 (j6 + 7))) → s23 = (0 + aS (tT t12 (j6 + 7)).length (tK t12 (j6 + 7))) → (∀ t24 : CS, t24 = lAdd t12 (j6 + 7) j5 → (j6 < tN t24 0 ∧ ((j6 + 7) < tN t24 2 + 11 ∧ (post (nI (tT t24 (j6 + 7)).length) t24)))))))))) else (post (-2 : Int32) t12))))))))))))
set_option maxHeartbeats 4000000 in
set_option maxRecDepth 100000 in
theorem c_C_join (l : Launch) (D : va_G) (Z : Nat → ClassId) (E : Nat → Nat) (ad : Nat → Nat → Nat) (mc ms : Nat) (t : CS) (a1 : Int32) (post : Int32 → CS → Prop) (hw : wp_C_join mc ms t a1 post) (L : List Nat) (sz : Nat) : Met l yX10_join (Wd yX10_join cX10_join 4 (some .int)) (rm_C_join mc ms) (va_Pc [.ref (ad 5 0), .int a1] (cPre D Z E ad L sz t)) (va_Qi post (cPost D Z E ad (cAs L sz)) (cAs L sz)) mc ms (cAs L sz) := by
  refine cMet (Qc := fun A => va_Qi post (cPost D Z E ad A) A) (by decide) rfl _ (Nat.le_of_ble_eq_true rfl) (fun p e s m args below meth c A C hr hk ls hl hH => ?_) L sz
  obtain ⟨⟨hx, hb, hml, hown, hts⟩, hK⟩ := id C
  have hl : lv_has ls 4 [(0, .ref (ad 5 0)), (1, .int a1)] := hl
  have hu : 0 ≤ mc ∧ 0 ≤ ms := ⟨Nat.zero_le _, Nat.zero_le _⟩
  unfold wp_C_join at hw
  refine lv_aload_n hx hb dX10_join_0 rfl (lv_at hl 0 rfl) ?_
  refine lv_iload_n hx hb dX10_join_1 rfl (lv_at hl 1 rfl) ?_
  refine ccVq0 C hH (crecv C hH 5 0 (by decide) (Nat.le_of_ble_eq_true rfl) rfl rfl (q := (RX10, TX10, 13))) [.int a1] (c_C_manAt l D Z E ad t a1 _ hw) (cwTV 1 hts wd_430 wd_432 ws_6 wd_1 wd_433 rfl rfl (by decide +kernel) ⟨Nat.le_of_ble_eq_true rfl, Nat.le_of_ble_eq_true rfl⟩) rfl hl.1 rfl (Nat.le_of_ble_eq_true rfl) dX10_join_2 hu (fun o2 t1 H locs hw hH => ?_)
  refine lq_astore_n (lv' := [(2, va_rf (o2.map (ad 3))), (0, .ref (ad 5 0)), (1, .int a1)]) hx hb dX10_join_5 rfl hl (by decide) rfl (fun ls hl => ?_)
  refine lv_aload_n hx hb dX10_join_6 rfl (lv_at hl 1 rfl) ?_
  refine lq_aload_n hx hb dX10_join_7 rfl (lv_at hl 0 rfl) ?_
  refine ccVq0 C hH (crecv C hH 5 0 (by decide) (Nat.le_of_ble_eq_true rfl) rfl rfl (q := (RX10, TX10, 13))) [va_rf (o2.map (ad 3))] (c_C_fellowshipOf l D Z E ad t1 o2 _ hw) (cwTV 1 hts wd_434 wd_436 ws_7 wd_1 wd_437 rfl rfl (by decide +kernel) ⟨Nat.le_of_ble_eq_true rfl, Nat.le_of_ble_eq_true rfl⟩) rfl hl.1 rfl (Nat.le_of_ble_eq_true rfl) dX10_join_8 hu (fun o4 t3 H locs hw hH => ?_)
  refine lq_astore_n (i := 3) (lv' := [(3, va_rf (o4.map (ad 0))), (2, va_rf (o2.map (ad 3))), (0, .ref (ad 5 0)), (1, .int a1)]) hx hb dX10_join_11 rfl hl (by decide) (by simp [lq_cat]) (fun ls hl => ?_)
  refine lq_aload_n hx hb dX10_join_12 rfl (lv_at hl 1 rfl) ?_
  cases o2 with
  | none =>
    have hw := oM_none hw
    have hl : lv_has ls 4 [(3, va_rf (o4.map (ad 0))), (2, va_rf (none.map (ad 3))), (0, .ref (ad 5 0)), (1, .int a1)] := hl
    refine lv_ifnullN (tgt := 20) hx hb dX10_join_13 (by decide) ?_
    refine lv_iconst (v := -1) hx hb dX10_join_20 (by decide) ?_
    exact cri C hr hk hH hu.1 hu.2 hw dX10_join_21
  | some j5 =>
    have hw := oM_some hw
    have hl : lv_has ls 4 [(3, va_rf (o4.map (ad 0))), (2, .ref (ad 3 j5)), (0, .ref (ad 5 0)), (1, .int a1)] := hl
    refine lv_ifnull hx hb dX10_join_13 ?_
    refine lq_aload_n hx hb dX10_join_16 rfl (lv_at hl 0 rfl) ?_
    cases o4 with
    | none =>
      have hw := oM_none hw
      have hl : lv_has ls 4 [(3, va_rf (none.map (ad 0))), (2, .ref (ad 3 j5)), (0, .ref (ad 5 0)), (1, .int a1)] := hl
      refine lv_ifnonnullN hx hb dX10_join_17 ?_
      refine lv_iconst (v := -1) hx hb dX10_join_20 (by decide) ?_
      exact cri C hr hk hH hu.1 hu.2 hw dX10_join_21
    | some j6 =>
      have hw := oM_some hw
      have hl : lv_has ls 4 [(3, .ref (ad 0 j6)), (2, .ref (ad 3 j5)), (0, .ref (ad 5 0)), (1, .int a1)] := hl
      refine lv_ifnonnull (tgt := 22) hx hb dX10_join_17 (by decide) ?_
      refine lv_aload_n hx hb dX10_join_22 rfl (lv_at hl 0 rfl) ?_
      refine lv_iload_n hx hb dX10_join_23 rfl (lv_at hl 3 rfl) ?_
      obtain ⟨h7, hw⟩ := hw
      refine ccVi0 C hH (crecv C hH 0 j6 (by decide) h7 rfl rfl (q := (RX0, TX0, 10))) [.int a1] (c_Fel_placeInRow l D Z E ad t3 j6 a1 _ hw) (cwTV 1 hts wd_438 wd_439 wd_440 wd_5 wd_441 rfl rfl (by decide +kernel) ⟨Nat.le_of_ble_eq_true rfl, Nat.le_of_ble_eq_true rfl⟩) rfl hl.1 rfl (Nat.le_of_ble_eq_true rfl) dX10_join_24 hu (fun r9 t8 H locs hw hH => ?_)
      refine lv_if_ge (tgt := 48) hx hb dX10_join_27 (by decide) (fun c10 => ?_) (fun c10 => ?_)
      · have hw := ifp c10 hw
        refine lv_bipush (v := -2) hx hb dX10_join_48 (by decide) ?_
        exact cri C hr hk hH hu.1 hu.2 hw dX10_join_50
      · have hw := ifn c10 hw
        refine lv_aload_n hx hb dX10_join_30 rfl (lv_at hl 1 rfl) ?_
        refine lv_aload_n hx hb dX10_join_31 rfl (lv_at hl 2 rfl) ?_
        refine cg C hH 5 0 (by decide) (Nat.le_of_ble_eq_true rfl) rfl rfl ixX10 11 (by decide) rfl wd_247 rfl dX10_join_32 ?_
        obtain ⟨h11, hw⟩ := hw
        refine ccVi0 C hH (crecv C hH 3 j5 (by decide) h11 rfl rfl (q := (RX3, TX3, 10))) [.int (tF t8 171 0)] (c_Man_freeAt l D Z E ad t8 j5 (tF t8 171 0) _ hw) (cwTV 1 hts wd_445 wd_446 wd_447 wd_18 wd_448 rfl rfl (by decide +kernel) ⟨Nat.le_of_ble_eq_true rfl, Nat.le_of_ble_eq_true rfl⟩) rfl hl.1 rfl (Nat.le_of_ble_eq_true rfl) dX10_join_35 hu (fun r13 t12 H locs hw hH => ?_)
        refine lv_if_eq (tgt := 48) hx hb dX10_join_38 (by decide) (fun c14 => ?_) (fun c14 => ?_)
        · have hw := ifp c14 hw
          refine lv_bipush (v := -2) hx hb dX10_join_48 (by decide) ?_
          exact cri C hr hk hH hu.1 hu.2 hw dX10_join_50
        · have hw := ifn c14 hw
          refine lv_aload_n hx hb dX10_join_41 rfl (lv_at hl 1 rfl) ?_
          obtain ⟨h15, hw⟩ := hw
          refine cg C hH 3 j5 (by decide) h15 rfl rfl ixX3 9 (by decide) rfl wd_404 rfl dX10_join_42 ?_
          refine lv_if_eq (tgt := 51) hx hb dX10_join_45 (by decide) (fun c16 => ?_) (fun c16 => ?_)
          · have hw := ifp c16 hw
            refine lv_aload_n hx hb dX10_join_51 rfl (lv_at hl 0 rfl) ?_
            obtain ⟨h17, hw⟩ := hw
            refine cg C hH 0 j6 (by decide) h17 rfl rfl ixX0 1 (by decide) rfl wd_70 rfl dX10_join_52 ?_
            refine lv_aload_n hx hb dX10_join_55 rfl (lv_at hl 1 rfl) ?_
            obtain ⟨h18, hw⟩ := hw
            obtain ⟨h19, hw⟩ := hw
            obtain ⟨h20, hw⟩ := hw
            obtain ⟨hu, hw⟩ := hw
            refine lAddR C hH (j6 + 7) j5 h18 h19 h20 h15 wd_103 hl.1 (Nat.le_of_ble_eq_true rfl) dX10_join_56 hu ⟨Nat.le_of_ble_eq_true rfl, Nat.le_of_ble_eq_true rfl⟩ (fun H locs hH => ?_)
            obtain ⟨c22, ec22⟩ : ∃ x : Nat, x = (0 + aC (tT t12 (j6 + 7)).length (tK t12 (j6 + 7))) := ⟨_, rfl⟩
            obtain ⟨s23, es23⟩ : ∃ x : Nat, x = (0 + aS (tT t12 (j6 + 7)).length (tK t12 (j6 + 7))) := ⟨_, rfl⟩
            have hw := hw c22 s23 ec22 es23
            rw [← ec22, ← es23] at hu ⊢
            obtain ⟨t24, et24⟩ : ∃ x : CS, x = lAdd t12 (j6 + 7) j5 := ⟨_, rfl⟩
            rw [← et24] at hH
            have hw := hw t24 et24
            refine lv_pop hx hb dX10_join_59 rfl ?_
            refine lv_aload_n hx hb dX10_join_60 rfl (lv_at hl 0 rfl) ?_
            obtain ⟨h25, hw⟩ := hw
            refine cg C hH 0 j6 (by decide) h25 rfl rfl ixX0 1 (by decide) rfl wd_70 rfl dX10_join_61 ?_
            obtain ⟨h26, hw⟩ := hw
            refine lSize C hH (j6 + 7) h26 wd_283 hl.1 (Nat.le_of_ble_eq_true rfl) dX10_join_64 hu ⟨Nat.le_of_ble_eq_true rfl, Nat.le_of_ble_eq_true rfl⟩ (fun H locs hH => ?_)
            exact cri C hr hk hH hu.1 hu.2 hw dX10_join_67
          · have hw := ifn c16 hw
            refine lv_bipush (v := -2) hx hb dX10_join_48 (by decide) ?_
            exact cri C hr hk hH hu.1 hu.2 hw dX10_join_50
/-! PorterTurns$Fellowship.dropFromRow -/
abbrev rm_Fel_dropFromRow : Room := { frames := 4, cells := 0, slots := 0, locals := 323 }
def wp_Fel_dropFromRow (t : CS) (i0 : Nat) (a1 : Int32) (post : Int32 → CS → Prop) : Prop := i0 < tN t 0 ∧ (wp_Fel_placeInRow t i0 a1 (fun r3 t2 => if r3 < 0 then (post (0 : Int32) t2) else (i0 < tN t2 0 ∧ ((i0 + 7) < tN t2 2 + 11 ∧ (if r3 < (nI (tT t2 (i0 + 7)).length) then (vp_in r3 (tT t2 (i0 + 7)).length ∧ ((tT t2 (i0 + 7)).length < 2 ^ 31 ∧ (elOk t2 (i0 + 7) ∧ (∀ j11 : Nat, j11 = ((tT t2 (i0 + 7)).getD r3.toNatClampNeg 0) → (∀ t12 : CS, t12 = sT t2 (i0 + 7) ((tT t2 (i0 + 7)).eraseIdx r3.toNatClampNeg) → (post (1 : Int32) t12)))))) else (post (0 : Int32) t2))))))
set_option maxHeartbeats 4000000 in
set_option maxRecDepth 100000 in
theorem c_Fel_dropFromRow (l : Launch) (D : va_G) (Z : Nat → ClassId) (E : Nat → Nat) (ad : Nat → Nat → Nat) (t : CS) (i0 : Nat) (a1 : Int32) (post : Int32 → CS → Prop) (hw : wp_Fel_dropFromRow t i0 a1 post) (L : List Nat) (sz : Nat) : Met l yX0_dropFromRow (Wd yX0_dropFromRow cX0_dropFromRow 3 (some .boolean)) rm_Fel_dropFromRow (va_Pc [.ref (ad 0 i0), .int a1] (cPre D Z E ad L sz t)) (va_Qi post (cPost D Z E ad (cAs L sz)) (cAs L sz)) 0 0 (cAs L sz) := by
  refine cMet (Qc := fun A => va_Qi post (cPost D Z E ad A) A) (by decide) rfl _ (Nat.le_of_ble_eq_true rfl) (fun p e s m args below meth c A C hr hk ls hl hH => ?_) L sz
  obtain ⟨⟨hx, hb, hml, hown, hts⟩, hK⟩ := id C
  have hl : lv_has ls 3 [(0, .ref (ad 0 i0)), (1, .int a1)] := hl
  unfold wp_Fel_dropFromRow at hw
  refine lv_aload_n hx hb dX0_dropFromRow_0 rfl (lv_at hl 0 rfl) ?_
  refine lv_iload_n hx hb dX0_dropFromRow_1 rfl (lv_at hl 1 rfl) ?_
  obtain ⟨h1, hw⟩ := hw
  refine ccVi0 C hH (crecv C hH 0 i0 (by decide) h1 rfl rfl (q := (RX0, TX0, 10))) [.int a1] (c_Fel_placeInRow l D Z E ad t i0 a1 _ hw) (cwTV 1 hts wd_457 wd_439 wd_440 wd_5 wd_441 rfl rfl (by decide +kernel) ⟨Nat.le_of_ble_eq_true rfl, Nat.le_of_ble_eq_true rfl⟩) rfl hl.1 rfl (Nat.le_of_ble_eq_true rfl) dX0_dropFromRow_2 ⟨Nat.zero_le _, Nat.zero_le _⟩ (fun r3 t2 H locs hw hH => ?_)
  refine lv_istore_n (lv' := [(2, .int r3), (0, .ref (ad 0 i0)), (1, .int a1)]) hx hb dX0_dropFromRow_5 rfl hl (by decide) rfl (fun ls hl => ?_)
  refine lv_iload_n hx hb dX0_dropFromRow_6 rfl (lv_at hl 0 rfl) ?_
  refine lv_if_lt (tgt := 21) hx hb dX0_dropFromRow_7 (by decide) (fun c4 => ?_) (fun c4 => ?_)
  · have hw := ifp c4 hw
    refine lv_iconst (v := 0) hx hb dX0_dropFromRow_21 (by decide) ?_
    exact crz C hr hk hH (Nat.zero_le _) (Nat.zero_le _) bz0 hw dX0_dropFromRow_22
  · have hw := ifn c4 hw
    refine lv_iload_n hx hb dX0_dropFromRow_10 rfl (lv_at hl 0 rfl) ?_
    refine lv_aload_n hx hb dX0_dropFromRow_11 rfl (lv_at hl 1 rfl) ?_
    obtain ⟨h5, hw⟩ := hw
    refine cg C hH 0 i0 (by decide) h5 rfl rfl ixX0 1 (by decide) rfl wd_69 rfl dX0_dropFromRow_12 ?_
    obtain ⟨h6, hw⟩ := hw
    refine lSize C hH (i0 + 7) h6 wd_442 hl.1 (Nat.le_of_ble_eq_true rfl) dX0_dropFromRow_15 ⟨Nat.zero_le _, Nat.zero_le _⟩ ⟨Nat.le_of_ble_eq_true rfl, Nat.le_of_ble_eq_true rfl⟩ (fun H locs hH => ?_)
    refine lv_icmp_lt (tgt := 23) hx hb dX0_dropFromRow_18 (by decide) (fun c7 => ?_) (fun c7 => ?_)
    · have hw := ifp c7 hw
      refine lv_aload_n hx hb dX0_dropFromRow_23 rfl (lv_at hl 1 rfl) ?_
      refine cg C hH 0 i0 (by decide) h5 rfl rfl ixX0 1 (by decide) rfl wd_69 rfl dX0_dropFromRow_24 ?_
      refine lv_iload_n hx hb dX0_dropFromRow_27 rfl (lv_at hl 0 rfl) ?_
      obtain ⟨h8, hw⟩ := hw
      obtain ⟨h9, hw⟩ := hw
      obtain ⟨h10, hw⟩ := hw
      refine lRemove C hH (i0 + 7) h6 h8 h9 h10 wd_458 hl.1 (Nat.le_of_ble_eq_true rfl) dX0_dropFromRow_28 ⟨Nat.zero_le _, Nat.zero_le _⟩ ⟨Nat.le_of_ble_eq_true rfl, Nat.le_of_ble_eq_true rfl⟩ (fun H locs hH => ?_)
      obtain ⟨j11, ej11⟩ : ∃ x : Nat, x = ((tT t2 (i0 + 7)).getD r3.toNatClampNeg 0) := ⟨_, rfl⟩
      rw [← ej11]
      have hw := hw j11 ej11
      obtain ⟨t12, et12⟩ : ∃ x : CS, x = sT t2 (i0 + 7) ((tT t2 (i0 + 7)).eraseIdx r3.toNatClampNeg) := ⟨_, rfl⟩
      rw [← et12] at hH
      have hw := hw t12 et12
      refine lv_pop hx hb dX0_dropFromRow_31 rfl ?_
      refine lv_iconst (v := 1) hx hb dX0_dropFromRow_32 (by decide) ?_
      exact crz C hr hk hH (Nat.zero_le _) (Nat.zero_le _) bz1 hw dX0_dropFromRow_33
    · have hw := ifn c7 hw
      refine lv_iconst (v := 0) hx hb dX0_dropFromRow_21 (by decide) ?_
      exact crz C hr hk hH (Nat.zero_le _) (Nat.zero_le _) bz0 hw dX0_dropFromRow_22
/-! PorterTurns.leave -/
abbrev rm_C_leave : Room := { frames := 5, cells := 0, slots := 0, locals := 345 }
def wp_C_leave (t : CS) (a1 : Int32) (post : Int32 → CS → Prop) : Prop := wp_C_manAt t a1 (fun o2 t1 => wp_C_fellowshipOf t1 o2 (fun o4 t3 => oM o4 (post (-1 : Int32) t3) (fun j5 => j5 < tN t3 0 ∧ (wp_Fel_dropFromRow t3 j5 a1 (fun r8 t7 => if r8 = 0 then (post (-2 : Int32) t7) else (post (1 : Int32) t7))))))
set_option maxHeartbeats 4000000 in
set_option maxRecDepth 100000 in
theorem c_C_leave (l : Launch) (D : va_G) (Z : Nat → ClassId) (E : Nat → Nat) (ad : Nat → Nat → Nat) (t : CS) (a1 : Int32) (post : Int32 → CS → Prop) (hw : wp_C_leave t a1 post) (L : List Nat) (sz : Nat) : Met l yX10_leave (Wd yX10_leave cX10_leave 3 (some .int)) rm_C_leave (va_Pc [.ref (ad 5 0), .int a1] (cPre D Z E ad L sz t)) (va_Qi post (cPost D Z E ad (cAs L sz)) (cAs L sz)) 0 0 (cAs L sz) := by
  refine cMet (Qc := fun A => va_Qi post (cPost D Z E ad A) A) (by decide) rfl _ (Nat.le_of_ble_eq_true rfl) (fun p e s m args below meth c A C hr hk ls hl hH => ?_) L sz
  obtain ⟨⟨hx, hb, hml, hown, hts⟩, hK⟩ := id C
  have hl : lv_has ls 3 [(0, .ref (ad 5 0)), (1, .int a1)] := hl
  unfold wp_C_leave at hw
  refine lv_aload_n hx hb dX10_leave_0 rfl (lv_at hl 0 rfl) ?_
  refine lv_aload_n hx hb dX10_leave_1 rfl (lv_at hl 0 rfl) ?_
  refine lv_iload_n hx hb dX10_leave_2 rfl (lv_at hl 1 rfl) ?_
  refine ccVq0 C hH (crecv C hH 5 0 (by decide) (Nat.le_of_ble_eq_true rfl) rfl rfl (q := (RX10, TX10, 13))) [.int a1] (c_C_manAt l D Z E ad t a1 _ hw) (cwTV 1 hts wd_430 wd_432 ws_6 wd_1 wd_433 rfl rfl (by decide +kernel) ⟨Nat.le_of_ble_eq_true rfl, Nat.le_of_ble_eq_true rfl⟩) rfl hl.1 rfl (Nat.le_of_ble_eq_true rfl) dX10_leave_3 ⟨Nat.zero_le _, Nat.zero_le _⟩ (fun o2 t1 H locs hw hH => ?_)
  refine ccVq0 C hH (crecv C hH 5 0 (by decide) (Nat.le_of_ble_eq_true rfl) rfl rfl (q := (RX10, TX10, 13))) [va_rf (o2.map (ad 3))] (c_C_fellowshipOf l D Z E ad t1 o2 _ hw) (cwTV 1 hts wd_434 wd_436 ws_7 wd_1 wd_437 rfl rfl (by decide +kernel) ⟨Nat.le_of_ble_eq_true rfl, Nat.le_of_ble_eq_true rfl⟩) rfl hl.1 rfl (Nat.le_of_ble_eq_true rfl) dX10_leave_6 ⟨Nat.zero_le _, Nat.zero_le _⟩ (fun o4 t3 H locs hw hH => ?_)
  refine lq_astore_n (lv' := [(2, va_rf (o4.map (ad 0))), (0, .ref (ad 5 0)), (1, .int a1)]) hx hb dX10_leave_9 rfl hl (by decide) rfl (fun ls hl => ?_)
  refine lq_aload_n hx hb dX10_leave_10 rfl (lv_at hl 0 rfl) ?_
  cases o4 with
  | none =>
    have hw := oM_none hw
    have hl : lv_has ls 3 [(2, va_rf (none.map (ad 0))), (0, .ref (ad 5 0)), (1, .int a1)] := hl
    refine lv_ifnonnullN hx hb dX10_leave_11 ?_
    refine lv_iconst (v := -1) hx hb dX10_leave_14 (by decide) ?_
    exact cri C hr hk hH (Nat.zero_le _) (Nat.zero_le _) hw dX10_leave_15
  | some j5 =>
    have hw := oM_some hw
    have hl : lv_has ls 3 [(2, .ref (ad 0 j5)), (0, .ref (ad 5 0)), (1, .int a1)] := hl
    refine lv_ifnonnull (tgt := 16) hx hb dX10_leave_11 (by decide) ?_
    refine lv_aload_n hx hb dX10_leave_16 rfl (lv_at hl 0 rfl) ?_
    refine lv_iload_n hx hb dX10_leave_17 rfl (lv_at hl 2 rfl) ?_
    obtain ⟨h6, hw⟩ := hw
    refine ccVi0 C hH (crecv C hH 0 j5 (by decide) h6 rfl rfl (q := (RX0, TX0, 10))) [.int a1] (c_Fel_dropFromRow l D Z E ad t3 j5 a1 _ hw) (cwTV 1 hts wd_453 wd_454 wd_455 wd_5 wd_456 rfl rfl (by decide +kernel) ⟨Nat.le_of_ble_eq_true rfl, Nat.le_of_ble_eq_true rfl⟩) rfl hl.1 rfl (Nat.le_of_ble_eq_true rfl) dX10_leave_18 ⟨Nat.zero_le _, Nat.zero_le _⟩ (fun r8 t7 H locs hw hH => ?_)
    refine lv_if_eq (tgt := 28) hx hb dX10_leave_21 (by decide) (fun c9 => ?_) (fun c9 => ?_)
    · have hw := ifp c9 hw
      refine lv_bipush (v := -2) hx hb dX10_leave_28 (by decide) ?_
      exact cri C hr hk hH (Nat.zero_le _) (Nat.zero_le _) hw dX10_leave_30
    · have hw := ifn c9 hw
      refine lv_iconst (v := 1) hx hb dX10_leave_24 (by decide) ?_
      refine lv_goto (tgt := 30) hx hb dX10_leave_25 (by decide) ?_
      exact cri C hr hk hH (Nat.zero_le _) (Nat.zero_le _) hw dX10_leave_30
/-! PorterTurns.gone -/
abbrev rm_C_gone : Room := { frames := 5, cells := 0, slots := 0, locals := 345 }
def wp_C_gone (t : CS) (a1 : Int32) (post : Int32 → CS → Prop) : Prop := wp_C_manAt t a1 (fun o2 t1 => wp_C_fellowshipOf t1 o2 (fun o4 t3 => oM o2 (post (-1 : Int32) t3) (fun j5 => oM o4 (post (-1 : Int32) t3) (fun j6 => j5 < tN t3 3 ∧ (if (tF t3 105 j5) = 0 then (wp_Man_freeAt t3 j5 (tF t3 171 0) (fun r10 t9 => if r10 = 0 then (post (-2 : Int32) t9) else (j5 < tN t9 3 ∧ (∀ t13 : CS, t13 = sF t9 105 j5 (1 : Int32) → (j6 < tN t13 0 ∧ (wp_Fel_dropFromRow t13 j6 a1 (fun r16 t15 => post (1 : Int32) t15))))))) else (post (-2 : Int32) t3))))))
set_option maxHeartbeats 4000000 in
set_option maxRecDepth 100000 in
theorem c_C_gone (l : Launch) (D : va_G) (Z : Nat → ClassId) (E : Nat → Nat) (ad : Nat → Nat → Nat) (t : CS) (a1 : Int32) (post : Int32 → CS → Prop) (hw : wp_C_gone t a1 post) (L : List Nat) (sz : Nat) : Met l yX10_gone (Wd yX10_gone cX10_gone 4 (some .int)) rm_C_gone (va_Pc [.ref (ad 5 0), .int a1] (cPre D Z E ad L sz t)) (va_Qi post (cPost D Z E ad (cAs L sz)) (cAs L sz)) 0 0 (cAs L sz) := by
  refine cMet (Qc := fun A => va_Qi post (cPost D Z E ad A) A) (by decide) rfl _ (Nat.le_of_ble_eq_true rfl) (fun p e s m args below meth c A C hr hk ls hl hH => ?_) L sz
  obtain ⟨⟨hx, hb, hml, hown, hts⟩, hK⟩ := id C
  have hl : lv_has ls 4 [(0, .ref (ad 5 0)), (1, .int a1)] := hl
  unfold wp_C_gone at hw
  refine lv_aload_n hx hb dX10_gone_0 rfl (lv_at hl 0 rfl) ?_
  refine lv_iload_n hx hb dX10_gone_1 rfl (lv_at hl 1 rfl) ?_
  refine ccVq0 C hH (crecv C hH 5 0 (by decide) (Nat.le_of_ble_eq_true rfl) rfl rfl (q := (RX10, TX10, 13))) [.int a1] (c_C_manAt l D Z E ad t a1 _ hw) (cwTV 1 hts wd_430 wd_432 ws_6 wd_1 wd_433 rfl rfl (by decide +kernel) ⟨Nat.le_of_ble_eq_true rfl, Nat.le_of_ble_eq_true rfl⟩) rfl hl.1 rfl (Nat.le_of_ble_eq_true rfl) dX10_gone_2 ⟨Nat.zero_le _, Nat.zero_le _⟩ (fun o2 t1 H locs hw hH => ?_)
  refine lq_astore_n (lv' := [(2, va_rf (o2.map (ad 3))), (0, .ref (ad 5 0)), (1, .int a1)]) hx hb dX10_gone_5 rfl hl (by decide) rfl (fun ls hl => ?_)
  refine lv_aload_n hx hb dX10_gone_6 rfl (lv_at hl 1 rfl) ?_
  refine lq_aload_n hx hb dX10_gone_7 rfl (lv_at hl 0 rfl) ?_
  refine ccVq0 C hH (crecv C hH 5 0 (by decide) (Nat.le_of_ble_eq_true rfl) rfl rfl (q := (RX10, TX10, 13))) [va_rf (o2.map (ad 3))] (c_C_fellowshipOf l D Z E ad t1 o2 _ hw) (cwTV 1 hts wd_434 wd_436 ws_7 wd_1 wd_437 rfl rfl (by decide +kernel) ⟨Nat.le_of_ble_eq_true rfl, Nat.le_of_ble_eq_true rfl⟩) rfl hl.1 rfl (Nat.le_of_ble_eq_true rfl) dX10_gone_8 ⟨Nat.zero_le _, Nat.zero_le _⟩ (fun o4 t3 H locs hw hH => ?_)
  refine lq_astore_n (i := 3) (lv' := [(3, va_rf (o4.map (ad 0))), (2, va_rf (o2.map (ad 3))), (0, .ref (ad 5 0)), (1, .int a1)]) hx hb dX10_gone_11 rfl hl (by decide) (by simp [lq_cat]) (fun ls hl => ?_)
  refine lq_aload_n hx hb dX10_gone_12 rfl (lv_at hl 1 rfl) ?_
  cases o2 with
  | none =>
    have hw := oM_none hw
    have hl : lv_has ls 4 [(3, va_rf (o4.map (ad 0))), (2, va_rf (none.map (ad 3))), (0, .ref (ad 5 0)), (1, .int a1)] := hl
    refine lv_ifnullN (tgt := 20) hx hb dX10_gone_13 (by decide) ?_
    refine lv_iconst (v := -1) hx hb dX10_gone_20 (by decide) ?_
    exact cri C hr hk hH (Nat.zero_le _) (Nat.zero_le _) hw dX10_gone_21
  | some j5 =>
    have hw := oM_some hw
    have hl : lv_has ls 4 [(3, va_rf (o4.map (ad 0))), (2, .ref (ad 3 j5)), (0, .ref (ad 5 0)), (1, .int a1)] := hl
    refine lv_ifnull hx hb dX10_gone_13 ?_
    refine lq_aload_n hx hb dX10_gone_16 rfl (lv_at hl 0 rfl) ?_
    cases o4 with
    | none =>
      have hw := oM_none hw
      have hl : lv_has ls 4 [(3, va_rf (none.map (ad 0))), (2, .ref (ad 3 j5)), (0, .ref (ad 5 0)), (1, .int a1)] := hl
      refine lv_ifnonnullN hx hb dX10_gone_17 ?_
      refine lv_iconst (v := -1) hx hb dX10_gone_20 (by decide) ?_
      exact cri C hr hk hH (Nat.zero_le _) (Nat.zero_le _) hw dX10_gone_21
    | some j6 =>
      have hw := oM_some hw
      have hl : lv_has ls 4 [(3, .ref (ad 0 j6)), (2, .ref (ad 3 j5)), (0, .ref (ad 5 0)), (1, .int a1)] := hl
      refine lv_ifnonnull (tgt := 22) hx hb dX10_gone_17 (by decide) ?_
      refine lv_aload_n hx hb dX10_gone_22 rfl (lv_at hl 1 rfl) ?_
      obtain ⟨h7, hw⟩ := hw
      refine cg C hH 3 j5 (by decide) h7 rfl rfl ixX3 9 (by decide) rfl wd_404 rfl dX10_gone_23 ?_
      refine lv_if_ne (tgt := 40) hx hb dX10_gone_26 (by decide) (fun c8 => ?_) (fun c8 => ?_)
      · have hw := ifn c8 hw
        refine lv_bipush (v := -2) hx hb dX10_gone_40 (by decide) ?_
        exact cri C hr hk hH (Nat.zero_le _) (Nat.zero_le _) hw dX10_gone_42
      · have hw := ifp c8 hw
        refine lv_aload_n hx hb dX10_gone_29 rfl (lv_at hl 1 rfl) ?_
        refine lv_aload_n hx hb dX10_gone_30 rfl (lv_at hl 2 rfl) ?_
        refine cg C hH 5 0 (by decide) (Nat.le_of_ble_eq_true rfl) rfl rfl ixX10 11 (by decide) rfl wd_247 rfl dX10_gone_31 ?_
        refine ccVi0 C hH (crecv C hH 3 j5 (by decide) h7 rfl rfl (q := (RX3, TX3, 10))) [.int (tF t3 171 0)] (c_Man_freeAt l D Z E ad t3 j5 (tF t3 171 0) _ hw) (cwTV 1 hts wd_445 wd_446 wd_447 wd_18 wd_448 rfl rfl (by decide +kernel) ⟨Nat.le_of_ble_eq_true rfl, Nat.le_of_ble_eq_true rfl⟩) rfl hl.1 rfl (Nat.le_of_ble_eq_true rfl) dX10_gone_34 ⟨Nat.zero_le _, Nat.zero_le _⟩ (fun r10 t9 H locs hw hH => ?_)
        refine lv_if_ne (tgt := 43) hx hb dX10_gone_37 (by decide) (fun c11 => ?_) (fun c11 => ?_)
        · have hw := ifn c11 hw
          refine lv_aload_n hx hb dX10_gone_43 rfl (lv_at hl 1 rfl) ?_
          refine lv_iconst (v := 1) hx hb dX10_gone_44 (by decide) ?_
          obtain ⟨h12, hw⟩ := hw
          refine cp C hH 3 j5 105 (by decide) h12 rfl rfl ixX3 tyX3_ok nmX3 9 (by decide) (by decide) rfl rfl wd_404 pfZ bz1.nar bz1.fit (Nat.le_of_ble_eq_true rfl) (hs_105_Man Z ad t9 j5 _) dX10_gone_45 (fun H locs hH => ?_)
          obtain ⟨t13, et13⟩ : ∃ x : CS, x = sF t9 105 j5 (1 : Int32) := ⟨_, rfl⟩
          rw [← et13] at hH
          have hw := hw t13 et13
          refine lv_aload_n hx hb dX10_gone_48 rfl (lv_at hl 0 rfl) ?_
          refine lv_iload_n hx hb dX10_gone_49 rfl (lv_at hl 3 rfl) ?_
          obtain ⟨h14, hw⟩ := hw
          refine ccVi0 C hH (crecv C hH 0 j6 (by decide) h14 rfl rfl (q := (RX0, TX0, 10))) [.int a1] (c_Fel_dropFromRow l D Z E ad t13 j6 a1 _ hw) (cwTV 1 hts wd_453 wd_454 wd_455 wd_5 wd_456 rfl rfl (by decide +kernel) ⟨Nat.le_of_ble_eq_true rfl, Nat.le_of_ble_eq_true rfl⟩) rfl hl.1 rfl (Nat.le_of_ble_eq_true rfl) dX10_gone_50 ⟨Nat.zero_le _, Nat.zero_le _⟩ (fun r16 t15 H locs hw hH => ?_)
          refine lv_pop hx hb dX10_gone_53 rfl ?_
          refine lv_iconst (v := 1) hx hb dX10_gone_54 (by decide) ?_
          exact cri C hr hk hH (Nat.zero_le _) (Nat.zero_le _) hw dX10_gone_55
        · have hw := ifp c11 hw
          refine lv_bipush (v := -2) hx hb dX10_gone_40 (by decide) ?_
          exact cri C hr hk hH (Nat.zero_le _) (Nat.zero_le _) hw dX10_gone_42
/-! PorterTurns.about -/
abbrev rm_C_about : Room := { frames := 5, cells := 0, slots := 0, locals := 123 }
def wp_C_about (t : CS) (a1 : Int32) (a2 : Int32) (post : Int32 → CS → Prop) : Prop := wp_C_manAt t a1 (fun o2 t1 => wp_C_fellowshipOf t1 o2 (fun o4 t3 => oM o2 (post (-2 : Int32) t3) (fun j5 => oM o4 (post (-2 : Int32) t3) (fun j6 => if a2 = (0 : Int32) then (j5 < tN t3 3 ∧ (post (tF t3 97 j5) t3)) else (if a2 = (1 : Int32) then (j5 < tN t3 3 ∧ (post (tF t3 98 j5) t3)) else (if a2 = (2 : Int32) then (j5 < tN t3 3 ∧ (post (tF t3 99 j5) t3)) else (if a2 = (3 : Int32) then (j5 < tN t3 3 ∧ (post (tF t3 100 j5) t3)) else (if a2 = (4 : Int32) then (j5 < tN t3 3 ∧ (post (tF t3 101 j5) t3)) else (if a2 = (5 : Int32) then (j5 < tN t3 3 ∧ (post (tF t3 102 j5) t3)) else (if a2 = (6 : Int32) then (j5 < tN t3 3 ∧ (post (tF t3 103 j5) t3)) else (if a2 = (7 : Int32) then (j6 < tN t3 0 ∧ (wp_Fel_placeInRow t3 j6 a1 (fun r24 t23 => post r24 t23))) else (if a2 = (8 : Int32) then (j5 < tN t3 3 ∧ (if (tF t3 105 j5) = 0 then (post (0 : Int32) t3) else (post (1 : Int32) t3))) else (if a2 = (9 : Int32) then (j5 < tN t3 3 ∧ (post (tF t3 104 j5) t3)) else (post (-2 : Int32) t3))))))))))))))
set_option maxHeartbeats 4000000 in
set_option maxRecDepth 100000 in
theorem c_C_about (l : Launch) (D : va_G) (Z : Nat → ClassId) (E : Nat → Nat) (ad : Nat → Nat → Nat) (t : CS) (a1 : Int32) (a2 : Int32) (post : Int32 → CS → Prop) (hw : wp_C_about t a1 a2 post) (L : List Nat) (sz : Nat) : Met l yX10_about (Wd yX10_about cX10_about 5 (some .int)) rm_C_about (va_Pc [.ref (ad 5 0), .int a1, .int a2] (cPre D Z E ad L sz t)) (va_Qi post (cPost D Z E ad (cAs L sz)) (cAs L sz)) 0 0 (cAs L sz) := by
  refine cMet (Qc := fun A => va_Qi post (cPost D Z E ad A) A) (by decide) rfl _ (Nat.le_of_ble_eq_true rfl) (fun p e s m args below meth c A C hr hk ls hl hH => ?_) L sz
  obtain ⟨⟨hx, hb, hml, hown, hts⟩, hK⟩ := id C
  have hl : lv_has ls 5 [(0, .ref (ad 5 0)), (1, .int a1), (2, .int a2)] := hl
  unfold wp_C_about at hw
  refine lv_aload_n hx hb dX10_about_0 rfl (lv_at hl 0 rfl) ?_
  refine lv_iload_n hx hb dX10_about_1 rfl (lv_at hl 1 rfl) ?_
  refine ccVq0 C hH (crecv C hH 5 0 (by decide) (Nat.le_of_ble_eq_true rfl) rfl rfl (q := (RX10, TX10, 13))) [.int a1] (c_C_manAt l D Z E ad t a1 _ hw) (cwTV 1 hts wd_430 wd_432 ws_6 wd_1 wd_433 rfl rfl (by decide +kernel) ⟨Nat.le_of_ble_eq_true rfl, Nat.le_of_ble_eq_true rfl⟩) rfl hl.1 rfl (Nat.le_of_ble_eq_true rfl) dX10_about_2 ⟨Nat.zero_le _, Nat.zero_le _⟩ (fun o2 t1 H locs hw hH => ?_)
  refine lq_astore_n (lv' := [(3, va_rf (o2.map (ad 3))), (0, .ref (ad 5 0)), (1, .int a1), (2, .int a2)]) hx hb dX10_about_5 rfl hl (by decide) rfl (fun ls hl => ?_)
  refine lv_aload_n hx hb dX10_about_6 rfl (lv_at hl 1 rfl) ?_
  refine lq_aload_n hx hb dX10_about_7 rfl (lv_at hl 0 rfl) ?_
  refine ccVq0 C hH (crecv C hH 5 0 (by decide) (Nat.le_of_ble_eq_true rfl) rfl rfl (q := (RX10, TX10, 13))) [va_rf (o2.map (ad 3))] (c_C_fellowshipOf l D Z E ad t1 o2 _ hw) (cwTV 1 hts wd_434 wd_436 ws_7 wd_1 wd_437 rfl rfl (by decide +kernel) ⟨Nat.le_of_ble_eq_true rfl, Nat.le_of_ble_eq_true rfl⟩) rfl hl.1 rfl (Nat.le_of_ble_eq_true rfl) dX10_about_8 ⟨Nat.zero_le _, Nat.zero_le _⟩ (fun o4 t3 H locs hw hH => ?_)
  refine lq_astore (i := 4) (lv' := [(4, va_rf (o4.map (ad 0))), (3, va_rf (o2.map (ad 3))), (0, .ref (ad 5 0)), (1, .int a1), (2, .int a2)]) hx hb dX10_about_11 hl (by decide) (by simp [lq_cat]) (fun ls hl => ?_)
  refine lq_aload_n hx hb dX10_about_13 rfl (lv_at hl 1 rfl) ?_
  cases o2 with
  | none =>
    have hw := oM_none hw
    have hl : lv_has ls 5 [(4, va_rf (o4.map (ad 0))), (3, va_rf (none.map (ad 3))), (0, .ref (ad 5 0)), (1, .int a1), (2, .int a2)] := hl
    refine lv_ifnullN (tgt := 22) hx hb dX10_about_14 (by decide) ?_
    refine lv_bipush (v := -2) hx hb dX10_about_22 (by decide) ?_
    exact cri C hr hk hH (Nat.zero_le _) (Nat.zero_le _) hw dX10_about_24
  | some j5 =>
    have hw := oM_some hw
    have hl : lv_has ls 5 [(4, va_rf (o4.map (ad 0))), (3, .ref (ad 3 j5)), (0, .ref (ad 5 0)), (1, .int a1), (2, .int a2)] := hl
    refine lv_ifnull hx hb dX10_about_14 ?_
    refine lq_aload hx hb dX10_about_17 (lv_at hl 0 rfl) ?_
    cases o4 with
    | none =>
      have hw := oM_none hw
      have hl : lv_has ls 5 [(4, va_rf (none.map (ad 0))), (3, .ref (ad 3 j5)), (0, .ref (ad 5 0)), (1, .int a1), (2, .int a2)] := hl
      refine lv_ifnonnullN hx hb dX10_about_19 ?_
      refine lv_bipush (v := -2) hx hb dX10_about_22 (by decide) ?_
      exact cri C hr hk hH (Nat.zero_le _) (Nat.zero_le _) hw dX10_about_24
    | some j6 =>
      have hw := oM_some hw
      have hl : lv_has ls 5 [(4, .ref (ad 0 j6)), (3, .ref (ad 3 j5)), (0, .ref (ad 5 0)), (1, .int a1), (2, .int a2)] := hl
      refine lv_ifnonnull (tgt := 25) hx hb dX10_about_19 (by decide) ?_
      refine lv_iload_n hx hb dX10_about_25 rfl (lv_at hl 4 rfl) ?_
      by_cases c7 : a2 = (0 : Int32)
      · have hw := ifp c7 hw
        refine lv_tableIn (tgt := 80) hx hb dX10_about_26 (by rw [c7]; decide) (by rw [c7]; decide) (by rw [c7]; rfl) (by decide) ?_
        refine lv_aload_n hx hb dX10_about_80 rfl (lv_at hl 1 rfl) ?_
        obtain ⟨h8, hw⟩ := hw
        refine cg C hH 3 j5 (by decide) h8 rfl rfl ixX3 1 (by decide) rfl wd_385 rfl dX10_about_81 ?_
        exact cri C hr hk hH (Nat.zero_le _) (Nat.zero_le _) hw dX10_about_84
      have hw := ifn c7 hw
      by_cases c9 : a2 = (1 : Int32)
      · have hw := ifp c9 hw
        refine lv_tableIn (tgt := 85) hx hb dX10_about_26 (by rw [c9]; decide) (by rw [c9]; decide) (by rw [c9]; rfl) (by decide) ?_
        refine lv_aload_n hx hb dX10_about_85 rfl (lv_at hl 1 rfl) ?_
        obtain ⟨h10, hw⟩ := hw
        refine cg C hH 3 j5 (by decide) h10 rfl rfl ixX3 2 (by decide) rfl wd_388 rfl dX10_about_86 ?_
        exact cri C hr hk hH (Nat.zero_le _) (Nat.zero_le _) hw dX10_about_89
      have hw := ifn c9 hw
      by_cases c11 : a2 = (2 : Int32)
      · have hw := ifp c11 hw
        refine lv_tableIn (tgt := 90) hx hb dX10_about_26 (by rw [c11]; decide) (by rw [c11]; decide) (by rw [c11]; rfl) (by decide) ?_
        refine lv_aload_n hx hb dX10_about_90 rfl (lv_at hl 1 rfl) ?_
        obtain ⟨h12, hw⟩ := hw
        refine cg C hH 3 j5 (by decide) h12 rfl rfl ixX3 3 (by decide) rfl wd_391 rfl dX10_about_91 ?_
        exact cri C hr hk hH (Nat.zero_le _) (Nat.zero_le _) hw dX10_about_94
      have hw := ifn c11 hw
      by_cases c13 : a2 = (3 : Int32)
      · have hw := ifp c13 hw
        refine lv_tableIn (tgt := 95) hx hb dX10_about_26 (by rw [c13]; decide) (by rw [c13]; decide) (by rw [c13]; rfl) (by decide) ?_
        refine lv_aload_n hx hb dX10_about_95 rfl (lv_at hl 1 rfl) ?_
        obtain ⟨h14, hw⟩ := hw
        refine cg C hH 3 j5 (by decide) h14 rfl rfl ixX3 4 (by decide) rfl wd_393 rfl dX10_about_96 ?_
        exact cri C hr hk hH (Nat.zero_le _) (Nat.zero_le _) hw dX10_about_99
      have hw := ifn c13 hw
      by_cases c15 : a2 = (4 : Int32)
      · have hw := ifp c15 hw
        refine lv_tableIn (tgt := 100) hx hb dX10_about_26 (by rw [c15]; decide) (by rw [c15]; decide) (by rw [c15]; rfl) (by decide) ?_
        refine lv_aload_n hx hb dX10_about_100 rfl (lv_at hl 1 rfl) ?_
        obtain ⟨h16, hw⟩ := hw
        refine cg C hH 3 j5 (by decide) h16 rfl rfl ixX3 5 (by decide) rfl wd_396 rfl dX10_about_101 ?_
        exact cri C hr hk hH (Nat.zero_le _) (Nat.zero_le _) hw dX10_about_104
      have hw := ifn c15 hw
      by_cases c17 : a2 = (5 : Int32)
      · have hw := ifp c17 hw
        refine lv_tableIn (tgt := 105) hx hb dX10_about_26 (by rw [c17]; decide) (by rw [c17]; decide) (by rw [c17]; rfl) (by decide) ?_
        refine lv_aload_n hx hb dX10_about_105 rfl (lv_at hl 1 rfl) ?_
        obtain ⟨h18, hw⟩ := hw
        refine cg C hH 3 j5 (by decide) h18 rfl rfl ixX3 6 (by decide) rfl wd_398 rfl dX10_about_106 ?_
        exact cri C hr hk hH (Nat.zero_le _) (Nat.zero_le _) hw dX10_about_109
      have hw := ifn c17 hw
      by_cases c19 : a2 = (6 : Int32)
      · have hw := ifp c19 hw
        refine lv_tableIn (tgt := 110) hx hb dX10_about_26 (by rw [c19]; decide) (by rw [c19]; decide) (by rw [c19]; rfl) (by decide) ?_
        refine lv_aload_n hx hb dX10_about_110 rfl (lv_at hl 1 rfl) ?_
        obtain ⟨h20, hw⟩ := hw
        refine cg C hH 3 j5 (by decide) h20 rfl rfl ixX3 7 (by decide) rfl wd_400 rfl dX10_about_111 ?_
        exact cri C hr hk hH (Nat.zero_le _) (Nat.zero_le _) hw dX10_about_114
      have hw := ifn c19 hw
      by_cases c21 : a2 = (7 : Int32)
      · have hw := ifp c21 hw
        refine lv_tableIn (tgt := 115) hx hb dX10_about_26 (by rw [c21]; decide) (by rw [c21]; decide) (by rw [c21]; rfl) (by decide) ?_
        refine lv_aload hx hb dX10_about_115 (lv_at hl 0 rfl) ?_
        refine lv_iload_n hx hb dX10_about_117 rfl (lv_at hl 3 rfl) ?_
        obtain ⟨h22, hw⟩ := hw
        refine ccVi0 C hH (crecv C hH 0 j6 (by decide) h22 rfl rfl (q := (RX0, TX0, 10))) [.int a1] (c_Fel_placeInRow l D Z E ad t3 j6 a1 _ hw) (cwTV 1 hts wd_438 wd_439 wd_440 wd_5 wd_441 rfl rfl (by decide +kernel) ⟨Nat.le_of_ble_eq_true rfl, Nat.le_of_ble_eq_true rfl⟩) rfl hl.1 rfl (Nat.le_of_ble_eq_true rfl) dX10_about_118 ⟨Nat.zero_le _, Nat.zero_le _⟩ (fun r24 t23 H locs hw hH => ?_)
        exact cri C hr hk hH (Nat.zero_le _) (Nat.zero_le _) hw dX10_about_121
      have hw := ifn c21 hw
      by_cases c25 : a2 = (8 : Int32)
      · have hw := ifp c25 hw
        refine lv_tableIn (tgt := 122) hx hb dX10_about_26 (by rw [c25]; decide) (by rw [c25]; decide) (by rw [c25]; rfl) (by decide) ?_
        refine lv_aload_n hx hb dX10_about_122 rfl (lv_at hl 1 rfl) ?_
        obtain ⟨h26, hw⟩ := hw
        refine cg C hH 3 j5 (by decide) h26 rfl rfl ixX3 9 (by decide) rfl wd_404 rfl dX10_about_123 ?_
        refine lv_if_eq (tgt := 133) hx hb dX10_about_126 (by decide) (fun c27 => ?_) (fun c27 => ?_)
        · have hw := ifp c27 hw
          refine lv_iconst (v := 0) hx hb dX10_about_133 (by decide) ?_
          exact cri C hr hk hH (Nat.zero_le _) (Nat.zero_le _) hw dX10_about_134
        · have hw := ifn c27 hw
          refine lv_iconst (v := 1) hx hb dX10_about_129 (by decide) ?_
          refine lv_goto (tgt := 134) hx hb dX10_about_130 (by decide) ?_
          exact cri C hr hk hH (Nat.zero_le _) (Nat.zero_le _) hw dX10_about_134
      have hw := ifn c25 hw
      by_cases c28 : a2 = (9 : Int32)
      · have hw := ifp c28 hw
        refine lv_tableIn (tgt := 135) hx hb dX10_about_26 (by rw [c28]; decide) (by rw [c28]; decide) (by rw [c28]; rfl) (by decide) ?_
        refine lv_aload_n hx hb dX10_about_135 rfl (lv_at hl 1 rfl) ?_
        obtain ⟨h29, hw⟩ := hw
        refine cg C hH 3 j5 (by decide) h29 rfl rfl ixX3 8 (by decide) rfl wd_402 rfl dX10_about_136 ?_
        exact cri C hr hk hH (Nat.zero_le _) (Nat.zero_le _) hw dX10_about_139
      have hw := ifn c28 hw
      refine lv_tableOut (tgt := 140) hx hb dX10_about_26 (by have := sw_ne c7 0 (by decide); have := sw_ne c9 1 (by decide); have := sw_ne c11 2 (by decide); have := sw_ne c13 3 (by decide); have := sw_ne c15 4 (by decide); have := sw_ne c17 5 (by decide); have := sw_ne c19 6 (by decide); have := sw_ne c21 7 (by decide); have := sw_ne c25 8 (by decide); have := sw_ne c28 9 (by decide); omega) (by decide) ?_
      refine lv_bipush (v := -2) hx hb dX10_about_140 (by decide) ?_
      exact cri C hr hk hH (Nat.zero_le _) (Nat.zero_le _) hw dX10_about_142
/-! PorterTurns.turn -/
abbrev rm_C_turn : Room := { frames := 4, cells := 0, slots := 0, locals := 102 }
def wp_C_turn (t : CS) (a1 : Int32) (a2 : Int32) (post : Int32 → CS → Prop) : Prop := wp_C_fellowshipAt t a1 (fun o2 t1 => oM o2 (post (-1 : Int32) t1) (fun j3 => if a2 < 0 then (post (-1 : Int32) t1) else (j3 < tN t1 0 ∧ ((j3 + 7) < tN t1 2 + 11 ∧ (if a2 < (nI (tT t1 (j3 + 7)).length) then (vp_in a2 (tT t1 (j3 + 7)).length ∧ ((tT t1 (j3 + 7)).length < 2 ^ 31 ∧ (∀ j10 : Nat, j10 = ((tT t1 (j3 + 7)).getD a2.toNatClampNeg 0) → (j10 < tN t1 3 ∧ (post (nI j10) t1))))) else (post (-1 : Int32) t1))))))
set_option maxHeartbeats 4000000 in
set_option maxRecDepth 100000 in
theorem c_C_turn (l : Launch) (D : va_G) (Z : Nat → ClassId) (E : Nat → Nat) (ad : Nat → Nat → Nat) (t : CS) (a1 : Int32) (a2 : Int32) (post : Int32 → CS → Prop) (hw : wp_C_turn t a1 a2 post) (L : List Nat) (sz : Nat) : Met l yX10_turn (Wd yX10_turn cX10_turn 4 (some .int)) rm_C_turn (va_Pc [.ref (ad 5 0), .int a1, .int a2] (cPre D Z E ad L sz t)) (va_Qi post (cPost D Z E ad (cAs L sz)) (cAs L sz)) 0 0 (cAs L sz) := by
  refine cMet (Qc := fun A => va_Qi post (cPost D Z E ad A) A) (by decide) rfl _ (Nat.le_of_ble_eq_true rfl) (fun p e s m args below meth c A C hr hk ls hl hH => ?_) L sz
  obtain ⟨⟨hx, hb, hml, hown, hts⟩, hK⟩ := id C
  have hl : lv_has ls 4 [(0, .ref (ad 5 0)), (1, .int a1), (2, .int a2)] := hl
  unfold wp_C_turn at hw
  refine lv_aload_n hx hb dX10_turn_0 rfl (lv_at hl 0 rfl) ?_
  refine lv_iload_n hx hb dX10_turn_1 rfl (lv_at hl 1 rfl) ?_
  refine ccVq0 C hH (crecv C hH 5 0 (by decide) (Nat.le_of_ble_eq_true rfl) rfl rfl (q := (RX10, TX10, 13))) [.int a1] (c_C_fellowshipAt l D Z E ad t a1 _ hw) (cwTV 1 hts wd_370 wd_372 ws_5 wd_1 wd_373 rfl rfl (by decide +kernel) ⟨Nat.le_of_ble_eq_true rfl, Nat.le_of_ble_eq_true rfl⟩) rfl hl.1 rfl (Nat.le_of_ble_eq_true rfl) dX10_turn_2 ⟨Nat.zero_le _, Nat.zero_le _⟩ (fun o2 t1 H locs hw hH => ?_)
  refine lq_astore_n (lv' := [(3, va_rf (o2.map (ad 0))), (0, .ref (ad 5 0)), (1, .int a1), (2, .int a2)]) hx hb dX10_turn_5 rfl hl (by decide) rfl (fun ls hl => ?_)
  refine lq_aload_n hx hb dX10_turn_6 rfl (lv_at hl 0 rfl) ?_
  cases o2 with
  | none =>
    have hw := oM_none hw
    have hl : lv_has ls 4 [(3, va_rf (none.map (ad 0))), (0, .ref (ad 5 0)), (1, .int a1), (2, .int a2)] := hl
    refine lv_ifnullN (tgt := 25) hx hb dX10_turn_7 (by decide) ?_
    refine lv_iconst (v := -1) hx hb dX10_turn_25 (by decide) ?_
    exact cri C hr hk hH (Nat.zero_le _) (Nat.zero_le _) hw dX10_turn_26
  | some j3 =>
    have hw := oM_some hw
    have hl : lv_has ls 4 [(3, .ref (ad 0 j3)), (0, .ref (ad 5 0)), (1, .int a1), (2, .int a2)] := hl
    refine lv_ifnull hx hb dX10_turn_7 ?_
    refine lv_iload_n hx hb dX10_turn_10 rfl (lv_at hl 3 rfl) ?_
    refine lv_if_lt (tgt := 25) hx hb dX10_turn_11 (by decide) (fun c4 => ?_) (fun c4 => ?_)
    · have hw := ifp c4 hw
      refine lv_iconst (v := -1) hx hb dX10_turn_25 (by decide) ?_
      exact cri C hr hk hH (Nat.zero_le _) (Nat.zero_le _) hw dX10_turn_26
    · have hw := ifn c4 hw
      refine lv_iload_n hx hb dX10_turn_14 rfl (lv_at hl 3 rfl) ?_
      refine lv_aload_n hx hb dX10_turn_15 rfl (lv_at hl 0 rfl) ?_
      obtain ⟨h5, hw⟩ := hw
      refine cg C hH 0 j3 (by decide) h5 rfl rfl ixX0 1 (by decide) rfl wd_70 rfl dX10_turn_16 ?_
      obtain ⟨h6, hw⟩ := hw
      refine lSize C hH (j3 + 7) h6 wd_283 hl.1 (Nat.le_of_ble_eq_true rfl) dX10_turn_19 ⟨Nat.zero_le _, Nat.zero_le _⟩ ⟨Nat.le_of_ble_eq_true rfl, Nat.le_of_ble_eq_true rfl⟩ (fun H locs hH => ?_)
      refine lv_icmp_lt (tgt := 27) hx hb dX10_turn_22 (by decide) (fun c7 => ?_) (fun c7 => ?_)
      · have hw := ifp c7 hw
        refine lv_aload_n hx hb dX10_turn_27 rfl (lv_at hl 0 rfl) ?_
        refine cg C hH 0 j3 (by decide) h5 rfl rfl ixX0 1 (by decide) rfl wd_70 rfl dX10_turn_28 ?_
        refine lv_iload_n hx hb dX10_turn_31 rfl (lv_at hl 3 rfl) ?_
        obtain ⟨h8, hw⟩ := hw
        obtain ⟨h9, hw⟩ := hw
        refine lGet C hH (j3 + 7) h6 h8 h9 wd_320 hl.1 (Nat.le_of_ble_eq_true rfl) dX10_turn_32 ⟨Nat.zero_le _, Nat.zero_le _⟩ ⟨Nat.le_of_ble_eq_true rfl, Nat.le_of_ble_eq_true rfl⟩ (fun H locs hH => ?_)
        obtain ⟨j10, ej10⟩ : ∃ x : Nat, x = ((tT t1 (j3 + 7)).getD a2.toNatClampNeg 0) := ⟨_, rfl⟩
        rw [← ej10]
        have hw := hw j10 ej10
        obtain ⟨h11, hw⟩ := hw
        refine cCast C hH 3 j10 (by decide) h11 rfl rfl wd_374 dX10_turn_35 ?_
        refine cg C hH 3 j10 (by decide) h11 rfl rfl ixX3 0 (by decide) rfl wd_383 rfl dX10_turn_38 ?_
        exact cri C hr hk hH (Nat.zero_le _) (Nat.zero_le _) hw dX10_turn_41
      · have hw := ifn c7 hw
        refine lv_iconst (v := -1) hx hb dX10_turn_25 (by decide) ?_
        exact cri C hr hk hH (Nat.zero_le _) (Nat.zero_le _) hw dX10_turn_26
/-! PorterTurns.within -/
abbrev rm_C_within : Room := { frames := 0, cells := 0, slots := 0, locals := 0 }
def wp_C_within (t : CS) (a1 : Int32) (a2 : Int32) (a3 : Int32) (post : Int32 → CS → Prop) : Prop := if a1 < a2 then (post (0 : Int32) t) else (if a3 < a1 then (post (0 : Int32) t) else (post (1 : Int32) t))
set_option maxHeartbeats 4000000 in
set_option maxRecDepth 100000 in
theorem c_C_within (l : Launch) (D : va_G) (Z : Nat → ClassId) (E : Nat → Nat) (ad : Nat → Nat → Nat) (t : CS) (a1 : Int32) (a2 : Int32) (a3 : Int32) (post : Int32 → CS → Prop) (hw : wp_C_within t a1 a2 a3 post) (L : List Nat) (sz : Nat) : Met l yX10_within (Wd yX10_within cX10_within 3 (some .boolean)) rm_C_within (va_Pc [.int a1, .int a2, .int a3] (cPre D Z E ad L sz t)) (va_Qi post (cPost D Z E ad (cAs L sz)) (cAs L sz)) 0 0 (cAs L sz) := by
  refine cMet (Qc := fun A => va_Qi post (cPost D Z E ad A) A) (by decide) rfl _ (Nat.le_of_ble_eq_true rfl) (fun p e s m args below meth c A C hr hk ls hl hH => ?_) L sz
  obtain ⟨⟨hx, hb, hml, hown, hts⟩, hK⟩ := id C
  have hl : lv_has ls 3 [(0, .int a1), (1, .int a2), (2, .int a3)] := hl
  unfold wp_C_within at hw
  refine lv_iload_n hx hb dX10_within_0 rfl (lv_at hl 0 rfl) ?_
  refine lv_iload_n hx hb dX10_within_1 rfl (lv_at hl 1 rfl) ?_
  refine lv_icmp_lt (tgt := 14) hx hb dX10_within_2 (by decide) (fun c1 => ?_) (fun c1 => ?_)
  · have hw := ifp c1 hw
    refine lv_iconst (v := 0) hx hb dX10_within_14 (by decide) ?_
    exact crz C hr hk hH (Nat.zero_le _) (Nat.zero_le _) bz0 hw dX10_within_15
  · have hw := ifn c1 hw
    refine lv_iload_n hx hb dX10_within_5 rfl (lv_at hl 0 rfl) ?_
    refine lv_iload_n hx hb dX10_within_6 rfl (lv_at hl 2 rfl) ?_
    refine lv_icmp_gt (tgt := 14) hx hb dX10_within_7 (by decide) (fun c2 => ?_) (fun c2 => ?_)
    · have hw := ifp c2 hw
      refine lv_iconst (v := 0) hx hb dX10_within_14 (by decide) ?_
      exact crz C hr hk hH (Nat.zero_le _) (Nat.zero_le _) bz0 hw dX10_within_15
    · have hw := ifn c2 hw
      refine lv_iconst (v := 1) hx hb dX10_within_10 (by decide) ?_
      refine lv_goto (tgt := 15) hx hb dX10_within_11 (by decide) ?_
      exact crz C hr hk hH (Nat.zero_le _) (Nat.zero_le _) bz1 hw dX10_within_15
/-! PorterTurns.dice -/
abbrev rm_C_dice : Room := { frames := 4, cells := 0, slots := 0, locals := 102 }
def wp_C_dice_50 (post : Int32 → CS → Prop) (t : CS) (x3_ : Int32) (x4_ : Nat) (x5_ : Int32) (t0_ : Nat) (t1_ : Int32) : Prop := t0_ < tN t 0 ∧ (bz t1_ ∧ (∀ t3 : CS, t3 = sF t 2 t0_ t1_ → (x4_ < tN t3 0 ∧ (if (tF t3 2 x4_) = 0 then (post x5_ t3) else (∀ t6 : CS, t6 = sF t3 3 x4_ x3_ → (post x5_ t6))))))
set_option maxHeartbeats 4000000 in
set_option maxRecDepth 100000 in
theorem b_C_dice_50 {p : Program} {l : Launch} {e : Env} {s : State} {m : MethodId} {args : Array Value} {below : List Frame} {meth : Method} {c : Code} {D : va_G} {Z : Nat → ClassId} {E : Nat → Nat} {ad : Nat → Nat → Nat} {A : Nat → Prop} (C : CC p s m args c cX10_dice 6 RX10 D Z E A) (hr : meth.sig.returnType = some .int) (hk : meth.locks = false) {post : Int32 → CS → Prop} : ∀ (t : CS) (x3_ : Int32) (x4_ : Nat) (x5_ : Int32) (t0_ : Nat) (t1_ : Int32), wp_C_dice_50 post t x3_ x4_ x5_ t0_ t1_ → ∀ (H : Heap) (locs : List Loc) (ls : Array Slot), CH D Z E ad A s.heap t H locs → lv_has ls 6 [(3, .int x3_), (4, .ref (ad 0 x4_)), (5, .int x5_)] → CWi p l e rm_C_dice s m args below meth c D Z E ad A 0 0 post H locs 0 0 (F0 m 50 ls [.int t1_, .ref (ad 0 t0_)]) := by
  obtain ⟨⟨hx, hb, hml, hown, hts⟩, hK⟩ := id C
  intro t x3_ x4_ x5_ t0_ t1_ hw H locs ls hH hl
  unfold wp_C_dice_50 at hw
  obtain ⟨h1, hw⟩ := hw
  obtain ⟨h2, hw⟩ := hw
  refine cp C hH 0 t0_ 2 (by decide) h1 rfl rfl ixX0 tyX0_ok nmX0 2 (by decide) (by decide) rfl rfl wd_71 pfZ h2.nar h2.fit (Nat.le_of_ble_eq_true rfl) (hs_2_Fellowship Z ad t t0_ _) dX10_dice_50 (fun H locs hH => ?_)
  obtain ⟨t3, et3⟩ : ∃ x : CS, x = sF t 2 t0_ t1_ := ⟨_, rfl⟩
  rw [← et3] at hH
  have hw := hw t3 et3
  refine lv_aload hx hb dX10_dice_53 (lv_at hl 1 rfl) ?_
  obtain ⟨h4, hw⟩ := hw
  refine cg C hH 0 x4_ (by decide) h4 rfl rfl ixX0 2 (by decide) rfl wd_71 rfl dX10_dice_55 ?_
  refine lv_if_eq (tgt := 67) hx hb dX10_dice_58 (by decide) (fun c5 => ?_) (fun c5 => ?_)
  · have hw := ifp c5 hw
    refine lv_iload hx hb dX10_dice_67 (lv_at hl 2 rfl) ?_
    exact cri C hr hk hH (Nat.zero_le _) (Nat.zero_le _) hw dX10_dice_69
  · have hw := ifn c5 hw
    refine lv_aload hx hb dX10_dice_61 (lv_at hl 1 rfl) ?_
    refine lv_iload_n hx hb dX10_dice_63 rfl (lv_at hl 0 rfl) ?_
    refine cp C hH 0 x4_ 3 (by decide) h4 rfl rfl ixX0 tyX0_ok nmX0 3 (by decide) (by decide) rfl rfl wd_72 pfI rfl rfl (Nat.le_of_ble_eq_true rfl) (hs_3_Fellowship Z ad t3 x4_ _) dX10_dice_64 (fun H locs hH => ?_)
    obtain ⟨t6, et6⟩ : ∃ x : CS, x = sF t3 3 x4_ x3_ := ⟨_, rfl⟩
    rw [← et6] at hH
    have hw := hw t6 et6
    refine lv_iload hx hb dX10_dice_67 (lv_at hl 2 rfl) ?_
    exact cri C hr hk hH (Nat.zero_le _) (Nat.zero_le _) hw dX10_dice_69
def wp_C_dice_36 (post : Int32 → CS → Prop) (t : CS) (x2_ : Int32) (x3_ : Int32) (x4_ : Nat) (t0_ : Int32) : Prop := if x2_ = (1 : Int32) then (wp_C_dice_50 post t x3_ x4_ t0_ x4_ (1 : Int32)) else (wp_C_dice_50 post t x3_ x4_ t0_ x4_ (0 : Int32))
set_option maxHeartbeats 4000000 in
set_option maxRecDepth 100000 in
theorem b_C_dice_36 {p : Program} {l : Launch} {e : Env} {s : State} {m : MethodId} {args : Array Value} {below : List Frame} {meth : Method} {c : Code} {D : va_G} {Z : Nat → ClassId} {E : Nat → Nat} {ad : Nat → Nat → Nat} {A : Nat → Prop} (C : CC p s m args c cX10_dice 6 RX10 D Z E A) (hr : meth.sig.returnType = some .int) (hk : meth.locks = false) {post : Int32 → CS → Prop} : ∀ (t : CS) (x2_ : Int32) (x3_ : Int32) (x4_ : Nat) (t0_ : Int32), wp_C_dice_36 post t x2_ x3_ x4_ t0_ → ∀ (H : Heap) (locs : List Loc) (ls : Array Slot), CH D Z E ad A s.heap t H locs → lv_has ls 6 [(2, .int x2_), (3, .int x3_), (4, .ref (ad 0 x4_))] → CWi p l e rm_C_dice s m args below meth c D Z E ad A 0 0 post H locs 0 0 (F0 m 36 ls [.int t0_]) := by
  obtain ⟨⟨hx, hb, hml, hown, hts⟩, hK⟩ := id C
  intro t x2_ x3_ x4_ t0_ hw H locs ls hH hl
  unfold wp_C_dice_36 at hw
  refine lv_istore (lv' := [(5, .int t0_), (2, .int x2_), (3, .int x3_), (4, .ref (ad 0 x4_))]) hx hb dX10_dice_36 hl (by decide) rfl (fun ls hl => ?_)
  refine lv_aload hx hb dX10_dice_38 (lv_at hl 3 rfl) ?_
  refine lv_iload_n hx hb dX10_dice_40 rfl (lv_at hl 1 rfl) ?_
  refine lv_iconst (v := 1) hx hb dX10_dice_41 (by decide) ?_
  refine lv_icmp_ne (tgt := 49) hx hb dX10_dice_42 (by decide) (fun c7 => ?_) (fun c7 => ?_)
  · have hw := ifn c7 hw
    refine lv_iconst (v := 0) hx hb dX10_dice_49 (by decide) ?_
    exact b_C_dice_50 C hr hk  t x3_ x4_ t0_ x4_ (0 : Int32) hw _ _ _ hH (lv_sub hl [2, 3, 0] rfl)
  · have hw := ifp c7 hw
    refine lv_iconst (v := 1) hx hb dX10_dice_45 (by decide) ?_
    refine lv_goto (tgt := 50) hx hb dX10_dice_46 (by decide) ?_
    exact b_C_dice_50 C hr hk  t x3_ x4_ t0_ x4_ (1 : Int32) hw _ _ _ hH (lv_sub hl [2, 3, 0] rfl)
def wp_C_dice (t : CS) (a1 : Int32) (a2 : Int32) (a3 : Int32) (post : Int32 → CS → Prop) : Prop := wp_C_fellowshipAt t a1 (fun o9 t8 => oM o9 (post (-1 : Int32) t8) (fun j10 => wp_C_within t8 a2 (0 : Int32) (1 : Int32) (fun r12 t11 => if r12 = 0 then (post (-1 : Int32) t11) else (j10 < tN t11 0 ∧ (if (tF t11 2 j10) = 0 then (wp_C_dice_36 post t11 a2 a3 j10 (0 : Int32)) else (wp_C_dice_36 post t11 a2 a3 j10 (1 : Int32)))))))
set_option maxHeartbeats 4000000 in
set_option maxRecDepth 100000 in
theorem c_C_dice (l : Launch) (D : va_G) (Z : Nat → ClassId) (E : Nat → Nat) (ad : Nat → Nat → Nat) (t : CS) (a1 : Int32) (a2 : Int32) (a3 : Int32) (post : Int32 → CS → Prop) (hw : wp_C_dice t a1 a2 a3 post) (L : List Nat) (sz : Nat) : Met l yX10_dice (Wd yX10_dice cX10_dice 6 (some .int)) rm_C_dice (va_Pc [.ref (ad 5 0), .int a1, .int a2, .int a3] (cPre D Z E ad L sz t)) (va_Qi post (cPost D Z E ad (cAs L sz)) (cAs L sz)) 0 0 (cAs L sz) := by
  refine cMet (Qc := fun A => va_Qi post (cPost D Z E ad A) A) (by decide) rfl _ (Nat.le_of_ble_eq_true rfl) (fun p e s m args below meth c A C hr hk ls hl hH => ?_) L sz
  obtain ⟨⟨hx, hb, hml, hown, hts⟩, hK⟩ := id C
  have hl : lv_has ls 6 [(0, .ref (ad 5 0)), (1, .int a1), (2, .int a2), (3, .int a3)] := hl
  unfold wp_C_dice at hw
  refine lv_aload_n hx hb dX10_dice_0 rfl (lv_at hl 0 rfl) ?_
  refine lv_iload_n hx hb dX10_dice_1 rfl (lv_at hl 1 rfl) ?_
  refine ccVq0 C hH (crecv C hH 5 0 (by decide) (Nat.le_of_ble_eq_true rfl) rfl rfl (q := (RX10, TX10, 13))) [.int a1] (c_C_fellowshipAt l D Z E ad t a1 _ hw) (cwTV 1 hts wd_370 wd_372 ws_5 wd_1 wd_373 rfl rfl (by decide +kernel) ⟨Nat.le_of_ble_eq_true rfl, Nat.le_of_ble_eq_true rfl⟩) rfl hl.1 rfl (Nat.le_of_ble_eq_true rfl) dX10_dice_2 ⟨Nat.zero_le _, Nat.zero_le _⟩ (fun o9 t8 H locs hw hH => ?_)
  refine lq_astore (lv' := [(4, va_rf (o9.map (ad 0))), (0, .ref (ad 5 0)), (1, .int a1), (2, .int a2), (3, .int a3)]) hx hb dX10_dice_5 hl (by decide) rfl (fun ls hl => ?_)
  refine lq_aload hx hb dX10_dice_7 (lv_at hl 0 rfl) ?_
  cases o9 with
  | none =>
    have hw := oM_none hw
    have hl : lv_has ls 6 [(4, va_rf (none.map (ad 0))), (0, .ref (ad 5 0)), (1, .int a1), (2, .int a2), (3, .int a3)] := hl
    refine lv_ifnullN (tgt := 21) hx hb dX10_dice_9 (by decide) ?_
    refine lv_iconst (v := -1) hx hb dX10_dice_21 (by decide) ?_
    exact cri C hr hk hH (Nat.zero_le _) (Nat.zero_le _) hw dX10_dice_22
  | some j10 =>
    have hw := oM_some hw
    have hl : lv_has ls 6 [(4, .ref (ad 0 j10)), (0, .ref (ad 5 0)), (1, .int a1), (2, .int a2), (3, .int a3)] := hl
    refine lv_ifnull hx hb dX10_dice_9 ?_
    refine lv_iload_n hx hb dX10_dice_12 rfl (lv_at hl 3 rfl) ?_
    refine lv_iconst (v := 0) hx hb dX10_dice_13 (by decide) ?_
    refine lv_iconst (v := 1) hx hb dX10_dice_14 (by decide) ?_
    refine ccSi0 C hH [.int a2, .int (0 : Int32), .int (1 : Int32)] (c_C_within l D Z E ad t8 a2 (0 : Int32) (1 : Int32) _ hw) (cwTS 3 hts wd_280 wd_281 wd_1 wd_282 rfl rfl (by decide +kernel) ⟨Nat.le_of_ble_eq_true rfl, Nat.le_of_ble_eq_true rfl⟩) rfl hl.1 rfl (Nat.le_of_ble_eq_true rfl) dX10_dice_15 ⟨Nat.zero_le _, Nat.zero_le _⟩ (fun r12 t11 H locs hw hH => ?_)
    refine lv_if_ne (tgt := 23) hx hb dX10_dice_18 (by decide) (fun c13 => ?_) (fun c13 => ?_)
    · have hw := ifn c13 hw
      refine lv_aload hx hb dX10_dice_23 (lv_at hl 0 rfl) ?_
      obtain ⟨h14, hw⟩ := hw
      refine cg C hH 0 j10 (by decide) h14 rfl rfl ixX0 2 (by decide) rfl wd_71 rfl dX10_dice_25 ?_
      refine lv_if_eq (tgt := 35) hx hb dX10_dice_28 (by decide) (fun c15 => ?_) (fun c15 => ?_)
      · have hw := ifp c15 hw
        refine lv_iconst (v := 0) hx hb dX10_dice_35 (by decide) ?_
        exact b_C_dice_36 C hr hk  t11 a2 a3 j10 (0 : Int32) hw _ _ _ hH (lv_sub hl [3, 4, 0] rfl)
      · have hw := ifn c15 hw
        refine lv_iconst (v := 1) hx hb dX10_dice_31 (by decide) ?_
        refine lv_goto (tgt := 36) hx hb dX10_dice_32 (by decide) ?_
        exact b_C_dice_36 C hr hk  t11 a2 a3 j10 (1 : Int32) hw _ _ _ hH (lv_sub hl [3, 4, 0] rfl)
    · have hw := ifp c13 hw
      refine lv_iconst (v := -1) hx hb dX10_dice_21 (by decide) ?_
      exact cri C hr hk hH (Nat.zero_le _) (Nat.zero_le _) hw dX10_dice_22
