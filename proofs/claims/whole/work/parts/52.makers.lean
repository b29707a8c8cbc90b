/-! place, man, load, law (gen/tails.py) -/
def wp_C_place (mc ms : Nat) (t : CS) (a1 : Int32) (a2 : Int32) (post : Int32 → CS → Prop) : Prop := wp_C_within t a1 (0 : Int32) (99 : Int32) (fun r2 t1 => if r2 = 0 then (post (-1 : Int32) t1) else (wp_C_within t1 a2 (0 : Int32) (99 : Int32) (fun r5 t4 => if r5 = 0 then (post (-1 : Int32) t4) else (if (nI (tT t4 0).length) < (20 : Int32) then (wpT_place mc ms t4 a1 a2 post) else (post (-3 : Int32) t4)))))
set_option maxHeartbeats 4000000 in
set_option maxRecDepth 100000 in
theorem c_C_place (l : Launch) (D : va_G) (Z : Nat → ClassId) (E : Nat → Nat) (ad : Nat → Nat → Nat) (mc ms : Nat) (t : CS) (a1 : Int32) (a2 : Int32) (post : Int32 → CS → Prop) (hw : wp_C_place mc ms t a1 a2 post) (L : List Nat) (sz : Nat) : Met l yX10_place (Wd yX10_place cX10_place 3 (some .int)) (rmT_place mc ms) (va_Pc [.ref (ad 5 0), .int a1, .int a2] (cPre D Z E ad L sz t)) (va_Qi post (cPostN D Z E (ad 5 0) (cAs L sz)) (cAs L sz)) mc ms (cAs L sz) := by
  refine cMet (Qc := fun A => va_Qi post (cPostN D Z E (ad 5 0) A) A) (by decide) rfl _ (Nat.le_of_ble_eq_true rfl) (fun p e s m args below meth c A C hr hk ls hl hH => ?_) L sz
  obtain ⟨⟨hx, hb, hml, hown, hts⟩, hK⟩ := id C
  have hl : lv_has ls 3 [(0, .ref (ad 5 0)), (1, .int a1), (2, .int a2)] := hl
  have hu : 0 ≤ mc ∧ 0 ≤ ms := ⟨Nat.zero_le _, Nat.zero_le _⟩
  unfold wp_C_place at hw
  refine lv_iload_n hx hb dX10_place_0 rfl (lv_at hl 1 rfl) ?_
  refine lv_iconst (v := 0) hx hb dX10_place_1 (by decide) ?_
  refine lv_bipush (v := 99) hx hb dX10_place_2 (by decide) ?_
  refine ccSi0 C hH [.int a1, .int (0 : Int32), .int (99 : Int32)] (c_C_within l D Z E ad t a1 (0 : Int32) (99 : Int32) _ hw) (cwTS 3 hts wd_280 wd_281 wd_1 wd_282 rfl rfl (by decide +kernel) ⟨Nat.le_of_ble_eq_true rfl, Nat.le_of_ble_eq_true rfl⟩) rfl hl.1 rfl (Nat.le_of_ble_eq_true rfl) dX10_place_4 hu (fun r2 t1 H locs hw hH => ?_)
  refine lv_if_eq (tgt := 20) hx hb dX10_place_7 (by decide) (fun c3 => ?_) (fun c3 => ?_)
  · have hw := ifp c3 hw
    refine lv_iconst (v := -1) hx hb dX10_place_20 (by decide) ?_
    exact criN C hr hk hH rfl hu.1 hu.2 hw dX10_place_21
  · have hw := ifn c3 hw
    refine lv_iload_n hx hb dX10_place_10 rfl (lv_at hl 2 rfl) ?_
    refine lv_iconst (v := 0) hx hb dX10_place_11 (by decide) ?_
    refine lv_bipush (v := 99) hx hb dX10_place_12 (by decide) ?_
    refine ccSi0 C hH [.int a2, .int (0 : Int32), .int (99 : Int32)] (c_C_within l D Z E ad t1 a2 (0 : Int32) (99 : Int32) _ hw) (cwTS 3 hts wd_280 wd_281 wd_1 wd_282 rfl rfl (by decide +kernel) ⟨Nat.le_of_ble_eq_true rfl, Nat.le_of_ble_eq_true rfl⟩) rfl hl.1 rfl (Nat.le_of_ble_eq_true rfl) dX10_place_14 hu (fun r5 t4 H locs hw hH => ?_)
    refine lv_if_ne (tgt := 22) hx hb dX10_place_17 (by decide) (fun c6 => ?_) (fun c6 => ?_)
    · have hw := ifn c6 hw
      refine lv_aload_n hx hb dX10_place_22 rfl (lv_at hl 0 rfl) ?_
      refine cg C hH 5 0 (by decide) (Nat.le_of_ble_eq_true rfl) rfl rfl ixX10 0 (by decide) rfl wd_236 rfl dX10_place_23 ?_
      refine lSize C hH 0 (Nat.lt_of_lt_of_le (show 0 < 11 by decide) (Nat.le_add_left _ _)) wd_283 hl.1 (Nat.le_of_ble_eq_true rfl) dX10_place_26 hu ⟨Nat.le_of_ble_eq_true rfl, Nat.le_of_ble_eq_true rfl⟩ (fun H locs hH => ?_)
      refine lv_bipush (v := 20) hx hb dX10_place_29 (by decide) ?_
      refine lv_icmp_lt (tgt := 37) hx hb dX10_place_31 (by decide) (fun c7 => ?_) (fun c7 => ?_)
      · have hw := ifp c7 hw
        exact bT_place C hr hk t4 a1 a2 hw _ _ _ hH (lv_sub hl [0, 1, 2] rfl)
      · have hw := ifn c7 hw
        refine lv_bipush (v := -3) hx hb dX10_place_34 (by decide) ?_
        exact criN C hr hk hH rfl hu.1 hu.2 hw dX10_place_36
    · have hw := ifp c6 hw
      refine lv_iconst (v := -1) hx hb dX10_place_20 (by decide) ?_
      exact criN C hr hk hH rfl hu.1 hu.2 hw dX10_place_21
def wp_C_man (mc ms : Nat) (t : CS) (a1 : Int32) (a2 : Int32) (a3 : Int32) (a4 : Int32) (post : Int32 → CS → Prop) : Prop := wp_C_fellowshipAt t a1 (fun o2 t1 => oM o2 (post (-1 : Int32) t1) (fun j3 => wp_C_within t1 a2 (1 : Int32) (99 : Int32) (fun r5 t4 => if r5 = 0 then (post (-1 : Int32) t4) else (wp_C_within t4 a3 (16 : Int32) (90 : Int32) (fun r8 t7 => if r8 = 0 then (post (-1 : Int32) t7) else (wp_C_placeAt t7 a4 (fun o11 t10 => oM o11 (post (-1 : Int32) t10) (fun j12 => if (nI (tT t10 1).length) < (60 : Int32) then (wpT_man mc ms t10 a1 a2 a3 post) else (post (-3 : Int32) t10)))))))))
set_option maxHeartbeats 4000000 in
set_option maxRecDepth 100000 in
theorem c_C_man (l : Launch) (D : va_G) (Z : Nat → ClassId) (E : Nat → Nat) (ad : Nat → Nat → Nat) (mc ms : Nat) (t : CS) (a1 : Int32) (a2 : Int32) (a3 : Int32) (a4 : Int32) (post : Int32 → CS → Prop) (hw : wp_C_man mc ms t a1 a2 a3 a4 post) (L : List Nat) (sz : Nat) : Met l yX10_man (Wd yX10_man cX10_man 5 (some .int)) (rmT_man mc ms) (va_Pc [.ref (ad 5 0), .int a1, .int a2, .int a3, .int a4] (cPre D Z E ad L sz t)) (va_Qi post (cPostN D Z E (ad 5 0) (cAs L sz)) (cAs L sz)) mc ms (cAs L sz) := by
  refine cMet (Qc := fun A => va_Qi post (cPostN D Z E (ad 5 0) A) A) (by decide) rfl _ (Nat.le_of_ble_eq_true rfl) (fun p e s m args below meth c A C hr hk ls hl hH => ?_) L sz
  obtain ⟨⟨hx, hb, hml, hown, hts⟩, hK⟩ := id C
  have hl : lv_has ls 5 [(0, .ref (ad 5 0)), (1, .int a1), (2, .int a2), (3, .int a3), (4, .int a4)] := hl
  have hu : 0 ≤ mc ∧ 0 ≤ ms := ⟨Nat.zero_le _, Nat.zero_le _⟩
  unfold wp_C_man at hw
  refine lv_aload_n hx hb dX10_man_0 rfl (lv_at hl 0 rfl) ?_
  refine lv_iload_n hx hb dX10_man_1 rfl (lv_at hl 1 rfl) ?_
  refine ccVq0 C hH (crecv C hH 5 0 (by decide) (Nat.le_of_ble_eq_true rfl) rfl rfl (q := (RX10, TX10, 13))) [.int a1] (c_C_fellowshipAt l D Z E ad t a1 _ hw) (cwTV 1 hts wd_370 wd_372 ws_5 wd_1 wd_373 rfl rfl (by decide +kernel) ⟨Nat.le_of_ble_eq_true rfl, Nat.le_of_ble_eq_true rfl⟩) rfl hl.1 rfl (Nat.le_of_ble_eq_true rfl) dX10_man_2 hu (fun o2 t1 H locs hw hH => ?_)
  cases o2 with
  | none =>
    have hw := oM_none hw
    have hl : lv_has ls 5 [(0, .ref (ad 5 0)), (1, .int a1), (2, .int a2), (3, .int a3), (4, .int a4)] := hl
    refine lv_ifnullN (tgt := 38) hx hb dX10_man_5 (by decide) ?_
    refine lv_iconst (v := -1) hx hb dX10_man_38 (by decide) ?_
    exact criN C hr hk hH rfl hu.1 hu.2 hw dX10_man_39
  | some j3 =>
    have hw := oM_some hw
    have hl : lv_has ls 5 [(0, .ref (ad 5 0)), (1, .int a1), (2, .int a2), (3, .int a3), (4, .int a4)] := hl
    refine lv_ifnull hx hb dX10_man_5 ?_
    refine lv_iload_n hx hb dX10_man_8 rfl (lv_at hl 2 rfl) ?_
    refine lv_iconst (v := 1) hx hb dX10_man_9 (by decide) ?_
    refine lv_bipush (v := 99) hx hb dX10_man_10 (by decide) ?_
    refine ccSi0 C hH [.int a2, .int (1 : Int32), .int (99 : Int32)] (c_C_within l D Z E ad t1 a2 (1 : Int32) (99 : Int32) _ hw) (cwTS 3 hts wd_280 wd_281 wd_1 wd_282 rfl rfl (by decide +kernel) ⟨Nat.le_of_ble_eq_true rfl, Nat.le_of_ble_eq_true rfl⟩) rfl hl.1 rfl (Nat.le_of_ble_eq_true rfl) dX10_man_12 hu (fun r5 t4 H locs hw hH => ?_)
    refine lv_if_eq (tgt := 38) hx hb dX10_man_15 (by decide) (fun c6 => ?_) (fun c6 => ?_)
    · have hw := ifp c6 hw
      refine lv_iconst (v := -1) hx hb dX10_man_38 (by decide) ?_
      exact criN C hr hk hH rfl hu.1 hu.2 hw dX10_man_39
    · have hw := ifn c6 hw
      refine lv_iload_n hx hb dX10_man_18 rfl (lv_at hl 3 rfl) ?_
      refine lv_bipush (v := 16) hx hb dX10_man_19 (by decide) ?_
      refine lv_bipush (v := 90) hx hb dX10_man_21 (by decide) ?_
      refine ccSi0 C hH [.int a3, .int (16 : Int32), .int (90 : Int32)] (c_C_within l D Z E ad t4 a3 (16 : Int32) (90 : Int32) _ hw) (cwTS 3 hts wd_280 wd_281 wd_1 wd_282 rfl rfl (by decide +kernel) ⟨Nat.le_of_ble_eq_true rfl, Nat.le_of_ble_eq_true rfl⟩) rfl hl.1 rfl (Nat.le_of_ble_eq_true rfl) dX10_man_23 hu (fun r8 t7 H locs hw hH => ?_)
      refine lv_if_eq (tgt := 38) hx hb dX10_man_26 (by decide) (fun c9 => ?_) (fun c9 => ?_)
      · have hw := ifp c9 hw
        refine lv_iconst (v := -1) hx hb dX10_man_38 (by decide) ?_
        exact criN C hr hk hH rfl hu.1 hu.2 hw dX10_man_39
      · have hw := ifn c9 hw
        refine lv_aload_n hx hb dX10_man_29 rfl (lv_at hl 0 rfl) ?_
        refine lv_iload hx hb dX10_man_30 (lv_at hl 4 rfl) ?_
        refine ccVq0 C hH (crecv C hH 5 0 (by decide) (Nat.le_of_ble_eq_true rfl) rfl rfl (q := (RX10, TX10, 13))) [.int a4] (c_C_placeAt l D Z E ad t7 a4 _ hw) (cwTV 1 hts wd_316 wd_318 ws_3 wd_1 wd_319 rfl rfl (by decide +kernel) ⟨Nat.le_of_ble_eq_true rfl, Nat.le_of_ble_eq_true rfl⟩) rfl hl.1 rfl (Nat.le_of_ble_eq_true rfl) dX10_man_32 hu (fun o11 t10 H locs hw hH => ?_)
        cases o11 with
        | none =>
          have hw := oM_none hw
          have hl : lv_has ls 5 [(0, .ref (ad 5 0)), (1, .int a1), (2, .int a2), (3, .int a3), (4, .int a4)] := hl
          refine lv_ifnonnullN hx hb dX10_man_35 ?_
          refine lv_iconst (v := -1) hx hb dX10_man_38 (by decide) ?_
          exact criN C hr hk hH rfl hu.1 hu.2 hw dX10_man_39
        | some j12 =>
          have hw := oM_some hw
          have hl : lv_has ls 5 [(0, .ref (ad 5 0)), (1, .int a1), (2, .int a2), (3, .int a3), (4, .int a4)] := hl
          refine lv_ifnonnull (tgt := 40) hx hb dX10_man_35 (by decide) ?_
          refine lv_aload_n hx hb dX10_man_40 rfl (lv_at hl 0 rfl) ?_
          refine cg C hH 5 0 (by decide) (Nat.le_of_ble_eq_true rfl) rfl rfl ixX10 1 (by decide) rfl wd_237 rfl dX10_man_41 ?_
          refine lSize C hH 1 (Nat.lt_of_lt_of_le (show 1 < 11 by decide) (Nat.le_add_left _ _)) wd_283 hl.1 (Nat.le_of_ble_eq_true rfl) dX10_man_44 hu ⟨Nat.le_of_ble_eq_true rfl, Nat.le_of_ble_eq_true rfl⟩ (fun H locs hH => ?_)
          refine lv_bipush (v := 60) hx hb dX10_man_47 (by decide) ?_
          refine lv_icmp_lt (tgt := 55) hx hb dX10_man_49 (by decide) (fun c13 => ?_) (fun c13 => ?_)
          · have hw := ifp c13 hw
            exact bT_man C hr hk t10 a1 a2 a3 hw _ _ _ hH (lv_sub hl [0, 1, 2, 3] rfl)
          · have hw := ifn c13 hw
            refine lv_bipush (v := -3) hx hb dX10_man_52 (by decide) ?_
            exact criN C hr hk hH rfl hu.1 hu.2 hw dX10_man_54
def wp_C_load (mc ms : Nat) (t : CS) (a1 : Int32) (a2 : Int32) (a3 : Int32) (a4 : Int32) (post : Int32 → CS → Prop) : Prop := wp_C_placeAt t (a2 / (100 : Int32)) (fun o2 t1 => wp_C_placeAt t1 (a2 - a2 / (100 : Int32) * (100 : Int32)) (fun o4 t3 => if a1 < 0 then (post (-1 : Int32) t3) else (if (4 : Int32) < (a1 / (1000 : Int32)) then (post (-1 : Int32) t3) else (if (a1 - a1 / (1000 : Int32) * (1000 : Int32)) = 0 then (post (-1 : Int32) t3) else (if a2 < 0 then (post (-1 : Int32) t3) else (oM o2 (post (-1 : Int32) t3) (fun j9 => oM o4 (post (-1 : Int32) t3) (fun j10 => j9 < tN t3 4 ∧ (j10 < tN t3 4 ∧ (if (nI j9) = (nI j10) then (post (-1 : Int32) t3) else (wp_C_within t3 a3 (0 : Int32) (9999 : Int32) (fun r15 t14 => if r15 = 0 then (post (-1 : Int32) t14) else (wp_C_within t14 a4 (0 : Int32) (200000 : Int32) (fun r18 t17 => if r18 = 0 then (post (-1 : Int32) t17) else (if (nI (tT t17 2).length) < (200 : Int32) then (wpT_load mc ms t17 a1 a3 a4 j9 j10 post) else (post (-3 : Int32) t17))))))))))))))))
set_option maxHeartbeats 4000000 in
set_option maxRecDepth 100000 in
theorem c_C_load (l : Launch) (D : va_G) (Z : Nat → ClassId) (E : Nat → Nat) (ad : Nat → Nat → Nat) (mc ms : Nat) (t : CS) (a1 : Int32) (a2 : Int32) (a3 : Int32) (a4 : Int32) (post : Int32 → CS → Prop) (hw : wp_C_load mc ms t a1 a2 a3 a4 post) (L : List Nat) (sz : Nat) : Met l yX10_load (Wd yX10_load cX10_load 7 (some .int)) (rmT_load mc ms) (va_Pc [.ref (ad 5 0), .int a1, .int a2, .int a3, .int a4] (cPre D Z E ad L sz t)) (va_Qi post (cPostN D Z E (ad 5 0) (cAs L sz)) (cAs L sz)) mc ms (cAs L sz) := by
  refine cMet (Qc := fun A => va_Qi post (cPostN D Z E (ad 5 0) A) A) (by decide) rfl _ (Nat.le_of_ble_eq_true rfl) (fun p e s m args below meth c A C hr hk ls hl hH => ?_) L sz
  obtain ⟨⟨hx, hb, hml, hown, hts⟩, hK⟩ := id C
  have hl : lv_has ls 7 [(0, .ref (ad 5 0)), (1, .int a1), (2, .int a2), (3, .int a3), (4, .int a4)] := hl
  have hu : 0 ≤ mc ∧ 0 ≤ ms := ⟨Nat.zero_le _, Nat.zero_le _⟩
  unfold wp_C_load at hw
  refine lv_aload_n hx hb dX10_load_0 rfl (lv_at hl 0 rfl) ?_
  refine lv_iload_n hx hb dX10_load_1 rfl (lv_at hl 2 rfl) ?_
  refine lv_bipush (v := 100) hx hb dX10_load_2 (by decide) ?_
  refine lv_idiv hx hb dX10_load_4 (by decide) ?_
  refine ccVq0 C hH (crecv C hH 5 0 (by decide) (Nat.le_of_ble_eq_true rfl) rfl rfl (q := (RX10, TX10, 13))) [.int (a2 / (100 : Int32))] (c_C_placeAt l D Z E ad t (a2 / (100 : Int32)) _ hw) (cwTV 1 hts wd_316 wd_318 ws_3 wd_1 wd_319 rfl rfl (by decide +kernel) ⟨Nat.le_of_ble_eq_true rfl, Nat.le_of_ble_eq_true rfl⟩) rfl hl.1 rfl (Nat.le_of_ble_eq_true rfl) dX10_load_5 hu (fun o2 t1 H locs hw hH => ?_)
  refine lq_astore (lv' := [(5, va_rf (o2.map (ad 4))), (0, .ref (ad 5 0)), (1, .int a1), (2, .int a2), (3, .int a3), (4, .int a4)]) hx hb dX10_load_8 hl (by decide) rfl (fun ls hl => ?_)
  refine lv_aload_n hx hb dX10_load_10 rfl (lv_at hl 1 rfl) ?_
  refine lv_iload_n hx hb dX10_load_11 rfl (lv_at hl 3 rfl) ?_
  refine lv_bipush (v := 100) hx hb dX10_load_12 (by decide) ?_
  refine lv_irem hx hb dX10_load_14 (by decide) ?_
  refine ccVq0 C hH (crecv C hH 5 0 (by decide) (Nat.le_of_ble_eq_true rfl) rfl rfl (q := (RX10, TX10, 13))) [.int (a2 - a2 / (100 : Int32) * (100 : Int32))] (c_C_placeAt l D Z E ad t1 (a2 - a2 / (100 : Int32) * (100 : Int32)) _ hw) (cwTV 1 hts wd_316 wd_318 ws_3 wd_1 wd_319 rfl rfl (by decide +kernel) ⟨Nat.le_of_ble_eq_true rfl, Nat.le_of_ble_eq_true rfl⟩) rfl hl.1 rfl (Nat.le_of_ble_eq_true rfl) dX10_load_15 hu (fun o4 t3 H locs hw hH => ?_)
  refine lq_astore (i := 6) (lv' := [(6, va_rf (o4.map (ad 4))), (5, va_rf (o2.map (ad 4))), (0, .ref (ad 5 0)), (1, .int a1), (2, .int a2), (3, .int a3), (4, .int a4)]) hx hb dX10_load_18 hl (by decide) (by simp [lq_cat]) (fun ls hl => ?_)
  refine lv_iload_n hx hb dX10_load_20 rfl (lv_at hl 3 rfl) ?_
  refine lv_if_lt (tgt := 90) hx hb dX10_load_21 (by decide) (fun c5 => ?_) (fun c5 => ?_)
  · have hw := ifp c5 hw
    refine lv_iconst (v := -1) hx hb dX10_load_90 (by decide) ?_
    exact criN C hr hk hH rfl hu.1 hu.2 hw dX10_load_91
  · have hw := ifn c5 hw
    refine lv_iload_n hx hb dX10_load_24 rfl (lv_at hl 3 rfl) ?_
    refine lv_sipush (v := 1000) hx hb dX10_load_25 (by decide) ?_
    refine lv_idiv hx hb dX10_load_28 (by decide) ?_
    refine lv_iconst (v := 4) hx hb dX10_load_29 (by decide) ?_
    refine lv_icmp_gt (tgt := 90) hx hb dX10_load_30 (by decide) (fun c6 => ?_) (fun c6 => ?_)
    · have hw := ifp c6 hw
      refine lv_iconst (v := -1) hx hb dX10_load_90 (by decide) ?_
      exact criN C hr hk hH rfl hu.1 hu.2 hw dX10_load_91
    · have hw := ifn c6 hw
      refine lv_iload_n hx hb dX10_load_33 rfl (lv_at hl 3 rfl) ?_
      refine lv_sipush (v := 1000) hx hb dX10_load_34 (by decide) ?_
      refine lv_irem hx hb dX10_load_37 (by decide) ?_
      refine lv_if_eq (tgt := 90) hx hb dX10_load_38 (by decide) (fun c7 => ?_) (fun c7 => ?_)
      · have hw := ifp c7 hw
        refine lv_iconst (v := -1) hx hb dX10_load_90 (by decide) ?_
        exact criN C hr hk hH rfl hu.1 hu.2 hw dX10_load_91
      · have hw := ifn c7 hw
        refine lv_iload_n hx hb dX10_load_41 rfl (lv_at hl 4 rfl) ?_
        refine lv_if_lt (tgt := 90) hx hb dX10_load_42 (by decide) (fun c8 => ?_) (fun c8 => ?_)
        · have hw := ifp c8 hw
          refine lv_iconst (v := -1) hx hb dX10_load_90 (by decide) ?_
          exact criN C hr hk hH rfl hu.1 hu.2 hw dX10_load_91
        · have hw := ifn c8 hw
          refine lq_aload hx hb dX10_load_45 (lv_at hl 1 rfl) ?_
          cases o2 with
          | none =>
            have hw := oM_none hw
            have hl : lv_has ls 7 [(6, va_rf (o4.map (ad 4))), (5, va_rf (none.map (ad 4))), (0, .ref (ad 5 0)), (1, .int a1), (2, .int a2), (3, .int a3), (4, .int a4)] := hl
            refine lv_ifnullN (tgt := 90) hx hb dX10_load_47 (by decide) ?_
            refine lv_iconst (v := -1) hx hb dX10_load_90 (by decide) ?_
            exact criN C hr hk hH rfl hu.1 hu.2 hw dX10_load_91
          | some j9 =>
            have hw := oM_some hw
            have hl : lv_has ls 7 [(6, va_rf (o4.map (ad 4))), (5, .ref (ad 4 j9)), (0, .ref (ad 5 0)), (1, .int a1), (2, .int a2), (3, .int a3), (4, .int a4)] := hl
            refine lv_ifnull hx hb dX10_load_47 ?_
            refine lq_aload hx hb dX10_load_50 (lv_at hl 0 rfl) ?_
            cases o4 with
            | none =>
              have hw := oM_none hw
              have hl : lv_has ls 7 [(6, va_rf (none.map (ad 4))), (5, .ref (ad 4 j9)), (0, .ref (ad 5 0)), (1, .int a1), (2, .int a2), (3, .int a3), (4, .int a4)] := hl
              refine lv_ifnullN (tgt := 90) hx hb dX10_load_52 (by decide) ?_
              refine lv_iconst (v := -1) hx hb dX10_load_90 (by decide) ?_
              exact criN C hr hk hH rfl hu.1 hu.2 hw dX10_load_91
            | some j10 =>
              have hw := oM_some hw
              have hl : lv_has ls 7 [(6, .ref (ad 4 j10)), (5, .ref (ad 4 j9)), (0, .ref (ad 5 0)), (1, .int a1), (2, .int a2), (3, .int a3), (4, .int a4)] := hl
              refine lv_ifnull hx hb dX10_load_52 ?_
              refine lv_aload hx hb dX10_load_55 (lv_at hl 1 rfl) ?_
              obtain ⟨h11, hw⟩ := hw
              refine cg C hH 4 j9 (by decide) h11 rfl rfl ixX4 0 (by decide) rfl wd_294 rfl dX10_load_57 ?_
              refine lv_aload hx hb dX10_load_60 (lv_at hl 0 rfl) ?_
              obtain ⟨h12, hw⟩ := hw
              refine cg C hH 4 j10 (by decide) h12 rfl rfl ixX4 0 (by decide) rfl wd_294 rfl dX10_load_62 ?_
              refine lv_icmp_eq (tgt := 90) hx hb dX10_load_65 (by decide) (fun c13 => ?_) (fun c13 => ?_)
              · have hw := ifp c13 hw
                refine lv_iconst (v := -1) hx hb dX10_load_90 (by decide) ?_
                exact criN C hr hk hH rfl hu.1 hu.2 hw dX10_load_91
              · have hw := ifn c13 hw
                refine lv_iload_n hx hb dX10_load_68 rfl (lv_at hl 5 rfl) ?_
                refine lv_iconst (v := 0) hx hb dX10_load_69 (by decide) ?_
                refine lv_sipush (v := 9999) hx hb dX10_load_70 (by decide) ?_
                refine ccSi0 C hH [.int a3, .int (0 : Int32), .int (9999 : Int32)] (c_C_within l D Z E ad t3 a3 (0 : Int32) (9999 : Int32) _ hw) (cwTS 3 hts wd_280 wd_281 wd_1 wd_282 rfl rfl (by decide +kernel) ⟨Nat.le_of_ble_eq_true rfl, Nat.le_of_ble_eq_true rfl⟩) rfl hl.1 rfl (Nat.le_of_ble_eq_true rfl) dX10_load_73 hu (fun r15 t14 H locs hw hH => ?_)
                refine lv_if_eq (tgt := 90) hx hb dX10_load_76 (by decide) (fun c16 => ?_) (fun c16 => ?_)
                · have hw := ifp c16 hw
                  refine lv_iconst (v := -1) hx hb dX10_load_90 (by decide) ?_
                  exact criN C hr hk hH rfl hu.1 hu.2 hw dX10_load_91
                · have hw := ifn c16 hw
                  refine lv_iload hx hb dX10_load_79 (lv_at hl 6 rfl) ?_
                  refine lv_iconst (v := 0) hx hb dX10_load_81 (by decide) ?_
                  refine lv_ldc (own := RX10) (index := 232) (v := 200000) hx hb hown (hts _ wd_769) dX10_load_82 ?_
                  refine ccSi0 C hH [.int a4, .int (0 : Int32), .int (200000 : Int32)] (c_C_within l D Z E ad t14 a4 (0 : Int32) (200000 : Int32) _ hw) (cwTS 3 hts wd_280 wd_281 wd_1 wd_282 rfl rfl (by decide +kernel) ⟨Nat.le_of_ble_eq_true rfl, Nat.le_of_ble_eq_true rfl⟩) rfl hl.1 rfl (Nat.le_of_ble_eq_true rfl) dX10_load_84 hu (fun r18 t17 H locs hw hH => ?_)
                  refine lv_if_ne (tgt := 92) hx hb dX10_load_87 (by decide) (fun c19 => ?_) (fun c19 => ?_)
                  · have hw := ifn c19 hw
                    refine lv_aload_n hx hb dX10_load_92 rfl (lv_at hl 2 rfl) ?_
                    refine cg C hH 5 0 (by decide) (Nat.le_of_ble_eq_true rfl) rfl rfl ixX10 2 (by decide) rfl wd_238 rfl dX10_load_93 ?_
                    refine lSize C hH 2 (Nat.lt_of_lt_of_le (show 2 < 11 by decide) (Nat.le_add_left _ _)) wd_283 hl.1 (Nat.le_of_ble_eq_true rfl) dX10_load_96 hu ⟨Nat.le_of_ble_eq_true rfl, Nat.le_of_ble_eq_true rfl⟩ (fun H locs hH => ?_)
                    refine lv_sipush (v := 200) hx hb dX10_load_99 (by decide) ?_
                    refine lv_icmp_lt (tgt := 108) hx hb dX10_load_102 (by decide) (fun c20 => ?_) (fun c20 => ?_)
                    · have hw := ifp c20 hw
                      exact bT_load C hr hk t17 a1 a3 a4 j9 j10 hw _ _ _ hH (lv_sub hl [2, 3, 5, 6, 1, 0] rfl)
                    · have hw := ifn c20 hw
                      refine lv_bipush (v := -3) hx hb dX10_load_105 (by decide) ?_
                      exact criN C hr hk hH rfl hu.1 hu.2 hw dX10_load_107
                  · have hw := ifp c19 hw
                    refine lv_iconst (v := -1) hx hb dX10_load_90 (by decide) ?_
                    exact criN C hr hk hH rfl hu.1 hu.2 hw dX10_load_91
def wp_C_law (mc ms : Nat) (t : CS) (a1 : Int32) (a2 : Int32) (a3 : Int32) (post : Int32 → CS → Prop) : Prop := wp_C_fellowshipAt t a1 (fun o2 t1 => oM o2 (post (-1 : Int32) t1) (fun j3 => wp_C_isUse t1 a2 (fun r5 t4 => if r5 = 0 then (post (-1 : Int32) t4) else (wp_C_isDay t4 a3 (fun r8 t7 => if r8 = 0 then (post (-1 : Int32) t7) else (if (nI (tT t7 3).length) < (40 : Int32) then (wp_Reader_read t7  (fun r12 t11 => ∀ t13 : CS, t13 = sF t11 161 2 (0 : Int32) → (if r12 < 0 then (wpT_law mc ms t13 a1 a2 a3 post) else (post ((-100 : Int32) - r12) t13)))) else (post (-3 : Int32) t7)))))))
set_option maxHeartbeats 4000000 in
set_option maxRecDepth 100000 in
theorem c_C_law (l : Launch) (D : va_G) (Z : Nat → ClassId) (E : Nat → Nat) (ad : Nat → Nat → Nat) (mc ms : Nat) (t : CS) (a1 : Int32) (a2 : Int32) (a3 : Int32) (post : Int32 → CS → Prop) (hw : wp_C_law mc ms t a1 a2 a3 post) (L : List Nat) (sz : Nat) : Met l yX10_law (Wd yX10_law cX10_law 5 (some .int)) (rmT_law mc ms) (va_Pc [.ref (ad 5 0), .int a1, .int a2, .int a3] (cPre D Z E ad L sz t)) (va_Qi post (cPostN D Z E (ad 5 0) (cAs L sz)) (cAs L sz)) mc ms (cAs L sz) := by
  refine cMet (Qc := fun A => va_Qi post (cPostN D Z E (ad 5 0) A) A) (by decide) rfl _ (Nat.le_of_ble_eq_true rfl) (fun p e s m args below meth c A C hr hk ls hl hH => ?_) L sz
  obtain ⟨⟨hx, hb, hml, hown, hts⟩, hK⟩ := id C
  have hl : lv_has ls 5 [(0, .ref (ad 5 0)), (1, .int a1), (2, .int a2), (3, .int a3)] := hl
  have hu : 0 ≤ mc ∧ 0 ≤ ms := ⟨Nat.zero_le _, Nat.zero_le _⟩
  unfold wp_C_law at hw
  refine lv_aload_n hx hb dX10_law_0 rfl (lv_at hl 0 rfl) ?_
  refine lv_iload_n hx hb dX10_law_1 rfl (lv_at hl 1 rfl) ?_
  refine ccVq0 C hH (crecv C hH 5 0 (by decide) (Nat.le_of_ble_eq_true rfl) rfl rfl (q := (RX10, TX10, 13))) [.int a1] (c_C_fellowshipAt l D Z E ad t a1 _ hw) (cwTV 1 hts wd_370 wd_372 ws_5 wd_1 wd_373 rfl rfl (by decide +kernel) ⟨Nat.le_of_ble_eq_true rfl, Nat.le_of_ble_eq_true rfl⟩) rfl hl.1 rfl (Nat.le_of_ble_eq_true rfl) dX10_law_2 hu (fun o2 t1 H locs hw hH => ?_)
  cases o2 with
  | none =>
    have hw := oM_none hw
    have hl : lv_has ls 5 [(0, .ref (ad 5 0)), (1, .int a1), (2, .int a2), (3, .int a3)] := hl
    refine lv_ifnullN (tgt := 22) hx hb dX10_law_5 (by decide) ?_
    refine lv_iconst (v := -1) hx hb dX10_law_22 (by decide) ?_
    exact criN C hr hk hH rfl hu.1 hu.2 hw dX10_law_23
  | some j3 =>
    have hw := oM_some hw
    have hl : lv_has ls 5 [(0, .ref (ad 5 0)), (1, .int a1), (2, .int a2), (3, .int a3)] := hl
    refine lv_ifnull hx hb dX10_law_5 ?_
    refine lv_iload_n hx hb dX10_law_8 rfl (lv_at hl 2 rfl) ?_
    refine ccSi0 C hH [.int a2] (c_C_isUse l D Z E ad t1 a2 _ hw) (cwTS 1 hts wd_499 wd_500 wd_1 wd_501 rfl rfl (by decide +kernel) ⟨Nat.le_of_ble_eq_true rfl, Nat.le_of_ble_eq_true rfl⟩) rfl hl.1 rfl (Nat.le_of_ble_eq_true rfl) dX10_law_9 hu (fun r5 t4 H locs hw hH => ?_)
    refine lv_if_eq (tgt := 22) hx hb dX10_law_12 (by decide) (fun c6 => ?_) (fun c6 => ?_)
    · have hw := ifp c6 hw
      refine lv_iconst (v := -1) hx hb dX10_law_22 (by decide) ?_
      exact criN C hr hk hH rfl hu.1 hu.2 hw dX10_law_23
    · have hw := ifn c6 hw
      refine lv_iload_n hx hb dX10_law_15 rfl (lv_at hl 3 rfl) ?_
      refine ccSi0 C hH [.int a3] (c_C_isDay l D Z E ad t4 a3 _ hw) (cwTS 1 hts wd_502 wd_503 wd_1 wd_504 rfl rfl (by decide +kernel) ⟨Nat.le_of_ble_eq_true rfl, Nat.le_of_ble_eq_true rfl⟩) rfl hl.1 rfl (Nat.le_of_ble_eq_true rfl) dX10_law_16 hu (fun r8 t7 H locs hw hH => ?_)
      refine lv_if_ne (tgt := 24) hx hb dX10_law_19 (by decide) (fun c9 => ?_) (fun c9 => ?_)
      · have hw := ifn c9 hw
        refine lv_aload_n hx hb dX10_law_24 rfl (lv_at hl 0 rfl) ?_
        refine cg C hH 5 0 (by decide) (Nat.le_of_ble_eq_true rfl) rfl rfl ixX10 3 (by decide) rfl wd_239 rfl dX10_law_25 ?_
        refine lSize C hH 3 (Nat.lt_of_lt_of_le (show 3 < 11 by decide) (Nat.le_add_left _ _)) wd_283 hl.1 (Nat.le_of_ble_eq_true rfl) dX10_law_28 hu ⟨Nat.le_of_ble_eq_true rfl, Nat.le_of_ble_eq_true rfl⟩ (fun H locs hH => ?_)
        refine lv_bipush (v := 40) hx hb dX10_law_31 (by decide) ?_
        refine lv_icmp_lt (tgt := 39) hx hb dX10_law_33 (by decide) (fun c10 => ?_) (fun c10 => ?_)
        · have hw := ifp c10 hw
          refine lv_aload_n hx hb dX10_law_39 rfl (lv_at hl 0 rfl) ?_
          refine cg C hH 5 0 (by decide) (Nat.le_of_ble_eq_true rfl) rfl rfl ixX10 7 (by decide) rfl wd_243 rfl dX10_law_40 ?_
          refine lv_aload_n hx hb dX10_law_43 rfl (lv_at hl 0 rfl) ?_
          refine cg C hH 5 0 (by decide) (Nat.le_of_ble_eq_true rfl) rfl rfl ixX10 6 (by decide) rfl wd_242 rfl dX10_law_44 ?_
          refine ccVi0 C hH (crecv C hH 5 3 (by decide) (Nat.le_of_ble_eq_true rfl) rfl rfl (q := (RX5, TX5, 6))) [.ref (ad 5 2)] (c_Reader_read l D Z E ad t7  _ hw) (cwTV 1 hts wd_505 wd_506 wd_507 wd_12 wd_508 rfl rfl (by decide +kernel) ⟨Nat.le_of_ble_eq_true rfl, Nat.le_of_ble_eq_true rfl⟩) rfl hl.1 rfl (Nat.le_of_ble_eq_true rfl) dX10_law_47 hu (fun r12 t11 H locs hw hH => ?_)
          refine lv_istore (lv' := [(4, .int r12), (0, .ref (ad 5 0)), (1, .int a1), (2, .int a2), (3, .int a3)]) hx hb dX10_law_50 hl (by decide) rfl (fun ls hl => ?_)
          refine lv_aload_n hx hb dX10_law_52 rfl (lv_at hl 1 rfl) ?_
          refine cg C hH 5 0 (by decide) (Nat.le_of_ble_eq_true rfl) rfl rfl ixX10 6 (by decide) rfl wd_242 rfl dX10_law_53 ?_
          refine lv_iconst (v := 0) hx hb dX10_law_56 (by decide) ?_
          refine cp C hH 5 2 161 (by decide) (Nat.le_of_ble_eq_true rfl) rfl rfl ixX8 tyX8_ok nmX8 1 (by decide) (by decide) rfl rfl wd_189 pfI rfl rfl (Nat.le_of_ble_eq_true rfl) (hs_161_Tape Z ad t11 _) dX10_law_57 (fun H locs hH => ?_)
          obtain ⟨t13, et13⟩ : ∃ x : CS, x = sF t11 161 2 (0 : Int32) := ⟨_, rfl⟩
          rw [← et13] at hH
          have hw := hw t13 et13
          refine lv_iload hx hb dX10_law_60 (lv_at hl 0 rfl) ?_
          refine lv_if_lt (tgt := 71) hx hb dX10_law_62 (by decide) (fun c14 => ?_) (fun c14 => ?_)
          · have hw := ifp c14 hw
            exact bT_law C hr hk t13 a1 a2 a3 hw _ _ _ hH (lv_sub hl [1, 2, 3, 4] rfl)
          · have hw := ifn c14 hw
            refine lv_bipush (v := -100) hx hb dX10_law_65 (by decide) ?_
            refine lv_iload hx hb dX10_law_67 (lv_at hl 0 rfl) ?_
            refine lv_isub hx hb dX10_law_69 ?_
            exact criN C hr hk hH rfl hu.1 hu.2 hw dX10_law_70
        · have hw := ifn c10 hw
          refine lv_bipush (v := -3) hx hb dX10_law_36 (by decide) ?_
          exact criN C hr hk hH rfl hu.1 hu.2 hw dX10_law_38
      · have hw := ifp c9 hw
        refine lv_iconst (v := -1) hx hb dX10_law_22 (by decide) ?_
        exact criN C hr hk hH rfl hu.1 hu.2 hw dX10_law_23
