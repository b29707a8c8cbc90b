/-! PorterTurns$Reader.token -/
abbrev rm_Reader_token : Room := { frames := 0, cells := 0, slots := 0, locals := 0 }
def wp_Reader_token (t : CS) (post : Int32 → CS → Prop) : Prop := if (tF t 165 3) < 0 then (post (0 : Int32) t) else (if (tF t 163 3) ≤ (tF t 165 3) then (post (0 : Int32) t) else (if (201 : Int32) ≤ (tF t 165 3) then (post (0 : Int32) t) else (vp_in (tF t 165 3) 201 ∧ (post (tA t 3 (tF t 165 3).toNatClampNeg) t))))
set_option maxHeartbeats 4000000 in
set_option maxRecDepth 100000 in
theorem c_Reader_token (l : Launch) (D : va_G) (Z : Nat → ClassId) (E : Nat → Nat) (ad : Nat → Nat → Nat) (t : CS) (post : Int32 → CS → Prop) (hw : wp_Reader_token t  post) (L : List Nat) (sz : Nat) : Met l yX5_token (Wd yX5_token cX5_token 1 (some .int)) rm_Reader_token (va_Pc [.ref (ad 5 3)] (cPre D Z E ad L sz t)) (va_Qi post (cPost D Z E ad (cAs L sz)) (cAs L sz)) 0 0 (cAs L sz) := by
  refine cMet (Qc := fun A => va_Qi post (cPost D Z E ad A) A) (by decide) rfl _ (Nat.le_of_ble_eq_true rfl) (fun p e s m args below meth c A C hr hk ls hl hH => ?_) L sz
  obtain ⟨⟨hx, hb, hml, hown, hts⟩, hK⟩ := id C
  have hl : lv_has ls 1 [(0, .ref (ad 5 3))] := hl
  unfold wp_Reader_token at hw
  refine lv_aload_n hx hb dX5_token_0 rfl (lv_at hl 0 rfl) ?_
  refine cg C hH 5 3 (by decide) (Nat.le_of_ble_eq_true rfl) rfl rfl ixX5 5 (by decide) rfl wd_206 rfl dX5_token_1 ?_
  refine lv_if_lt (tgt := 40) hx hb dX5_token_4 (by decide) (fun c1 => ?_) (fun c1 => ?_)
  · have hw := ifp c1 hw
    refine lv_iconst (v := 0) hx hb dX5_token_40 (by decide) ?_
    exact cri C hr hk hH (Nat.zero_le _) (Nat.zero_le _) hw dX5_token_41
  · have hw := ifn c1 hw
    refine lv_aload_n hx hb dX5_token_7 rfl (lv_at hl 0 rfl) ?_
    refine cg C hH 5 3 (by decide) (Nat.le_of_ble_eq_true rfl) rfl rfl ixX5 5 (by decide) rfl wd_206 rfl dX5_token_8 ?_
    refine lv_aload_n hx hb dX5_token_11 rfl (lv_at hl 0 rfl) ?_
    refine cg C hH 5 3 (by decide) (Nat.le_of_ble_eq_true rfl) rfl rfl ixX5 3 (by decide) rfl wd_204 rfl dX5_token_12 ?_
    refine lv_icmp_ge (tgt := 40) hx hb dX5_token_15 (by decide) (fun c2 => ?_) (fun c2 => ?_)
    · have hw := ifp c2 hw
      refine lv_iconst (v := 0) hx hb dX5_token_40 (by decide) ?_
      exact cri C hr hk hH (Nat.zero_le _) (Nat.zero_le _) hw dX5_token_41
    · have hw := ifn c2 hw
      refine lv_aload_n hx hb dX5_token_18 rfl (lv_at hl 0 rfl) ?_
      refine cg C hH 5 3 (by decide) (Nat.le_of_ble_eq_true rfl) rfl rfl ixX5 5 (by decide) rfl wd_206 rfl dX5_token_19 ?_
      refine lv_sipush (v := 201) hx hb dX5_token_22 (by decide) ?_
      refine lv_icmp_ge (tgt := 40) hx hb dX5_token_25 (by decide) (fun c3 => ?_) (fun c3 => ?_)
      · have hw := ifp c3 hw
        refine lv_iconst (v := 0) hx hb dX5_token_40 (by decide) ?_
        exact cri C hr hk hH (Nat.zero_le _) (Nat.zero_le _) hw dX5_token_41
      · have hw := ifn c3 hw
        refine lv_aload_n hx hb dX5_token_28 rfl (lv_at hl 0 rfl) ?_
        refine cg C hH 5 3 (by decide) (Nat.le_of_ble_eq_true rfl) rfl rfl ixX5 0 (by decide) rfl wd_201 rfl dX5_token_29 ?_
        refine lv_aload_n hx hb dX5_token_32 rfl (lv_at hl 0 rfl) ?_
        refine cg C hH 5 3 (by decide) (Nat.le_of_ble_eq_true rfl) rfl rfl ixX5 5 (by decide) rfl wd_206 rfl dX5_token_33 ?_
        obtain ⟨h4, hw⟩ := hw
        refine cai C hH 3 (Nat.lt_of_lt_of_le (show 3 < 8 by decide) (Nat.le_add_left _ _)) h4 dX5_token_36 ?_
        refine lv_goto (tgt := 41) hx hb dX5_token_37 (by decide) ?_
        exact cri C hr hk hH (Nat.zero_le _) (Nat.zero_le _) hw dX5_token_41
/-! PorterTurns$Reader.startHere -/
abbrev rm_Reader_startHere : Room := { frames := 0, cells := 0, slots := 0, locals := 0 }
def wp_Reader_startHere (t : CS) (a1 : Int32) (post : Int32 → CS → Prop) : Prop := if (tF t 165 3) < 0 then (post a1 t) else (if (tF t 163 3) ≤ (tF t 165 3) then (post a1 t) else (if (201 : Int32) ≤ (tF t 165 3) then (post a1 t) else (vp_in (tF t 165 3) 201 ∧ (post (tA t 4 (tF t 165 3).toNatClampNeg) t))))
set_option maxHeartbeats 4000000 in
set_option maxRecDepth 100000 in
theorem c_Reader_startHere (l : Launch) (D : va_G) (Z : Nat → ClassId) (E : Nat → Nat) (ad : Nat → Nat → Nat) (t : CS) (a1 : Int32) (post : Int32 → CS → Prop) (hw : wp_Reader_startHere t a1 post) (L : List Nat) (sz : Nat) : Met l yX5_startHere (Wd yX5_startHere cX5_startHere 2 (some .int)) rm_Reader_startHere (va_Pc [.ref (ad 5 3), .int a1] (cPre D Z E ad L sz t)) (va_Qi post (cPost D Z E ad (cAs L sz)) (cAs L sz)) 0 0 (cAs L sz) := by
  refine cMet (Qc := fun A => va_Qi post (cPost D Z E ad A) A) (by decide) rfl _ (Nat.le_of_ble_eq_true rfl) (fun p e s m args below meth c A C hr hk ls hl hH => ?_) L sz
  obtain ⟨⟨hx, hb, hml, hown, hts⟩, hK⟩ := id C
  have hl : lv_has ls 2 [(0, .ref (ad 5 3)), (1, .int a1)] := hl
  unfold wp_Reader_startHere at hw
  refine lv_aload_n hx hb dX5_startHere_0 rfl (lv_at hl 0 rfl) ?_
  refine cg C hH 5 3 (by decide) (Nat.le_of_ble_eq_true rfl) rfl rfl ixX5 5 (by decide) rfl wd_206 rfl dX5_startHere_1 ?_
  refine lv_if_lt (tgt := 40) hx hb dX5_startHere_4 (by decide) (fun c1 => ?_) (fun c1 => ?_)
  · have hw := ifp c1 hw
    refine lv_iload_n hx hb dX5_startHere_40 rfl (lv_at hl 1 rfl) ?_
    exact cri C hr hk hH (Nat.zero_le _) (Nat.zero_le _) hw dX5_startHere_41
  · have hw := ifn c1 hw
    refine lv_aload_n hx hb dX5_startHere_7 rfl (lv_at hl 0 rfl) ?_
    refine cg C hH 5 3 (by decide) (Nat.le_of_ble_eq_true rfl) rfl rfl ixX5 5 (by decide) rfl wd_206 rfl dX5_startHere_8 ?_
    refine lv_aload_n hx hb dX5_startHere_11 rfl (lv_at hl 0 rfl) ?_
    refine cg C hH 5 3 (by decide) (Nat.le_of_ble_eq_true rfl) rfl rfl ixX5 3 (by decide) rfl wd_204 rfl dX5_startHere_12 ?_
    refine lv_icmp_ge (tgt := 40) hx hb dX5_startHere_15 (by decide) (fun c2 => ?_) (fun c2 => ?_)
    · have hw := ifp c2 hw
      refine lv_iload_n hx hb dX5_startHere_40 rfl (lv_at hl 1 rfl) ?_
      exact cri C hr hk hH (Nat.zero_le _) (Nat.zero_le _) hw dX5_startHere_41
    · have hw := ifn c2 hw
      refine lv_aload_n hx hb dX5_startHere_18 rfl (lv_at hl 0 rfl) ?_
      refine cg C hH 5 3 (by decide) (Nat.le_of_ble_eq_true rfl) rfl rfl ixX5 5 (by decide) rfl wd_206 rfl dX5_startHere_19 ?_
      refine lv_sipush (v := 201) hx hb dX5_startHere_22 (by decide) ?_
      refine lv_icmp_ge (tgt := 40) hx hb dX5_startHere_25 (by decide) (fun c3 => ?_) (fun c3 => ?_)
      · have hw := ifp c3 hw
        refine lv_iload_n hx hb dX5_startHere_40 rfl (lv_at hl 1 rfl) ?_
        exact cri C hr hk hH (Nat.zero_le _) (Nat.zero_le _) hw dX5_startHere_41
      · have hw := ifn c3 hw
        refine lv_aload_n hx hb dX5_startHere_28 rfl (lv_at hl 0 rfl) ?_
        refine cg C hH 5 3 (by decide) (Nat.le_of_ble_eq_true rfl) rfl rfl ixX5 1 (by decide) rfl wd_202 rfl dX5_startHere_29 ?_
        refine lv_aload_n hx hb dX5_startHere_32 rfl (lv_at hl 0 rfl) ?_
        refine cg C hH 5 3 (by decide) (Nat.le_of_ble_eq_true rfl) rfl rfl ixX5 5 (by decide) rfl wd_206 rfl dX5_startHere_33 ?_
        obtain ⟨h4, hw⟩ := hw
        refine cai C hH 4 (Nat.lt_of_lt_of_le (show 4 < 8 by decide) (Nat.le_add_left _ _)) h4 dX5_startHere_36 ?_
        refine lv_goto (tgt := 41) hx hb dX5_startHere_37 (by decide) ?_
        exact cri C hr hk hH (Nat.zero_le _) (Nat.zero_le _) hw dX5_startHere_41
/-! PorterTurns$Reader.addStep -/
abbrev rm_Reader_addStep : Room := { frames := 0, cells := 0, slots := 0, locals := 0 }
def wp_Reader_addStep (t : CS) (a1 : Int32) (post : CS → Prop) : Prop := if (tF t 164 3) < 0 then (post t) else (if (402 : Int32) ≤ (tF t 164 3) then (post t) else (vp_in (tF t 164 3) 402 ∧ (∀ t4 : CS, t4 = sA t 5 (tF t 164 3).toNatClampNeg a1 → (∀ t5 : CS, t5 = sF t4 164 3 ((tF t4 164 3) + (1 : Int32)) → (post t5)))))
set_option maxHeartbeats 4000000 in
set_option maxRecDepth 100000 in
theorem c_Reader_addStep (l : Launch) (D : va_G) (Z : Nat → ClassId) (E : Nat → Nat) (ad : Nat → Nat → Nat) (t : CS) (a1 : Int32) (post : CS → Prop) (hw : wp_Reader_addStep t a1 post) (L : List Nat) (sz : Nat) : Met l yX5_addStep (Wd yX5_addStep cX5_addStep 2 (none)) rm_Reader_addStep (va_Pc [.ref (ad 5 3), .int a1] (cPre D Z E ad L sz t)) (va_Qv post (cPost D Z E ad (cAs L sz)) (cAs L sz)) 0 0 (cAs L sz) := by
  refine cMet (Qc := fun A => va_Qv post (cPost D Z E ad A) A) (by decide) rfl _ (Nat.le_of_ble_eq_true rfl) (fun p e s m args below meth c A C hr hk ls hl hH => ?_) L sz
  obtain ⟨⟨hx, hb, hml, hown, hts⟩, hK⟩ := id C
  have hl : lv_has ls 2 [(0, .ref (ad 5 3)), (1, .int a1)] := hl
  unfold wp_Reader_addStep at hw
  refine lv_aload_n hx hb dX5_addStep_0 rfl (lv_at hl 0 rfl) ?_
  refine cg C hH 5 3 (by decide) (Nat.le_of_ble_eq_true rfl) rfl rfl ixX5 4 (by decide) rfl wd_205 rfl dX5_addStep_1 ?_
  refine lv_if_lt (tgt := 37) hx hb dX5_addStep_4 (by decide) (fun c1 => ?_) (fun c1 => ?_)
  · have hw := ifp c1 hw
    exact crv C hr hk hH (Nat.zero_le _) (Nat.zero_le _) hw dX5_addStep_37
  · have hw := ifn c1 hw
    refine lv_aload_n hx hb dX5_addStep_7 rfl (lv_at hl 0 rfl) ?_
    refine cg C hH 5 3 (by decide) (Nat.le_of_ble_eq_true rfl) rfl rfl ixX5 4 (by decide) rfl wd_205 rfl dX5_addStep_8 ?_
    refine lv_sipush (v := 402) hx hb dX5_addStep_11 (by decide) ?_
    refine lv_icmp_ge (tgt := 37) hx hb dX5_addStep_14 (by decide) (fun c2 => ?_) (fun c2 => ?_)
    · have hw := ifp c2 hw
      exact crv C hr hk hH (Nat.zero_le _) (Nat.zero_le _) hw dX5_addStep_37
    · have hw := ifn c2 hw
      refine lv_aload_n hx hb dX5_addStep_17 rfl (lv_at hl 0 rfl) ?_
      refine cg C hH 5 3 (by decide) (Nat.le_of_ble_eq_true rfl) rfl rfl ixX5 2 (by decide) rfl wd_203 rfl dX5_addStep_18 ?_
      refine lv_aload_n hx hb dX5_addStep_21 rfl (lv_at hl 0 rfl) ?_
      refine cg C hH 5 3 (by decide) (Nat.le_of_ble_eq_true rfl) rfl rfl ixX5 4 (by decide) rfl wd_205 rfl dX5_addStep_22 ?_
      refine lv_iload_n hx hb dX5_addStep_25 rfl (lv_at hl 1 rfl) ?_
      obtain ⟨h3, hw⟩ := hw
      refine cas C hH 5 (Nat.lt_of_lt_of_le (show 5 < 8 by decide) (Nat.le_add_left _ _)) rfl h3 dX5_addStep_26 (fun H locs hH => ?_)
      obtain ⟨t4, et4⟩ : ∃ x : CS, x = sA t 5 (tF t 164 3).toNatClampNeg a1 := ⟨_, rfl⟩
      rw [← et4] at hH
      have hw := hw t4 et4
      refine lv_aload_n hx hb dX5_addStep_27 rfl (lv_at hl 0 rfl) ?_
      refine lv_dup hx hb dX5_addStep_28 rfl ?_
      refine cg C hH 5 3 (by decide) (Nat.le_of_ble_eq_true rfl) rfl rfl ixX5 4 (by decide) rfl wd_205 rfl dX5_addStep_29 ?_
      refine lv_iconst (v := 1) hx hb dX5_addStep_32 (by decide) ?_
      refine lv_iadd hx hb dX5_addStep_33 ?_
      refine cp C hH 5 3 164 (by decide) (Nat.le_of_ble_eq_true rfl) rfl rfl ixX5 tyX5_ok nmX5 4 (by decide) (by decide) rfl rfl wd_205 pfI rfl rfl (Nat.le_of_ble_eq_true rfl) (hs_164_Reader Z ad t4 _) dX5_addStep_34 (fun H locs hH => ?_)
      obtain ⟨t5, et5⟩ : ∃ x : CS, x = sF t4 164 3 ((tF t4 164 3) + (1 : Int32)) := ⟨_, rfl⟩
      rw [← et5] at hH
      have hw := hw t5 et5
      exact crv C hr hk hH (Nat.zero_le _) (Nat.zero_le _) hw dX5_addStep_37
/-! PorterTurns$Reader.pass -/
abbrev rm_Reader_pass : Room := { frames := 1, cells := 0, slots := 0, locals := 20 }
def wp_Reader_pass (t : CS) (a1 : Int32) (post : Int32 → CS → Prop) : Prop := wp_Reader_token t  (fun r2 t1 => if r2 = a1 then (∀ t4 : CS, t4 = sF t1 165 3 ((tF t1 165 3) + (1 : Int32)) → (post (1 : Int32) t4)) else (post (0 : Int32) t1))
set_option maxHeartbeats 4000000 in
set_option maxRecDepth 100000 in
theorem c_Reader_pass (l : Launch) (D : va_G) (Z : Nat → ClassId) (E : Nat → Nat) (ad : Nat → Nat → Nat) (t : CS) (a1 : Int32) (post : Int32 → CS → Prop) (hw : wp_Reader_pass t a1 post) (L : List Nat) (sz : Nat) : Met l yX5_pass (Wd yX5_pass cX5_pass 2 (some .boolean)) rm_Reader_pass (va_Pc [.ref (ad 5 3), .int a1] (cPre D Z E ad L sz t)) (va_Qi post (cPost D Z E ad (cAs L sz)) (cAs L sz)) 0 0 (cAs L sz) := by
  refine cMet (Qc := fun A => va_Qi post (cPost D Z E ad A) A) (by decide) rfl _ (Nat.le_of_ble_eq_true rfl) (fun p e s m args below meth c A C hr hk ls hl hH => ?_) L sz
  obtain ⟨⟨hx, hb, hml, hown, hts⟩, hK⟩ := id C
  have hl : lv_has ls 2 [(0, .ref (ad 5 3)), (1, .int a1)] := hl
  unfold wp_Reader_pass at hw
  refine lv_aload_n hx hb dX5_pass_0 rfl (lv_at hl 0 rfl) ?_
  refine ccVi0 C hH (crecv C hH 5 3 (by decide) (Nat.le_of_ble_eq_true rfl) rfl rfl (q := (RX5, TX5, 6))) [] (c_Reader_token l D Z E ad t  _ hw) (cwTV 0 hts wd_601 wd_603 ws_14 wd_12 wd_604 rfl rfl (by decide +kernel) ⟨Nat.le_of_ble_eq_true rfl, Nat.le_of_ble_eq_true rfl⟩) rfl hl.1 rfl (Nat.le_of_ble_eq_true rfl) dX5_pass_1 ⟨Nat.zero_le _, Nat.zero_le _⟩ (fun r2 t1 H locs hw hH => ?_)
  refine lv_iload_n hx hb dX5_pass_4 rfl (lv_at hl 1 rfl) ?_
  refine lv_icmp_eq (tgt := 10) hx hb dX5_pass_5 (by decide) (fun c3 => ?_) (fun c3 => ?_)
  · have hw := ifp c3 hw
    refine lv_aload_n hx hb dX5_pass_10 rfl (lv_at hl 0 rfl) ?_
    refine lv_dup hx hb dX5_pass_11 rfl ?_
    refine cg C hH 5 3 (by decide) (Nat.le_of_ble_eq_true rfl) rfl rfl ixX5 5 (by decide) rfl wd_206 rfl dX5_pass_12 ?_
    refine lv_iconst (v := 1) hx hb dX5_pass_15 (by decide) ?_
    refine lv_iadd hx hb dX5_pass_16 ?_
    refine cp C hH 5 3 165 (by decide) (Nat.le_of_ble_eq_true rfl) rfl rfl ixX5 tyX5_ok nmX5 5 (by decide) (by decide) rfl rfl wd_206 pfI rfl rfl (Nat.le_of_ble_eq_true rfl) (hs_165_Reader Z ad t1 _) dX5_pass_17 (fun H locs hH => ?_)
    obtain ⟨t4, et4⟩ : ∃ x : CS, x = sF t1 165 3 ((tF t1 165 3) + (1 : Int32)) := ⟨_, rfl⟩
    rw [← et4] at hH
    have hw := hw t4 et4
    refine lv_iconst (v := 1) hx hb dX5_pass_20 (by decide) ?_
    exact crz C hr hk hH (Nat.zero_le _) (Nat.zero_le _) bz1 hw dX5_pass_21
  · have hw := ifn c3 hw
    refine lv_iconst (v := 0) hx hb dX5_pass_8 (by decide) ?_
    exact crz C hr hk hH (Nat.zero_le _) (Nat.zero_le _) bz0 hw dX5_pass_9
/-! PorterTurns$Reader.levelOf -/
abbrev rm_Reader_levelOf : Room := { frames := 0, cells := 0, slots := 0, locals := 0 }
def wp_Reader_levelOf (t : CS) (a1 : Int32) (post : Int32 → CS → Prop) : Prop := if a1 = (42 : Int32) then (post (5 : Int32) t) else (if a1 = (43 : Int32) then (post (4 : Int32) t) else (if a1 = (45 : Int32) then (post (4 : Int32) t) else (if a1 = (47 : Int32) then (post (5 : Int32) t) else (if a1 = (60 : Int32) then (post (3 : Int32) t) else (if a1 = (61 : Int32) then (post (3 : Int32) t) else (if a1 = (62 : Int32) then (post (3 : Int32) t) else (if a1 = (142 : Int32) then (post (0 : Int32) t) else (if a1 = (143 : Int32) then (post (1 : Int32) t) else (post (-1 : Int32) t)))))))))
set_option maxHeartbeats 4000000 in
set_option maxRecDepth 100000 in
theorem c_Reader_levelOf (l : Launch) (D : va_G) (Z : Nat → ClassId) (E : Nat → Nat) (ad : Nat → Nat → Nat) (t : CS) (a1 : Int32) (post : Int32 → CS → Prop) (hw : wp_Reader_levelOf t a1 post) (L : List Nat) (sz : Nat) : Met l yX5_levelOf (Wd yX5_levelOf cX5_levelOf 1 (some .int)) rm_Reader_levelOf (va_Pc [.int a1] (cPre D Z E ad L sz t)) (va_Qi post (cPost D Z E ad (cAs L sz)) (cAs L sz)) 0 0 (cAs L sz) := by
  refine cMet (Qc := fun A => va_Qi post (cPost D Z E ad A) A) (by decide) rfl _ (Nat.le_of_ble_eq_true rfl) (fun p e s m args below meth c A C hr hk ls hl hH => ?_) L sz
  obtain ⟨⟨hx, hb, hml, hown, hts⟩, hK⟩ := id C
  have hl : lv_has ls 1 [(0, .int a1)] := hl
  unfold wp_Reader_levelOf at hw
  refine lv_iload_n hx hb dX5_levelOf_0 rfl (lv_at hl 0 rfl) ?_
  by_cases c1 : a1 = (42 : Int32)
  · have hw := ifp c1 hw
    refine lv_lookup (off := 91) (tgt := 92) hx hb dX5_levelOf_1 (by decide) (by rw [c1]; try rfl) (by decide) ?_
    refine lv_iconst (v := 5) hx hb dX5_levelOf_92 (by decide) ?_
    exact cri C hr hk hH (Nat.zero_le _) (Nat.zero_le _) hw dX5_levelOf_93
  have hw := ifn c1 hw
  by_cases c2 : a1 = (43 : Int32)
  · have hw := ifp c2 hw
    refine lv_lookup (off := 89) (tgt := 90) hx hb dX5_levelOf_1 (by decide) (by rw [c2]; try rfl) (by decide) ?_
    refine lv_iconst (v := 4) hx hb dX5_levelOf_90 (by decide) ?_
    exact cri C hr hk hH (Nat.zero_le _) (Nat.zero_le _) hw dX5_levelOf_91
  have hw := ifn c2 hw
  by_cases c3 : a1 = (45 : Int32)
  · have hw := ifp c3 hw
    refine lv_lookup (off := 89) (tgt := 90) hx hb dX5_levelOf_1 (by decide) (by rw [c3]; try rfl) (by decide) ?_
    refine lv_iconst (v := 4) hx hb dX5_levelOf_90 (by decide) ?_
    exact cri C hr hk hH (Nat.zero_le _) (Nat.zero_le _) hw dX5_levelOf_91
  have hw := ifn c3 hw
  by_cases c4 : a1 = (47 : Int32)
  · have hw := ifp c4 hw
    refine lv_lookup (off := 91) (tgt := 92) hx hb dX5_levelOf_1 (by decide) (by rw [c4]; try rfl) (by decide) ?_
    refine lv_iconst (v := 5) hx hb dX5_levelOf_92 (by decide) ?_
    exact cri C hr hk hH (Nat.zero_le _) (Nat.zero_le _) hw dX5_levelOf_93
  have hw := ifn c4 hw
  by_cases c5 : a1 = (60 : Int32)
  · have hw := ifp c5 hw
    refine lv_lookup (off := 87) (tgt := 88) hx hb dX5_levelOf_1 (by decide) (by rw [c5]; try rfl) (by decide) ?_
    refine lv_iconst (v := 3) hx hb dX5_levelOf_88 (by decide) ?_
    exact cri C hr hk hH (Nat.zero_le _) (Nat.zero_le _) hw dX5_levelOf_89
  have hw := ifn c5 hw
  by_cases c6 : a1 = (61 : Int32)
  · have hw := ifp c6 hw
    refine lv_lookup (off := 87) (tgt := 88) hx hb dX5_levelOf_1 (by decide) (by rw [c6]; try rfl) (by decide) ?_
    refine lv_iconst (v := 3) hx hb dX5_levelOf_88 (by decide) ?_
    exact cri C hr hk hH (Nat.zero_le _) (Nat.zero_le _) hw dX5_levelOf_89
  have hw := ifn c6 hw
  by_cases c7 : a1 = (62 : Int32)
  · have hw := ifp c7 hw
    refine lv_lookup (off := 87) (tgt := 88) hx hb dX5_levelOf_1 (by decide) (by rw [c7]; try rfl) (by decide) ?_
    refine lv_iconst (v := 3) hx hb dX5_levelOf_88 (by decide) ?_
    exact cri C hr hk hH (Nat.zero_le _) (Nat.zero_le _) hw dX5_levelOf_89
  have hw := ifn c7 hw
  by_cases c8 : a1 = (142 : Int32)
  · have hw := ifp c8 hw
    refine lv_lookup (off := 83) (tgt := 84) hx hb dX5_levelOf_1 (by decide) (by rw [c8]; try rfl) (by decide) ?_
    refine lv_iconst (v := 0) hx hb dX5_levelOf_84 (by decide) ?_
    exact cri C hr hk hH (Nat.zero_le _) (Nat.zero_le _) hw dX5_levelOf_85
  have hw := ifn c8 hw
  by_cases c9 : a1 = (143 : Int32)
  · have hw := ifp c9 hw
    refine lv_lookup (off := 85) (tgt := 86) hx hb dX5_levelOf_1 (by decide) (by rw [c9]; try rfl) (by decide) ?_
    refine lv_iconst (v := 1) hx hb dX5_levelOf_86 (by decide) ?_
    exact cri C hr hk hH (Nat.zero_le _) (Nat.zero_le _) hw dX5_levelOf_87
  have hw := ifn c9 hw
  refine lv_lookup (off := 93) (tgt := 94) hx hb dX5_levelOf_1 (by decide) (by simp [Op.lookupswitch.offset, sw_en c1 42 (by decide), sw_en c2 43 (by decide), sw_en c3 45 (by decide), sw_en c4 47 (by decide), sw_en c5 60 (by decide), sw_en c6 61 (by decide), sw_en c7 62 (by decide), sw_en c8 142 (by decide), sw_en c9 143 (by decide)]) (by decide) ?_
  refine lv_iconst (v := -1) hx hb dX5_levelOf_94 (by decide) ?_
  exact cri C hr hk hH (Nat.zero_le _) (Nat.zero_le _) hw dX5_levelOf_95
