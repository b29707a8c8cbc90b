/-! PorterTurns$Tape.addBytes -/
abbrev rm_Tape_addBytes : Room := { frames := 0, cells := 0, slots := 0, locals := 0 }
def wp_Tape_addBytes_50 (k3 : CS → Int32 → Int32 → Prop) (post : CS → Prop) (t : CS) (x1_ : Int32) (x2_ : Int32) : Prop := ∀ x1 : Int32, x1 = x2_ + (-8 : Int32) → (k3 t x1_ x1)
set_option maxHeartbeats 4000000 in
set_option maxRecDepth 100000 in
theorem b_Tape_addBytes_50 {p : Program} {l : Launch} {e : Env} {s : State} {m : MethodId} {args : Array Value} {below : List Frame} {meth : Method} {c : Code} {D : va_G} {Z : Nat → ClassId} {E : Nat → Nat} {ad : Nat → Nat → Nat} {A : Nat → Prop} (C : CC p s m args c cX8_addBytes 3 RX8 D Z E A) (hr : meth.sig.returnType = none) (hk : meth.locks = false) {post : CS → Prop} {k3 : CS → Int32 → Int32 → Prop} (hk3 : ∀ (t : CS) (y1 : Int32) (y2 : Int32), k3 t y1 y2 → ∀ (H : Heap) (locs : List Loc) (ls : Array Slot), CH D Z E ad A s.heap t H locs → lv_has ls 3 [(0, .ref (ad 5 2)), (1, .int y1), (2, .int y2)] → CWv p l e rm_Tape_addBytes s m args below meth c D Z E ad A 0 0 post H locs 0 0 (F0 m 3 ls [])) : ∀ (t : CS) (x1_ : Int32) (x2_ : Int32), wp_Tape_addBytes_50 k3 post t x1_ x2_ → ∀ (H : Heap) (locs : List Loc) (ls : Array Slot), CH D Z E ad A s.heap t H locs → lv_has ls 3 [(0, .ref (ad 5 2)), (1, .int x1_), (2, .int x2_)] → CWv p l e rm_Tape_addBytes s m args below meth c D Z E ad A 0 0 post H locs 0 0 (F0 m 50 ls []) := by
  obtain ⟨⟨hx, hb, hml, hown, hts⟩, hK⟩ := id C
  intro t x1_ x2_ hw H locs ls hH hl
  unfold wp_Tape_addBytes_50 at hw
  obtain ⟨x1, ex1⟩ : ∃ y : Int32, y = x2_ + (-8 : Int32) := ⟨_, rfl⟩
  have hw := hw x1 ex1
  refine lv_iinc (v := x1) (lv' := [(2, .int x1), (0, .ref (ad 5 2)), (1, .int x1_)]) hx hb dX8_addBytes_50 hl (k := 2) rfl (by rw [ex1]; rfl) (by decide) rfl (fun ls hl => ?_)
  refine lv_goto (tgt := 3) hx hb dX8_addBytes_53 (by decide) ?_
  exact hk3 t x1_ x1 hw _ _ _ hH (lv_sub hl [1, 2, 0] rfl)
def wp_Tape_addBytes_3 (post : CS → Prop) : Nat → CS → Int32 → Int32 → Prop
  | 0 => fun _ _ _ => False
  | n + 1 => fun t x1_ x2_ => if x2_ < 0 then (post t) else (if (tF t 161 2) < 0 then (wp_Tape_addBytes_50 (wp_Tape_addBytes_3 post n) post t x1_ x2_) else (if (200 : Int32) ≤ (tF t 161 2) then (wp_Tape_addBytes_50 (wp_Tape_addBytes_3 post n) post t x1_ x2_) else (vp_in (tF t 161 2) 200 ∧ (∀ t6 : CS, t6 = sA t 2 (tF t 161 2).toNatClampNeg (((x1_.toUInt32 >>> (x2_.toUInt32 &&& Int32.toUInt32 31)).toInt32) &&& (255 : Int32)) → (∀ t7 : CS, t7 = sF t6 161 2 ((tF t6 161 2) + (1 : Int32)) → (wp_Tape_addBytes_50 (wp_Tape_addBytes_3 post n) post t7 x1_ x2_))))))
set_option maxHeartbeats 4000000 in
set_option maxRecDepth 100000 in
theorem b_Tape_addBytes_3 {p : Program} {l : Launch} {e : Env} {s : State} {m : MethodId} {args : Array Value} {below : List Frame} {meth : Method} {c : Code} {D : va_G} {Z : Nat → ClassId} {E : Nat → Nat} {ad : Nat → Nat → Nat} {A : Nat → Prop} (C : CC p s m args c cX8_addBytes 3 RX8 D Z E A) (hr : meth.sig.returnType = none) (hk : meth.locks = false) {post : CS → Prop} : ∀ (n : Nat) (t : CS) (x1_ : Int32) (x2_ : Int32), wp_Tape_addBytes_3 post n t x1_ x2_ → ∀ (H : Heap) (locs : List Loc) (ls : Array Slot), CH D Z E ad A s.heap t H locs → lv_has ls 3 [(0, .ref (ad 5 2)), (1, .int x1_), (2, .int x2_)] → CWv p l e rm_Tape_addBytes s m args below meth c D Z E ad A 0 0 post H locs 0 0 (F0 m 3 ls []) := by
  obtain ⟨⟨hx, hb, hml, hown, hts⟩, hK⟩ := id C
  intro n
  induction n with
  | zero => intro t x1_ x2_ hw; exact hw.elim
  | succ n ih =>
    intro t x1_ x2_ hw H locs ls hH hl
    unfold wp_Tape_addBytes_3 at hw
    refine lv_iload_n hx hb dX8_addBytes_3 rfl (lv_at hl 2 rfl) ?_
    refine lv_if_lt (tgt := 56) hx hb dX8_addBytes_4 (by decide) (fun c2 => ?_) (fun c2 => ?_)
    · have hw := ifp c2 hw
      exact crv C hr hk hH (Nat.zero_le _) (Nat.zero_le _) hw dX8_addBytes_56
    · have hw := ifn c2 hw
      refine lv_aload_n hx hb dX8_addBytes_7 rfl (lv_at hl 0 rfl) ?_
      refine cg C hH 5 2 (by decide) (Nat.le_of_ble_eq_true rfl) rfl rfl ixX8 1 (by decide) rfl wd_187 rfl dX8_addBytes_8 ?_
      refine lv_if_lt (tgt := 50) hx hb dX8_addBytes_11 (by decide) (fun c3 => ?_) (fun c3 => ?_)
      · have hw := ifp c3 hw
        exact b_Tape_addBytes_50 C hr hk ih t x1_ x2_ hw _ _ _ hH (lv_sub hl [0, 1, 2] rfl)
      · have hw := ifn c3 hw
        refine lv_aload_n hx hb dX8_addBytes_14 rfl (lv_at hl 0 rfl) ?_
        refine cg C hH 5 2 (by decide) (Nat.le_of_ble_eq_true rfl) rfl rfl ixX8 1 (by decide) rfl wd_187 rfl dX8_addBytes_15 ?_
        refine lv_sipush (v := 200) hx hb dX8_addBytes_18 (by decide) ?_
        refine lv_icmp_ge (tgt := 50) hx hb dX8_addBytes_21 (by decide) (fun c4 => ?_) (fun c4 => ?_)
        · have hw := ifp c4 hw
          exact b_Tape_addBytes_50 C hr hk ih t x1_ x2_ hw _ _ _ hH (lv_sub hl [0, 1, 2] rfl)
        · have hw := ifn c4 hw
          refine lv_aload_n hx hb dX8_addBytes_24 rfl (lv_at hl 0 rfl) ?_
          refine cg C hH 5 2 (by decide) (Nat.le_of_ble_eq_true rfl) rfl rfl ixX8 0 (by decide) rfl wd_186 rfl dX8_addBytes_25 ?_
          refine lv_aload_n hx hb dX8_addBytes_28 rfl (lv_at hl 0 rfl) ?_
          refine cg C hH 5 2 (by decide) (Nat.le_of_ble_eq_true rfl) rfl rfl ixX8 1 (by decide) rfl wd_187 rfl dX8_addBytes_29 ?_
          refine lv_iload_n hx hb dX8_addBytes_32 rfl (lv_at hl 1 rfl) ?_
          refine lv_iload_n hx hb dX8_addBytes_33 rfl (lv_at hl 2 rfl) ?_
          refine lv_iushr hx hb dX8_addBytes_34 rfl ?_
          refine lv_sipush (v := 255) hx hb dX8_addBytes_35 (by decide) ?_
          refine lv_iand hx hb dX8_addBytes_38 ?_
          obtain ⟨h5, hw⟩ := hw
          refine cas C hH 2 (Nat.lt_of_lt_of_le (show 2 < 8 by decide) (Nat.le_add_left _ _)) rfl h5 dX8_addBytes_39 (fun H locs hH => ?_)
          obtain ⟨t6, et6⟩ : ∃ x : CS, x = sA t 2 (tF t 161 2).toNatClampNeg (((x1_.toUInt32 >>> (x2_.toUInt32 &&& Int32.toUInt32 31)).toInt32) &&& (255 : Int32)) := ⟨_, rfl⟩
          rw [← et6] at hH
          have hw := hw t6 et6
          refine lv_aload_n hx hb dX8_addBytes_40 rfl (lv_at hl 0 rfl) ?_
          refine lv_dup hx hb dX8_addBytes_41 rfl ?_
          refine cg C hH 5 2 (by decide) (Nat.le_of_ble_eq_true rfl) rfl rfl ixX8 1 (by decide) rfl wd_187 rfl dX8_addBytes_42 ?_
          refine lv_iconst (v := 1) hx hb dX8_addBytes_45 (by decide) ?_
          refine lv_iadd hx hb dX8_addBytes_46 ?_
          refine cp C hH 5 2 161 (by decide) (Nat.le_of_ble_eq_true rfl) rfl rfl ixX8 tyX8_ok nmX8 1 (by decide) (by decide) rfl rfl wd_187 pfI rfl rfl (Nat.le_of_ble_eq_true rfl) (hs_161_Tape Z ad t6 _) dX8_addBytes_47 (fun H locs hH => ?_)
          obtain ⟨t7, et7⟩ : ∃ x : CS, x = sF t6 161 2 ((tF t6 161 2) + (1 : Int32)) := ⟨_, rfl⟩
          rw [← et7] at hH
          have hw := hw t7 et7
          exact b_Tape_addBytes_50 C hr hk ih t7 x1_ x2_ hw _ _ _ hH (lv_sub hl [0, 1, 2] rfl)
def wp_Tape_addBytes (t : CS) (a1 : Int32) (post : CS → Prop) : Prop := ∃ nn : Nat, wp_Tape_addBytes_3 post nn t a1 (24 : Int32)
set_option maxHeartbeats 4000000 in
set_option maxRecDepth 100000 in
theorem c_Tape_addBytes (l : Launch) (D : va_G) (Z : Nat → ClassId) (E : Nat → Nat) (ad : Nat → Nat → Nat) (t : CS) (a1 : Int32) (post : CS → Prop) (hw : wp_Tape_addBytes t a1 post) (L : List Nat) (sz : Nat) : Met l yX8_addBytes (Wd yX8_addBytes cX8_addBytes 3 (none)) rm_Tape_addBytes (va_Pc [.ref (ad 5 2), .int a1] (cPre D Z E ad L sz t)) (va_Qv post (cPost D Z E ad (cAs L sz)) (cAs L sz)) 0 0 (cAs L sz) := by
  refine cMet (Qc := fun A => va_Qv post (cPost D Z E ad A) A) (by decide) rfl _ (Nat.le_of_ble_eq_true rfl) (fun p e s m args below meth c A C hr hk ls hl hH => ?_) L sz
  obtain ⟨⟨hx, hb, hml, hown, hts⟩, hK⟩ := id C
  have hl : lv_has ls 3 [(0, .ref (ad 5 2)), (1, .int a1)] := hl
  unfold wp_Tape_addBytes at hw
  refine lv_bipush (v := 24) hx hb dX8_addBytes_0 (by decide) ?_
  refine lv_istore_n (lv' := [(2, .int (24 : Int32)), (0, .ref (ad 5 2)), (1, .int a1)]) hx hb dX8_addBytes_2 rfl hl (by decide) rfl (fun ls hl => ?_)
  obtain ⟨nn, hw⟩ := hw
  exact b_Tape_addBytes_3 C hr hk  nn t a1 (24 : Int32) hw _ _ _ hH (lv_sub hl [1, 2, 0] rfl)
/-! PorterTurns.feed -/
abbrev rm_C_feed : Room := { frames := 1, cells := 0, slots := 0, locals := 22 }
def wp_C_feed (t : CS) (a1 : Int32) (a2 : Int32) (a3 : Int32) (a4 : Int32) (a5 : Int32) (post : Int32 → CS → Prop) : Prop := if ((tF t 161 2) + (20 : Int32)) ≤ (200 : Int32) then (wp_Tape_addBytes t a1 (fun  t2 => wp_Tape_addBytes t2 a2 (fun  t3 => wp_Tape_addBytes t3 a3 (fun  t4 => wp_Tape_addBytes t4 a4 (fun  t5 => wp_Tape_addBytes t5 a5 (fun  t6 => post (tF t6 161 2) t6)))))) else (post (-3 : Int32) t)
set_option maxHeartbeats 4000000 in
set_option maxRecDepth 100000 in
theorem c_C_feed (l : Launch) (D : va_G) (Z : Nat → ClassId) (E : Nat → Nat) (ad : Nat → Nat → Nat) (t : CS) (a1 : Int32) (a2 : Int32) (a3 : Int32) (a4 : Int32) (a5 : Int32) (post : Int32 → CS → Prop) (hw : wp_C_feed t a1 a2 a3 a4 a5 post) (L : List Nat) (sz : Nat) : Met l yX10_feed (Wd yX10_feed cX10_feed 6 (some .int)) rm_C_feed (va_Pc [.ref (ad 5 0), .int a1, .int a2, .int a3, .int a4, .int a5] (cPre D Z E ad L sz t)) (va_Qi post (cPost D Z E ad (cAs L sz)) (cAs L sz)) 0 0 (cAs L sz) := by
  refine cMet (Qc := fun A => va_Qi post (cPost D Z E ad A) A) (by decide) rfl _ (Nat.le_of_ble_eq_true rfl) (fun p e s m args below meth c A C hr hk ls hl hH => ?_) L sz
  obtain ⟨⟨hx, hb, hml, hown, hts⟩, hK⟩ := id C
  have hl : lv_has ls 6 [(0, .ref (ad 5 0)), (1, .int a1), (2, .int a2), (3, .int a3), (4, .int a4), (5, .int a5)] := hl
  unfold wp_C_feed at hw
  refine lv_aload_n hx hb dX10_feed_0 rfl (lv_at hl 0 rfl) ?_
  refine cg C hH 5 0 (by decide) (Nat.le_of_ble_eq_true rfl) rfl rfl ixX10 6 (by decide) rfl wd_242 rfl dX10_feed_1 ?_
  refine cg C hH 5 2 (by decide) (Nat.le_of_ble_eq_true rfl) rfl rfl ixX8 1 (by decide) rfl wd_189 rfl dX10_feed_4 ?_
  refine lv_bipush (v := 20) hx hb dX10_feed_7 (by decide) ?_
  refine lv_iadd hx hb dX10_feed_9 ?_
  refine lv_sipush (v := 200) hx hb dX10_feed_10 (by decide) ?_
  refine lv_icmp_le (tgt := 19) hx hb dX10_feed_13 (by decide) (fun c1 => ?_) (fun c1 => ?_)
  · have hw := ifp c1 hw
    refine lv_aload_n hx hb dX10_feed_19 rfl (lv_at hl 0 rfl) ?_
    refine cg C hH 5 0 (by decide) (Nat.le_of_ble_eq_true rfl) rfl rfl ixX10 6 (by decide) rfl wd_242 rfl dX10_feed_20 ?_
    refine lv_iload_n hx hb dX10_feed_23 rfl (lv_at hl 1 rfl) ?_
    refine ccVv0 C hH (crecv C hH 5 2 (by decide) (Nat.le_of_ble_eq_true rfl) rfl rfl (q := (RX8, TX8, 2))) [.int a1] (c_Tape_addBytes l D Z E ad t a1 _ hw) (cwTV 1 hts wd_487 wd_488 wd_489 wd_11 wd_490 rfl rfl (by decide +kernel) ⟨Nat.le_of_ble_eq_true rfl, Nat.le_of_ble_eq_true rfl⟩) rfl hl.1 rfl (Nat.le_of_ble_eq_true rfl) dX10_feed_24 ⟨Nat.zero_le _, Nat.zero_le _⟩ (fun  t2 H locs hw hH => ?_)
    refine lv_aload_n hx hb dX10_feed_27 rfl (lv_at hl 0 rfl) ?_
    refine cg C hH 5 0 (by decide) (Nat.le_of_ble_eq_true rfl) rfl rfl ixX10 6 (by decide) rfl wd_242 rfl dX10_feed_28 ?_
    refine lv_iload_n hx hb dX10_feed_31 rfl (lv_at hl 2 rfl) ?_
    refine ccVv0 C hH (crecv C hH 5 2 (by decide) (Nat.le_of_ble_eq_true rfl) rfl rfl (q := (RX8, TX8, 2))) [.int a2] (c_Tape_addBytes l D Z E ad t2 a2 _ hw) (cwTV 1 hts wd_487 wd_488 wd_489 wd_11 wd_490 rfl rfl (by decide +kernel) ⟨Nat.le_of_ble_eq_true rfl, Nat.le_of_ble_eq_true rfl⟩) rfl hl.1 rfl (Nat.le_of_ble_eq_true rfl) dX10_feed_32 ⟨Nat.zero_le _, Nat.zero_le _⟩ (fun  t3 H locs hw hH => ?_)
    refine lv_aload_n hx hb dX10_feed_35 rfl (lv_at hl 0 rfl) ?_
    refine cg C hH 5 0 (by decide) (Nat.le_of_ble_eq_true rfl) rfl rfl ixX10 6 (by decide) rfl wd_242 rfl dX10_feed_36 ?_
    refine lv_iload_n hx hb dX10_feed_39 rfl (lv_at hl 3 rfl) ?_
    refine ccVv0 C hH (crecv C hH 5 2 (by decide) (Nat.le_of_ble_eq_true rfl) rfl rfl (q := (RX8, TX8, 2))) [.int a3] (c_Tape_addBytes l D Z E ad t3 a3 _ hw) (cwTV 1 hts wd_487 wd_488 wd_489 wd_11 wd_490 rfl rfl (by decide +kernel) ⟨Nat.le_of_ble_eq_true rfl, Nat.le_of_ble_eq_true rfl⟩) rfl hl.1 rfl (Nat.le_of_ble_eq_true rfl) dX10_feed_40 ⟨Nat.zero_le _, Nat.zero_le _⟩ (fun  t4 H locs hw hH => ?_)
    refine lv_aload_n hx hb dX10_feed_43 rfl (lv_at hl 0 rfl) ?_
    refine cg C hH 5 0 (by decide) (Nat.le_of_ble_eq_true rfl) rfl rfl ixX10 6 (by decide) rfl wd_242 rfl dX10_feed_44 ?_
    refine lv_iload hx hb dX10_feed_47 (lv_at hl 4 rfl) ?_
    refine ccVv0 C hH (crecv C hH 5 2 (by decide) (Nat.le_of_ble_eq_true rfl) rfl rfl (q := (RX8, TX8, 2))) [.int a4] (c_Tape_addBytes l D Z E ad t4 a4 _ hw) (cwTV 1 hts wd_487 wd_488 wd_489 wd_11 wd_490 rfl rfl (by decide +kernel) ⟨Nat.le_of_ble_eq_true rfl, Nat.le_of_ble_eq_true rfl⟩) rfl hl.1 rfl (Nat.le_of_ble_eq_true rfl) dX10_feed_49 ⟨Nat.zero_le _, Nat.zero_le _⟩ (fun  t5 H locs hw hH => ?_)
    refine lv_aload_n hx hb dX10_feed_52 rfl (lv_at hl 0 rfl) ?_
    refine cg C hH 5 0 (by decide) (Nat.le_of_ble_eq_true rfl) rfl rfl ixX10 6 (by decide) rfl wd_242 rfl dX10_feed_53 ?_
    refine lv_iload hx hb dX10_feed_56 (lv_at hl 5 rfl) ?_
    refine ccVv0 C hH (crecv C hH 5 2 (by decide) (Nat.le_of_ble_eq_true rfl) rfl rfl (q := (RX8, TX8, 2))) [.int a5] (c_Tape_addBytes l D Z E ad t5 a5 _ hw) (cwTV 1 hts wd_487 wd_488 wd_489 wd_11 wd_490 rfl rfl (by decide +kernel) ⟨Nat.le_of_ble_eq_true rfl, Nat.le_of_ble_eq_true rfl⟩) rfl hl.1 rfl (Nat.le_of_ble_eq_true rfl) dX10_feed_58 ⟨Nat.zero_le _, Nat.zero_le _⟩ (fun  t6 H locs hw hH => ?_)
    refine lv_aload_n hx hb dX10_feed_61 rfl (lv_at hl 0 rfl) ?_
    refine cg C hH 5 0 (by decide) (Nat.le_of_ble_eq_true rfl) rfl rfl ixX10 6 (by decide) rfl wd_242 rfl dX10_feed_62 ?_
    refine cg C hH 5 2 (by decide) (Nat.le_of_ble_eq_true rfl) rfl rfl ixX8 1 (by decide) rfl wd_189 rfl dX10_feed_65 ?_
    exact cri C hr hk hH (Nat.zero_le _) (Nat.zero_le _) hw dX10_feed_68
  · have hw := ifn c1 hw
    refine lv_bipush (v := -3) hx hb dX10_feed_16 (by decide) ?_
    exact cri C hr hk hH (Nat.zero_le _) (Nat.zero_le _) hw dX10_feed_18
/-! PorterTurns.end -/
abbrev rm_C_end : Room := { frames := 1, cells := 0, slots := 0, locals := 22 }
def wp_C_end (t : CS) (a1 : Int32) (post : Int32 → CS → Prop) : Prop := wp_C_within t a1 (0 : Int32) (tF t 161 2) (fun r2 t1 => if r2 = 0 then (post (-1 : Int32) t1) else (∀ t4 : CS, t4 = sF t1 161 2 a1 → (post a1 t4)))
set_option maxHeartbeats 4000000 in
set_option maxRecDepth 100000 in
theorem c_C_end (l : Launch) (D : va_G) (Z : Nat → ClassId) (E : Nat → Nat) (ad : Nat → Nat → Nat) (t : CS) (a1 : Int32) (post : Int32 → CS → Prop) (hw : wp_C_end t a1 post) (L : List Nat) (sz : Nat) : Met l yX10_end (Wd yX10_end cX10_end 2 (some .int)) rm_C_end (va_Pc [.ref (ad 5 0), .int a1] (cPre D Z E ad L sz t)) (va_Qi post (cPost D Z E ad (cAs L sz)) (cAs L sz)) 0 0 (cAs L sz) := by
  refine cMet (Qc := fun A => va_Qi post (cPost D Z E ad A) A) (by decide) rfl _ (Nat.le_of_ble_eq_true rfl) (fun p e s m args below meth c A C hr hk ls hl hH => ?_) L sz
  obtain ⟨⟨hx, hb, hml, hown, hts⟩, hK⟩ := id C
  have hl : lv_has ls 2 [(0, .ref (ad 5 0)), (1, .int a1)] := hl
  unfold wp_C_end at hw
  refine lv_iload_n hx hb dX10_end_0 rfl (lv_at hl 1 rfl) ?_
  refine lv_iconst (v := 0) hx hb dX10_end_1 (by decide) ?_
  refine lv_aload_n hx hb dX10_end_2 rfl (lv_at hl 0 rfl) ?_
  refine cg C hH 5 0 (by decide) (Nat.le_of_ble_eq_true rfl) rfl rfl ixX10 6 (by decide) rfl wd_242 rfl dX10_end_3 ?_
  refine cg C hH 5 2 (by decide) (Nat.le_of_ble_eq_true rfl) rfl rfl ixX8 1 (by decide) rfl wd_189 rfl dX10_end_6 ?_
  refine ccSi0 C hH [.int a1, .int (0 : Int32), .int (tF t 161 2)] (c_C_within l D Z E ad t a1 (0 : Int32) (tF t 161 2) _ hw) (cwTS 3 hts wd_280 wd_281 wd_1 wd_282 rfl rfl (by decide +kernel) ⟨Nat.le_of_ble_eq_true rfl, Nat.le_of_ble_eq_true rfl⟩) rfl hl.1 rfl (Nat.le_of_ble_eq_true rfl) dX10_end_9 ⟨Nat.zero_le _, Nat.zero_le _⟩ (fun r2 t1 H locs hw hH => ?_)
  refine lv_if_ne (tgt := 17) hx hb dX10_end_12 (by decide) (fun c3 => ?_) (fun c3 => ?_)
  · have hw := ifn c3 hw
    refine lv_aload_n hx hb dX10_end_17 rfl (lv_at hl 0 rfl) ?_
    refine cg C hH 5 0 (by decide) (Nat.le_of_ble_eq_true rfl) rfl rfl ixX10 6 (by decide) rfl wd_242 rfl dX10_end_18 ?_
    refine lv_iload_n hx hb dX10_end_21 rfl (lv_at hl 1 rfl) ?_
    refine cp C hH 5 2 161 (by decide) (Nat.le_of_ble_eq_true rfl) rfl rfl ixX8 tyX8_ok nmX8 1 (by decide) (by decide) rfl rfl wd_189 pfI rfl rfl (Nat.le_of_ble_eq_true rfl) (hs_161_Tape Z ad t1 _) dX10_end_22 (fun H locs hH => ?_)
    obtain ⟨t4, et4⟩ : ∃ x : CS, x = sF t1 161 2 a1 := ⟨_, rfl⟩
    rw [← et4] at hH
    have hw := hw t4 et4
    refine lv_iload_n hx hb dX10_end_25 rfl (lv_at hl 1 rfl) ?_
    exact cri C hr hk hH (Nat.zero_le _) (Nat.zero_le _) hw dX10_end_26
  · have hw := ifp c3 hw
    refine lv_iconst (v := -1) hx hb dX10_end_15 (by decide) ?_
    exact cri C hr hk hH (Nat.zero_le _) (Nat.zero_le _) hw dX10_end_16
/-! PorterTurns.isUse -/
abbrev rm_C_isUse : Room := { frames := 1, cells := 0, slots := 0, locals := 22 }
def wp_C_isUse (t : CS) (a1 : Int32) (post : Int32 → CS → Prop) : Prop := wp_C_within t a1 (0 : Int32) (4 : Int32) (fun r2 t1 => bz r2 ∧ post r2 t1)
set_option maxHeartbeats 4000000 in
set_option maxRecDepth 100000 in
theorem c_C_isUse (l : Launch) (D : va_G) (Z : Nat → ClassId) (E : Nat → Nat) (ad : Nat → Nat → Nat) (t : CS) (a1 : Int32) (post : Int32 → CS → Prop) (hw : wp_C_isUse t a1 post) (L : List Nat) (sz : Nat) : Met l yX10_isUse (Wd yX10_isUse cX10_isUse 1 (some .boolean)) rm_C_isUse (va_Pc [.int a1] (cPre D Z E ad L sz t)) (va_Qi post (cPost D Z E ad (cAs L sz)) (cAs L sz)) 0 0 (cAs L sz) := by
  refine cMet (Qc := fun A => va_Qi post (cPost D Z E ad A) A) (by decide) rfl _ (Nat.le_of_ble_eq_true rfl) (fun p e s m args below meth c A C hr hk ls hl hH => ?_) L sz
  obtain ⟨⟨hx, hb, hml, hown, hts⟩, hK⟩ := id C
  have hl : lv_has ls 1 [(0, .int a1)] := hl
  unfold wp_C_isUse at hw
  refine lv_iload_n hx hb dX10_isUse_0 rfl (lv_at hl 0 rfl) ?_
  refine lv_iconst (v := 0) hx hb dX10_isUse_1 (by decide) ?_
  refine lv_iconst (v := 4) hx hb dX10_isUse_2 (by decide) ?_
  refine ccSi0 C hH [.int a1, .int (0 : Int32), .int (4 : Int32)] (c_C_within l D Z E ad t a1 (0 : Int32) (4 : Int32) _ hw) (cwTS 3 hts wd_280 wd_281 wd_1 wd_282 rfl rfl (by decide +kernel) ⟨Nat.le_of_ble_eq_true rfl, Nat.le_of_ble_eq_true rfl⟩) rfl hl.1 rfl (Nat.le_of_ble_eq_true rfl) dX10_isUse_3 ⟨Nat.zero_le _, Nat.zero_le _⟩ (fun r2 t1 H locs hw hH => ?_)
  exact crz C hr hk hH (Nat.zero_le _) (Nat.zero_le _) hw.1 hw.2 dX10_isUse_6
/-! PorterTurns.isDay -/
abbrev rm_C_isDay : Room := { frames := 1, cells := 0, slots := 0, locals := 22 }
def wp_C_isDay (t : CS) (a1 : Int32) (post : Int32 → CS → Prop) : Prop := wp_C_within t a1 (0 : Int32) (166 : Int32) (fun r2 t1 => bz r2 ∧ post r2 t1)
set_option maxHeartbeats 4000000 in
set_option maxRecDepth 100000 in
theorem c_C_isDay (l : Launch) (D : va_G) (Z : Nat → ClassId) (E : Nat → Nat) (ad : Nat → Nat → Nat) (t : CS) (a1 : Int32) (post : Int32 → CS → Prop) (hw : wp_C_isDay t a1 post) (L : List Nat) (sz : Nat) : Met l yX10_isDay (Wd yX10_isDay cX10_isDay 1 (some .boolean)) rm_C_isDay (va_Pc [.int a1] (cPre D Z E ad L sz t)) (va_Qi post (cPost D Z E ad (cAs L sz)) (cAs L sz)) 0 0 (cAs L sz) := by
  refine cMet (Qc := fun A => va_Qi post (cPost D Z E ad A) A) (by decide) rfl _ (Nat.le_of_ble_eq_true rfl) (fun p e s m args below meth c A C hr hk ls hl hH => ?_) L sz
  obtain ⟨⟨hx, hb, hml, hown, hts⟩, hK⟩ := id C
  have hl : lv_has ls 1 [(0, .int a1)] := hl
  unfold wp_C_isDay at hw
  refine lv_iload_n hx hb dX10_isDay_0 rfl (lv_at hl 0 rfl) ?_
  refine lv_iconst (v := 0) hx hb dX10_isDay_1 (by decide) ?_
  refine lv_sipush (v := 166) hx hb dX10_isDay_2 (by decide) ?_
  refine ccSi0 C hH [.int a1, .int (0 : Int32), .int (166 : Int32)] (c_C_within l D Z E ad t a1 (0 : Int32) (166 : Int32) _ hw) (cwTS 3 hts wd_280 wd_281 wd_1 wd_282 rfl rfl (by decide +kernel) ⟨Nat.le_of_ble_eq_true rfl, Nat.le_of_ble_eq_true rfl⟩) rfl hl.1 rfl (Nat.le_of_ble_eq_true rfl) dX10_isDay_5 ⟨Nat.zero_le _, Nat.zero_le _⟩ (fun r2 t1 H locs hw hH => ?_)
  exact crz C hr hk hH (Nat.zero_le _) (Nat.zero_le _) hw.1 hw.2 dX10_isDay_8
/-! PorterTurns.lawKnown -/
abbrev rm_C_lawKnown : Room := { frames := 3, cells := 0, slots := 0, locals := 81 }
def wp_C_lawKnown_70 (k11 : CS → Int32 → Int32 → Int32 → Int32 → Int32 → Prop) (post : Option Nat → CS → Prop) (t : CS) (x1_ : Int32) (x2_ : Int32) (x3_ : Int32) (x4_ : Int32) (x5_ : Int32) : Prop := ∀ x1 : Int32, x1 = x5_ + (-1 : Int32) → (k11 t x1_ x2_ x3_ x4_ x1)
set_option maxHeartbeats 4000000 in
set_option maxRecDepth 100000 in
theorem b_C_lawKnown_70 {p : Program} {l : Launch} {e : Env} {s : State} {m : MethodId} {args : Array Value} {below : List Frame} {meth : Method} {c : Code} {D : va_G} {Z : Nat → ClassId} {E : Nat → Nat} {ad : Nat → Nat → Nat} {A : Nat → Prop} (C : CC p s m args c cX10_lawKnown 7 RX10 D Z E A) (hr : meth.sig.returnType = some (.object "PorterTurns$Law")) (hk : meth.locks = false) {post : Option Nat → CS → Prop} {k11 : CS → Int32 → Int32 → Int32 → Int32 → Int32 → Prop} (hk11 : ∀ (t : CS) (y1 : Int32) (y2 : Int32) (y3 : Int32) (y4 : Int32) (y5 : Int32), k11 t y1 y2 y3 y4 y5 → ∀ (H : Heap) (locs : List Loc) (ls : Array Slot), CH D Z E ad A s.heap t H locs → lv_has ls 7 [(0, .ref (ad 5 0)), (1, .int y1), (2, .int y2), (3, .int y3), (4, .int y4), (5, .int y5)] → CWq 1 p l e rm_C_lawKnown s m args below meth c D Z E ad A 0 0 post H locs 0 0 (F0 m 11 ls [])) : ∀ (t : CS) (x1_ : Int32) (x2_ : Int32) (x3_ : Int32) (x4_ : Int32) (x5_ : Int32), wp_C_lawKnown_70 k11 post t x1_ x2_ x3_ x4_ x5_ → ∀ (H : Heap) (locs : List Loc) (ls : Array Slot), CH D Z E ad A s.heap t H locs → lv_has ls 7 [(0, .ref (ad 5 0)), (1, .int x1_), (2, .int x2_), (3, .int x3_), (4, .int x4_), (5, .int x5_)] → CWq 1 p l e rm_C_lawKnown s m args below meth c D Z E ad A 0 0 post H locs 0 0 (F0 m 70 ls []) := by
  obtain ⟨⟨hx, hb, hml, hown, hts⟩, hK⟩ := id C
  intro t x1_ x2_ x3_ x4_ x5_ hw H locs ls hH hl
  unfold wp_C_lawKnown_70 at hw
  obtain ⟨x1, ex1⟩ : ∃ y : Int32, y = x5_ + (-1 : Int32) := ⟨_, rfl⟩
  have hw := hw x1 ex1
  refine lv_iinc (v := x1) (lv' := [(5, .int x1), (0, .ref (ad 5 0)), (1, .int x1_), (2, .int x2_), (3, .int x3_), (4, .int x4_)]) hx hb dX10_lawKnown_70 hl (k := 5) rfl (by rw [ex1]; rfl) (by decide) rfl (fun ls hl => ?_)
  refine lv_goto (tgt := 11) hx hb dX10_lawKnown_73 (by decide) ?_
  exact hk11 t x1_ x2_ x3_ x4_ x1 hw _ _ _ hH (lv_sub hl [1, 2, 3, 4, 5, 0] rfl)
def wp_C_lawKnown_11 (post : Option Nat → CS → Prop) : Nat → CS → Int32 → Int32 → Int32 → Int32 → Int32 → Prop
  | 0 => fun _ _ _ _ _ _ => False
  | n + 1 => fun t x1_ x2_ x3_ x4_ x5_ => if x5_ < 0 then (post none t) else (vp_in x5_ (tT t 3).length ∧ ((tT t 3).length < 2 ^ 31 ∧ (∀ j5 : Nat, j5 = ((tT t 3).getD x5_.toNatClampNeg 0) → (j5 < tN t 1 ∧ (if (tF t 33 j5) = x1_ then (if (tF t 34 j5) = x2_ then (if x4_ < (tF t 35 j5) then (wp_C_lawKnown_70 (wp_C_lawKnown_11 post n) post t x1_ x2_ x3_ x4_ x5_) else (if x3_ < (tF t 36 j5) then (wp_C_lawKnown_70 (wp_C_lawKnown_11 post n) post t x1_ x2_ x3_ x4_ x5_) else (post (some j5) t))) else (wp_C_lawKnown_70 (wp_C_lawKnown_11 post n) post t x1_ x2_ x3_ x4_ x5_)) else (wp_C_lawKnown_70 (wp_C_lawKnown_11 post n) post t x1_ x2_ x3_ x4_ x5_))))))
set_option maxHeartbeats 4000000 in
set_option maxRecDepth 100000 in
theorem b_C_lawKnown_11 {p : Program} {l : Launch} {e : Env} {s : State} {m : MethodId} {args : Array Value} {below : List Frame} {meth : Method} {c : Code} {D : va_G} {Z : Nat → ClassId} {E : Nat → Nat} {ad : Nat → Nat → Nat} {A : Nat → Prop} (C : CC p s m args c cX10_lawKnown 7 RX10 D Z E A) (hr : meth.sig.returnType = some (.object "PorterTurns$Law")) (hk : meth.locks = false) {post : Option Nat → CS → Prop} : ∀ (n : Nat) (t : CS) (x1_ : Int32) (x2_ : Int32) (x3_ : Int32) (x4_ : Int32) (x5_ : Int32), wp_C_lawKnown_11 post n t x1_ x2_ x3_ x4_ x5_ → ∀ (H : Heap) (locs : List Loc) (ls : Array Slot), CH D Z E ad A s.heap t H locs → lv_has ls 7 [(0, .ref (ad 5 0)), (1, .int x1_), (2, .int x2_), (3, .int x3_), (4, .int x4_), (5, .int x5_)] → CWq 1 p l e rm_C_lawKnown s m args below meth c D Z E ad A 0 0 post H locs 0 0 (F0 m 11 ls []) := by
  obtain ⟨⟨hx, hb, hml, hown, hts⟩, hK⟩ := id C
  intro n
  induction n with
  | zero => intro t x1_ x2_ x3_ x4_ x5_ hw; exact hw.elim
  | succ n ih =>
    intro t x1_ x2_ x3_ x4_ x5_ hw H locs ls hH hl
    unfold wp_C_lawKnown_11 at hw
    refine lv_iload hx hb dX10_lawKnown_11 (lv_at hl 5 rfl) ?_
    refine lv_if_lt (tgt := 76) hx hb dX10_lawKnown_13 (by decide) (fun c2 => ?_) (fun c2 => ?_)
    · have hw := ifp c2 hw
      refine lv_null hx hb dX10_lawKnown_76 ?_
      exact crq 1 C hr hk hH (Nat.zero_le _) (Nat.zero_le _) (o := none) hw dX10_lawKnown_77
    · have hw := ifn c2 hw
      refine lv_aload_n hx hb dX10_lawKnown_16 rfl (lv_at hl 0 rfl) ?_
      refine cg C hH 5 0 (by decide) (Nat.le_of_ble_eq_true rfl) rfl rfl ixX10 3 (by decide) rfl wd_239 rfl dX10_lawKnown_17 ?_
      refine lv_iload hx hb dX10_lawKnown_20 (lv_at hl 5 rfl) ?_
      obtain ⟨h3, hw⟩ := hw
      obtain ⟨h4, hw⟩ := hw
      refine lGet C hH 3 (Nat.lt_of_lt_of_le (show 3 < 11 by decide) (Nat.le_add_left _ _)) h3 h4 wd_320 hl.1 (Nat.le_of_ble_eq_true rfl) dX10_lawKnown_22 ⟨Nat.zero_le _, Nat.zero_le _⟩ ⟨Nat.le_of_ble_eq_true rfl, Nat.le_of_ble_eq_true rfl⟩ (fun H locs hH => ?_)
      obtain ⟨j5, ej5⟩ : ∃ x : Nat, x = ((tT t 3).getD x5_.toNatClampNeg 0) := ⟨_, rfl⟩
      rw [← ej5]
      have hw := hw j5 ej5
      obtain ⟨h6, hw⟩ := hw
      refine cCast C hH 1 j5 (by decide) h6 rfl rfl wd_634 dX10_lawKnown_25 ?_
      refine lv_astore (lv' := [(6, .ref (ad 1 j5)), (0, .ref (ad 5 0)), (1, .int x1_), (2, .int x2_), (3, .int x3_), (4, .int x4_), (5, .int x5_)]) hx hb dX10_lawKnown_28 hl (by decide) rfl (fun ls hl => ?_)
      refine lv_aload hx hb dX10_lawKnown_30 (lv_at hl 0 rfl) ?_
      refine cg C hH 1 j5 (by decide) h6 rfl rfl ixX1 1 (by decide) rfl wd_663 rfl dX10_lawKnown_32 ?_
      refine lv_iload_n hx hb dX10_lawKnown_35 rfl (lv_at hl 2 rfl) ?_
      refine lv_icmp_ne (tgt := 70) hx hb dX10_lawKnown_36 (by decide) (fun c7 => ?_) (fun c7 => ?_)
      · have hw := ifn c7 hw
        exact b_C_lawKnown_70 C hr hk ih t x1_ x2_ x3_ x4_ x5_ hw _ _ _ hH (lv_sub hl [1, 2, 3, 4, 5, 6] rfl)
      · have hw := ifp c7 hw
        refine lv_aload hx hb dX10_lawKnown_39 (lv_at hl 0 rfl) ?_
        refine cg C hH 1 j5 (by decide) h6 rfl rfl ixX1 2 (by decide) rfl wd_665 rfl dX10_lawKnown_41 ?_
        refine lv_iload_n hx hb dX10_lawKnown_44 rfl (lv_at hl 3 rfl) ?_
        refine lv_icmp_ne (tgt := 70) hx hb dX10_lawKnown_45 (by decide) (fun c8 => ?_) (fun c8 => ?_)
        · have hw := ifn c8 hw
          exact b_C_lawKnown_70 C hr hk ih t x1_ x2_ x3_ x4_ x5_ hw _ _ _ hH (lv_sub hl [1, 2, 3, 4, 5, 6] rfl)
        · have hw := ifp c8 hw
          refine lv_aload hx hb dX10_lawKnown_48 (lv_at hl 0 rfl) ?_
          refine cg C hH 1 j5 (by decide) h6 rfl rfl ixX1 3 (by decide) rfl wd_667 rfl dX10_lawKnown_50 ?_
          refine lv_iload hx hb dX10_lawKnown_53 (lv_at hl 5 rfl) ?_
          refine lv_icmp_gt (tgt := 70) hx hb dX10_lawKnown_55 (by decide) (fun c9 => ?_) (fun c9 => ?_)
          · have hw := ifp c9 hw
            exact b_C_lawKnown_70 C hr hk ih t x1_ x2_ x3_ x4_ x5_ hw _ _ _ hH (lv_sub hl [1, 2, 3, 4, 5, 6] rfl)
          · have hw := ifn c9 hw
            refine lv_aload hx hb dX10_lawKnown_58 (lv_at hl 0 rfl) ?_
            refine cg C hH 1 j5 (by decide) h6 rfl rfl ixX1 4 (by decide) rfl wd_669 rfl dX10_lawKnown_60 ?_
            refine lv_iload_n hx hb dX10_lawKnown_63 rfl (lv_at hl 4 rfl) ?_
            refine lv_icmp_gt (tgt := 70) hx hb dX10_lawKnown_64 (by decide) (fun c10 => ?_) (fun c10 => ?_)
            · have hw := ifp c10 hw
              exact b_C_lawKnown_70 C hr hk ih t x1_ x2_ x3_ x4_ x5_ hw _ _ _ hH (lv_sub hl [1, 2, 3, 4, 5, 6] rfl)
            · have hw := ifn c10 hw
              refine lv_aload hx hb dX10_lawKnown_67 (lv_at hl 0 rfl) ?_
              exact crq 1 C hr hk hH (Nat.zero_le _) (Nat.zero_le _) (o := (some j5)) hw dX10_lawKnown_69
def wp_C_lawKnown (t : CS) (a1 : Int32) (a2 : Int32) (a3 : Int32) (a4 : Int32) (post : Option Nat → CS → Prop) : Prop := ∀ x11 : Int32, x11 = ((nI (tT t 3).length) - (1 : Int32)) → (∃ nn : Nat, wp_C_lawKnown_11 post nn t a1 a2 a3 a4 x11)
set_option maxHeartbeats 4000000 in
set_option maxRecDepth 100000 in
theorem c_C_lawKnown (l : Launch) (D : va_G) (Z : Nat → ClassId) (E : Nat → Nat) (ad : Nat → Nat → Nat) (t : CS) (a1 : Int32) (a2 : Int32) (a3 : Int32) (a4 : Int32) (post : Option Nat → CS → Prop) (hw : wp_C_lawKnown t a1 a2 a3 a4 post) (L : List Nat) (sz : Nat) : Met l yX10_lawKnown (Wd yX10_lawKnown cX10_lawKnown 7 (some (.object "PorterTurns$Law"))) rm_C_lawKnown (va_Pc [.ref (ad 5 0), .int a1, .int a2, .int a3, .int a4] (cPre D Z E ad L sz t)) (va_Qq (oQ 1 ad post) (cPost D Z E ad (cAs L sz)) (cAs L sz)) 0 0 (cAs L sz) := by
  refine cMet (Qc := fun A => va_Qq (oQ 1 ad post) (cPost D Z E ad A) A) (by decide) rfl _ (Nat.le_of_ble_eq_true rfl) (fun p e s m args below meth c A C hr hk ls hl hH => ?_) L sz
  obtain ⟨⟨hx, hb, hml, hown, hts⟩, hK⟩ := id C
  have hl : lv_has ls 7 [(0, .ref (ad 5 0)), (1, .int a1), (2, .int a2), (3, .int a3), (4, .int a4)] := hl
  unfold wp_C_lawKnown at hw
  refine lv_aload_n hx hb dX10_lawKnown_0 rfl (lv_at hl 0 rfl) ?_
  refine cg C hH 5 0 (by decide) (Nat.le_of_ble_eq_true rfl) rfl rfl ixX10 3 (by decide) rfl wd_239 rfl dX10_lawKnown_1 ?_
  refine lSize C hH 3 (Nat.lt_of_lt_of_le (show 3 < 11 by decide) (Nat.le_add_left _ _)) wd_283 hl.1 (Nat.le_of_ble_eq_true rfl) dX10_lawKnown_4 ⟨Nat.zero_le _, Nat.zero_le _⟩ ⟨Nat.le_of_ble_eq_true rfl, Nat.le_of_ble_eq_true rfl⟩ (fun H locs hH => ?_)
  refine lv_iconst (v := 1) hx hb dX10_lawKnown_7 (by decide) ?_
  refine lv_isub hx hb dX10_lawKnown_8 ?_
  refine lv_topi (fun x11 ex11 => ?_)
  have hw := hw x11 ex11
  refine lv_istore (lv' := [(5, .int x11), (0, .ref (ad 5 0)), (1, .int a1), (2, .int a2), (3, .int a3), (4, .int a4)]) hx hb dX10_lawKnown_9 hl (by decide) rfl (fun ls hl => ?_)
  obtain ⟨nn, hw⟩ := hw
  exact b_C_lawKnown_11 C hr hk  nn t a1 a2 a3 a4 x11 hw _ _ _ hH (lv_sub hl [1, 2, 3, 4, 5, 0] rfl)
/-! PorterTurns.inForce -/
abbrev rm_C_inForce : Room := { frames := 4, cells := 0, slots := 0, locals := 107 }
def wp_C_inForce (t : CS) (a1 : Int32) (a2 : Int32) (a3 : Int32) (a4 : Int32) (post : Int32 → CS → Prop) : Prop := wp_C_fellowshipAt t a1 (fun o2 t1 => oM o2 (post (-1 : Int32) t1) (fun j3 => wp_C_isUse t1 a2 (fun r5 t4 => if r5 = 0 then (post (-1 : Int32) t4) else (wp_C_isDay t4 a3 (fun r8 t7 => if r8 = 0 then (post (-1 : Int32) t7) else (wp_C_isDay t7 a4 (fun r11 t10 => if r11 = 0 then (post (-1 : Int32) t10) else (wp_C_lawKnown t10 a1 a2 a3 a4 (fun o14 t13 => oM o14 (post (-2 : Int32) t13) (fun j15 => j15 < tN t13 1 ∧ (post (nI j15) t13)))))))))))
set_option maxHeartbeats 4000000 in
set_option maxRecDepth 100000 in
theorem c_C_inForce (l : Launch) (D : va_G) (Z : Nat → ClassId) (E : Nat → Nat) (ad : Nat → Nat → Nat) (t : CS) (a1 : Int32) (a2 : Int32) (a3 : Int32) (a4 : Int32) (post : Int32 → CS → Prop) (hw : wp_C_inForce t a1 a2 a3 a4 post) (L : List Nat) (sz : Nat) : Met l yX10_inForce (Wd yX10_inForce cX10_inForce 6 (some .int)) rm_C_inForce (va_Pc [.ref (ad 5 0), .int a1, .int a2, .int a3, .int a4] (cPre D Z E ad L sz t)) (va_Qi post (cPost D Z E ad (cAs L sz)) (cAs L sz)) 0 0 (cAs L sz) := by
  refine cMet (Qc := fun A => va_Qi post (cPost D Z E ad A) A) (by decide) rfl _ (Nat.le_of_ble_eq_true rfl) (fun p e s m args below meth c A C hr hk ls hl hH => ?_) L sz
  obtain ⟨⟨hx, hb, hml, hown, hts⟩, hK⟩ := id C
  have hl : lv_has ls 6 [(0, .ref (ad 5 0)), (1, .int a1), (2, .int a2), (3, .int a3), (4, .int a4)] := hl
  unfold wp_C_inForce at hw
  refine lv_aload_n hx hb dX10_inForce_0 rfl (lv_at hl 0 rfl) ?_
  refine lv_iload_n hx hb dX10_inForce_1 rfl (lv_at hl 1 rfl) ?_
  refine ccVq0 C hH (crecv C hH 5 0 (by decide) (Nat.le_of_ble_eq_true rfl) rfl rfl (q := (RX10, TX10, 13))) [.int a1] (c_C_fellowshipAt l D Z E ad t a1 _ hw) (cwTV 1 hts wd_370 wd_372 ws_5 wd_1 wd_373 rfl rfl (by decide +kernel) ⟨Nat.le_of_ble_eq_true rfl, Nat.le_of_ble_eq_true rfl⟩) rfl hl.1 rfl (Nat.le_of_ble_eq_true rfl) dX10_inForce_2 ⟨Nat.zero_le _, Nat.zero_le _⟩ (fun o2 t1 H locs hw hH => ?_)
  cases o2 with
  | none =>
    have hw := oM_none hw
    have hl : lv_has ls 6 [(0, .ref (ad 5 0)), (1, .int a1), (2, .int a2), (3, .int a3), (4, .int a4)] := hl
    refine lv_ifnullN (tgt := 30) hx hb dX10_inForce_5 (by decide) ?_
    refine lv_iconst (v := -1) hx hb dX10_inForce_30 (by decide) ?_
    exact cri C hr hk hH (Nat.zero_le _) (Nat.zero_le _) hw dX10_inForce_31
  | some j3 =>
    have hw := oM_some hw
    have hl : lv_has ls 6 [(0, .ref (ad 5 0)), (1, .int a1), (2, .int a2), (3, .int a3), (4, .int a4)] := hl
    refine lv_ifnull hx hb dX10_inForce_5 ?_
    refine lv_iload_n hx hb dX10_inForce_8 rfl (lv_at hl 2 rfl) ?_
    refine ccSi0 C hH [.int a2] (c_C_isUse l D Z E ad t1 a2 _ hw) (cwTS 1 hts wd_499 wd_500 wd_1 wd_501 rfl rfl (by decide +kernel) ⟨Nat.le_of_ble_eq_true rfl, Nat.le_of_ble_eq_true rfl⟩) rfl hl.1 rfl (Nat.le_of_ble_eq_true rfl) dX10_inForce_9 ⟨Nat.zero_le _, Nat.zero_le _⟩ (fun r5 t4 H locs hw hH => ?_)
    refine lv_if_eq (tgt := 30) hx hb dX10_inForce_12 (by decide) (fun c6 => ?_) (fun c6 => ?_)
    · have hw := ifp c6 hw
      refine lv_iconst (v := -1) hx hb dX10_inForce_30 (by decide) ?_
      exact cri C hr hk hH (Nat.zero_le _) (Nat.zero_le _) hw dX10_inForce_31
    · have hw := ifn c6 hw
      refine lv_iload_n hx hb dX10_inForce_15 rfl (lv_at hl 3 rfl) ?_
      refine ccSi0 C hH [.int a3] (c_C_isDay l D Z E ad t4 a3 _ hw) (cwTS 1 hts wd_502 wd_503 wd_1 wd_504 rfl rfl (by decide +kernel) ⟨Nat.le_of_ble_eq_true rfl, Nat.le_of_ble_eq_true rfl⟩) rfl hl.1 rfl (Nat.le_of_ble_eq_true rfl) dX10_inForce_16 ⟨Nat.zero_le _, Nat.zero_le _⟩ (fun r8 t7 H locs hw hH => ?_)
      refine lv_if_eq (tgt := 30) hx hb dX10_inForce_19 (by decide) (fun c9 => ?_) (fun c9 => ?_)
      · have hw := ifp c9 hw
        refine lv_iconst (v := -1) hx hb dX10_inForce_30 (by decide) ?_
        exact cri C hr hk hH (Nat.zero_le _) (Nat.zero_le _) hw dX10_inForce_31
      · have hw := ifn c9 hw
        refine lv_iload hx hb dX10_inForce_22 (lv_at hl 4 rfl) ?_
        refine ccSi0 C hH [.int a4] (c_C_isDay l D Z E ad t7 a4 _ hw) (cwTS 1 hts wd_502 wd_503 wd_1 wd_504 rfl rfl (by decide +kernel) ⟨Nat.le_of_ble_eq_true rfl, Nat.le_of_ble_eq_true rfl⟩) rfl hl.1 rfl (Nat.le_of_ble_eq_true rfl) dX10_inForce_24 ⟨Nat.zero_le _, Nat.zero_le _⟩ (fun r11 t10 H locs hw hH => ?_)
        refine lv_if_ne (tgt := 32) hx hb dX10_inForce_27 (by decide) (fun c12 => ?_) (fun c12 => ?_)
        · have hw := ifn c12 hw
          refine lv_aload_n hx hb dX10_inForce_32 rfl (lv_at hl 0 rfl) ?_
          refine lv_iload_n hx hb dX10_inForce_33 rfl (lv_at hl 1 rfl) ?_
          refine lv_iload_n hx hb dX10_inForce_34 rfl (lv_at hl 2 rfl) ?_
          refine lv_iload_n hx hb dX10_inForce_35 rfl (lv_at hl 3 rfl) ?_
          refine lv_iload hx hb dX10_inForce_36 (lv_at hl 4 rfl) ?_
          refine ccVq0 C hH (crecv C hH 5 0 (by decide) (Nat.le_of_ble_eq_true rfl) rfl rfl (q := (RX10, TX10, 13))) [.int a1, .int a2, .int a3, .int a4] (c_C_lawKnown l D Z E ad t10 a1 a2 a3 a4 _ hw) (cwTV 4 hts wd_690 wd_692 ws_21 wd_1 wd_693 rfl rfl (by decide +kernel) ⟨Nat.le_of_ble_eq_true rfl, Nat.le_of_ble_eq_true rfl⟩) rfl hl.1 rfl (Nat.le_of_ble_eq_true rfl) dX10_inForce_38 ⟨Nat.zero_le _, Nat.zero_le _⟩ (fun o14 t13 H locs hw hH => ?_)
          refine lq_astore (lv' := [(5, va_rf (o14.map (ad 1))), (0, .ref (ad 5 0)), (1, .int a1), (2, .int a2), (3, .int a3), (4, .int a4)]) hx hb dX10_inForce_41 hl (by decide) rfl (fun ls hl => ?_)
          refine lq_aload hx hb dX10_inForce_43 (lv_at hl 0 rfl) ?_
          cases o14 with
          | none =>
            have hw := oM_none hw
            have hl : lv_has ls 6 [(5, va_rf (none.map (ad 1))), (0, .ref (ad 5 0)), (1, .int a1), (2, .int a2), (3, .int a3), (4, .int a4)] := hl
            refine lv_ifnonnullN hx hb dX10_inForce_45 ?_
            refine lv_bipush (v := -2) hx hb dX10_inForce_48 (by decide) ?_
            refine lv_goto (tgt := 58) hx hb dX10_inForce_50 (by decide) ?_
            exact cri C hr hk hH (Nat.zero_le _) (Nat.zero_le _) hw dX10_inForce_58
          | some j15 =>
            have hw := oM_some hw
            have hl : lv_has ls 6 [(5, .ref (ad 1 j15)), (0, .ref (ad 5 0)), (1, .int a1), (2, .int a2), (3, .int a3), (4, .int a4)] := hl
            refine lv_ifnonnull (tgt := 53) hx hb dX10_inForce_45 (by decide) ?_
            refine lv_aload hx hb dX10_inForce_53 (lv_at hl 0 rfl) ?_
            obtain ⟨h16, hw⟩ := hw
            refine cg C hH 1 j15 (by decide) h16 rfl rfl ixX1 0 (by decide) rfl wd_661 rfl dX10_inForce_55 ?_
            exact cri C hr hk hH (Nat.zero_le _) (Nat.zero_le _) hw dX10_inForce_58
        · have hw := ifp c12 hw
          refine lv_iconst (v := -1) hx hb dX10_inForce_30 (by decide) ?_
          exact cri C hr hk hH (Nat.zero_le _) (Nat.zero_le _) hw dX10_inForce_31
/-! PorterTurns.loadAt -/
abbrev rm_C_loadAt : Room := { frames := 3, cells := 0, slots := 0, locals := 81 }
def wp_C_loadAt (t : CS) (a1 : Int32) (post : Option Nat → CS → Prop) : Prop := if a1 < 0 then (post none t) else (if (nI (tT t 2).length) ≤ a1 then (post none t) else (vp_in a1 (tT t 2).length ∧ ((tT t 2).length < 2 ^ 31 ∧ (∀ j5 : Nat, j5 = ((tT t 2).getD a1.toNatClampNeg 0) → (j5 < tN t 2 ∧ (post (some j5) t))))))
set_option maxHeartbeats 4000000 in
set_option maxRecDepth 100000 in
theorem c_C_loadAt (l : Launch) (D : va_G) (Z : Nat → ClassId) (E : Nat → Nat) (ad : Nat → Nat → Nat) (t : CS) (a1 : Int32) (post : Option Nat → CS → Prop) (hw : wp_C_loadAt t a1 post) (L : List Nat) (sz : Nat) : Met l yX10_loadAt (Wd yX10_loadAt cX10_loadAt 2 (some (.object "PorterTurns$Load"))) rm_C_loadAt (va_Pc [.ref (ad 5 0), .int a1] (cPre D Z E ad L sz t)) (va_Qq (oQ 2 ad post) (cPost D Z E ad (cAs L sz)) (cAs L sz)) 0 0 (cAs L sz) := by
  refine cMet (Qc := fun A => va_Qq (oQ 2 ad post) (cPost D Z E ad A) A) (by decide) rfl _ (Nat.le_of_ble_eq_true rfl) (fun p e s m args below meth c A C hr hk ls hl hH => ?_) L sz
  obtain ⟨⟨hx, hb, hml, hown, hts⟩, hK⟩ := id C
  have hl : lv_has ls 2 [(0, .ref (ad 5 0)), (1, .int a1)] := hl
  unfold wp_C_loadAt at hw
  refine lv_iload_n hx hb dX10_loadAt_0 rfl (lv_at hl 1 rfl) ?_
  refine lv_if_lt (tgt := 29) hx hb dX10_loadAt_1 (by decide) (fun c1 => ?_) (fun c1 => ?_)
  · have hw := ifp c1 hw
    refine lv_null hx hb dX10_loadAt_29 ?_
    exact crq 2 C hr hk hH (Nat.zero_le _) (Nat.zero_le _) (o := none) hw dX10_loadAt_30
  · have hw := ifn c1 hw
    refine lv_iload_n hx hb dX10_loadAt_4 rfl (lv_at hl 1 rfl) ?_
    refine lv_aload_n hx hb dX10_loadAt_5 rfl (lv_at hl 0 rfl) ?_
    refine cg C hH 5 0 (by decide) (Nat.le_of_ble_eq_true rfl) rfl rfl ixX10 2 (by decide) rfl wd_238 rfl dX10_loadAt_6 ?_
    refine lSize C hH 2 (Nat.lt_of_lt_of_le (show 2 < 11 by decide) (Nat.le_add_left _ _)) wd_283 hl.1 (Nat.le_of_ble_eq_true rfl) dX10_loadAt_9 ⟨Nat.zero_le _, Nat.zero_le _⟩ ⟨Nat.le_of_ble_eq_true rfl, Nat.le_of_ble_eq_true rfl⟩ (fun H locs hH => ?_)
    refine lv_icmp_ge (tgt := 29) hx hb dX10_loadAt_12 (by decide) (fun c2 => ?_) (fun c2 => ?_)
    · have hw := ifp c2 hw
      refine lv_null hx hb dX10_loadAt_29 ?_
      exact crq 2 C hr hk hH (Nat.zero_le _) (Nat.zero_le _) (o := none) hw dX10_loadAt_30
    · have hw := ifn c2 hw
      refine lv_aload_n hx hb dX10_loadAt_15 rfl (lv_at hl 0 rfl) ?_
      refine cg C hH 5 0 (by decide) (Nat.le_of_ble_eq_true rfl) rfl rfl ixX10 2 (by decide) rfl wd_238 rfl dX10_loadAt_16 ?_
      refine lv_iload_n hx hb dX10_loadAt_19 rfl (lv_at hl 1 rfl) ?_
      obtain ⟨h3, hw⟩ := hw
      obtain ⟨h4, hw⟩ := hw
      refine lGet C hH 2 (Nat.lt_of_lt_of_le (show 2 < 11 by decide) (Nat.le_add_left _ _)) h3 h4 wd_320 hl.1 (Nat.le_of_ble_eq_true rfl) dX10_loadAt_20 ⟨Nat.zero_le _, Nat.zero_le _⟩ ⟨Nat.le_of_ble_eq_true rfl, Nat.le_of_ble_eq_true rfl⟩ (fun H locs hH => ?_)
      obtain ⟨j5, ej5⟩ : ∃ x : Nat, x = ((tT t 2).getD a1.toNatClampNeg 0) := ⟨_, rfl⟩
      rw [← ej5]
      have hw := hw j5 ej5
      obtain ⟨h6, hw⟩ := hw
      refine cCast C hH 2 j5 (by decide) h6 rfl rfl wd_702 dX10_loadAt_23 ?_
      refine lv_goto (tgt := 30) hx hb dX10_loadAt_26 (by decide) ?_
      exact crq 2 C hr hk hH (Nat.zero_le _) (Nat.zero_le _) (o := (some j5)) hw dX10_loadAt_30
/-! PorterTurns.today -/
abbrev rm_C_today : Room := { frames := 0, cells := 0, slots := 0, locals := 0 }
def wp_C_today (t : CS) (post : Int32 → CS → Prop) : Prop := post ((tF t 171 0) / (600 : Int32)) t
set_option maxHeartbeats 4000000 in
set_option maxRecDepth 100000 in
theorem c_C_today (l : Launch) (D : va_G) (Z : Nat → ClassId) (E : Nat → Nat) (ad : Nat → Nat → Nat) (t : CS) (post : Int32 → CS → Prop) (hw : wp_C_today t  post) (L : List Nat) (sz : Nat) : Met l yX10_today (Wd yX10_today cX10_today 1 (some .int)) rm_C_today (va_Pc [.ref (ad 5 0)] (cPre D Z E ad L sz t)) (va_Qi post (cPost D Z E ad (cAs L sz)) (cAs L sz)) 0 0 (cAs L sz) := by
  refine cMet (Qc := fun A => va_Qi post (cPost D Z E ad A) A) (by decide) rfl _ (Nat.le_of_ble_eq_true rfl) (fun p e s m args below meth c A C hr hk ls hl hH => ?_) L sz
  obtain ⟨⟨hx, hb, hml, hown, hts⟩, hK⟩ := id C
  have hl : lv_has ls 1 [(0, .ref (ad 5 0))] := hl
  unfold wp_C_today at hw
  refine lv_aload_n hx hb dX10_today_0 rfl (lv_at hl 0 rfl) ?_
  refine cg C hH 5 0 (by decide) (Nat.le_of_ble_eq_true rfl) rfl rfl ixX10 11 (by decide) rfl wd_247 rfl dX10_today_1 ?_
  refine lv_sipush (v := 600) hx hb dX10_today_4 (by decide) ?_
  refine lv_idiv hx hb dX10_today_7 (by decide) ?_
  exact cri C hr hk hH (Nat.zero_le _) (Nat.zero_le _) hw dX10_today_8
/-! PorterTurns.unwritten -/
abbrev rm_C_unwritten : Room := { frames := 0, cells := 0, slots := 0, locals := 0 }
def wp_C_unwritten (t : CS) (a1 : Int32) (a2 : Option Nat) (post : Int32 → CS → Prop) : Prop := if a1 = (1 : Int32) then (oM a2 (post (0 : Int32) t) (fun j2 => j2 < tN t 2 ∧ (post (tF t 66 j2) t))) else (if a1 = (2 : Int32) then (post (1 : Int32) t) else (if a1 = (3 : Int32) then (post (0 : Int32) t) else (if a1 = (4 : Int32) then (post (5 : Int32) t) else (post (0 : Int32) t))))
set_option maxHeartbeats 4000000 in
set_option maxRecDepth 100000 in
theorem c_C_unwritten (l : Launch) (D : va_G) (Z : Nat → ClassId) (E : Nat → Nat) (ad : Nat → Nat → Nat) (t : CS) (a1 : Int32) (a2 : Option Nat) (post : Int32 → CS → Prop) (hw : wp_C_unwritten t a1 a2 post) (L : List Nat) (sz : Nat) : Met l yX10_unwritten (Wd yX10_unwritten cX10_unwritten 2 (some .int)) rm_C_unwritten (va_Pc [.int a1, va_rf (a2.map (ad 2))] (cPre D Z E ad L sz t)) (va_Qi post (cPost D Z E ad (cAs L sz)) (cAs L sz)) 0 0 (cAs L sz) := by
  refine cMet (Qc := fun A => va_Qi post (cPost D Z E ad A) A) (by decide) rfl _ (by cases a2 <;> exact Nat.le_of_ble_eq_true rfl) (fun p e s m args below meth c A C hr hk ls hl hH => ?_) L sz
  obtain ⟨⟨hx, hb, hml, hown, hts⟩, hK⟩ := id C
  have hl : lv_has ls 2 ((0, .int a1) :: lv_args 1 [va_rf (a2.map (ad 2))]) := hl
  rw [lv_args_q] at hl
  have hl : lv_has ls 2 [(0, .int a1), (1, va_rf (a2.map (ad 2)))] := hl
  unfold wp_C_unwritten at hw
  refine lv_iload_n hx hb dX10_unwritten_0 rfl (lv_at hl 0 rfl) ?_
  by_cases c1 : a1 = (1 : Int32)
  · have hw := ifp c1 hw
    refine lv_tableIn (tgt := 32) hx hb dX10_unwritten_1 (by rw [c1]; decide) (by rw [c1]; decide) (by rw [c1]; rfl) (by decide) ?_
    refine lq_aload_n hx hb dX10_unwritten_32 rfl (lv_at hl 1 rfl) ?_
    cases a2 with
    | none =>
      have hw := oM_none hw
      have hl : lv_has ls 2 [(0, .int a1), (1, va_rf (none.map (ad 2)))] := hl
      refine lv_ifnonnullN hx hb dX10_unwritten_33 ?_
      refine lv_iconst (v := 0) hx hb dX10_unwritten_36 (by decide) ?_
      refine lv_goto (tgt := 44) hx hb dX10_unwritten_37 (by decide) ?_
      exact cri C hr hk hH (Nat.zero_le _) (Nat.zero_le _) hw dX10_unwritten_44
    | some j2 =>
      have hw := oM_some hw
      have hl : lv_has ls 2 [(0, .int a1), (1, .ref (ad 2 j2))] := hl
      refine lv_ifnonnull (tgt := 40) hx hb dX10_unwritten_33 (by decide) ?_
      refine lv_aload_n hx hb dX10_unwritten_40 rfl (lv_at hl 1 rfl) ?_
      obtain ⟨h3, hw⟩ := hw
      refine cg C hH 2 j2 (by decide) h3 rfl rfl ixX2 2 (by decide) rfl wd_786 rfl dX10_unwritten_41 ?_
      exact cri C hr hk hH (Nat.zero_le _) (Nat.zero_le _) hw dX10_unwritten_44
  have hw := ifn c1 hw
  by_cases c4 : a1 = (2 : Int32)
  · have hw := ifp c4 hw
    refine lv_tableIn (tgt := 45) hx hb dX10_unwritten_1 (by rw [c4]; decide) (by rw [c4]; decide) (by rw [c4]; rfl) (by decide) ?_
    refine lv_iconst (v := 1) hx hb dX10_unwritten_45 (by decide) ?_
    exact cri C hr hk hH (Nat.zero_le _) (Nat.zero_le _) hw dX10_unwritten_46
  have hw := ifn c4 hw
  by_cases c5 : a1 = (3 : Int32)
  · have hw := ifp c5 hw
    refine lv_tableIn (tgt := 49) hx hb dX10_unwritten_1 (by rw [c5]; decide) (by rw [c5]; decide) (by rw [c5]; rfl) (by decide) ?_
    refine lv_iconst (v := 0) hx hb dX10_unwritten_49 (by decide) ?_
    exact cri C hr hk hH (Nat.zero_le _) (Nat.zero_le _) hw dX10_unwritten_50
  have hw := ifn c5 hw
  by_cases c6 : a1 = (4 : Int32)
  · have hw := ifp c6 hw
    refine lv_tableIn (tgt := 47) hx hb dX10_unwritten_1 (by rw [c6]; decide) (by rw [c6]; decide) (by rw [c6]; rfl) (by decide) ?_
    refine lv_iconst (v := 5) hx hb dX10_unwritten_47 (by decide) ?_
    exact cri C hr hk hH (Nat.zero_le _) (Nat.zero_le _) hw dX10_unwritten_48
  have hw := ifn c6 hw
  refine lv_tableOut (tgt := 49) hx hb dX10_unwritten_1 (by have := sw_ne c1 1 (by decide); have := sw_ne c4 2 (by decide); have := sw_ne c5 3 (by decide); have := sw_ne c6 4 (by decide); omega) (by decide) ?_
  refine lv_iconst (v := 0) hx hb dX10_unwritten_49 (by decide) ?_
  exact cri C hr hk hH (Nat.zero_le _) (Nat.zero_le _) hw dX10_unwritten_50
/-! PorterTurns$Reckoner.lookAtMinute -/
abbrev rm_Reck_lookAtMinute : Room := { frames := 1, cells := 0, slots := 0, locals := 40 }
def wp_Reck_lookAtMinute_37 (post : CS → Prop) (t : CS) (x1_ : Int32) (t1_ : Int32) (t2_ : Int32) : Prop := vp_in t1_ 13 ∧ (∀ t2 : CS, t2 = sA t 6 t1_.toNatClampNeg t2_ → (vp_in (9 : Int32) 13 ∧ (∀ t4 : CS, t4 = sA t2 6 (9 : Int32).toNatClampNeg (x1_ / (600 : Int32)) → (post t4))))
set_option maxHeartbeats 4000000 in
set_option maxRecDepth 100000 in
theorem b_Reck_lookAtMinute_37 {p : Program} {l : Launch} {e : Env} {s : State} {m : MethodId} {args : Array Value} {below : List Frame} {meth : Method} {c : Code} {D : va_G} {Z : Nat → ClassId} {E : Nat → Nat} {ad : Nat → Nat → Nat} {A : Nat → Prop} (C : CC p s m args c cX6_lookAtMinute 3 RX6 D Z E A) (hr : meth.sig.returnType = none) (hk : meth.locks = false) {post : CS → Prop} : ∀ (t : CS) (x1_ : Int32) (t1_ : Int32) (t2_ : Int32), wp_Reck_lookAtMinute_37 post t x1_ t1_ t2_ → ∀ (H : Heap) (locs : List Loc) (ls : Array Slot), CH D Z E ad A s.heap t H locs → lv_has ls 3 [(0, .ref (ad 5 4)), (1, .int x1_)] → CWv p l e rm_Reck_lookAtMinute s m args below meth c D Z E ad A 0 0 post H locs 0 0 (F0 m 37 ls [.int t2_, .int t1_, .ref (ad 7 6)]) := by
  obtain ⟨⟨hx, hb, hml, hown, hts⟩, hK⟩ := id C
  intro t x1_ t1_ t2_ hw H locs ls hH hl
  unfold wp_Reck_lookAtMinute_37 at hw
  obtain ⟨h1, hw⟩ := hw
  refine cas C hH 6 (Nat.lt_of_lt_of_le (show 6 < 8 by decide) (Nat.le_add_left _ _)) rfl h1 dX6_lookAtMinute_37 (fun H locs hH => ?_)
  obtain ⟨t2, et2⟩ : ∃ x : CS, x = sA t 6 t1_.toNatClampNeg t2_ := ⟨_, rfl⟩
  rw [← et2] at hH
  have hw := hw t2 et2
  refine lv_aload_n hx hb dX6_lookAtMinute_38 rfl (lv_at hl 0 rfl) ?_
  refine cg C hH 5 4 (by decide) (Nat.le_of_ble_eq_true rfl) rfl rfl ixX6 0 (by decide) rfl wd_226 rfl dX6_lookAtMinute_39 ?_
  refine lv_bipush (v := 9) hx hb dX6_lookAtMinute_42 (by decide) ?_
  refine lv_iload_n hx hb dX6_lookAtMinute_44 rfl (lv_at hl 1 rfl) ?_
  refine lv_sipush (v := 600) hx hb dX6_lookAtMinute_45 (by decide) ?_
  refine lv_idiv hx hb dX6_lookAtMinute_48 (by decide) ?_
  obtain ⟨h3, hw⟩ := hw
  refine cas C hH 6 (Nat.lt_of_lt_of_le (show 6 < 8 by decide) (Nat.le_add_left _ _)) rfl h3 dX6_lookAtMinute_49 (fun H locs hH => ?_)
  obtain ⟨t4, et4⟩ : ∃ x : CS, x = sA t2 6 (9 : Int32).toNatClampNeg (x1_ / (600 : Int32)) := ⟨_, rfl⟩
  rw [← et4] at hH
  have hw := hw t4 et4
  exact crv C hr hk hH (Nat.zero_le _) (Nat.zero_le _) hw dX6_lookAtMinute_50
def wp_Reck_lookAtMinute (t : CS) (a1 : Int32) (a2 : Int32) (post : CS → Prop) : Prop := ∀ t5 : CS, t5 = sFill t 6 (0 : Int32) → (vp_in (5 : Int32) 13 ∧ (∀ t7 : CS, t7 = sA t5 6 (5 : Int32).toNatClampNeg ((a1 - a1 / (600 : Int32) * (600 : Int32)) / (60 : Int32)) → (if a2 = 0 then (wp_Reck_lookAtMinute_37 post t7 a1 (6 : Int32) (0 : Int32)) else (wp_Reck_lookAtMinute_37 post t7 a1 (6 : Int32) (1 : Int32)))))
set_option maxHeartbeats 4000000 in
set_option maxRecDepth 100000 in
theorem c_Reck_lookAtMinute (l : Launch) (D : va_G) (Z : Nat → ClassId) (E : Nat → Nat) (ad : Nat → Nat → Nat) (t : CS) (a1 : Int32) (a2 : Int32) (post : CS → Prop) (hw : wp_Reck_lookAtMinute t a1 a2 post) (L : List Nat) (sz : Nat) : Met l yX6_lookAtMinute (Wd yX6_lookAtMinute cX6_lookAtMinute 3 (none)) rm_Reck_lookAtMinute (va_Pc [.ref (ad 5 4), .int a1, .int a2] (cPre D Z E ad L sz t)) (va_Qv post (cPost D Z E ad (cAs L sz)) (cAs L sz)) 0 0 (cAs L sz) := by
  refine cMet (Qc := fun A => va_Qv post (cPost D Z E ad A) A) (by decide) rfl _ (Nat.le_of_ble_eq_true rfl) (fun p e s m args below meth c A C hr hk ls hl hH => ?_) L sz
  obtain ⟨⟨hx, hb, hml, hown, hts⟩, hK⟩ := id C
  have hl : lv_has ls 3 [(0, .ref (ad 5 4)), (1, .int a1), (2, .int a2)] := hl
  unfold wp_Reck_lookAtMinute at hw
  refine lv_aload_n hx hb dX6_lookAtMinute_0 rfl (lv_at hl 0 rfl) ?_
  refine cg C hH 5 4 (by decide) (Nat.le_of_ble_eq_true rfl) rfl rfl ixX6 0 (by decide) rfl wd_226 rfl dX6_lookAtMinute_1 ?_
  refine lv_iconst (v := 0) hx hb dX6_lookAtMinute_4 (by decide) ?_
  refine aFill C hH 6 rfl wd_715 hl.1 (Nat.le_of_ble_eq_true rfl) dX6_lookAtMinute_5 ⟨Nat.zero_le _, Nat.zero_le _⟩ ⟨Nat.le_of_ble_eq_true rfl, Nat.le_of_ble_eq_true rfl⟩ (fun H locs hH => ?_)
  obtain ⟨t5, et5⟩ : ∃ x : CS, x = sFill t 6 (0 : Int32) := ⟨_, rfl⟩
  rw [← et5] at hH
  have hw := hw t5 et5
  refine lv_aload_n hx hb dX6_lookAtMinute_8 rfl (lv_at hl 0 rfl) ?_
  refine cg C hH 5 4 (by decide) (Nat.le_of_ble_eq_true rfl) rfl rfl ixX6 0 (by decide) rfl wd_226 rfl dX6_lookAtMinute_9 ?_
  refine lv_iconst (v := 5) hx hb dX6_lookAtMinute_12 (by decide) ?_
  refine lv_iload_n hx hb dX6_lookAtMinute_13 rfl (lv_at hl 1 rfl) ?_
  refine lv_sipush (v := 600) hx hb dX6_lookAtMinute_14 (by decide) ?_
  refine lv_irem hx hb dX6_lookAtMinute_17 (by decide) ?_
  refine lv_bipush (v := 60) hx hb dX6_lookAtMinute_18 (by decide) ?_
  refine lv_idiv hx hb dX6_lookAtMinute_20 (by decide) ?_
  obtain ⟨h6, hw⟩ := hw
  refine cas C hH 6 (Nat.lt_of_lt_of_le (show 6 < 8 by decide) (Nat.le_add_left _ _)) rfl h6 dX6_lookAtMinute_21 (fun H locs hH => ?_)
  obtain ⟨t7, et7⟩ : ∃ x : CS, x = sA t5 6 (5 : Int32).toNatClampNeg ((a1 - a1 / (600 : Int32) * (600 : Int32)) / (60 : Int32)) := ⟨_, rfl⟩
  rw [← et7] at hH
  have hw := hw t7 et7
  refine lv_aload_n hx hb dX6_lookAtMinute_22 rfl (lv_at hl 0 rfl) ?_
  refine cg C hH 5 4 (by decide) (Nat.le_of_ble_eq_true rfl) rfl rfl ixX6 0 (by decide) rfl wd_226 rfl dX6_lookAtMinute_23 ?_
  refine lv_bipush (v := 6) hx hb dX6_lookAtMinute_26 (by decide) ?_
  refine lv_iload_n hx hb dX6_lookAtMinute_28 rfl (lv_at hl 2 rfl) ?_
  refine lv_if_eq (tgt := 36) hx hb dX6_lookAtMinute_29 (by decide) (fun c8 => ?_) (fun c8 => ?_)
  · have hw := ifp c8 hw
    refine lv_iconst (v := 0) hx hb dX6_lookAtMinute_36 (by decide) ?_
    exact b_Reck_lookAtMinute_37 C hr hk  t7 a1 (6 : Int32) (0 : Int32) hw _ _ _ hH (lv_sub hl [0, 1] rfl)
  · have hw := ifn c8 hw
    refine lv_iconst (v := 1) hx hb dX6_lookAtMinute_32 (by decide) ?_
    refine lv_goto (tgt := 37) hx hb dX6_lookAtMinute_33 (by decide) ?_
    exact b_Reck_lookAtMinute_37 C hr hk  t7 a1 (6 : Int32) (1 : Int32) hw _ _ _ hH (lv_sub hl [0, 1] rfl)
/-! PorterTurns$Man.hurtAt -/
abbrev rm_Man_hurtAt : Room := { frames := 0, cells := 0, slots := 0, locals := 0 }
def wp_Man_hurtAt (t : CS) (i0 : Nat) (a1 : Int32) (post : Int32 → CS → Prop) : Prop := i0 < tN t 3 ∧ (if (tF t 103 i0) ≤ a1 then (post (0 : Int32) t) else (post (1 : Int32) t))
set_option maxHeartbeats 4000000 in
set_option maxRecDepth 100000 in
theorem c_Man_hurtAt (l : Launch) (D : va_G) (Z : Nat → ClassId) (E : Nat → Nat) (ad : Nat → Nat → Nat) (t : CS) (i0 : Nat) (a1 : Int32) (post : Int32 → CS → Prop) (hw : wp_Man_hurtAt t i0 a1 post) (L : List Nat) (sz : Nat) : Met l yX3_hurtAt (Wd yX3_hurtAt cX3_hurtAt 2 (some .boolean)) rm_Man_hurtAt (va_Pc [.ref (ad 3 i0), .int a1] (cPre D Z E ad L sz t)) (va_Qi post (cPost D Z E ad (cAs L sz)) (cAs L sz)) 0 0 (cAs L sz) := by
  refine cMet (Qc := fun A => va_Qi post (cPost D Z E ad A) A) (by decide) rfl _ (Nat.le_of_ble_eq_true rfl) (fun p e s m args below meth c A C hr hk ls hl hH => ?_) L sz
  obtain ⟨⟨hx, hb, hml, hown, hts⟩, hK⟩ := id C
  have hl : lv_has ls 2 [(0, .ref (ad 3 i0)), (1, .int a1)] := hl
  unfold wp_Man_hurtAt at hw
  refine lv_iload_n hx hb dX3_hurtAt_0 rfl (lv_at hl 1 rfl) ?_
  refine lv_aload_n hx hb dX3_hurtAt_1 rfl (lv_at hl 0 rfl) ?_
  obtain ⟨h1, hw⟩ := hw
  refine cg C hH 3 i0 (by decide) h1 rfl rfl ixX3 7 (by decide) rfl wd_399 rfl dX3_hurtAt_2 ?_
  refine lv_icmp_ge (tgt := 12) hx hb dX3_hurtAt_5 (by decide) (fun c2 => ?_) (fun c2 => ?_)
  · have hw := ifp c2 hw
    refine lv_iconst (v := 0) hx hb dX3_hurtAt_12 (by decide) ?_
    exact crz C hr hk hH (Nat.zero_le _) (Nat.zero_le _) bz0 hw dX3_hurtAt_13
  · have hw := ifn c2 hw
    refine lv_iconst (v := 1) hx hb dX3_hurtAt_8 (by decide) ?_
    refine lv_goto (tgt := 13) hx hb dX3_hurtAt_9 (by decide) ?_
    exact crz C hr hk hH (Nat.zero_le _) (Nat.zero_le _) bz1 hw dX3_hurtAt_13
/-! PorterTurns.readyMen -/
abbrev rm_C_readyMen : Room := { frames := 3, cells := 0, slots := 0, locals := 81 }
def wp_C_readyMen_72 (k4 : CS → Int32 → Int32 → Int32 → Prop) (post : Int32 → CS → Prop) (t : CS) (x1_ : Int32) (x2_ : Int32) (x3_ : Int32) : Prop := ∀ x1 : Int32, x1 = x3_ + (1 : Int32) → (k4 t x1_ x2_ x1)
set_option maxHeartbeats 4000000 in
set_option maxRecDepth 100000 in
theorem b_C_readyMen_72 {p : Program} {l : Launch} {e : Env} {s : State} {m : MethodId} {args : Array Value} {below : List Frame} {meth : Method} {c : Code} {D : va_G} {Z : Nat → ClassId} {E : Nat → Nat} {ad : Nat → Nat → Nat} {A : Nat → Prop} (C : CC p s m args c cX10_readyMen 5 RX10 D Z E A) (hr : meth.sig.returnType = some .int) (hk : meth.locks = false) {post : Int32 → CS → Prop} {k4 : CS → Int32 → Int32 → Int32 → Prop} (hk4 : ∀ (t : CS) (y1 : Int32) (y2 : Int32) (y3 : Int32), k4 t y1 y2 y3 → ∀ (H : Heap) (locs : List Loc) (ls : Array Slot), CH D Z E ad A s.heap t H locs → lv_has ls 5 [(0, .ref (ad 5 0)), (1, .int y1), (2, .int y2), (3, .int y3)] → CWi p l e rm_C_readyMen s m args below meth c D Z E ad A 0 0 post H locs 0 0 (F0 m 4 ls [])) : ∀ (t : CS) (x1_ : Int32) (x2_ : Int32) (x3_ : Int32), wp_C_readyMen_72 k4 post t x1_ x2_ x3_ → ∀ (H : Heap) (locs : List Loc) (ls : Array Slot), CH D Z E ad A s.heap t H locs → lv_has ls 5 [(0, .ref (ad 5 0)), (1, .int x1_), (2, .int x2_), (3, .int x3_)] → CWi p l e rm_C_readyMen s m args below meth c D Z E ad A 0 0 post H locs 0 0 (F0 m 72 ls []) := by
  obtain ⟨⟨hx, hb, hml, hown, hts⟩, hK⟩ := id C
  intro t x1_ x2_ x3_ hw H locs ls hH hl
  unfold wp_C_readyMen_72 at hw
  obtain ⟨x1, ex1⟩ : ∃ y : Int32, y = x3_ + (1 : Int32) := ⟨_, rfl⟩
  have hw := hw x1 ex1
  refine lv_iinc (v := x1) (lv' := [(3, .int x1), (0, .ref (ad 5 0)), (1, .int x1_), (2, .int x2_)]) hx hb dX10_readyMen_72 hl (k := 3) rfl (by rw [ex1]; rfl) (by decide) rfl (fun ls hl => ?_)
  refine lv_goto (tgt := 4) hx hb dX10_readyMen_75 (by decide) ?_
  exact hk4 t x1_ x2_ x1 hw _ _ _ hH (lv_sub hl [1, 2, 3, 0] rfl)
def wp_C_readyMen_4 (post : Int32 → CS → Prop) : Nat → CS → Int32 → Int32 → Int32 → Prop
  | 0 => fun _ _ _ _ => False
  | n + 1 => fun t x1_ x2_ x3_ => if (nI (tT t 1).length) ≤ x3_ then (post x2_ t) else (vp_in x3_ (tT t 1).length ∧ ((tT t 1).length < 2 ^ 31 ∧ (∀ j5 : Nat, j5 = ((tT t 1).getD x3_.toNatClampNeg 0) → (j5 < tN t 3 ∧ (if (tF t 97 j5) = x1_ then (wp_Man_freeAt t j5 (tF t 171 0) (fun r9 t8 => if r9 = 0 then (wp_C_readyMen_72 (wp_C_readyMen_4 post n) post t8 x1_ x2_ x3_) else (j5 < tN t8 3 ∧ (wp_Man_hurtAt t8 j5 (tF t8 171 0) (fun r13 t12 => if r13 = 0 then (j5 < tN t12 3 ∧ (if (tF t12 105 j5) = 0 then (∀ x17 : Int32, x17 = x2_ + (1 : Int32) → (wp_C_readyMen_72 (wp_C_readyMen_4 post n) post t12 x1_ x17 x3_)) else (wp_C_readyMen_72 (wp_C_readyMen_4 post n) post t12 x1_ x2_ x3_))) else (wp_C_readyMen_72 (wp_C_readyMen_4 post n) post t12 x1_ x2_ x3_)))))) else (wp_C_readyMen_72 (wp_C_readyMen_4 post n) post t x1_ x2_ x3_))))))
set_option maxHeartbeats 4000000 in
set_option maxRecDepth 100000 in
theorem b_C_readyMen_4 {p : Program} {l : Launch} {e : Env} {s : State} {m : MethodId} {args : Array Value} {below : List Frame} {meth : Method} {c : Code} {D : va_G} {Z : Nat → ClassId} {E : Nat → Nat} {ad : Nat → Nat → Nat} {A : Nat → Prop} (C : CC p s m args c cX10_readyMen 5 RX10 D Z E A) (hr : meth.sig.returnType = some .int) (hk : meth.locks = false) {post : Int32 → CS → Prop} : ∀ (n : Nat) (t : CS) (x1_ : Int32) (x2_ : Int32) (x3_ : Int32), wp_C_readyMen_4 post n t x1_ x2_ x3_ → ∀ (H : Heap) (locs : List Loc) (ls : Array Slot), CH D Z E ad A s.heap t H locs → lv_has ls 5 [(0, .ref (ad 5 0)), (1, .int x1_), (2, .int x2_), (3, .int x3_)] → CWi p l e rm_C_readyMen s m args below meth c D Z E ad A 0 0 post H locs 0 0 (F0 m 4 ls []) := by
  obtain ⟨⟨hx, hb, hml, hown, hts⟩, hK⟩ := id C
  intro n
  induction n with
  | zero => intro t x1_ x2_ x3_ hw; exact hw.elim
  | succ n ih =>
    intro t x1_ x2_ x3_ hw H locs ls hH hl
    unfold wp_C_readyMen_4 at hw
    refine lv_iload_n hx hb dX10_readyMen_4 rfl (lv_at hl 3 rfl) ?_
    refine lv_aload_n hx hb dX10_readyMen_5 rfl (lv_at hl 0 rfl) ?_
    refine cg C hH 5 0 (by decide) (Nat.le_of_ble_eq_true rfl) rfl rfl ixX10 1 (by decide) rfl wd_237 rfl dX10_readyMen_6 ?_
    refine lSize C hH 1 (Nat.lt_of_lt_of_le (show 1 < 11 by decide) (Nat.le_add_left _ _)) wd_283 hl.1 (Nat.le_of_ble_eq_true rfl) dX10_readyMen_9 ⟨Nat.zero_le _, Nat.zero_le _⟩ ⟨Nat.le_of_ble_eq_true rfl, Nat.le_of_ble_eq_true rfl⟩ (fun H locs hH => ?_)
    refine lv_icmp_ge (tgt := 78) hx hb dX10_readyMen_12 (by decide) (fun c2 => ?_) (fun c2 => ?_)
    · have hw := ifp c2 hw
      refine lv_iload_n hx hb dX10_readyMen_78 rfl (lv_at hl 2 rfl) ?_
      exact cri C hr hk hH (Nat.zero_le _) (Nat.zero_le _) hw dX10_readyMen_79
    · have hw := ifn c2 hw
      refine lv_aload_n hx hb dX10_readyMen_15 rfl (lv_at hl 0 rfl) ?_
      refine cg C hH 5 0 (by decide) (Nat.le_of_ble_eq_true rfl) rfl rfl ixX10 1 (by decide) rfl wd_237 rfl dX10_readyMen_16 ?_
      refine lv_iload_n hx hb dX10_readyMen_19 rfl (lv_at hl 3 rfl) ?_
      obtain ⟨h3, hw⟩ := hw
      obtain ⟨h4, hw⟩ := hw
      refine lGet C hH 1 (Nat.lt_of_lt_of_le (show 1 < 11 by decide) (Nat.le_add_left _ _)) h3 h4 wd_320 hl.1 (Nat.le_of_ble_eq_true rfl) dX10_readyMen_20 ⟨Nat.zero_le _, Nat.zero_le _⟩ ⟨Nat.le_of_ble_eq_true rfl, Nat.le_of_ble_eq_true rfl⟩ (fun H locs hH => ?_)
      obtain ⟨j5, ej5⟩ : ∃ x : Nat, x = ((tT t 1).getD x3_.toNatClampNeg 0) := ⟨_, rfl⟩
      rw [← ej5]
      have hw := hw j5 ej5
      obtain ⟨h6, hw⟩ := hw
      refine cCast C hH 3 j5 (by decide) h6 rfl rfl wd_374 dX10_readyMen_23 ?_
      refine lv_astore (lv' := [(4, .ref (ad 3 j5)), (0, .ref (ad 5 0)), (1, .int x1_), (2, .int x2_), (3, .int x3_)]) hx hb dX10_readyMen_26 hl (by decide) rfl (fun ls hl => ?_)
      refine lv_aload hx hb dX10_readyMen_28 (lv_at hl 0 rfl) ?_
      refine cg C hH 3 j5 (by decide) h6 rfl rfl ixX3 1 (by decide) rfl wd_385 rfl dX10_readyMen_30 ?_
      refine lv_iload_n hx hb dX10_readyMen_33 rfl (lv_at hl 2 rfl) ?_
      refine lv_icmp_ne (tgt := 72) hx hb dX10_readyMen_34 (by decide) (fun c7 => ?_) (fun c7 => ?_)
      · have hw := ifn c7 hw
        exact b_C_readyMen_72 C hr hk ih t x1_ x2_ x3_ hw _ _ _ hH (lv_sub hl [1, 2, 3, 4] rfl)
      · have hw := ifp c7 hw
        refine lv_aload hx hb dX10_readyMen_37 (lv_at hl 0 rfl) ?_
        refine lv_aload_n hx hb dX10_readyMen_39 rfl (lv_at hl 1 rfl) ?_
        refine cg C hH 5 0 (by decide) (Nat.le_of_ble_eq_true rfl) rfl rfl ixX10 11 (by decide) rfl wd_247 rfl dX10_readyMen_40 ?_
        refine ccVi0 C hH (crecv C hH 3 j5 (by decide) h6 rfl rfl (q := (RX3, TX3, 10))) [.int (tF t 171 0)] (c_Man_freeAt l D Z E ad t j5 (tF t 171 0) _ hw) (cwTV 1 hts wd_445 wd_446 wd_447 wd_18 wd_448 rfl rfl (by decide +kernel) ⟨Nat.le_of_ble_eq_true rfl, Nat.le_of_ble_eq_true rfl⟩) rfl hl.1 rfl (Nat.le_of_ble_eq_true rfl) dX10_readyMen_43 ⟨Nat.zero_le _, Nat.zero_le _⟩ (fun r9 t8 H locs hw hH => ?_)
        refine lv_if_eq (tgt := 72) hx hb dX10_readyMen_46 (by decide) (fun c10 => ?_) (fun c10 => ?_)
        · have hw := ifp c10 hw
          exact b_C_readyMen_72 C hr hk ih t8 x1_ x2_ x3_ hw _ _ _ hH (lv_sub hl [1, 2, 3, 4] rfl)
        · have hw := ifn c10 hw
          refine lv_aload hx hb dX10_readyMen_49 (lv_at hl 0 rfl) ?_
          refine lv_aload_n hx hb dX10_readyMen_51 rfl (lv_at hl 1 rfl) ?_
          refine cg C hH 5 0 (by decide) (Nat.le_of_ble_eq_true rfl) rfl rfl ixX10 11 (by decide) rfl wd_247 rfl dX10_readyMen_52 ?_
          obtain ⟨h11, hw⟩ := hw
          refine ccVi0 C hH (crecv C hH 3 j5 (by decide) h11 rfl rfl (q := (RX3, TX3, 10))) [.int (tF t8 171 0)] (c_Man_hurtAt l D Z E ad t8 j5 (tF t8 171 0) _ hw) (cwTV 1 hts wd_722 wd_723 wd_724 wd_18 wd_725 rfl rfl (by decide +kernel) ⟨Nat.le_of_ble_eq_true rfl, Nat.le_of_ble_eq_true rfl⟩) rfl hl.1 rfl (Nat.le_of_ble_eq_true rfl) dX10_readyMen_55 ⟨Nat.zero_le _, Nat.zero_le _⟩ (fun r13 t12 H locs hw hH => ?_)
          refine lv_if_ne (tgt := 72) hx hb dX10_readyMen_58 (by decide) (fun c14 => ?_) (fun c14 => ?_)
          · have hw := ifn c14 hw
            exact b_C_readyMen_72 C hr hk ih t12 x1_ x2_ x3_ hw _ _ _ hH (lv_sub hl [1, 2, 3, 4] rfl)
          · have hw := ifp c14 hw
            refine lv_aload hx hb dX10_readyMen_61 (lv_at hl 0 rfl) ?_
            obtain ⟨h15, hw⟩ := hw
            refine cg C hH 3 j5 (by decide) h15 rfl rfl ixX3 9 (by decide) rfl wd_404 rfl dX10_readyMen_63 ?_
            refine lv_if_ne (tgt := 72) hx hb dX10_readyMen_66 (by decide) (fun c16 => ?_) (fun c16 => ?_)
            · have hw := ifn c16 hw
              exact b_C_readyMen_72 C hr hk ih t12 x1_ x2_ x3_ hw _ _ _ hH (lv_sub hl [1, 2, 3, 4] rfl)
            · have hw := ifp c16 hw
              obtain ⟨x17, ex17⟩ : ∃ y : Int32, y = x2_ + (1 : Int32) := ⟨_, rfl⟩
              have hw := hw x17 ex17
              refine lv_iinc (v := x17) (lv' := [(2, .int x17), (4, .ref (ad 3 j5)), (0, .ref (ad 5 0)), (1, .int x1_), (3, .int x3_)]) hx hb dX10_readyMen_69 hl (k := 3) rfl (by rw [ex17]; rfl) (by decide) rfl (fun ls hl => ?_)
              exact b_C_readyMen_72 C hr hk ih t12 x1_ x17 x3_ hw _ _ _ hH (lv_sub hl [2, 3, 0, 4] rfl)
def wp_C_readyMen (t : CS) (a1 : Int32) (post : Int32 → CS → Prop) : Prop := ∃ nn : Nat, wp_C_readyMen_4 post nn t a1 (0 : Int32) (0 : Int32)
set_option maxHeartbeats 4000000 in
set_option maxRecDepth 100000 in
theorem c_C_readyMen (l : Launch) (D : va_G) (Z : Nat → ClassId) (E : Nat → Nat) (ad : Nat → Nat → Nat) (t : CS) (a1 : Int32) (post : Int32 → CS → Prop) (hw : wp_C_readyMen t a1 post) (L : List Nat) (sz : Nat) : Met l yX10_readyMen (Wd yX10_readyMen cX10_readyMen 5 (some .int)) rm_C_readyMen (va_Pc [.ref (ad 5 0), .int a1] (cPre D Z E ad L sz t)) (va_Qi post (cPost D Z E ad (cAs L sz)) (cAs L sz)) 0 0 (cAs L sz) := by
  refine cMet (Qc := fun A => va_Qi post (cPost D Z E ad A) A) (by decide) rfl _ (Nat.le_of_ble_eq_true rfl) (fun p e s m args below meth c A C hr hk ls hl hH => ?_) L sz
  obtain ⟨⟨hx, hb, hml, hown, hts⟩, hK⟩ := id C
  have hl : lv_has ls 5 [(0, .ref (ad 5 0)), (1, .int a1)] := hl
  unfold wp_C_readyMen at hw
  refine lv_iconst (v := 0) hx hb dX10_readyMen_0 (by decide) ?_
  refine lv_istore_n (lv' := [(2, .int (0 : Int32)), (0, .ref (ad 5 0)), (1, .int a1)]) hx hb dX10_readyMen_1 rfl hl (by decide) rfl (fun ls hl => ?_)
  refine lv_iconst (v := 0) hx hb dX10_readyMen_2 (by decide) ?_
  refine lv_istore_n (lv' := [(3, .int (0 : Int32)), (2, .int (0 : Int32)), (0, .ref (ad 5 0)), (1, .int a1)]) hx hb dX10_readyMen_3 rfl hl (by decide) rfl (fun ls hl => ?_)
  obtain ⟨nn, hw⟩ := hw
  exact b_C_readyMen_4 C hr hk  nn t a1 (0 : Int32) (0 : Int32) hw _ _ _ hH (lv_sub hl [2, 3, 1, 0] rfl)
/-! PorterTurns$Reckoner.lookAtMen -/
abbrev rm_Reck_lookAtMen : Room := { frames := 0, cells := 0, slots := 0, locals := 0 }
def wp_Reck_lookAtMen (t : CS) (a1 : Int32) (post : CS → Prop) : Prop := vp_in (8 : Int32) 13 ∧ (∀ t2 : CS, t2 = sA t 6 (8 : Int32).toNatClampNeg a1 → (post t2))
set_option maxHeartbeats 4000000 in
set_option maxRecDepth 100000 in
theorem c_Reck_lookAtMen (l : Launch) (D : va_G) (Z : Nat → ClassId) (E : Nat → Nat) (ad : Nat → Nat → Nat) (t : CS) (a1 : Int32) (post : CS → Prop) (hw : wp_Reck_lookAtMen t a1 post) (L : List Nat) (sz : Nat) : Met l yX6_lookAtMen (Wd yX6_lookAtMen cX6_lookAtMen 2 (none)) rm_Reck_lookAtMen (va_Pc [.ref (ad 5 4), .int a1] (cPre D Z E ad L sz t)) (va_Qv post (cPost D Z E ad (cAs L sz)) (cAs L sz)) 0 0 (cAs L sz) := by
  refine cMet (Qc := fun A => va_Qv post (cPost D Z E ad A) A) (by decide) rfl _ (Nat.le_of_ble_eq_true rfl) (fun p e s m args below meth c A C hr hk ls hl hH => ?_) L sz
  obtain ⟨⟨hx, hb, hml, hown, hts⟩, hK⟩ := id C
  have hl : lv_has ls 2 [(0, .ref (ad 5 4)), (1, .int a1)] := hl
  unfold wp_Reck_lookAtMen at hw
  refine lv_aload_n hx hb dX6_lookAtMen_0 rfl (lv_at hl 0 rfl) ?_
  refine cg C hH 5 4 (by decide) (Nat.le_of_ble_eq_true rfl) rfl rfl ixX6 0 (by decide) rfl wd_226 rfl dX6_lookAtMen_1 ?_
  refine lv_bipush (v := 8) hx hb dX6_lookAtMen_4 (by decide) ?_
  refine lv_iload_n hx hb dX6_lookAtMen_6 rfl (lv_at hl 1 rfl) ?_
  obtain ⟨h1, hw⟩ := hw
  refine cas C hH 6 (Nat.lt_of_lt_of_le (show 6 < 8 by decide) (Nat.le_add_left _ _)) rfl h1 dX6_lookAtMen_7 (fun H locs hH => ?_)
  obtain ⟨t2, et2⟩ : ∃ x : CS, x = sA t 6 (8 : Int32).toNatClampNeg a1 := ⟨_, rfl⟩
  rw [← et2] at hH
  have hw := hw t2 et2
  exact crv C hr hk hH (Nat.zero_le _) (Nat.zero_le _) hw dX6_lookAtMen_8
/-! PorterTurns$Reckoner.lookAtLoad -/
abbrev rm_Reck_lookAtLoad : Room := { frames := 0, cells := 0, slots := 0, locals := 0 }
def wp_Reck_lookAtLoad (t : CS) (a1 : Nat) (a2 : Int32) (post : CS → Prop) : Prop := a1 < tN t 2 ∧ (vp_in (0 : Int32) 13 ∧ (∀ t3 : CS, t3 = sA t 6 (0 : Int32).toNatClampNeg (tF t 65 a1) → (a1 < tN t3 2 ∧ (vp_in (1 : Int32) 13 ∧ (∀ t6 : CS, t6 = sA t3 6 (1 : Int32).toNatClampNeg (tF t3 66 a1) → (a1 < tN t6 2 ∧ (vp_in (2 : Int32) 13 ∧ (∀ t9 : CS, t9 = sA t6 6 (2 : Int32).toNatClampNeg (tF t6 69 a1) → (a1 < tN t9 2 ∧ (vp_in (3 : Int32) 13 ∧ (∀ t12 : CS, t12 = sA t9 6 (3 : Int32).toNatClampNeg (tF t9 70 a1) → (a1 < tN t12 2 ∧ (vp_in (4 : Int32) 13 ∧ (∀ t15 : CS, t15 = sA t12 6 (4 : Int32).toNatClampNeg (tF t12 71 a1) → (vp_in (7 : Int32) 13 ∧ (∀ t17 : CS, t17 = sA t15 6 (7 : Int32).toNatClampNeg a2 → (post t17)))))))))))))))))
set_option maxHeartbeats 4000000 in
set_option maxRecDepth 100000 in
theorem c_Reck_lookAtLoad (l : Launch) (D : va_G) (Z : Nat → ClassId) (E : Nat → Nat) (ad : Nat → Nat → Nat) (t : CS) (a1 : Nat) (a2 : Int32) (post : CS → Prop) (hw : wp_Reck_lookAtLoad t a1 a2 post) (L : List Nat) (sz : Nat) : Met l yX6_lookAtLoad (Wd yX6_lookAtLoad cX6_lookAtLoad 3 (none)) rm_Reck_lookAtLoad (va_Pc [.ref (ad 5 4), .ref (ad 2 a1), .int a2] (cPre D Z E ad L sz t)) (va_Qv post (cPost D Z E ad (cAs L sz)) (cAs L sz)) 0 0 (cAs L sz) := by
  refine cMet (Qc := fun A => va_Qv post (cPost D Z E ad A) A) (by decide) rfl _ (Nat.le_of_ble_eq_true rfl) (fun p e s m args below meth c A C hr hk ls hl hH => ?_) L sz
  obtain ⟨⟨hx, hb, hml, hown, hts⟩, hK⟩ := id C
  have hl : lv_has ls 3 [(0, .ref (ad 5 4)), (1, .ref (ad 2 a1)), (2, .int a2)] := hl
  unfold wp_Reck_lookAtLoad at hw
  refine lv_aload_n hx hb dX6_lookAtLoad_0 rfl (lv_at hl 0 rfl) ?_
  refine cg C hH 5 4 (by decide) (Nat.le_of_ble_eq_true rfl) rfl rfl ixX6 0 (by decide) rfl wd_226 rfl dX6_lookAtLoad_1 ?_
  refine lv_iconst (v := 0) hx hb dX6_lookAtLoad_4 (by decide) ?_
  refine lv_aload_n hx hb dX6_lookAtLoad_5 rfl (lv_at hl 1 rfl) ?_
  obtain ⟨h1, hw⟩ := hw
  refine cg C hH 2 a1 (by decide) h1 rfl rfl ixX2 1 (by decide) rfl wd_782 rfl dX6_lookAtLoad_6 ?_
  obtain ⟨h2, hw⟩ := hw
  refine cas C hH 6 (Nat.lt_of_lt_of_le (show 6 < 8 by decide) (Nat.le_add_left _ _)) rfl h2 dX6_lookAtLoad_9 (fun H locs hH => ?_)
  obtain ⟨t3, et3⟩ : ∃ x : CS, x = sA t 6 (0 : Int32).toNatClampNeg (tF t 65 a1) := ⟨_, rfl⟩
  rw [← et3] at hH
  have hw := hw t3 et3
  refine lv_aload_n hx hb dX6_lookAtLoad_10 rfl (lv_at hl 0 rfl) ?_
  refine cg C hH 5 4 (by decide) (Nat.le_of_ble_eq_true rfl) rfl rfl ixX6 0 (by decide) rfl wd_226 rfl dX6_lookAtLoad_11 ?_
  refine lv_iconst (v := 1) hx hb dX6_lookAtLoad_14 (by decide) ?_
  refine lv_aload_n hx hb dX6_lookAtLoad_15 rfl (lv_at hl 1 rfl) ?_
  obtain ⟨h4, hw⟩ := hw
  refine cg C hH 2 a1 (by decide) h4 rfl rfl ixX2 2 (by decide) rfl wd_785 rfl dX6_lookAtLoad_16 ?_
  obtain ⟨h5, hw⟩ := hw
  refine cas C hH 6 (Nat.lt_of_lt_of_le (show 6 < 8 by decide) (Nat.le_add_left _ _)) rfl h5 dX6_lookAtLoad_19 (fun H locs hH => ?_)
  obtain ⟨t6, et6⟩ : ∃ x : CS, x = sA t3 6 (1 : Int32).toNatClampNeg (tF t3 66 a1) := ⟨_, rfl⟩
  rw [← et6] at hH
  have hw := hw t6 et6
  refine lv_aload_n hx hb dX6_lookAtLoad_20 rfl (lv_at hl 0 rfl) ?_
  refine cg C hH 5 4 (by decide) (Nat.le_of_ble_eq_true rfl) rfl rfl ixX6 0 (by decide) rfl wd_226 rfl dX6_lookAtLoad_21 ?_
  refine lv_iconst (v := 2) hx hb dX6_lookAtLoad_24 (by decide) ?_
  refine lv_aload_n hx hb dX6_lookAtLoad_25 rfl (lv_at hl 1 rfl) ?_
  obtain ⟨h7, hw⟩ := hw
  refine cg C hH 2 a1 (by decide) h7 rfl rfl ixX2 5 (by decide) rfl wd_792 rfl dX6_lookAtLoad_26 ?_
  obtain ⟨h8, hw⟩ := hw
  refine cas C hH 6 (Nat.lt_of_lt_of_le (show 6 < 8 by decide) (Nat.le_add_left _ _)) rfl h8 dX6_lookAtLoad_29 (fun H locs hH => ?_)
  obtain ⟨t9, et9⟩ : ∃ x : CS, x = sA t6 6 (2 : Int32).toNatClampNeg (tF t6 69 a1) := ⟨_, rfl⟩
  rw [← et9] at hH
  have hw := hw t9 et9
  refine lv_aload_n hx hb dX6_lookAtLoad_30 rfl (lv_at hl 0 rfl) ?_
  refine cg C hH 5 4 (by decide) (Nat.le_of_ble_eq_true rfl) rfl rfl ixX6 0 (by decide) rfl wd_226 rfl dX6_lookAtLoad_31 ?_
  refine lv_iconst (v := 3) hx hb dX6_lookAtLoad_34 (by decide) ?_
  refine lv_aload_n hx hb dX6_lookAtLoad_35 rfl (lv_at hl 1 rfl) ?_
  obtain ⟨h10, hw⟩ := hw
  refine cg C hH 2 a1 (by decide) h10 rfl rfl ixX2 6 (by decide) rfl wd_794 rfl dX6_lookAtLoad_36 ?_
  obtain ⟨h11, hw⟩ := hw
  refine cas C hH 6 (Nat.lt_of_lt_of_le (show 6 < 8 by decide) (Nat.le_add_left _ _)) rfl h11 dX6_lookAtLoad_39 (fun H locs hH => ?_)
  obtain ⟨t12, et12⟩ : ∃ x : CS, x = sA t9 6 (3 : Int32).toNatClampNeg (tF t9 70 a1) := ⟨_, rfl⟩
  rw [← et12] at hH
  have hw := hw t12 et12
  refine lv_aload_n hx hb dX6_lookAtLoad_40 rfl (lv_at hl 0 rfl) ?_
  refine cg C hH 5 4 (by decide) (Nat.le_of_ble_eq_true rfl) rfl rfl ixX6 0 (by decide) rfl wd_226 rfl dX6_lookAtLoad_41 ?_
  refine lv_iconst (v := 4) hx hb dX6_lookAtLoad_44 (by decide) ?_
  refine lv_aload_n hx hb dX6_lookAtLoad_45 rfl (lv_at hl 1 rfl) ?_
  obtain ⟨h13, hw⟩ := hw
  refine cg C hH 2 a1 (by decide) h13 rfl rfl ixX2 7 (by decide) rfl wd_797 rfl dX6_lookAtLoad_46 ?_
  obtain ⟨h14, hw⟩ := hw
  refine cas C hH 6 (Nat.lt_of_lt_of_le (show 6 < 8 by decide) (Nat.le_add_left _ _)) rfl h14 dX6_lookAtLoad_49 (fun H locs hH => ?_)
  obtain ⟨t15, et15⟩ : ∃ x : CS, x = sA t12 6 (4 : Int32).toNatClampNeg (tF t12 71 a1) := ⟨_, rfl⟩
  rw [← et15] at hH
  have hw := hw t15 et15
  refine lv_aload_n hx hb dX6_lookAtLoad_50 rfl (lv_at hl 0 rfl) ?_
  refine cg C hH 5 4 (by decide) (Nat.le_of_ble_eq_true rfl) rfl rfl ixX6 0 (by decide) rfl wd_226 rfl dX6_lookAtLoad_51 ?_
  refine lv_bipush (v := 7) hx hb dX6_lookAtLoad_54 (by decide) ?_
  refine lv_iload_n hx hb dX6_lookAtLoad_56 rfl (lv_at hl 2 rfl) ?_
  obtain ⟨h16, hw⟩ := hw
  refine cas C hH 6 (Nat.lt_of_lt_of_le (show 6 < 8 by decide) (Nat.le_add_left _ _)) rfl h16 dX6_lookAtLoad_57 (fun H locs hH => ?_)
  obtain ⟨t17, et17⟩ : ∃ x : CS, x = sA t15 6 (7 : Int32).toNatClampNeg a2 := ⟨_, rfl⟩
  rw [← et17] at hH
  have hw := hw t17 et17
  exact crv C hr hk hH (Nat.zero_le _) (Nat.zero_le _) hw dX6_lookAtLoad_58
/-! PorterTurns$Reckoner.lookAtMan -/
abbrev rm_Reck_lookAtMan : Room := { frames := 0, cells := 0, slots := 0, locals := 0 }
def wp_Reck_lookAtMan (t : CS) (a1 : Nat) (post : CS → Prop) : Prop := a1 < tN t 3 ∧ (vp_in (10 : Int32) 13 ∧ (∀ t3 : CS, t3 = sA t 6 (10 : Int32).toNatClampNeg (tF t 99 a1) → (a1 < tN t3 3 ∧ (vp_in (11 : Int32) 13 ∧ (∀ t6 : CS, t6 = sA t3 6 (11 : Int32).toNatClampNeg (tF t3 98 a1) → (a1 < tN t6 3 ∧ (vp_in (12 : Int32) 13 ∧ (∀ t9 : CS, t9 = sA t6 6 (12 : Int32).toNatClampNeg (tF t6 101 a1) → (post t9)))))))))
set_option maxHeartbeats 4000000 in
set_option maxRecDepth 100000 in
theorem c_Reck_lookAtMan (l : Launch) (D : va_G) (Z : Nat → ClassId) (E : Nat → Nat) (ad : Nat → Nat → Nat) (t : CS) (a1 : Nat) (post : CS → Prop) (hw : wp_Reck_lookAtMan t a1 post) (L : List Nat) (sz : Nat) : Met l yX6_lookAtMan (Wd yX6_lookAtMan cX6_lookAtMan 2 (none)) rm_Reck_lookAtMan (va_Pc [.ref (ad 5 4), .ref (ad 3 a1)] (cPre D Z E ad L sz t)) (va_Qv post (cPost D Z E ad (cAs L sz)) (cAs L sz)) 0 0 (cAs L sz) := by
  refine cMet (Qc := fun A => va_Qv post (cPost D Z E ad A) A) (by decide) rfl _ (Nat.le_of_ble_eq_true rfl) (fun p e s m args below meth c A C hr hk ls hl hH => ?_) L sz
  obtain ⟨⟨hx, hb, hml, hown, hts⟩, hK⟩ := id C
  have hl : lv_has ls 2 [(0, .ref (ad 5 4)), (1, .ref (ad 3 a1))] := hl
  unfold wp_Reck_lookAtMan at hw
  refine lv_aload_n hx hb dX6_lookAtMan_0 rfl (lv_at hl 0 rfl) ?_
  refine cg C hH 5 4 (by decide) (Nat.le_of_ble_eq_true rfl) rfl rfl ixX6 0 (by decide) rfl wd_226 rfl dX6_lookAtMan_1 ?_
  refine lv_bipush (v := 10) hx hb dX6_lookAtMan_4 (by decide) ?_
  refine lv_aload_n hx hb dX6_lookAtMan_6 rfl (lv_at hl 1 rfl) ?_
  obtain ⟨h1, hw⟩ := hw
  refine cg C hH 3 a1 (by decide) h1 rfl rfl ixX3 3 (by decide) rfl wd_390 rfl dX6_lookAtMan_7 ?_
  obtain ⟨h2, hw⟩ := hw
  refine cas C hH 6 (Nat.lt_of_lt_of_le (show 6 < 8 by decide) (Nat.le_add_left _ _)) rfl h2 dX6_lookAtMan_10 (fun H locs hH => ?_)
  obtain ⟨t3, et3⟩ : ∃ x : CS, x = sA t 6 (10 : Int32).toNatClampNeg (tF t 99 a1) := ⟨_, rfl⟩
  rw [← et3] at hH
  have hw := hw t3 et3
  refine lv_aload_n hx hb dX6_lookAtMan_11 rfl (lv_at hl 0 rfl) ?_
  refine cg C hH 5 4 (by decide) (Nat.le_of_ble_eq_true rfl) rfl rfl ixX6 0 (by decide) rfl wd_226 rfl dX6_lookAtMan_12 ?_
  refine lv_bipush (v := 11) hx hb dX6_lookAtMan_15 (by decide) ?_
  refine lv_aload_n hx hb dX6_lookAtMan_17 rfl (lv_at hl 1 rfl) ?_
  obtain ⟨h4, hw⟩ := hw
  refine cg C hH 3 a1 (by decide) h4 rfl rfl ixX3 2 (by decide) rfl wd_387 rfl dX6_lookAtMan_18 ?_
  obtain ⟨h5, hw⟩ := hw
  refine cas C hH 6 (Nat.lt_of_lt_of_le (show 6 < 8 by decide) (Nat.le_add_left _ _)) rfl h5 dX6_lookAtMan_21 (fun H locs hH => ?_)
  obtain ⟨t6, et6⟩ : ∃ x : CS, x = sA t3 6 (11 : Int32).toNatClampNeg (tF t3 98 a1) := ⟨_, rfl⟩
  rw [← et6] at hH
  have hw := hw t6 et6
  refine lv_aload_n hx hb dX6_lookAtMan_22 rfl (lv_at hl 0 rfl) ?_
  refine cg C hH 5 4 (by decide) (Nat.le_of_ble_eq_true rfl) rfl rfl ixX6 0 (by decide) rfl wd_226 rfl dX6_lookAtMan_23 ?_
  refine lv_bipush (v := 12) hx hb dX6_lookAtMan_26 (by decide) ?_
  refine lv_aload_n hx hb dX6_lookAtMan_28 rfl (lv_at hl 1 rfl) ?_
  obtain ⟨h7, hw⟩ := hw
  refine cg C hH 3 a1 (by decide) h7 rfl rfl ixX3 5 (by decide) rfl wd_395 rfl dX6_lookAtMan_29 ?_
  obtain ⟨h8, hw⟩ := hw
  refine cas C hH 6 (Nat.lt_of_lt_of_le (show 6 < 8 by decide) (Nat.le_add_left _ _)) rfl h8 dX6_lookAtMan_32 (fun H locs hH => ?_)
  obtain ⟨t9, et9⟩ : ∃ x : CS, x = sA t6 6 (12 : Int32).toNatClampNeg (tF t6 101 a1) := ⟨_, rfl⟩
  rw [← et9] at hH
  have hw := hw t9 et9
  exact crv C hr hk hH (Nat.zero_le _) (Nat.zero_le _) hw dX6_lookAtMan_33
/-! PorterTurns$Token.isNumber -/
abbrev rm_Token_isNumber : Room := { frames := 0, cells := 0, slots := 0, locals := 0 }
def wp_Token_isNumber (t : CS) (a1 : Int32) (post : Int32 → CS → Prop) : Prop := if a1 < (1000 : Int32) then (post (0 : Int32) t) else (post (1 : Int32) t)
set_option maxHeartbeats 4000000 in
set_option maxRecDepth 100000 in
theorem c_Token_isNumber (l : Launch) (D : va_G) (Z : Nat → ClassId) (E : Nat → Nat) (ad : Nat → Nat → Nat) (t : CS) (a1 : Int32) (post : Int32 → CS → Prop) (hw : wp_Token_isNumber t a1 post) (L : List Nat) (sz : Nat) : Met l yX9_isNumber (Wd yX9_isNumber cX9_isNumber 1 (some .boolean)) rm_Token_isNumber (va_Pc [.int a1] (cPre D Z E ad L sz t)) (va_Qi post (cPost D Z E ad (cAs L sz)) (cAs L sz)) 0 0 (cAs L sz) := by
  refine cMet (Qc := fun A => va_Qi post (cPost D Z E ad A) A) (by decide) rfl _ (Nat.le_of_ble_eq_true rfl) (fun p e s m args below meth c A C hr hk ls hl hH => ?_) L sz
  obtain ⟨⟨hx, hb, hml, hown, hts⟩, hK⟩ := id C
  have hl : lv_has ls 1 [(0, .int a1)] := hl
  unfold wp_Token_isNumber at hw
  refine lv_iload_n hx hb dX9_isNumber_0 rfl (lv_at hl 0 rfl) ?_
  refine lv_sipush (v := 1000) hx hb dX9_isNumber_1 (by decide) ?_
  refine lv_icmp_lt (tgt := 11) hx hb dX9_isNumber_4 (by decide) (fun c1 => ?_) (fun c1 => ?_)
  · have hw := ifp c1 hw
    refine lv_iconst (v := 0) hx hb dX9_isNumber_11 (by decide) ?_
    exact crz C hr hk hH (Nat.zero_le _) (Nat.zero_le _) bz0 hw dX9_isNumber_12
  · have hw := ifn c1 hw
    refine lv_iconst (v := 1) hx hb dX9_isNumber_7 (by decide) ?_
    refine lv_goto (tgt := 12) hx hb dX9_isNumber_8 (by decide) ?_
    exact crz C hr hk hH (Nat.zero_le _) (Nat.zero_le _) bz1 hw dX9_isNumber_12
/-! PorterTurns$Reckoner.put -/
abbrev rm_Reck_put : Room := { frames := 0, cells := 0, slots := 0, locals := 0 }
def wp_Reck_put (t : CS) (a1 : Int32) (post : CS → Prop) : Prop := if (tF t 162 4) < 0 then (post t) else (if (200 : Int32) ≤ (tF t 162 4) then (post t) else (vp_in (tF t 162 4) 200 ∧ (∀ t4 : CS, t4 = sA t 7 (tF t 162 4).toNatClampNeg a1 → (∀ t5 : CS, t5 = sF t4 162 4 ((tF t4 162 4) + (1 : Int32)) → (post t5)))))
set_option maxHeartbeats 4000000 in
set_option maxRecDepth 100000 in
theorem c_Reck_put (l : Launch) (D : va_G) (Z : Nat → ClassId) (E : Nat → Nat) (ad : Nat → Nat → Nat) (t : CS) (a1 : Int32) (post : CS → Prop) (hw : wp_Reck_put t a1 post) (L : List Nat) (sz : Nat) : Met l yX6_put (Wd yX6_put cX6_put 2 (none)) rm_Reck_put (va_Pc [.ref (ad 5 4), .int a1] (cPre D Z E ad L sz t)) (va_Qv post (cPost D Z E ad (cAs L sz)) (cAs L sz)) 0 0 (cAs L sz) := by
  refine cMet (Qc := fun A => va_Qv post (cPost D Z E ad A) A) (by decide) rfl _ (Nat.le_of_ble_eq_true rfl) (fun p e s m args below meth c A C hr hk ls hl hH => ?_) L sz
  obtain ⟨⟨hx, hb, hml, hown, hts⟩, hK⟩ := id C
  have hl : lv_has ls 2 [(0, .ref (ad 5 4)), (1, .int a1)] := hl
  unfold wp_Reck_put at hw
  refine lv_aload_n hx hb dX6_put_0 rfl (lv_at hl 0 rfl) ?_
  refine cg C hH 5 4 (by decide) (Nat.le_of_ble_eq_true rfl) rfl rfl ixX6 2 (by decide) rfl wd_228 rfl dX6_put_1 ?_
  refine lv_if_lt (tgt := 37) hx hb dX6_put_4 (by decide) (fun c1 => ?_) (fun c1 => ?_)
  · have hw := ifp c1 hw
    exact crv C hr hk hH (Nat.zero_le _) (Nat.zero_le _) hw dX6_put_37
  · have hw := ifn c1 hw
    refine lv_aload_n hx hb dX6_put_7 rfl (lv_at hl 0 rfl) ?_
    refine cg C hH 5 4 (by decide) (Nat.le_of_ble_eq_true rfl) rfl rfl ixX6 2 (by decide) rfl wd_228 rfl dX6_put_8 ?_
    refine lv_sipush (v := 200) hx hb dX6_put_11 (by decide) ?_
    refine lv_icmp_ge (tgt := 37) hx hb dX6_put_14 (by decide) (fun c2 => ?_) (fun c2 => ?_)
    · have hw := ifp c2 hw
      exact crv C hr hk hH (Nat.zero_le _) (Nat.zero_le _) hw dX6_put_37
    · have hw := ifn c2 hw
      refine lv_aload_n hx hb dX6_put_17 rfl (lv_at hl 0 rfl) ?_
      refine cg C hH 5 4 (by decide) (Nat.le_of_ble_eq_true rfl) rfl rfl ixX6 1 (by decide) rfl wd_227 rfl dX6_put_18 ?_
      refine lv_aload_n hx hb dX6_put_21 rfl (lv_at hl 0 rfl) ?_
      refine cg C hH 5 4 (by decide) (Nat.le_of_ble_eq_true rfl) rfl rfl ixX6 2 (by decide) rfl wd_228 rfl dX6_put_22 ?_
      refine lv_iload_n hx hb dX6_put_25 rfl (lv_at hl 1 rfl) ?_
      obtain ⟨h3, hw⟩ := hw
      refine cas C hH 7 (Nat.lt_of_lt_of_le (show 7 < 8 by decide) (Nat.le_add_left _ _)) rfl h3 dX6_put_26 (fun H locs hH => ?_)
      obtain ⟨t4, et4⟩ : ∃ x : CS, x = sA t 7 (tF t 162 4).toNatClampNeg a1 := ⟨_, rfl⟩
      rw [← et4] at hH
      have hw := hw t4 et4
      refine lv_aload_n hx hb dX6_put_27 rfl (lv_at hl 0 rfl) ?_
      refine lv_dup hx hb dX6_put_28 rfl ?_
      refine cg C hH 5 4 (by decide) (Nat.le_of_ble_eq_true rfl) rfl rfl ixX6 2 (by decide) rfl wd_228 rfl dX6_put_29 ?_
      refine lv_iconst (v := 1) hx hb dX6_put_32 (by decide) ?_
      refine lv_iadd hx hb dX6_put_33 ?_
      refine cp C hH 5 4 162 (by decide) (Nat.le_of_ble_eq_true rfl) rfl rfl ixX6 tyX6_ok nmX6 2 (by decide) (by decide) rfl rfl wd_228 pfI rfl rfl (Nat.le_of_ble_eq_true rfl) (hs_162_Reckoner Z ad t4 _) dX6_put_34 (fun H locs hH => ?_)
      obtain ⟨t5, et5⟩ : ∃ x : CS, x = sF t4 162 4 ((tF t4 162 4) + (1 : Int32)) := ⟨_, rfl⟩
      rw [← et5] at hH
      have hw := hw t5 et5
      exact crv C hr hk hH (Nat.zero_le _) (Nat.zero_le _) hw dX6_put_37
/-! PorterTurns$Token.isName -/
abbrev rm_Token_isName : Room := { frames := 0, cells := 0, slots := 0, locals := 0 }
def wp_Token_isName (t : CS) (a1 : Int32) (post : Int32 → CS → Prop) : Prop := if a1 < (128 : Int32) then (post (0 : Int32) t) else (if (141 : Int32) ≤ a1 then (post (0 : Int32) t) else (post (1 : Int32) t))
set_option maxHeartbeats 4000000 in
set_option maxRecDepth 100000 in
theorem c_Token_isName (l : Launch) (D : va_G) (Z : Nat → ClassId) (E : Nat → Nat) (ad : Nat → Nat → Nat) (t : CS) (a1 : Int32) (post : Int32 → CS → Prop) (hw : wp_Token_isName t a1 post) (L : List Nat) (sz : Nat) : Met l yX9_isName (Wd yX9_isName cX9_isName 1 (some .boolean)) rm_Token_isName (va_Pc [.int a1] (cPre D Z E ad L sz t)) (va_Qi post (cPost D Z E ad (cAs L sz)) (cAs L sz)) 0 0 (cAs L sz) := by
  refine cMet (Qc := fun A => va_Qi post (cPost D Z E ad A) A) (by decide) rfl _ (Nat.le_of_ble_eq_true rfl) (fun p e s m args below meth c A C hr hk ls hl hH => ?_) L sz
  obtain ⟨⟨hx, hb, hml, hown, hts⟩, hK⟩ := id C
  have hl : lv_has ls 1 [(0, .int a1)] := hl
  unfold wp_Token_isName at hw
  refine lv_iload_n hx hb dX9_isName_0 rfl (lv_at hl 0 rfl) ?_
  refine lv_sipush (v := 128) hx hb dX9_isName_1 (by decide) ?_
  refine lv_icmp_lt (tgt := 18) hx hb dX9_isName_4 (by decide) (fun c1 => ?_) (fun c1 => ?_)
  · have hw := ifp c1 hw
    refine lv_iconst (v := 0) hx hb dX9_isName_18 (by decide) ?_
    exact crz C hr hk hH (Nat.zero_le _) (Nat.zero_le _) bz0 hw dX9_isName_19
  · have hw := ifn c1 hw
    refine lv_iload_n hx hb dX9_isName_7 rfl (lv_at hl 0 rfl) ?_
    refine lv_sipush (v := 141) hx hb dX9_isName_8 (by decide) ?_
    refine lv_icmp_ge (tgt := 18) hx hb dX9_isName_11 (by decide) (fun c2 => ?_) (fun c2 => ?_)
    · have hw := ifp c2 hw
      refine lv_iconst (v := 0) hx hb dX9_isName_18 (by decide) ?_
      exact crz C hr hk hH (Nat.zero_le _) (Nat.zero_le _) bz0 hw dX9_isName_19
    · have hw := ifn c2 hw
      refine lv_iconst (v := 1) hx hb dX9_isName_14 (by decide) ?_
      refine lv_goto (tgt := 19) hx hb dX9_isName_15 (by decide) ?_
      exact crz C hr hk hH (Nat.zero_le _) (Nat.zero_le _) bz1 hw dX9_isName_19
/-! PorterTurns$Reckoner.valueOf -/
abbrev rm_Reck_valueOf : Room := { frames := 0, cells := 0, slots := 0, locals := 0 }
def wp_Reck_valueOf (t : CS) (a1 : Int32) (post : Int32 → CS → Prop) : Prop := if a1 < 0 then (post (0 : Int32) t) else (if (13 : Int32) ≤ a1 then (post (0 : Int32) t) else (vp_in a1 13 ∧ (post (tA t 6 a1.toNatClampNeg) t)))
set_option maxHeartbeats 4000000 in
set_option maxRecDepth 100000 in
theorem c_Reck_valueOf (l : Launch) (D : va_G) (Z : Nat → ClassId) (E : Nat → Nat) (ad : Nat → Nat → Nat) (t : CS) (a1 : Int32) (post : Int32 → CS → Prop) (hw : wp_Reck_valueOf t a1 post) (L : List Nat) (sz : Nat) : Met l yX6_valueOf (Wd yX6_valueOf cX6_valueOf 2 (some .int)) rm_Reck_valueOf (va_Pc [.ref (ad 5 4), .int a1] (cPre D Z E ad L sz t)) (va_Qi post (cPost D Z E ad (cAs L sz)) (cAs L sz)) 0 0 (cAs L sz) := by
  refine cMet (Qc := fun A => va_Qi post (cPost D Z E ad A) A) (by decide) rfl _ (Nat.le_of_ble_eq_true rfl) (fun p e s m args below meth c A C hr hk ls hl hH => ?_) L sz
  obtain ⟨⟨hx, hb, hml, hown, hts⟩, hK⟩ := id C
  have hl : lv_has ls 2 [(0, .ref (ad 5 4)), (1, .int a1)] := hl
  unfold wp_Reck_valueOf at hw
  refine lv_iload_n hx hb dX6_valueOf_0 rfl (lv_at hl 1 rfl) ?_
  refine lv_if_lt (tgt := 19) hx hb dX6_valueOf_1 (by decide) (fun c1 => ?_) (fun c1 => ?_)
  · have hw := ifp c1 hw
    refine lv_iconst (v := 0) hx hb dX6_valueOf_19 (by decide) ?_
    exact cri C hr hk hH (Nat.zero_le _) (Nat.zero_le _) hw dX6_valueOf_20
  · have hw := ifn c1 hw
    refine lv_iload_n hx hb dX6_valueOf_4 rfl (lv_at hl 1 rfl) ?_
    refine lv_bipush (v := 13) hx hb dX6_valueOf_5 (by decide) ?_
    refine lv_icmp_ge (tgt := 19) hx hb dX6_valueOf_7 (by decide) (fun c2 => ?_) (fun c2 => ?_)
    · have hw := ifp c2 hw
      refine lv_iconst (v := 0) hx hb dX6_valueOf_19 (by decide) ?_
      exact cri C hr hk hH (Nat.zero_le _) (Nat.zero_le _) hw dX6_valueOf_20
    · have hw := ifn c2 hw
      refine lv_aload_n hx hb dX6_valueOf_10 rfl (lv_at hl 0 rfl) ?_
      refine cg C hH 5 4 (by decide) (Nat.le_of_ble_eq_true rfl) rfl rfl ixX6 0 (by decide) rfl wd_226 rfl dX6_valueOf_11 ?_
      refine lv_iload_n hx hb dX6_valueOf_14 rfl (lv_at hl 1 rfl) ?_
      obtain ⟨h3, hw⟩ := hw
      refine cai C hH 6 (Nat.lt_of_lt_of_le (show 6 < 8 by decide) (Nat.le_add_left _ _)) h3 dX6_valueOf_15 ?_
      refine lv_goto (tgt := 20) hx hb dX6_valueOf_16 (by decide) ?_
      exact cri C hr hk hH (Nat.zero_le _) (Nat.zero_le _) hw dX6_valueOf_20
/-! PorterTurns$Reckoner.take -/
abbrev rm_Reck_take : Room := { frames := 0, cells := 0, slots := 0, locals := 0 }
def wp_Reck_take (t : CS) (post : Int32 → CS → Prop) : Prop := if (tF t 162 4) ≤ 0 then (post (0 : Int32) t) else (if (tF t 162 4) ≤ (200 : Int32) then (∀ t3 : CS, t3 = sF t 162 4 ((tF t 162 4) - (1 : Int32)) → (vp_in (tF t3 162 4) 200 ∧ (post (tA t3 7 (tF t3 162 4).toNatClampNeg) t3))) else (post (0 : Int32) t))
set_option maxHeartbeats 4000000 in
set_option maxRecDepth 100000 in
theorem c_Reck_take (l : Launch) (D : va_G) (Z : Nat → ClassId) (E : Nat → Nat) (ad : Nat → Nat → Nat) (t : CS) (post : Int32 → CS → Prop) (hw : wp_Reck_take t  post) (L : List Nat) (sz : Nat) : Met l yX6_take (Wd yX6_take cX6_take 1 (some .int)) rm_Reck_take (va_Pc [.ref (ad 5 4)] (cPre D Z E ad L sz t)) (va_Qi post (cPost D Z E ad (cAs L sz)) (cAs L sz)) 0 0 (cAs L sz) := by
  refine cMet (Qc := fun A => va_Qi post (cPost D Z E ad A) A) (by decide) rfl _ (Nat.le_of_ble_eq_true rfl) (fun p e s m args below meth c A C hr hk ls hl hH => ?_) L sz
  obtain ⟨⟨hx, hb, hml, hown, hts⟩, hK⟩ := id C
  have hl : lv_has ls 1 [(0, .ref (ad 5 4))] := hl
  unfold wp_Reck_take at hw
  refine lv_aload_n hx hb dX6_take_0 rfl (lv_at hl 0 rfl) ?_
  refine cg C hH 5 4 (by decide) (Nat.le_of_ble_eq_true rfl) rfl rfl ixX6 2 (by decide) rfl wd_228 rfl dX6_take_1 ?_
  refine lv_if_le (tgt := 17) hx hb dX6_take_4 (by decide) (fun c1 => ?_) (fun c1 => ?_)
  · have hw := ifp c1 hw
    refine lv_iconst (v := 0) hx hb dX6_take_17 (by decide) ?_
    exact cri C hr hk hH (Nat.zero_le _) (Nat.zero_le _) hw dX6_take_18
  · have hw := ifn c1 hw
    refine lv_aload_n hx hb dX6_take_7 rfl (lv_at hl 0 rfl) ?_
    refine cg C hH 5 4 (by decide) (Nat.le_of_ble_eq_true rfl) rfl rfl ixX6 2 (by decide) rfl wd_228 rfl dX6_take_8 ?_
    refine lv_sipush (v := 200) hx hb dX6_take_11 (by decide) ?_
    refine lv_icmp_le (tgt := 19) hx hb dX6_take_14 (by decide) (fun c2 => ?_) (fun c2 => ?_)
    · have hw := ifp c2 hw
      refine lv_aload_n hx hb dX6_take_19 rfl (lv_at hl 0 rfl) ?_
      refine lv_dup hx hb dX6_take_20 rfl ?_
      refine cg C hH 5 4 (by decide) (Nat.le_of_ble_eq_true rfl) rfl rfl ixX6 2 (by decide) rfl wd_228 rfl dX6_take_21 ?_
      refine lv_iconst (v := 1) hx hb dX6_take_24 (by decide) ?_
      refine lv_isub hx hb dX6_take_25 ?_
      refine cp C hH 5 4 162 (by decide) (Nat.le_of_ble_eq_true rfl) rfl rfl ixX6 tyX6_ok nmX6 2 (by decide) (by decide) rfl rfl wd_228 pfI rfl rfl (Nat.le_of_ble_eq_true rfl) (hs_162_Reckoner Z ad t _) dX6_take_26 (fun H locs hH => ?_)
      obtain ⟨t3, et3⟩ : ∃ x : CS, x = sF t 162 4 ((tF t 162 4) - (1 : Int32)) := ⟨_, rfl⟩
      rw [← et3] at hH
      have hw := hw t3 et3
      refine lv_aload_n hx hb dX6_take_29 rfl (lv_at hl 0 rfl) ?_
      refine cg C hH 5 4 (by decide) (Nat.le_of_ble_eq_true rfl) rfl rfl ixX6 1 (by decide) rfl wd_227 rfl dX6_take_30 ?_
      refine lv_aload_n hx hb dX6_take_33 rfl (lv_at hl 0 rfl) ?_
      refine cg C hH 5 4 (by decide) (Nat.le_of_ble_eq_true rfl) rfl rfl ixX6 2 (by decide) rfl wd_228 rfl dX6_take_34 ?_
      obtain ⟨h4, hw⟩ := hw
      refine cai C hH 7 (Nat.lt_of_lt_of_le (show 7 < 8 by decide) (Nat.le_add_left _ _)) h4 dX6_take_37 ?_
      exact cri C hr hk hH (Nat.zero_le _) (Nat.zero_le _) hw dX6_take_38
    · have hw := ifn c2 hw
      refine lv_iconst (v := 0) hx hb dX6_take_17 (by decide) ?_
      exact cri C hr hk hH (Nat.zero_le _) (Nat.zero_le _) hw dX6_take_18
/-! PorterTurns$Reckoner.truth -/
abbrev rm_Reck_truth : Room := { frames := 0, cells := 0, slots := 0, locals := 0 }
def wp_Reck_truth (t : CS) (a1 : Int32) (post : Int32 → CS → Prop) : Prop := if a1 = 0 then (post (0 : Int32) t) else (post (1 : Int32) t)
set_option maxHeartbeats 4000000 in
set_option maxRecDepth 100000 in
theorem c_Reck_truth (l : Launch) (D : va_G) (Z : Nat → ClassId) (E : Nat → Nat) (ad : Nat → Nat → Nat) (t : CS) (a1 : Int32) (post : Int32 → CS → Prop) (hw : wp_Reck_truth t a1 post) (L : List Nat) (sz : Nat) : Met l yX6_truth (Wd yX6_truth cX6_truth 1 (some .int)) rm_Reck_truth (va_Pc [.int a1] (cPre D Z E ad L sz t)) (va_Qi post (cPost D Z E ad (cAs L sz)) (cAs L sz)) 0 0 (cAs L sz) := by
  refine cMet (Qc := fun A => va_Qi post (cPost D Z E ad A) A) (by decide) rfl _ (Nat.le_of_ble_eq_true rfl) (fun p e s m args below meth c A C hr hk ls hl hH => ?_) L sz
  obtain ⟨⟨hx, hb, hml, hown, hts⟩, hK⟩ := id C
  have hl : lv_has ls 1 [(0, .int a1)] := hl
  unfold wp_Reck_truth at hw
  refine lv_iload_n hx hb dX6_truth_0 rfl (lv_at hl 0 rfl) ?_
  refine lv_if_eq (tgt := 8) hx hb dX6_truth_1 (by decide) (fun c1 => ?_) (fun c1 => ?_)
  · have hw := ifp c1 hw
    refine lv_iconst (v := 0) hx hb dX6_truth_8 (by decide) ?_
    exact cri C hr hk hH (Nat.zero_le _) (Nat.zero_le _) hw dX6_truth_9
  · have hw := ifn c1 hw
    refine lv_iconst (v := 1) hx hb dX6_truth_4 (by decide) ?_
    refine lv_goto (tgt := 9) hx hb dX6_truth_5 (by decide) ?_
    exact cri C hr hk hH (Nat.zero_le _) (Nat.zero_le _) hw dX6_truth_9
/-! PorterTurns$Reckoner.worked -/
abbrev rm_Reck_worked : Room := { frames := 1, cells := 0, slots := 0, locals := 24 }
def wp_Reck_worked_172 (post : Int32 → CS → Prop) (t : CS) (t0_ : Int32) : Prop := wp_Reck_truth t t0_ (fun r2 t1 => post r2 t1)
set_option maxHeartbeats 4000000 in
set_option maxRecDepth 100000 in
theorem b_Reck_worked_172 {p : Program} {l : Launch} {e : Env} {s : State} {m : MethodId} {args : Array Value} {below : List Frame} {meth : Method} {c : Code} {D : va_G} {Z : Nat → ClassId} {E : Nat → Nat} {ad : Nat → Nat → Nat} {A : Nat → Prop} (C : CC p s m args c cX6_worked 3 RX6 D Z E A) (hr : meth.sig.returnType = some .int) (hk : meth.locks = false) {post : Int32 → CS → Prop} : ∀ (t : CS) (t0_ : Int32), wp_Reck_worked_172 post t t0_ → ∀ (H : Heap) (locs : List Loc) (ls : Array Slot), CH D Z E ad A s.heap t H locs → lv_has ls 3 [] → CWi p l e rm_Reck_worked s m args below meth c D Z E ad A 0 0 post H locs 0 0 (F0 m 172 ls [.int t0_]) := by
  obtain ⟨⟨hx, hb, hml, hown, hts⟩, hK⟩ := id C
  intro t t0_ hw H locs ls hH hl
  unfold wp_Reck_worked_172 at hw
  refine ccSi0 C hH [.int t0_] (c_Reck_truth l D Z E ad t t0_ _ hw) (cwTS 1 hts wd_757 wd_758 wd_13 wd_759 rfl rfl (by decide +kernel) ⟨Nat.le_of_ble_eq_true rfl, Nat.le_of_ble_eq_true rfl⟩) rfl hl.1 rfl (Nat.le_of_ble_eq_true rfl) dX6_worked_172 ⟨Nat.zero_le _, Nat.zero_le _⟩ (fun r2 t1 H locs hw hH => ?_)
  exact cri C hr hk hH (Nat.zero_le _) (Nat.zero_le _) hw dX6_worked_175
def wp_Reck_worked_158 (post : Int32 → CS → Prop) (t : CS) (t0_ : Int32) : Prop := wp_Reck_truth t t0_ (fun r4 t3 => post r4 t3)
set_option maxHeartbeats 4000000 in
set_option maxRecDepth 100000 in
theorem b_Reck_worked_158 {p : Program} {l : Launch} {e : Env} {s : State} {m : MethodId} {args : Array Value} {below : List Frame} {meth : Method} {c : Code} {D : va_G} {Z : Nat → ClassId} {E : Nat → Nat} {ad : Nat → Nat → Nat} {A : Nat → Prop} (C : CC p s m args c cX6_worked 3 RX6 D Z E A) (hr : meth.sig.returnType = some .int) (hk : meth.locks = false) {post : Int32 → CS → Prop} : ∀ (t : CS) (t0_ : Int32), wp_Reck_worked_158 post t t0_ → ∀ (H : Heap) (locs : List Loc) (ls : Array Slot), CH D Z E ad A s.heap t H locs → lv_has ls 3 [] → CWi p l e rm_Reck_worked s m args below meth c D Z E ad A 0 0 post H locs 0 0 (F0 m 158 ls [.int t0_]) := by
  obtain ⟨⟨hx, hb, hml, hown, hts⟩, hK⟩ := id C
  intro t t0_ hw H locs ls hH hl
  unfold wp_Reck_worked_158 at hw
  refine ccSi0 C hH [.int t0_] (c_Reck_truth l D Z E ad t t0_ _ hw) (cwTS 1 hts wd_757 wd_758 wd_13 wd_759 rfl rfl (by decide +kernel) ⟨Nat.le_of_ble_eq_true rfl, Nat.le_of_ble_eq_true rfl⟩) rfl hl.1 rfl (Nat.le_of_ble_eq_true rfl) dX6_worked_158 ⟨Nat.zero_le _, Nat.zero_le _⟩ (fun r4 t3 H locs hw hH => ?_)
  exact cri C hr hk hH (Nat.zero_le _) (Nat.zero_le _) hw dX6_worked_161
def wp_Reck_worked_144 (post : Int32 → CS → Prop) (t : CS) (t0_ : Int32) : Prop := wp_Reck_truth t t0_ (fun r6 t5 => post r6 t5)
set_option maxHeartbeats 4000000 in
set_option maxRecDepth 100000 in
theorem b_Reck_worked_144 {p : Program} {l : Launch} {e : Env} {s : State} {m : MethodId} {args : Array Value} {below : List Frame} {meth : Method} {c : Code} {D : va_G} {Z : Nat → ClassId} {E : Nat → Nat} {ad : Nat → Nat → Nat} {A : Nat → Prop} (C : CC p s m args c cX6_worked 3 RX6 D Z E A) (hr : meth.sig.returnType = some .int) (hk : meth.locks = false) {post : Int32 → CS → Prop} : ∀ (t : CS) (t0_ : Int32), wp_Reck_worked_144 post t t0_ → ∀ (H : Heap) (locs : List Loc) (ls : Array Slot), CH D Z E ad A s.heap t H locs → lv_has ls 3 [] → CWi p l e rm_Reck_worked s m args below meth c D Z E ad A 0 0 post H locs 0 0 (F0 m 144 ls [.int t0_]) := by
  obtain ⟨⟨hx, hb, hml, hown, hts⟩, hK⟩ := id C
  intro t t0_ hw H locs ls hH hl
  unfold wp_Reck_worked_144 at hw
  refine ccSi0 C hH [.int t0_] (c_Reck_truth l D Z E ad t t0_ _ hw) (cwTS 1 hts wd_757 wd_758 wd_13 wd_759 rfl rfl (by decide +kernel) ⟨Nat.le_of_ble_eq_true rfl, Nat.le_of_ble_eq_true rfl⟩) rfl hl.1 rfl (Nat.le_of_ble_eq_true rfl) dX6_worked_144 ⟨Nat.zero_le _, Nat.zero_le _⟩ (fun r6 t5 H locs hw hH => ?_)
  exact cri C hr hk hH (Nat.zero_le _) (Nat.zero_le _) hw dX6_worked_147
def wp_Reck_worked_130 (post : Int32 → CS → Prop) (t : CS) (t0_ : Int32) : Prop := wp_Reck_truth t t0_ (fun r8 t7 => post r8 t7)
set_option maxHeartbeats 4000000 in
set_option maxRecDepth 100000 in
theorem b_Reck_worked_130 {p : Program} {l : Launch} {e : Env} {s : State} {m : MethodId} {args : Array Value} {below : List Frame} {meth : Method} {c : Code} {D : va_G} {Z : Nat → ClassId} {E : Nat → Nat} {ad : Nat → Nat → Nat} {A : Nat → Prop} (C : CC p s m args c cX6_worked 3 RX6 D Z E A) (hr : meth.sig.returnType = some .int) (hk : meth.locks = false) {post : Int32 → CS → Prop} : ∀ (t : CS) (t0_ : Int32), wp_Reck_worked_130 post t t0_ → ∀ (H : Heap) (locs : List Loc) (ls : Array Slot), CH D Z E ad A s.heap t H locs → lv_has ls 3 [] → CWi p l e rm_Reck_worked s m args below meth c D Z E ad A 0 0 post H locs 0 0 (F0 m 130 ls [.int t0_]) := by
  obtain ⟨⟨hx, hb, hml, hown, hts⟩, hK⟩ := id C
  intro t t0_ hw H locs ls hH hl
  unfold wp_Reck_worked_130 at hw
  refine ccSi0 C hH [.int t0_] (c_Reck_truth l D Z E ad t t0_ _ hw) (cwTS 1 hts wd_757 wd_758 wd_13 wd_759 rfl rfl (by decide +kernel) ⟨Nat.le_of_ble_eq_true rfl, Nat.le_of_ble_eq_true rfl⟩) rfl hl.1 rfl (Nat.le_of_ble_eq_true rfl) dX6_worked_130 ⟨Nat.zero_le _, Nat.zero_le _⟩ (fun r8 t7 H locs hw hH => ?_)
  exact cri C hr hk hH (Nat.zero_le _) (Nat.zero_le _) hw dX6_worked_133
def wp_Reck_worked_129 (post : Int32 → CS → Prop) (t : CS) : Prop := wp_Reck_worked_130 post t (0 : Int32)
set_option maxHeartbeats 4000000 in
set_option maxRecDepth 100000 in
theorem b_Reck_worked_129 {p : Program} {l : Launch} {e : Env} {s : State} {m : MethodId} {args : Array Value} {below : List Frame} {meth : Method} {c : Code} {D : va_G} {Z : Nat → ClassId} {E : Nat → Nat} {ad : Nat → Nat → Nat} {A : Nat → Prop} (C : CC p s m args c cX6_worked 3 RX6 D Z E A) (hr : meth.sig.returnType = some .int) (hk : meth.locks = false) {post : Int32 → CS → Prop} : ∀ (t : CS) , wp_Reck_worked_129 post t → ∀ (H : Heap) (locs : List Loc) (ls : Array Slot), CH D Z E ad A s.heap t H locs → lv_has ls 3 [] → CWi p l e rm_Reck_worked s m args below meth c D Z E ad A 0 0 post H locs 0 0 (F0 m 129 ls []) := by
  obtain ⟨⟨hx, hb, hml, hown, hts⟩, hK⟩ := id C
  intro t  hw H locs ls hH hl
  unfold wp_Reck_worked_129 at hw
  refine lv_iconst (v := 0) hx hb dX6_worked_129 (by decide) ?_
  exact b_Reck_worked_130 C hr hk  t (0 : Int32) hw _ _ _ hH (lv_sub hl [] rfl)
def wp_Reck_worked_113 (post : Int32 → CS → Prop) (t : CS) (t0_ : Int32) : Prop := wp_Reck_truth t t0_ (fun r10 t9 => post r10 t9)
set_option maxHeartbeats 4000000 in
set_option maxRecDepth 100000 in
theorem b_Reck_worked_113 {p : Program} {l : Launch} {e : Env} {s : State} {m : MethodId} {args : Array Value} {below : List Frame} {meth : Method} {c : Code} {D : va_G} {Z : Nat → ClassId} {E : Nat → Nat} {ad : Nat → Nat → Nat} {A : Nat → Prop} (C : CC p s m args c cX6_worked 3 RX6 D Z E A) (hr : meth.sig.returnType = some .int) (hk : meth.locks = false) {post : Int32 → CS → Prop} : ∀ (t : CS) (t0_ : Int32), wp_Reck_worked_113 post t t0_ → ∀ (H : Heap) (locs : List Loc) (ls : Array Slot), CH D Z E ad A s.heap t H locs → lv_has ls 3 [] → CWi p l e rm_Reck_worked s m args below meth c D Z E ad A 0 0 post H locs 0 0 (F0 m 113 ls [.int t0_]) := by
  obtain ⟨⟨hx, hb, hml, hown, hts⟩, hK⟩ := id C
  intro t t0_ hw H locs ls hH hl
  unfold wp_Reck_worked_113 at hw
  refine ccSi0 C hH [.int t0_] (c_Reck_truth l D Z E ad t t0_ _ hw) (cwTS 1 hts wd_757 wd_758 wd_13 wd_759 rfl rfl (by decide +kernel) ⟨Nat.le_of_ble_eq_true rfl, Nat.le_of_ble_eq_true rfl⟩) rfl hl.1 rfl (Nat.le_of_ble_eq_true rfl) dX6_worked_113 ⟨Nat.zero_le _, Nat.zero_le _⟩ (fun r10 t9 H locs hw hH => ?_)
  exact cri C hr hk hH (Nat.zero_le _) (Nat.zero_le _) hw dX6_worked_116
def wp_Reck_worked_108 (post : Int32 → CS → Prop) (t : CS) : Prop := wp_Reck_worked_113 post t (1 : Int32)
set_option maxHeartbeats 4000000 in
set_option maxRecDepth 100000 in
theorem b_Reck_worked_108 {p : Program} {l : Launch} {e : Env} {s : State} {m : MethodId} {args : Array Value} {below : List Frame} {meth : Method} {c : Code} {D : va_G} {Z : Nat → ClassId} {E : Nat → Nat} {ad : Nat → Nat → Nat} {A : Nat → Prop} (C : CC p s m args c cX6_worked 3 RX6 D Z E A) (hr : meth.sig.returnType = some .int) (hk : meth.locks = false) {post : Int32 → CS → Prop} : ∀ (t : CS) , wp_Reck_worked_108 post t → ∀ (H : Heap) (locs : List Loc) (ls : Array Slot), CH D Z E ad A s.heap t H locs → lv_has ls 3 [] → CWi p l e rm_Reck_worked s m args below meth c D Z E ad A 0 0 post H locs 0 0 (F0 m 108 ls []) := by
  obtain ⟨⟨hx, hb, hml, hown, hts⟩, hK⟩ := id C
  intro t  hw H locs ls hH hl
  unfold wp_Reck_worked_108 at hw
  refine lv_iconst (v := 1) hx hb dX6_worked_108 (by decide) ?_
  refine lv_goto (tgt := 113) hx hb dX6_worked_109 (by decide) ?_
  exact b_Reck_worked_113 C hr hk  t (1 : Int32) hw _ _ _ hH (lv_sub hl [] rfl)
def wp_Reck_worked (t : CS) (a1 : Int32) (a2 : Int32) (a3 : Int32) (post : Int32 → CS → Prop) : Prop := if a1 = (42 : Int32) then (post (a2 * a3) t) else (if a1 = (43 : Int32) then (post (a2 + a3) t) else (if a1 = (45 : Int32) then (post (a2 - a3) t) else (if a1 = (47 : Int32) then (if a3 = 0 then (post (0 : Int32) t) else (¬ a3 = 0 ∧ (post (a2 / a3) t))) else (if a1 = (60 : Int32) then (if a3 ≤ a2 then (wp_Reck_worked_144 post t (0 : Int32)) else (wp_Reck_worked_144 post t (1 : Int32))) else (if a1 = (61 : Int32) then (if a2 = a3 then (wp_Reck_worked_158 post t (1 : Int32)) else (wp_Reck_worked_158 post t (0 : Int32))) else (if a1 = (62 : Int32) then (if a2 ≤ a3 then (wp_Reck_worked_172 post t (0 : Int32)) else (wp_Reck_worked_172 post t (1 : Int32))) else (if a1 = (142 : Int32) then (if a2 = 0 then (if a3 = 0 then (wp_Reck_worked_113 post t (0 : Int32)) else (wp_Reck_worked_108 post t)) else (wp_Reck_worked_108 post t)) else (if a1 = (143 : Int32) then (if a2 = 0 then (wp_Reck_worked_129 post t) else (if a3 = 0 then (wp_Reck_worked_129 post t) else (wp_Reck_worked_130 post t (1 : Int32)))) else (if a1 = (145 : Int32) then (post (if a3 < a2 then a3 else a2) t) else (if a1 = (146 : Int32) then (post (if a2 < a3 then a3 else a2) t) else (post (0 : Int32) t)))))))))))
set_option maxHeartbeats 4000000 in
set_option maxRecDepth 100000 in
theorem c_Reck_worked (l : Launch) (D : va_G) (Z : Nat → ClassId) (E : Nat → Nat) (ad : Nat → Nat → Nat) (t : CS) (a1 : Int32) (a2 : Int32) (a3 : Int32) (post : Int32 → CS → Prop) (hw : wp_Reck_worked t a1 a2 a3 post) (L : List Nat) (sz : Nat) : Met l yX6_worked (Wd yX6_worked cX6_worked 3 (some .int)) rm_Reck_worked (va_Pc [.int a1, .int a2, .int a3] (cPre D Z E ad L sz t)) (va_Qi post (cPost D Z E ad (cAs L sz)) (cAs L sz)) 0 0 (cAs L sz) := by
  refine cMet (Qc := fun A => va_Qi post (cPost D Z E ad A) A) (by decide) rfl _ (Nat.le_of_ble_eq_true rfl) (fun p e s m args below meth c A C hr hk ls hl hH => ?_) L sz
  obtain ⟨⟨hx, hb, hml, hown, hts⟩, hK⟩ := id C
  have hl : lv_has ls 3 [(0, .int a1), (1, .int a2), (2, .int a3)] := hl
  unfold wp_Reck_worked at hw
  refine lv_iload_n hx hb dX6_worked_0 rfl (lv_at hl 0 rfl) ?_
  by_cases c11 : a1 = (42 : Int32)
  · have hw := ifp c11 hw
    refine lv_lookup (off := 183) (tgt := 184) hx hb dX6_worked_1 (by decide) (by rw [c11]; try rfl) (by decide) ?_
    refine lv_iload_n hx hb dX6_worked_184 rfl (lv_at hl 1 rfl) ?_
    refine lv_iload_n hx hb dX6_worked_185 rfl (lv_at hl 2 rfl) ?_
    refine lv_imul hx hb dX6_worked_186 ?_
    exact cri C hr hk hH (Nat.zero_le _) (Nat.zero_le _) hw dX6_worked_187
  have hw := ifn c11 hw
  by_cases c12 : a1 = (43 : Int32)
  · have hw := ifp c12 hw
    refine lv_lookup (off := 175) (tgt := 176) hx hb dX6_worked_1 (by decide) (by rw [c12]; try rfl) (by decide) ?_
    refine lv_iload_n hx hb dX6_worked_176 rfl (lv_at hl 1 rfl) ?_
    refine lv_iload_n hx hb dX6_worked_177 rfl (lv_at hl 2 rfl) ?_
    refine lv_iadd hx hb dX6_worked_178 ?_
    exact cri C hr hk hH (Nat.zero_le _) (Nat.zero_le _) hw dX6_worked_179
  have hw := ifn c12 hw
  by_cases c13 : a1 = (45 : Int32)
  · have hw := ifp c13 hw
    refine lv_lookup (off := 179) (tgt := 180) hx hb dX6_worked_1 (by decide) (by rw [c13]; try rfl) (by decide) ?_
    refine lv_iload_n hx hb dX6_worked_180 rfl (lv_at hl 1 rfl) ?_
    refine lv_iload_n hx hb dX6_worked_181 rfl (lv_at hl 2 rfl) ?_
    refine lv_isub hx hb dX6_worked_182 ?_
    exact cri C hr hk hH (Nat.zero_le _) (Nat.zero_le _) hw dX6_worked_183
  have hw := ifn c13 hw
  by_cases c14 : a1 = (47 : Int32)
  · have hw := ifp c14 hw
    refine lv_lookup (off := 187) (tgt := 188) hx hb dX6_worked_1 (by decide) (by rw [c14]; try rfl) (by decide) ?_
    refine lv_iload_n hx hb dX6_worked_188 rfl (lv_at hl 2 rfl) ?_
    refine lv_if_ne (tgt := 196) hx hb dX6_worked_189 (by decide) (fun c15 => ?_) (fun c15 => ?_)
    · have hw := ifn c15 hw
      refine lv_iload_n hx hb dX6_worked_196 rfl (lv_at hl 1 rfl) ?_
      refine lv_iload_n hx hb dX6_worked_197 rfl (lv_at hl 2 rfl) ?_
      obtain ⟨h16, hw⟩ := hw
      refine lv_idiv hx hb dX6_worked_198 h16 ?_
      exact cri C hr hk hH (Nat.zero_le _) (Nat.zero_le _) hw dX6_worked_199
    · have hw := ifp c15 hw
      refine lv_iconst (v := 0) hx hb dX6_worked_192 (by decide) ?_
      refine lv_goto (tgt := 199) hx hb dX6_worked_193 (by decide) ?_
      exact cri C hr hk hH (Nat.zero_le _) (Nat.zero_le _) hw dX6_worked_199
  have hw := ifn c14 hw
  by_cases c17 : a1 = (60 : Int32)
  · have hw := ifp c17 hw
    refine lv_lookup (off := 133) (tgt := 134) hx hb dX6_worked_1 (by decide) (by rw [c17]; try rfl) (by decide) ?_
    refine lv_iload_n hx hb dX6_worked_134 rfl (lv_at hl 1 rfl) ?_
    refine lv_iload_n hx hb dX6_worked_135 rfl (lv_at hl 2 rfl) ?_
    refine lv_icmp_ge (tgt := 143) hx hb dX6_worked_136 (by decide) (fun c18 => ?_) (fun c18 => ?_)
    · have hw := ifp c18 hw
      refine lv_iconst (v := 0) hx hb dX6_worked_143 (by decide) ?_
      exact b_Reck_worked_144 C hr hk  t (0 : Int32) hw _ _ _ hH (lv_sub hl [] rfl)
    · have hw := ifn c18 hw
      refine lv_iconst (v := 1) hx hb dX6_worked_139 (by decide) ?_
      refine lv_goto (tgt := 144) hx hb dX6_worked_140 (by decide) ?_
      exact b_Reck_worked_144 C hr hk  t (1 : Int32) hw _ _ _ hH (lv_sub hl [] rfl)
  have hw := ifn c17 hw
  by_cases c19 : a1 = (61 : Int32)
  · have hw := ifp c19 hw
    refine lv_lookup (off := 147) (tgt := 148) hx hb dX6_worked_1 (by decide) (by rw [c19]; try rfl) (by decide) ?_
    refine lv_iload_n hx hb dX6_worked_148 rfl (lv_at hl 1 rfl) ?_
    refine lv_iload_n hx hb dX6_worked_149 rfl (lv_at hl 2 rfl) ?_
    refine lv_icmp_ne (tgt := 157) hx hb dX6_worked_150 (by decide) (fun c20 => ?_) (fun c20 => ?_)
    · have hw := ifn c20 hw
      refine lv_iconst (v := 0) hx hb dX6_worked_157 (by decide) ?_
      exact b_Reck_worked_158 C hr hk  t (0 : Int32) hw _ _ _ hH (lv_sub hl [] rfl)
    · have hw := ifp c20 hw
      refine lv_iconst (v := 1) hx hb dX6_worked_153 (by decide) ?_
      refine lv_goto (tgt := 158) hx hb dX6_worked_154 (by decide) ?_
      exact b_Reck_worked_158 C hr hk  t (1 : Int32) hw _ _ _ hH (lv_sub hl [] rfl)
  have hw := ifn c19 hw
  by_cases c21 : a1 = (62 : Int32)
  · have hw := ifp c21 hw
    refine lv_lookup (off := 161) (tgt := 162) hx hb dX6_worked_1 (by decide) (by rw [c21]; try rfl) (by decide) ?_
    refine lv_iload_n hx hb dX6_worked_162 rfl (lv_at hl 1 rfl) ?_
    refine lv_iload_n hx hb dX6_worked_163 rfl (lv_at hl 2 rfl) ?_
    refine lv_icmp_le (tgt := 171) hx hb dX6_worked_164 (by decide) (fun c22 => ?_) (fun c22 => ?_)
    · have hw := ifp c22 hw
      refine lv_iconst (v := 0) hx hb dX6_worked_171 (by decide) ?_
      exact b_Reck_worked_172 C hr hk  t (0 : Int32) hw _ _ _ hH (lv_sub hl [] rfl)
    · have hw := ifn c22 hw
      refine lv_iconst (v := 1) hx hb dX6_worked_167 (by decide) ?_
      refine lv_goto (tgt := 172) hx hb dX6_worked_168 (by decide) ?_
      exact b_Reck_worked_172 C hr hk  t (1 : Int32) hw _ _ _ hH (lv_sub hl [] rfl)
  have hw := ifn c21 hw
  by_cases c23 : a1 = (142 : Int32)
  · have hw := ifp c23 hw
    refine lv_lookup (off := 99) (tgt := 100) hx hb dX6_worked_1 (by decide) (by rw [c23]; try rfl) (by decide) ?_
    refine lv_iload_n hx hb dX6_worked_100 rfl (lv_at hl 1 rfl) ?_
    refine lv_if_ne (tgt := 108) hx hb dX6_worked_101 (by decide) (fun c24 => ?_) (fun c24 => ?_)
    · have hw := ifn c24 hw
      exact b_Reck_worked_108 C hr hk  t  hw _ _ _ hH (lv_sub hl [] rfl)
    · have hw := ifp c24 hw
      refine lv_iload_n hx hb dX6_worked_104 rfl (lv_at hl 2 rfl) ?_
      refine lv_if_eq (tgt := 112) hx hb dX6_worked_105 (by decide) (fun c25 => ?_) (fun c25 => ?_)
      · have hw := ifp c25 hw
        refine lv_iconst (v := 0) hx hb dX6_worked_112 (by decide) ?_
        exact b_Reck_worked_113 C hr hk  t (0 : Int32) hw _ _ _ hH (lv_sub hl [] rfl)
      · have hw := ifn c25 hw
        exact b_Reck_worked_108 C hr hk  t  hw _ _ _ hH (lv_sub hl [] rfl)
  have hw := ifn c23 hw
  by_cases c26 : a1 = (143 : Int32)
  · have hw := ifp c26 hw
    refine lv_lookup (off := 116) (tgt := 117) hx hb dX6_worked_1 (by decide) (by rw [c26]; try rfl) (by decide) ?_
    refine lv_iload_n hx hb dX6_worked_117 rfl (lv_at hl 1 rfl) ?_
    refine lv_if_eq (tgt := 129) hx hb dX6_worked_118 (by decide) (fun c27 => ?_) (fun c27 => ?_)
    · have hw := ifp c27 hw
      exact b_Reck_worked_129 C hr hk  t  hw _ _ _ hH (lv_sub hl [] rfl)
    · have hw := ifn c27 hw
      refine lv_iload_n hx hb dX6_worked_121 rfl (lv_at hl 2 rfl) ?_
      refine lv_if_eq (tgt := 129) hx hb dX6_worked_122 (by decide) (fun c28 => ?_) (fun c28 => ?_)
      · have hw := ifp c28 hw
        exact b_Reck_worked_129 C hr hk  t  hw _ _ _ hH (lv_sub hl [] rfl)
      · have hw := ifn c28 hw
        refine lv_iconst (v := 1) hx hb dX6_worked_125 (by decide) ?_
        refine lv_goto (tgt := 130) hx hb dX6_worked_126 (by decide) ?_
        exact b_Reck_worked_130 C hr hk  t (1 : Int32) hw _ _ _ hH (lv_sub hl [] rfl)
  have hw := ifn c26 hw
  by_cases c29 : a1 = (145 : Int32)
  · have hw := ifp c29 hw
    refine lv_lookup (off := 199) (tgt := 200) hx hb dX6_worked_1 (by decide) (by rw [c29]; try rfl) (by decide) ?_
    refine lv_iload_n hx hb dX6_worked_200 rfl (lv_at hl 1 rfl) ?_
    refine lv_iload_n hx hb dX6_worked_201 rfl (lv_at hl 2 rfl) ?_
    refine va_mmin hx hb (by rw [hml, hl.1]) hown (hts _ wd_763) (hts _ wd_155) (hts _ wd_7) (hts _ wd_156) (Nat.le_of_ble_eq_true rfl) (Nat.le_of_ble_eq_true rfl) (show 0 ≤ 0 ∧ 0 ≤ 0 from ⟨Nat.zero_le _, Nat.zero_le _⟩).1 (show 0 ≤ 0 ∧ 0 ≤ 0 from ⟨Nat.zero_le _, Nat.zero_le _⟩).2 dX6_worked_202 ?_
    exact cri C hr hk hH (Nat.zero_le _) (Nat.zero_le _) hw dX6_worked_205
  have hw := ifn c29 hw
  by_cases c30 : a1 = (146 : Int32)
  · have hw := ifp c30 hw
    refine lv_lookup (off := 205) (tgt := 206) hx hb dX6_worked_1 (by decide) (by rw [c30]; try rfl) (by decide) ?_
    refine lv_iload_n hx hb dX6_worked_206 rfl (lv_at hl 1 rfl) ?_
    refine lv_iload_n hx hb dX6_worked_207 rfl (lv_at hl 2 rfl) ?_
    refine va_mmax hx hb (by rw [hml, hl.1]) hown (hts _ wd_764) (hts _ wd_123) (hts _ wd_7) (hts _ wd_124) (Nat.le_of_ble_eq_true rfl) (Nat.le_of_ble_eq_true rfl) (show 0 ≤ 0 ∧ 0 ≤ 0 from ⟨Nat.zero_le _, Nat.zero_le _⟩).1 (show 0 ≤ 0 ∧ 0 ≤ 0 from ⟨Nat.zero_le _, Nat.zero_le _⟩).2 dX6_worked_208 ?_
    exact cri C hr hk hH (Nat.zero_le _) (Nat.zero_le _) hw dX6_worked_211
  have hw := ifn c30 hw
  refine lv_lookup (off := 211) (tgt := 212) hx hb dX6_worked_1 (by decide) (by simp [Op.lookupswitch.offset, sw_en c11 42 (by decide), sw_en c12 43 (by decide), sw_en c13 45 (by decide), sw_en c14 47 (by decide), sw_en c17 60 (by decide), sw_en c19 61 (by decide), sw_en c21 62 (by decide), sw_en c23 142 (by decide), sw_en c26 143 (by decide), sw_en c29 145 (by decide), sw_en c30 146 (by decide)]) (by decide) ?_
  refine lv_iconst (v := 0) hx hb dX6_worked_212 (by decide) ?_
  exact cri C hr hk hH (Nat.zero_le _) (Nat.zero_le _) hw dX6_worked_213
