/-! PorterTurns$Man.getsPension -/
abbrev rm_Man_getsPension : Room := { frames := 0, cells := 0, slots := 0, locals := 0 }
def wp_Man_getsPension (t : CS) (i0 : Nat) (post : Int32 → CS → Prop) : Prop := i0 < tN t 3 ∧ (if (tF t 99 i0) < (70 : Int32) then (post (0 : Int32) t) else (if (tF t 105 i0) = 0 then (post (1 : Int32) t) else (post (0 : Int32) t)))
set_option maxHeartbeats 4000000 in
set_option maxRecDepth 100000 in
theorem c_Man_getsPension (l : Launch) (D : va_G) (Z : Nat → ClassId) (E : Nat → Nat) (ad : Nat → Nat → Nat) (t : CS) (i0 : Nat) (post : Int32 → CS → Prop) (hw : wp_Man_getsPension t i0 post) (L : List Nat) (sz : Nat) : Met l yX3_getsPension (Wd yX3_getsPension cX3_getsPension 1 (some .boolean)) rm_Man_getsPension (va_Pc [.ref (ad 3 i0)] (cPre D Z E ad L sz t)) (va_Qi post (cPost D Z E ad (cAs L sz)) (cAs L sz)) 0 0 (cAs L sz) := by
  refine cMet (Qc := fun A => va_Qi post (cPost D Z E ad A) A) (by decide) rfl _ (Nat.le_of_ble_eq_true rfl) (fun p e s m args below meth c A C hr hk ls hl hH => ?_) L sz
  obtain ⟨⟨hx, hb, hml, hown, hts⟩, hK⟩ := id C
  have hl : lv_has ls 1 [(0, .ref (ad 3 i0))] := hl
  unfold wp_Man_getsPension at hw
  refine lv_aload_n hx hb dX3_getsPension_0 rfl (lv_at hl 0 rfl) ?_
  obtain ⟨h1, hw⟩ := hw
  refine cg C hH 3 i0 (by decide) h1 rfl rfl ixX3 3 (by decide) rfl wd_389 rfl dX3_getsPension_1 ?_
  refine lv_bipush (v := 70) hx hb dX3_getsPension_4 (by decide) ?_
  refine lv_icmp_lt (tgt := 20) hx hb dX3_getsPension_6 (by decide) (fun c2 => ?_) (fun c2 => ?_)
  · have hw := ifp c2 hw
    refine lv_iconst (v := 0) hx hb dX3_getsPension_20 (by decide) ?_
    exact crz C hr hk hH (Nat.zero_le _) (Nat.zero_le _) bz0 hw dX3_getsPension_21
  · have hw := ifn c2 hw
    refine lv_aload_n hx hb dX3_getsPension_9 rfl (lv_at hl 0 rfl) ?_
    refine cg C hH 3 i0 (by decide) h1 rfl rfl ixX3 9 (by decide) rfl wd_403 rfl dX3_getsPension_10 ?_
    refine lv_if_ne (tgt := 20) hx hb dX3_getsPension_13 (by decide) (fun c3 => ?_) (fun c3 => ?_)
    · have hw := ifn c3 hw
      refine lv_iconst (v := 0) hx hb dX3_getsPension_20 (by decide) ?_
      exact crz C hr hk hH (Nat.zero_le _) (Nat.zero_le _) bz0 hw dX3_getsPension_21
    · have hw := ifp c3 hw
      refine lv_iconst (v := 1) hx hb dX3_getsPension_16 (by decide) ?_
      refine lv_goto (tgt := 21) hx hb dX3_getsPension_17 (by decide) ?_
      exact crz C hr hk hH (Nat.zero_le _) (Nat.zero_le _) bz1 hw dX3_getsPension_21
/-! PorterTurns.payPensions -/
abbrev rm_C_payPensions : Room := { frames := 3, cells := 0, slots := 0, locals := 81 }
def wp_C_payPensions_52 (k2 : CS → Nat → Int32 → Prop) (post : CS → Prop) (t : CS) (x1_ : Nat) (x2_ : Int32) : Prop := ∀ x1 : Int32, x1 = x2_ + (1 : Int32) → (k2 t x1_ x1)
set_option maxHeartbeats 4000000 in
set_option maxRecDepth 100000 in
theorem b_C_payPensions_52 {p : Program} {l : Launch} {e : Env} {s : State} {m : MethodId} {args : Array Value} {below : List Frame} {meth : Method} {c : Code} {D : va_G} {Z : Nat → ClassId} {E : Nat → Nat} {ad : Nat → Nat → Nat} {A : Nat → Prop} (C : CC p s m args c cX10_payPensions 4 RX10 D Z E A) (hr : meth.sig.returnType = none) (hk : meth.locks = false) {post : CS → Prop} {k2 : CS → Nat → Int32 → Prop} (hk2 : ∀ (t : CS) (y1 : Nat) (y2 : Int32), k2 t y1 y2 → ∀ (H : Heap) (locs : List Loc) (ls : Array Slot), CH D Z E ad A s.heap t H locs → lv_has ls 4 [(0, .ref (ad 5 0)), (1, .ref (ad 0 y1)), (2, .int y2)] → CWv p l e rm_C_payPensions s m args below meth c D Z E ad A 0 0 post H locs 0 0 (F0 m 2 ls [])) : ∀ (t : CS) (x1_ : Nat) (x2_ : Int32), wp_C_payPensions_52 k2 post t x1_ x2_ → ∀ (H : Heap) (locs : List Loc) (ls : Array Slot), CH D Z E ad A s.heap t H locs → lv_has ls 4 [(0, .ref (ad 5 0)), (1, .ref (ad 0 x1_)), (2, .int x2_)] → CWv p l e rm_C_payPensions s m args below meth c D Z E ad A 0 0 post H locs 0 0 (F0 m 52 ls []) := by
  obtain ⟨⟨hx, hb, hml, hown, hts⟩, hK⟩ := id C
  intro t x1_ x2_ hw H locs ls hH hl
  unfold wp_C_payPensions_52 at hw
  obtain ⟨x1, ex1⟩ : ∃ y : Int32, y = x2_ + (1 : Int32) := ⟨_, rfl⟩
  have hw := hw x1 ex1
  refine lv_iinc (v := x1) (lv' := [(2, .int x1), (0, .ref (ad 5 0)), (1, .ref (ad 0 x1_))]) hx hb dX10_payPensions_52 hl (k := 2) rfl (by rw [ex1]; rfl) (by decide) rfl (fun ls hl => ?_)
  refine lv_goto (tgt := 2) hx hb dX10_payPensions_55 (by decide) ?_
  exact hk2 t x1_ x1 hw _ _ _ hH (lv_sub hl [1, 2, 0] rfl)
def wp_C_payPensions_2 (post : CS → Prop) : Nat → CS → Nat → Int32 → Prop
  | 0 => fun _ _ _ => False
  | n + 1 => fun t x1_ x2_ => if (nI (tT t 1).length) ≤ x2_ then (post t) else (vp_in x2_ (tT t 1).length ∧ ((tT t 1).length < 2 ^ 31 ∧ (∀ j5 : Nat, j5 = ((tT t 1).getD x2_.toNatClampNeg 0) → (j5 < tN t 3 ∧ (x1_ < tN t 0 ∧ (if (tF t 97 j5) = (nI x1_) then (wp_Man_getsPension t j5 (fun r10 t9 => if r10 = 0 then (wp_C_payPensions_52 (wp_C_payPensions_2 post n) post t9 x1_ x2_) else (x1_ < tN t9 0 ∧ (wp_Fel_payOut t9 x1_ j5 (tF t9 9 x1_) (fun  t13 => wp_C_payPensions_52 (wp_C_payPensions_2 post n) post t13 x1_ x2_))))) else (wp_C_payPensions_52 (wp_C_payPensions_2 post n) post t x1_ x2_)))))))
set_option maxHeartbeats 4000000 in
set_option maxRecDepth 100000 in
theorem b_C_payPensions_2 {p : Program} {l : Launch} {e : Env} {s : State} {m : MethodId} {args : Array Value} {below : List Frame} {meth : Method} {c : Code} {D : va_G} {Z : Nat → ClassId} {E : Nat → Nat} {ad : Nat → Nat → Nat} {A : Nat → Prop} (C : CC p s m args c cX10_payPensions 4 RX10 D Z E A) (hr : meth.sig.returnType = none) (hk : meth.locks = false) {post : CS → Prop} : ∀ (n : Nat) (t : CS) (x1_ : Nat) (x2_ : Int32), wp_C_payPensions_2 post n t x1_ x2_ → ∀ (H : Heap) (locs : List Loc) (ls : Array Slot), CH D Z E ad A s.heap t H locs → lv_has ls 4 [(0, .ref (ad 5 0)), (1, .ref (ad 0 x1_)), (2, .int x2_)] → CWv p l e rm_C_payPensions s m args below meth c D Z E ad A 0 0 post H locs 0 0 (F0 m 2 ls []) := by
  obtain ⟨⟨hx, hb, hml, hown, hts⟩, hK⟩ := id C
  intro n
  induction n with
  | zero => intro t x1_ x2_ hw; exact hw.elim
  | succ n ih =>
    intro t x1_ x2_ hw H locs ls hH hl
    unfold wp_C_payPensions_2 at hw
    refine lv_iload_n hx hb dX10_payPensions_2 rfl (lv_at hl 2 rfl) ?_
    refine lv_aload_n hx hb dX10_payPensions_3 rfl (lv_at hl 0 rfl) ?_
    refine cg C hH 5 0 (by decide) (Nat.le_of_ble_eq_true rfl) rfl rfl ixX10 1 (by decide) rfl wd_237 rfl dX10_payPensions_4 ?_
    refine lSize C hH 1 (Nat.lt_of_lt_of_le (show 1 < 11 by decide) (Nat.le_add_left _ _)) wd_283 hl.1 (Nat.le_of_ble_eq_true rfl) dX10_payPensions_7 ⟨Nat.zero_le _, Nat.zero_le _⟩ ⟨Nat.le_of_ble_eq_true rfl, Nat.le_of_ble_eq_true rfl⟩ (fun H locs hH => ?_)
    refine lv_icmp_ge (tgt := 58) hx hb dX10_payPensions_10 (by decide) (fun c2 => ?_) (fun c2 => ?_)
    · have hw := ifp c2 hw
      exact crv C hr hk hH (Nat.zero_le _) (Nat.zero_le _) hw dX10_payPensions_58
    · have hw := ifn c2 hw
      refine lv_aload_n hx hb dX10_payPensions_13 rfl (lv_at hl 0 rfl) ?_
      refine cg C hH 5 0 (by decide) (Nat.le_of_ble_eq_true rfl) rfl rfl ixX10 1 (by decide) rfl wd_237 rfl dX10_payPensions_14 ?_
      refine lv_iload_n hx hb dX10_payPensions_17 rfl (lv_at hl 2 rfl) ?_
      obtain ⟨h3, hw⟩ := hw
      obtain ⟨h4, hw⟩ := hw
      refine lGet C hH 1 (Nat.lt_of_lt_of_le (show 1 < 11 by decide) (Nat.le_add_left _ _)) h3 h4 wd_320 hl.1 (Nat.le_of_ble_eq_true rfl) dX10_payPensions_18 ⟨Nat.zero_le _, Nat.zero_le _⟩ ⟨Nat.le_of_ble_eq_true rfl, Nat.le_of_ble_eq_true rfl⟩ (fun H locs hH => ?_)
      obtain ⟨j5, ej5⟩ : ∃ x : Nat, x = ((tT t 1).getD x2_.toNatClampNeg 0) := ⟨_, rfl⟩
      rw [← ej5]
      have hw := hw j5 ej5
      obtain ⟨h6, hw⟩ := hw
      refine cCast C hH 3 j5 (by decide) h6 rfl rfl wd_374 dX10_payPensions_21 ?_
      refine lv_astore_n (lv' := [(3, .ref (ad 3 j5)), (0, .ref (ad 5 0)), (1, .ref (ad 0 x1_)), (2, .int x2_)]) hx hb dX10_payPensions_24 rfl hl (by decide) rfl (fun ls hl => ?_)
      refine lv_aload_n hx hb dX10_payPensions_25 rfl (lv_at hl 0 rfl) ?_
      refine cg C hH 3 j5 (by decide) h6 rfl rfl ixX3 1 (by decide) rfl wd_385 rfl dX10_payPensions_26 ?_
      refine lv_aload_n hx hb dX10_payPensions_29 rfl (lv_at hl 2 rfl) ?_
      obtain ⟨h7, hw⟩ := hw
      refine cg C hH 0 x1_ (by decide) h7 rfl rfl ixX0 0 (by decide) rfl wd_68 rfl dX10_payPensions_30 ?_
      refine lv_icmp_ne (tgt := 52) hx hb dX10_payPensions_33 (by decide) (fun c8 => ?_) (fun c8 => ?_)
      · have hw := ifn c8 hw
        exact b_C_payPensions_52 C hr hk ih t x1_ x2_ hw _ _ _ hH (lv_sub hl [1, 2, 3] rfl)
      · have hw := ifp c8 hw
        refine lv_aload_n hx hb dX10_payPensions_36 rfl (lv_at hl 0 rfl) ?_
        refine ccVi0 C hH (crecv C hH 3 j5 (by decide) h6 rfl rfl (q := (RX3, TX3, 10))) [] (c_Man_getsPension l D Z E ad t j5 _ hw) (cwTV 0 hts wd_968 wd_969 wd_970 wd_18 wd_971 rfl rfl (by decide +kernel) ⟨Nat.le_of_ble_eq_true rfl, Nat.le_of_ble_eq_true rfl⟩) rfl hl.1 rfl (Nat.le_of_ble_eq_true rfl) dX10_payPensions_37 ⟨Nat.zero_le _, Nat.zero_le _⟩ (fun r10 t9 H locs hw hH => ?_)
        refine lv_if_eq (tgt := 52) hx hb dX10_payPensions_40 (by decide) (fun c11 => ?_) (fun c11 => ?_)
        · have hw := ifp c11 hw
          exact b_C_payPensions_52 C hr hk ih t9 x1_ x2_ hw _ _ _ hH (lv_sub hl [1, 2, 3] rfl)
        · have hw := ifn c11 hw
          refine lv_aload_n hx hb dX10_payPensions_43 rfl (lv_at hl 2 rfl) ?_
          refine lv_aload_n hx hb dX10_payPensions_44 rfl (lv_at hl 0 rfl) ?_
          refine lv_aload_n hx hb dX10_payPensions_45 rfl (lv_at hl 2 rfl) ?_
          obtain ⟨h12, hw⟩ := hw
          refine cg C hH 0 x1_ (by decide) h12 rfl rfl ixX0 9 (by decide) rfl wd_81 rfl dX10_payPensions_46 ?_
          refine ccVv0 C hH (crecv C hH 0 x1_ (by decide) h12 rfl rfl (q := (RX0, TX0, 10))) [.ref (ad 3 j5), .int (tF t9 9 x1_)] (c_Fel_payOut l D Z E ad t9 x1_ j5 (tF t9 9 x1_) _ hw) (cwTV 2 hts wd_960 wd_961 wd_962 wd_5 wd_963 rfl rfl (by decide +kernel) ⟨Nat.le_of_ble_eq_true rfl, Nat.le_of_ble_eq_true rfl⟩) rfl hl.1 rfl (Nat.le_of_ble_eq_true rfl) dX10_payPensions_49 ⟨Nat.zero_le _, Nat.zero_le _⟩ (fun  t13 H locs hw hH => ?_)
          exact b_C_payPensions_52 C hr hk ih t13 x1_ x2_ hw _ _ _ hH (lv_sub hl [1, 2, 3] rfl)
def wp_C_payPensions (t : CS) (a1 : Nat) (post : CS → Prop) : Prop := ∃ nn : Nat, wp_C_payPensions_2 post nn t a1 (0 : Int32)
set_option maxHeartbeats 4000000 in
set_option maxRecDepth 100000 in
theorem c_C_payPensions (l : Launch) (D : va_G) (Z : Nat → ClassId) (E : Nat → Nat) (ad : Nat → Nat → Nat) (t : CS) (a1 : Nat) (post : CS → Prop) (hw : wp_C_payPensions t a1 post) (L : List Nat) (sz : Nat) : Met l yX10_payPensions (Wd yX10_payPensions cX10_payPensions 4 (none)) rm_C_payPensions (va_Pc [.ref (ad 5 0), .ref (ad 0 a1)] (cPre D Z E ad L sz t)) (va_Qv post (cPost D Z E ad (cAs L sz)) (cAs L sz)) 0 0 (cAs L sz) := by
  refine cMet (Qc := fun A => va_Qv post (cPost D Z E ad A) A) (by decide) rfl _ (Nat.le_of_ble_eq_true rfl) (fun p e s m args below meth c A C hr hk ls hl hH => ?_) L sz
  obtain ⟨⟨hx, hb, hml, hown, hts⟩, hK⟩ := id C
  have hl : lv_has ls 4 [(0, .ref (ad 5 0)), (1, .ref (ad 0 a1))] := hl
  unfold wp_C_payPensions at hw
  refine lv_iconst (v := 0) hx hb dX10_payPensions_0 (by decide) ?_
  refine lv_istore_n (lv' := [(2, .int (0 : Int32)), (0, .ref (ad 5 0)), (1, .ref (ad 0 a1))]) hx hb dX10_payPensions_1 rfl hl (by decide) rfl (fun ls hl => ?_)
  obtain ⟨nn, hw⟩ := hw
  exact b_C_payPensions_2 C hr hk  nn t a1 (0 : Int32) hw _ _ _ hH (lv_sub hl [1, 2, 0] rfl)
/-! PorterTurns.beginDay -/
abbrev rm_C_beginDay : Room := { frames := 4, cells := 0, slots := 0, locals := 104 }
def wp_C_beginDay_36 (post : CS → Prop) : Nat → CS → Int32 → Prop
  | 0 => fun _ _ => False
  | n + 1 => fun t x1_ => if (nI (tT t 4).length) ≤ x1_ then (post t) else (vp_in x1_ (tT t 4).length ∧ ((tT t 4).length < 2 ^ 31 ∧ (∀ j4 : Nat, j4 = ((tT t 4).getD x1_.toNatClampNeg 0) → (j4 < tN t 0 ∧ (∀ t6 : CS, t6 = sF t 6 j4 (tF t 5 j4) → (wp_C_payHelp t6 j4 (fun  t7 => wp_C_payPensions t7 j4 (fun  t8 => ∀ x9 : Int32, x9 = x1_ + (1 : Int32) → (wp_C_beginDay_36 post n t8 x9)))))))))
set_option maxHeartbeats 4000000 in
set_option maxRecDepth 100000 in
theorem b_C_beginDay_36 {p : Program} {l : Launch} {e : Env} {s : State} {m : MethodId} {args : Array Value} {below : List Frame} {meth : Method} {c : Code} {D : va_G} {Z : Nat → ClassId} {E : Nat → Nat} {ad : Nat → Nat → Nat} {A : Nat → Prop} (C : CC p s m args c cX10_beginDay 3 RX10 D Z E A) (hr : meth.sig.returnType = none) (hk : meth.locks = false) {post : CS → Prop} : ∀ (n : Nat) (t : CS) (x1_ : Int32), wp_C_beginDay_36 post n t x1_ → ∀ (H : Heap) (locs : List Loc) (ls : Array Slot), CH D Z E ad A s.heap t H locs → lv_has ls 3 [(0, .ref (ad 5 0)), (1, .int x1_)] → CWv p l e rm_C_beginDay s m args below meth c D Z E ad A 0 0 post H locs 0 0 (F0 m 36 ls []) := by
  obtain ⟨⟨hx, hb, hml, hown, hts⟩, hK⟩ := id C
  intro n
  induction n with
  | zero => intro t x1_ hw; exact hw.elim
  | succ n ih =>
    intro t x1_ hw H locs ls hH hl
    unfold wp_C_beginDay_36 at hw
    refine lv_iload_n hx hb dX10_beginDay_36 rfl (lv_at hl 1 rfl) ?_
    refine lv_aload_n hx hb dX10_beginDay_37 rfl (lv_at hl 0 rfl) ?_
    refine cg C hH 5 0 (by decide) (Nat.le_of_ble_eq_true rfl) rfl rfl ixX10 4 (by decide) rfl wd_240 rfl dX10_beginDay_38 ?_
    refine lSize C hH 4 (Nat.lt_of_lt_of_le (show 4 < 11 by decide) (Nat.le_add_left _ _)) wd_283 hl.1 (Nat.le_of_ble_eq_true rfl) dX10_beginDay_41 ⟨Nat.zero_le _, Nat.zero_le _⟩ ⟨Nat.le_of_ble_eq_true rfl, Nat.le_of_ble_eq_true rfl⟩ (fun H locs hH => ?_)
    refine lv_icmp_ge (tgt := 83) hx hb dX10_beginDay_44 (by decide) (fun c1 => ?_) (fun c1 => ?_)
    · have hw := ifp c1 hw
      exact crv C hr hk hH (Nat.zero_le _) (Nat.zero_le _) hw dX10_beginDay_83
    · have hw := ifn c1 hw
      refine lv_aload_n hx hb dX10_beginDay_47 rfl (lv_at hl 0 rfl) ?_
      refine cg C hH 5 0 (by decide) (Nat.le_of_ble_eq_true rfl) rfl rfl ixX10 4 (by decide) rfl wd_240 rfl dX10_beginDay_48 ?_
      refine lv_iload_n hx hb dX10_beginDay_51 rfl (lv_at hl 1 rfl) ?_
      obtain ⟨h2, hw⟩ := hw
      obtain ⟨h3, hw⟩ := hw
      refine lGet C hH 4 (Nat.lt_of_lt_of_le (show 4 < 11 by decide) (Nat.le_add_left _ _)) h2 h3 wd_320 hl.1 (Nat.le_of_ble_eq_true rfl) dX10_beginDay_52 ⟨Nat.zero_le _, Nat.zero_le _⟩ ⟨Nat.le_of_ble_eq_true rfl, Nat.le_of_ble_eq_true rfl⟩ (fun H locs hH => ?_)
      obtain ⟨j4, ej4⟩ : ∃ x : Nat, x = ((tT t 4).getD x1_.toNatClampNeg 0) := ⟨_, rfl⟩
      rw [← ej4]
      have hw := hw j4 ej4
      obtain ⟨h5, hw⟩ := hw
      refine cCast C hH 0 j4 (by decide) h5 rfl rfl wd_59 dX10_beginDay_55 ?_
      refine lv_astore_n (lv' := [(2, .ref (ad 0 j4)), (0, .ref (ad 5 0)), (1, .int x1_)]) hx hb dX10_beginDay_58 rfl hl (by decide) rfl (fun ls hl => ?_)
      refine lv_aload_n hx hb dX10_beginDay_59 rfl (lv_at hl 0 rfl) ?_
      refine lv_aload_n hx hb dX10_beginDay_60 rfl (lv_at hl 0 rfl) ?_
      refine cg C hH 0 j4 (by decide) h5 rfl rfl ixX0 5 (by decide) rfl wd_76 rfl dX10_beginDay_61 ?_
      refine cp C hH 0 j4 6 (by decide) h5 rfl rfl ixX0 tyX0_ok nmX0 6 (by decide) (by decide) rfl rfl wd_77 pfI rfl rfl (Nat.le_of_ble_eq_true rfl) (hs_6_Fellowship Z ad t j4 _) dX10_beginDay_64 (fun H locs hH => ?_)
      obtain ⟨t6, et6⟩ : ∃ x : CS, x = sF t 6 j4 (tF t 5 j4) := ⟨_, rfl⟩
      rw [← et6] at hH
      have hw := hw t6 et6
      refine lv_aload_n hx hb dX10_beginDay_67 rfl (lv_at hl 1 rfl) ?_
      refine lv_aload_n hx hb dX10_beginDay_68 rfl (lv_at hl 0 rfl) ?_
      refine ccVv0 C hH (crecv C hH 5 0 (by decide) (Nat.le_of_ble_eq_true rfl) rfl rfl (q := (RX10, TX10, 13))) [.ref (ad 0 j4)] (c_C_payHelp l D Z E ad t6 j4 _ hw) (cwTV 1 hts wd_952 wd_954 ws_36 wd_1 wd_955 rfl rfl (by decide +kernel) ⟨Nat.le_of_ble_eq_true rfl, Nat.le_of_ble_eq_true rfl⟩) rfl hl.1 rfl (Nat.le_of_ble_eq_true rfl) dX10_beginDay_69 ⟨Nat.zero_le _, Nat.zero_le _⟩ (fun  t7 H locs hw hH => ?_)
      refine lv_aload_n hx hb dX10_beginDay_72 rfl (lv_at hl 1 rfl) ?_
      refine lv_aload_n hx hb dX10_beginDay_73 rfl (lv_at hl 0 rfl) ?_
      refine ccVv0 C hH (crecv C hH 5 0 (by decide) (Nat.le_of_ble_eq_true rfl) rfl rfl (q := (RX10, TX10, 13))) [.ref (ad 0 j4)] (c_C_payPensions l D Z E ad t7 j4 _ hw) (cwTV 1 hts wd_964 wd_966 ws_37 wd_1 wd_967 rfl rfl (by decide +kernel) ⟨Nat.le_of_ble_eq_true rfl, Nat.le_of_ble_eq_true rfl⟩) rfl hl.1 rfl (Nat.le_of_ble_eq_true rfl) dX10_beginDay_74 ⟨Nat.zero_le _, Nat.zero_le _⟩ (fun  t8 H locs hw hH => ?_)
      obtain ⟨x9, ex9⟩ : ∃ y : Int32, y = x1_ + (1 : Int32) := ⟨_, rfl⟩
      have hw := hw x9 ex9
      refine lv_iinc (v := x9) (lv' := [(1, .int x9), (2, .ref (ad 0 j4)), (0, .ref (ad 5 0))]) hx hb dX10_beginDay_77 hl (k := 2) rfl (by rw [ex9]; rfl) (by decide) rfl (fun ls hl => ?_)
      refine lv_goto (tgt := 36) hx hb dX10_beginDay_80 (by decide) ?_
      exact ih t8 x9 hw _ _ _ hH (lv_sub hl [2, 0] rfl)
def wp_C_beginDay_2 (post : CS → Prop) : Nat → CS → Int32 → Prop
  | 0 => fun _ _ => False
  | n + 1 => fun t x1_ => if (nI (tT t 1).length) ≤ x1_ then (∃ nn : Nat, wp_C_beginDay_36 post nn t (0 : Int32)) else (vp_in x1_ (tT t 1).length ∧ ((tT t 1).length < 2 ^ 31 ∧ (∀ j13 : Nat, j13 = ((tT t 1).getD x1_.toNatClampNeg 0) → (j13 < tN t 3 ∧ (∀ t15 : CS, t15 = sF t 101 j13 (0 : Int32) → (∀ x16 : Int32, x16 = x1_ + (1 : Int32) → (wp_C_beginDay_2 post n t15 x16)))))))
set_option maxHeartbeats 4000000 in
set_option maxRecDepth 100000 in
theorem b_C_beginDay_2 {p : Program} {l : Launch} {e : Env} {s : State} {m : MethodId} {args : Array Value} {below : List Frame} {meth : Method} {c : Code} {D : va_G} {Z : Nat → ClassId} {E : Nat → Nat} {ad : Nat → Nat → Nat} {A : Nat → Prop} (C : CC p s m args c cX10_beginDay 3 RX10 D Z E A) (hr : meth.sig.returnType = none) (hk : meth.locks = false) {post : CS → Prop} : ∀ (n : Nat) (t : CS) (x1_ : Int32), wp_C_beginDay_2 post n t x1_ → ∀ (H : Heap) (locs : List Loc) (ls : Array Slot), CH D Z E ad A s.heap t H locs → lv_has ls 3 [(0, .ref (ad 5 0)), (1, .int x1_)] → CWv p l e rm_C_beginDay s m args below meth c D Z E ad A 0 0 post H locs 0 0 (F0 m 2 ls []) := by
  obtain ⟨⟨hx, hb, hml, hown, hts⟩, hK⟩ := id C
  intro n
  induction n with
  | zero => intro t x1_ hw; exact hw.elim
  | succ n ih =>
    intro t x1_ hw H locs ls hH hl
    unfold wp_C_beginDay_2 at hw
    refine lv_iload_n hx hb dX10_beginDay_2 rfl (lv_at hl 1 rfl) ?_
    refine lv_aload_n hx hb dX10_beginDay_3 rfl (lv_at hl 0 rfl) ?_
    refine cg C hH 5 0 (by decide) (Nat.le_of_ble_eq_true rfl) rfl rfl ixX10 1 (by decide) rfl wd_237 rfl dX10_beginDay_4 ?_
    refine lSize C hH 1 (Nat.lt_of_lt_of_le (show 1 < 11 by decide) (Nat.le_add_left _ _)) wd_283 hl.1 (Nat.le_of_ble_eq_true rfl) dX10_beginDay_7 ⟨Nat.zero_le _, Nat.zero_le _⟩ ⟨Nat.le_of_ble_eq_true rfl, Nat.le_of_ble_eq_true rfl⟩ (fun H locs hH => ?_)
    refine lv_icmp_ge (tgt := 34) hx hb dX10_beginDay_10 (by decide) (fun c10 => ?_) (fun c10 => ?_)
    · have hw := ifp c10 hw
      refine lv_iconst (v := 0) hx hb dX10_beginDay_34 (by decide) ?_
      refine lv_istore_n (lv' := [(1, .int (0 : Int32)), (0, .ref (ad 5 0))]) hx hb dX10_beginDay_35 rfl hl (by decide) rfl (fun ls hl => ?_)
      obtain ⟨nn, hw⟩ := hw
      exact b_C_beginDay_36 C hr hk  nn t (0 : Int32) hw _ _ _ hH (lv_sub hl [1, 0] rfl)
    · have hw := ifn c10 hw
      refine lv_aload_n hx hb dX10_beginDay_13 rfl (lv_at hl 0 rfl) ?_
      refine cg C hH 5 0 (by decide) (Nat.le_of_ble_eq_true rfl) rfl rfl ixX10 1 (by decide) rfl wd_237 rfl dX10_beginDay_14 ?_
      refine lv_iload_n hx hb dX10_beginDay_17 rfl (lv_at hl 1 rfl) ?_
      obtain ⟨h11, hw⟩ := hw
      obtain ⟨h12, hw⟩ := hw
      refine lGet C hH 1 (Nat.lt_of_lt_of_le (show 1 < 11 by decide) (Nat.le_add_left _ _)) h11 h12 wd_320 hl.1 (Nat.le_of_ble_eq_true rfl) dX10_beginDay_18 ⟨Nat.zero_le _, Nat.zero_le _⟩ ⟨Nat.le_of_ble_eq_true rfl, Nat.le_of_ble_eq_true rfl⟩ (fun H locs hH => ?_)
      obtain ⟨j13, ej13⟩ : ∃ x : Nat, x = ((tT t 1).getD x1_.toNatClampNeg 0) := ⟨_, rfl⟩
      rw [← ej13]
      have hw := hw j13 ej13
      obtain ⟨h14, hw⟩ := hw
      refine cCast C hH 3 j13 (by decide) h14 rfl rfl wd_374 dX10_beginDay_21 ?_
      refine lv_iconst (v := 0) hx hb dX10_beginDay_24 (by decide) ?_
      refine cp C hH 3 j13 101 (by decide) h14 rfl rfl ixX3 tyX3_ok nmX3 5 (by decide) (by decide) rfl rfl wd_396 pfI rfl rfl (Nat.le_of_ble_eq_true rfl) (hs_101_Man Z ad t j13 _) dX10_beginDay_25 (fun H locs hH => ?_)
      obtain ⟨t15, et15⟩ : ∃ x : CS, x = sF t 101 j13 (0 : Int32) := ⟨_, rfl⟩
      rw [← et15] at hH
      have hw := hw t15 et15
      obtain ⟨x16, ex16⟩ : ∃ y : Int32, y = x1_ + (1 : Int32) := ⟨_, rfl⟩
      have hw := hw x16 ex16
      refine lv_iinc (v := x16) (lv' := [(1, .int x16), (0, .ref (ad 5 0))]) hx hb dX10_beginDay_28 hl (k := 1) rfl (by rw [ex16]; rfl) (by decide) rfl (fun ls hl => ?_)
      refine lv_goto (tgt := 2) hx hb dX10_beginDay_31 (by decide) ?_
      exact ih t15 x16 hw _ _ _ hH (lv_sub hl [1, 0] rfl)
def wp_C_beginDay (t : CS) (post : CS → Prop) : Prop := ∃ nn : Nat, wp_C_beginDay_2 post nn t (0 : Int32)
set_option maxHeartbeats 4000000 in
set_option maxRecDepth 100000 in
theorem c_C_beginDay (l : Launch) (D : va_G) (Z : Nat → ClassId) (E : Nat → Nat) (ad : Nat → Nat → Nat) (t : CS) (post : CS → Prop) (hw : wp_C_beginDay t  post) (L : List Nat) (sz : Nat) : Met l yX10_beginDay (Wd yX10_beginDay cX10_beginDay 3 (none)) rm_C_beginDay (va_Pc [.ref (ad 5 0)] (cPre D Z E ad L sz t)) (va_Qv post (cPost D Z E ad (cAs L sz)) (cAs L sz)) 0 0 (cAs L sz) := by
  refine cMet (Qc := fun A => va_Qv post (cPost D Z E ad A) A) (by decide) rfl _ (Nat.le_of_ble_eq_true rfl) (fun p e s m args below meth c A C hr hk ls hl hH => ?_) L sz
  obtain ⟨⟨hx, hb, hml, hown, hts⟩, hK⟩ := id C
  have hl : lv_has ls 3 [(0, .ref (ad 5 0))] := hl
  unfold wp_C_beginDay at hw
  refine lv_iconst (v := 0) hx hb dX10_beginDay_0 (by decide) ?_
  refine lv_istore_n (lv' := [(1, .int (0 : Int32)), (0, .ref (ad 5 0))]) hx hb dX10_beginDay_1 rfl hl (by decide) rfl (fun ls hl => ?_)
  obtain ⟨nn, hw⟩ := hw
  exact b_C_beginDay_2 C hr hk  nn t (0 : Int32) hw _ _ _ hH (lv_sub hl [1, 0] rfl)
/-! PorterTurns.payFor -/
abbrev rm_C_payFor : Room := { frames := 3, cells := 0, slots := 0, locals := 81 }
def wp_C_payFor_73 (post : CS → Prop) : Nat → CS → Nat → Int32 → Int32 → Int32 → Prop
  | 0 => fun _ _ _ _ _ => False
  | n + 1 => fun t x1_ x3_ x5_ x6_ => if x3_ ≤ x6_ then (x1_ < tN t 2 ∧ ((x1_ + 11) < tN t 2 + 11 ∧ (vp_in (0 : Int32) (tT t (x1_ + 11)).length ∧ ((tT t (x1_ + 11)).length < 2 ^ 31 ∧ (∀ j6 : Nat, j6 = ((tT t (x1_ + 11)).getD (0 : Int32).toNatClampNeg 0) → (j6 < tN t 3 ∧ (¬ x3_ = 0 ∧ (∀ t9 : CS, t9 = sF t 100 j6 ((tF t 100 j6) + (x5_ - x5_ / x3_ * x3_)) → (post t9))))))))) else (x1_ < tN t 2 ∧ ((x1_ + 11) < tN t 2 + 11 ∧ (vp_in x6_ (tT t (x1_ + 11)).length ∧ ((tT t (x1_ + 11)).length < 2 ^ 31 ∧ (∀ j14 : Nat, j14 = ((tT t (x1_ + 11)).getD x6_.toNatClampNeg 0) → (j14 < tN t 3 ∧ (¬ x3_ = 0 ∧ (∀ t17 : CS, t17 = sF t 100 j14 ((tF t 100 j14) + (x5_ / x3_)) → (∀ x18 : Int32, x18 = x6_ + (1 : Int32) → (wp_C_payFor_73 post n t17 x1_ x3_ x5_ x18))))))))))
set_option maxHeartbeats 4000000 in
set_option maxRecDepth 100000 in
theorem b_C_payFor_73 {p : Program} {l : Launch} {e : Env} {s : State} {m : MethodId} {args : Array Value} {below : List Frame} {meth : Method} {c : Code} {D : va_G} {Z : Nat → ClassId} {E : Nat → Nat} {ad : Nat → Nat → Nat} {A : Nat → Prop} (C : CC p s m args c cX10_payFor 7 RX10 D Z E A) (hr : meth.sig.returnType = none) (hk : meth.locks = false) {post : CS → Prop} : ∀ (n : Nat) (t : CS) (x1_ : Nat) (x3_ : Int32) (x5_ : Int32) (x6_ : Int32), wp_C_payFor_73 post n t x1_ x3_ x5_ x6_ → ∀ (H : Heap) (locs : List Loc) (ls : Array Slot), CH D Z E ad A s.heap t H locs → lv_has ls 7 [(1, .ref (ad 2 x1_)), (3, .int x3_), (5, .int x5_), (6, .int x6_)] → CWv p l e rm_C_payFor s m args below meth c D Z E ad A 0 0 post H locs 0 0 (F0 m 73 ls []) := by
  obtain ⟨⟨hx, hb, hml, hown, hts⟩, hK⟩ := id C
  intro n
  induction n with
  | zero => intro t x1_ x3_ x5_ x6_ hw; exact hw.elim
  | succ n ih =>
    intro t x1_ x3_ x5_ x6_ hw H locs ls hH hl
    unfold wp_C_payFor_73 at hw
    refine lv_iload hx hb dX10_payFor_73 (lv_at hl 3 rfl) ?_
    refine lv_iload_n hx hb dX10_payFor_75 rfl (lv_at hl 1 rfl) ?_
    refine lv_icmp_ge (tgt := 109) hx hb dX10_payFor_76 (by decide) (fun c1 => ?_) (fun c1 => ?_)
    · have hw := ifp c1 hw
      refine lv_aload_n hx hb dX10_payFor_109 rfl (lv_at hl 0 rfl) ?_
      obtain ⟨h2, hw⟩ := hw
      refine cg C hH 2 x1_ (by decide) h2 rfl rfl ixX2 10 (by decide) rfl wd_804 rfl dX10_payFor_110 ?_
      refine lv_iconst (v := 0) hx hb dX10_payFor_113 (by decide) ?_
      obtain ⟨h3, hw⟩ := hw
      obtain ⟨h4, hw⟩ := hw
      obtain ⟨h5, hw⟩ := hw
      refine lGet C hH (x1_ + 11) h3 h4 h5 wd_320 hl.1 (Nat.le_of_ble_eq_true rfl) dX10_payFor_114 ⟨Nat.zero_le _, Nat.zero_le _⟩ ⟨Nat.le_of_ble_eq_true rfl, Nat.le_of_ble_eq_true rfl⟩ (fun H locs hH => ?_)
      obtain ⟨j6, ej6⟩ : ∃ x : Nat, x = ((tT t (x1_ + 11)).getD (0 : Int32).toNatClampNeg 0) := ⟨_, rfl⟩
      rw [← ej6]
      have hw := hw j6 ej6
      obtain ⟨h7, hw⟩ := hw
      refine cCast C hH 3 j6 (by decide) h7 rfl rfl wd_374 dX10_payFor_117 ?_
      refine lv_dup hx hb dX10_payFor_120 rfl ?_
      refine cg C hH 3 j6 (by decide) h7 rfl rfl ixX3 4 (by decide) rfl wd_393 rfl dX10_payFor_121 ?_
      refine lv_iload hx hb dX10_payFor_124 (lv_at hl 2 rfl) ?_
      refine lv_iload_n hx hb dX10_payFor_126 rfl (lv_at hl 1 rfl) ?_
      obtain ⟨h8, hw⟩ := hw
      refine lv_irem hx hb dX10_payFor_127 h8 ?_
      refine lv_iadd hx hb dX10_payFor_128 ?_
      refine cp C hH 3 j6 100 (by decide) h7 rfl rfl ixX3 tyX3_ok nmX3 4 (by decide) (by decide) rfl rfl wd_393 pfI rfl rfl (Nat.le_of_ble_eq_true rfl) (hs_100_Man Z ad t j6 _) dX10_payFor_129 (fun H locs hH => ?_)
      obtain ⟨t9, et9⟩ : ∃ x : CS, x = sF t 100 j6 ((tF t 100 j6) + (x5_ - x5_ / x3_ * x3_)) := ⟨_, rfl⟩
      rw [← et9] at hH
      have hw := hw t9 et9
      exact crv C hr hk hH (Nat.zero_le _) (Nat.zero_le _) hw dX10_payFor_132
    · have hw := ifn c1 hw
      refine lv_aload_n hx hb dX10_payFor_79 rfl (lv_at hl 0 rfl) ?_
      obtain ⟨h10, hw⟩ := hw
      refine cg C hH 2 x1_ (by decide) h10 rfl rfl ixX2 10 (by decide) rfl wd_804 rfl dX10_payFor_80 ?_
      refine lv_iload hx hb dX10_payFor_83 (lv_at hl 3 rfl) ?_
      obtain ⟨h11, hw⟩ := hw
      obtain ⟨h12, hw⟩ := hw
      obtain ⟨h13, hw⟩ := hw
      refine lGet C hH (x1_ + 11) h11 h12 h13 wd_320 hl.1 (Nat.le_of_ble_eq_true rfl) dX10_payFor_85 ⟨Nat.zero_le _, Nat.zero_le _⟩ ⟨Nat.le_of_ble_eq_true rfl, Nat.le_of_ble_eq_true rfl⟩ (fun H locs hH => ?_)
      obtain ⟨j14, ej14⟩ : ∃ x : Nat, x = ((tT t (x1_ + 11)).getD x6_.toNatClampNeg 0) := ⟨_, rfl⟩
      rw [← ej14]
      have hw := hw j14 ej14
      obtain ⟨h15, hw⟩ := hw
      refine cCast C hH 3 j14 (by decide) h15 rfl rfl wd_374 dX10_payFor_88 ?_
      refine lv_dup hx hb dX10_payFor_91 rfl ?_
      refine cg C hH 3 j14 (by decide) h15 rfl rfl ixX3 4 (by decide) rfl wd_393 rfl dX10_payFor_92 ?_
      refine lv_iload hx hb dX10_payFor_95 (lv_at hl 2 rfl) ?_
      refine lv_iload_n hx hb dX10_payFor_97 rfl (lv_at hl 1 rfl) ?_
      obtain ⟨h16, hw⟩ := hw
      refine lv_idiv hx hb dX10_payFor_98 h16 ?_
      refine lv_iadd hx hb dX10_payFor_99 ?_
      refine cp C hH 3 j14 100 (by decide) h15 rfl rfl ixX3 tyX3_ok nmX3 4 (by decide) (by decide) rfl rfl wd_393 pfI rfl rfl (Nat.le_of_ble_eq_true rfl) (hs_100_Man Z ad t j14 _) dX10_payFor_100 (fun H locs hH => ?_)
      obtain ⟨t17, et17⟩ : ∃ x : CS, x = sF t 100 j14 ((tF t 100 j14) + (x5_ / x3_)) := ⟨_, rfl⟩
      rw [← et17] at hH
      have hw := hw t17 et17
      obtain ⟨x18, ex18⟩ : ∃ y : Int32, y = x6_ + (1 : Int32) := ⟨_, rfl⟩
      have hw := hw x18 ex18
      refine lv_iinc (v := x18) (lv' := [(6, .int x18), (1, .ref (ad 2 x1_)), (3, .int x3_), (5, .int x5_)]) hx hb dX10_payFor_103 hl (k := 3) rfl (by rw [ex18]; rfl) (by decide) rfl (fun ls hl => ?_)
      refine lv_goto (tgt := 73) hx hb dX10_payFor_106 (by decide) ?_
      exact ih t17 x1_ x3_ x5_ x18 hw _ _ _ hH (lv_sub hl [1, 2, 3, 0] rfl)
def wp_C_payFor_38 (post : CS → Prop) (t : CS) (x1_ : Nat) (x2_ : Nat) (x3_ : Int32) (t0_ : Nat) (t1_ : Int32) : Prop := t0_ < tN t 2 ∧ (∀ t20 : CS, t20 = sF t 80 t0_ t1_ → (x1_ < tN t20 2 ∧ (∀ x22 : Int32, x22 = (((tF t20 80 x1_) * (tF t20 79 x1_)) / (100 : Int32)) → (x2_ < tN t20 0 ∧ (wp_Fel_takeIn t20 x2_ x22 (fun  t24 => x1_ < tN t24 2 ∧ (∀ x26 : Int32, x26 = ((tF t24 80 x1_) - x22) → (∃ nn : Nat, wp_C_payFor_73 post nn t24 x1_ x3_ x26 (0 : Int32)))))))))
set_option maxHeartbeats 4000000 in
set_option maxRecDepth 100000 in
theorem b_C_payFor_38 {p : Program} {l : Launch} {e : Env} {s : State} {m : MethodId} {args : Array Value} {below : List Frame} {meth : Method} {c : Code} {D : va_G} {Z : Nat → ClassId} {E : Nat → Nat} {ad : Nat → Nat → Nat} {A : Nat → Prop} (C : CC p s m args c cX10_payFor 7 RX10 D Z E A) (hr : meth.sig.returnType = none) (hk : meth.locks = false) {post : CS → Prop} : ∀ (t : CS) (x1_ : Nat) (x2_ : Nat) (x3_ : Int32) (t0_ : Nat) (t1_ : Int32), wp_C_payFor_38 post t x1_ x2_ x3_ t0_ t1_ → ∀ (H : Heap) (locs : List Loc) (ls : Array Slot), CH D Z E ad A s.heap t H locs → lv_has ls 7 [(1, .ref (ad 2 x1_)), (2, .ref (ad 0 x2_)), (3, .int x3_)] → CWv p l e rm_C_payFor s m args below meth c D Z E ad A 0 0 post H locs 0 0 (F0 m 38 ls [.int t1_, .ref (ad 2 t0_)]) := by
  obtain ⟨⟨hx, hb, hml, hown, hts⟩, hK⟩ := id C
  intro t x1_ x2_ x3_ t0_ t1_ hw H locs ls hH hl
  unfold wp_C_payFor_38 at hw
  obtain ⟨h19, hw⟩ := hw
  refine cp C hH 2 t0_ 80 (by decide) h19 rfl rfl ixX2 tyX2_ok nmX2 16 (by decide) (by decide) rfl rfl wd_813 pfI rfl rfl (Nat.le_of_ble_eq_true rfl) (hs_80_Load Z ad t t0_ _) dX10_payFor_38 (fun H locs hH => ?_)
  obtain ⟨t20, et20⟩ : ∃ x : CS, x = sF t 80 t0_ t1_ := ⟨_, rfl⟩
  rw [← et20] at hH
  have hw := hw t20 et20
  refine lv_aload_n hx hb dX10_payFor_41 rfl (lv_at hl 0 rfl) ?_
  obtain ⟨h21, hw⟩ := hw
  refine cg C hH 2 x1_ (by decide) h21 rfl rfl ixX2 16 (by decide) rfl wd_813 rfl dX10_payFor_42 ?_
  refine lv_aload_n hx hb dX10_payFor_45 rfl (lv_at hl 0 rfl) ?_
  refine cg C hH 2 x1_ (by decide) h21 rfl rfl ixX2 15 (by decide) rfl wd_812 rfl dX10_payFor_46 ?_
  refine lv_imul hx hb dX10_payFor_49 ?_
  refine lv_bipush (v := 100) hx hb dX10_payFor_50 (by decide) ?_
  refine lv_idiv hx hb dX10_payFor_52 (by decide) ?_
  refine lv_topi (fun x22 ex22 => ?_)
  have hw := hw x22 ex22
  refine lv_istore (lv' := [(4, .int x22), (1, .ref (ad 2 x1_)), (2, .ref (ad 0 x2_)), (3, .int x3_)]) hx hb dX10_payFor_53 hl (by decide) rfl (fun ls hl => ?_)
  refine lv_aload_n hx hb dX10_payFor_55 rfl (lv_at hl 2 rfl) ?_
  refine lv_iload hx hb dX10_payFor_56 (lv_at hl 0 rfl) ?_
  obtain ⟨h23, hw⟩ := hw
  refine ccVv0 C hH (crecv C hH 0 x2_ (by decide) h23 rfl rfl (q := (RX0, TX0, 10))) [.int x22] (c_Fel_takeIn l D Z E ad t20 x2_ x22 _ hw) (cwTV 1 hts wd_923 wd_924 wd_925 wd_5 wd_926 rfl rfl (by decide +kernel) ⟨Nat.le_of_ble_eq_true rfl, Nat.le_of_ble_eq_true rfl⟩) rfl hl.1 rfl (Nat.le_of_ble_eq_true rfl) dX10_payFor_58 ⟨Nat.zero_le _, Nat.zero_le _⟩ (fun  t24 H locs hw hH => ?_)
  refine lv_aload_n hx hb dX10_payFor_61 rfl (lv_at hl 1 rfl) ?_
  obtain ⟨h25, hw⟩ := hw
  refine cg C hH 2 x1_ (by decide) h25 rfl rfl ixX2 16 (by decide) rfl wd_813 rfl dX10_payFor_62 ?_
  refine lv_iload hx hb dX10_payFor_65 (lv_at hl 0 rfl) ?_
  refine lv_isub hx hb dX10_payFor_67 ?_
  refine lv_topi (fun x26 ex26 => ?_)
  have hw := hw x26 ex26
  refine lv_istore (lv' := [(5, .int x26), (4, .int x22), (1, .ref (ad 2 x1_)), (2, .ref (ad 0 x2_)), (3, .int x3_)]) hx hb dX10_payFor_68 hl (by decide) rfl (fun ls hl => ?_)
  refine lv_iconst (v := 0) hx hb dX10_payFor_70 (by decide) ?_
  refine lv_istore (lv' := [(6, .int (0 : Int32)), (5, .int x26), (4, .int x22), (1, .ref (ad 2 x1_)), (2, .ref (ad 0 x2_)), (3, .int x3_)]) hx hb dX10_payFor_71 hl (by decide) rfl (fun ls hl => ?_)
  obtain ⟨nn, hw⟩ := hw
  exact b_C_payFor_73 C hr hk  nn t24 x1_ x3_ x26 (0 : Int32) hw _ _ _ hH (lv_sub hl [3, 5, 1, 0] rfl)
def wp_C_payFor (t : CS) (a1 : Nat) (a2 : Nat) (post : CS → Prop) : Prop := a1 < tN t 2 ∧ ((a1 + 11) < tN t 2 + 11 ∧ (∀ x29 : Int32, x29 = (nI (tT t (a1 + 11)).length) → (if x29 = 0 then (post t) else (if (tF t 81 a1) ≤ (tF t 72 a1) then (wp_C_payFor_38 post t a1 a2 x29 a1 (tF t 78 a1)) else (wp_C_payFor_38 post t a1 a2 x29 a1 ((tF t 78 a1) / (2 : Int32)))))))
set_option maxHeartbeats 4000000 in
set_option maxRecDepth 100000 in
theorem c_C_payFor (l : Launch) (D : va_G) (Z : Nat → ClassId) (E : Nat → Nat) (ad : Nat → Nat → Nat) (t : CS) (a1 : Nat) (a2 : Nat) (post : CS → Prop) (hw : wp_C_payFor t a1 a2 post) (L : List Nat) (sz : Nat) : Met l yX10_payFor (Wd yX10_payFor cX10_payFor 7 (none)) rm_C_payFor (va_Pc [.ref (ad 5 0), .ref (ad 2 a1), .ref (ad 0 a2)] (cPre D Z E ad L sz t)) (va_Qv post (cPost D Z E ad (cAs L sz)) (cAs L sz)) 0 0 (cAs L sz) := by
  refine cMet (Qc := fun A => va_Qv post (cPost D Z E ad A) A) (by decide) rfl _ (Nat.le_of_ble_eq_true rfl) (fun p e s m args below meth c A C hr hk ls hl hH => ?_) L sz
  obtain ⟨⟨hx, hb, hml, hown, hts⟩, hK⟩ := id C
  have hl : lv_has ls 7 [(0, .ref (ad 5 0)), (1, .ref (ad 2 a1)), (2, .ref (ad 0 a2))] := hl
  unfold wp_C_payFor at hw
  refine lv_aload_n hx hb dX10_payFor_0 rfl (lv_at hl 1 rfl) ?_
  obtain ⟨h27, hw⟩ := hw
  refine cg C hH 2 a1 (by decide) h27 rfl rfl ixX2 10 (by decide) rfl wd_804 rfl dX10_payFor_1 ?_
  obtain ⟨h28, hw⟩ := hw
  refine lSize C hH (a1 + 11) h28 wd_283 hl.1 (Nat.le_of_ble_eq_true rfl) dX10_payFor_4 ⟨Nat.zero_le _, Nat.zero_le _⟩ ⟨Nat.le_of_ble_eq_true rfl, Nat.le_of_ble_eq_true rfl⟩ (fun H locs hH => ?_)
  refine lv_topi (fun x29 ex29 => ?_)
  have hw := hw x29 ex29
  refine lv_istore_n (lv' := [(3, .int x29), (0, .ref (ad 5 0)), (1, .ref (ad 2 a1)), (2, .ref (ad 0 a2))]) hx hb dX10_payFor_7 rfl hl (by decide) rfl (fun ls hl => ?_)
  refine lv_iload_n hx hb dX10_payFor_8 rfl (lv_at hl 0 rfl) ?_
  refine lv_if_ne (tgt := 13) hx hb dX10_payFor_9 (by decide) (fun c30 => ?_) (fun c30 => ?_)
  · have hw := ifn c30 hw
    refine lv_aload_n hx hb dX10_payFor_13 rfl (lv_at hl 2 rfl) ?_
    refine lv_aload_n hx hb dX10_payFor_14 rfl (lv_at hl 2 rfl) ?_
    refine cg C hH 2 a1 (by decide) h27 rfl rfl ixX2 17 (by decide) rfl wd_814 rfl dX10_payFor_15 ?_
    refine lv_aload_n hx hb dX10_payFor_18 rfl (lv_at hl 2 rfl) ?_
    refine cg C hH 2 a1 (by decide) h27 rfl rfl ixX2 8 (by decide) rfl wd_800 rfl dX10_payFor_19 ?_
    refine lv_icmp_le (tgt := 34) hx hb dX10_payFor_22 (by decide) (fun c31 => ?_) (fun c31 => ?_)
    · have hw := ifp c31 hw
      refine lv_aload_n hx hb dX10_payFor_34 rfl (lv_at hl 2 rfl) ?_
      refine cg C hH 2 a1 (by decide) h27 rfl rfl ixX2 14 (by decide) rfl wd_811 rfl dX10_payFor_35 ?_
      exact b_C_payFor_38 C hr hk  t a1 a2 x29 a1 (tF t 78 a1) hw _ _ _ hH (lv_sub hl [2, 3, 0] rfl)
    · have hw := ifn c31 hw
      refine lv_aload_n hx hb dX10_payFor_25 rfl (lv_at hl 2 rfl) ?_
      refine cg C hH 2 a1 (by decide) h27 rfl rfl ixX2 14 (by decide) rfl wd_811 rfl dX10_payFor_26 ?_
      refine lv_iconst (v := 2) hx hb dX10_payFor_29 (by decide) ?_
      refine lv_idiv hx hb dX10_payFor_30 (by decide) ?_
      refine lv_goto (tgt := 38) hx hb dX10_payFor_31 (by decide) ?_
      exact b_C_payFor_38 C hr hk  t a1 a2 x29 a1 ((tF t 78 a1) / (2 : Int32)) hw _ _ _ hH (lv_sub hl [2, 3, 0] rfl)
  · have hw := ifp c30 hw
    exact crv C hr hk hH (Nat.zero_le _) (Nat.zero_le _) hw dX10_payFor_12
/-! PorterTurns.comeBack -/
abbrev rm_C_comeBack (mc ms : Nat) : Room := { frames := 7, cells := mc, slots := ms, locals := 521 }
def wp_C_comeBack_2 (mc ms : Nat) (post : CS → Prop) : Nat → Nat → Nat → CS → Nat → Nat → Int32 → Prop
  | 0 => fun _ _ _ _ _ _ => False
  | n + 1 => fun uc us t x1_ x2_ x3_ => x1_ < tN t 2 ∧ ((x1_ + 11) < tN t 2 + 11 ∧ (if (nI (tT t (x1_ + 11)).length) ≤ x3_ then (post t) else (vp_in x3_ (tT t (x1_ + 11)).length ∧ ((tT t (x1_ + 11)).length < 2 ^ 31 ∧ (∀ j6 : Nat, j6 = ((tT t (x1_ + 11)).getD x3_.toNatClampNeg 0) → (j6 < tN t 3 ∧ (∀ t8 : CS, t8 = sF t 104 j6 (-1 : Int32) → (x2_ < tN t8 0 ∧ ((x2_ + 7) < tN t8 2 + 11 ∧ (tK t8 (x2_ + 7) < 2 ^ 20 ∧ (elOk t8 (x2_ + 7) ∧ (j6 < tN t8 3 ∧ (((uc + aC (tT t8 (x2_ + 7)).length (tK t8 (x2_ + 7))) ≤ mc ∧ (us + aS (tT t8 (x2_ + 7)).length (tK t8 (x2_ + 7))) ≤ ms) ∧ (∀ c15 s16 : Nat, c15 = (uc + aC (tT t8 (x2_ + 7)).length (tK t8 (x2_ + 7))) → s16 = (us + aS (tT t8 (x2_ + 7)).length (tK t8 (x2_ + 7))) → (∀ t17 : CS, t17 = lAdd t8 (x2_ + 7) j6 → (∀ x18 : Int32, x18 = x3_ + (1 : Int32) → (wp_C_comeBack_2 mc ms post n c15 s16 t17 x1_ x2_ x18)))))))))))))))))
set_option maxHeartbeats 4000000 in
set_option maxRecDepth 100000 in
theorem b_C_comeBack_2 {p : Program} {l : Launch} {e : Env} {s : State} {m : MethodId} {args : Array Value} {below : List Frame} {meth : Method} {c : Code} {D : va_G} {Z : Nat → ClassId} {E : Nat → Nat} {ad : Nat → Nat → Nat} {A : Nat → Prop} (C : CC p s m args c cX10_comeBack 5 RX10 D Z E A) (hr : meth.sig.returnType = none) (hk : meth.locks = false) {mc ms : Nat} {post : CS → Prop} : ∀ (n : Nat) (uc us : Nat) (t : CS) (x1_ : Nat) (x2_ : Nat) (x3_ : Int32), wp_C_comeBack_2 mc ms post n uc us t x1_ x2_ x3_ → (uc ≤ mc ∧ us ≤ ms) → ∀ (H : Heap) (locs : List Loc) (ls : Array Slot), CH D Z E ad A s.heap t H locs → lv_has ls 5 [(1, .ref (ad 2 x1_)), (2, .ref (ad 0 x2_)), (3, .int x3_)] → CWv p l e (rm_C_comeBack mc ms) s m args below meth c D Z E ad A mc ms post H locs uc us (F0 m 2 ls []) := by
  obtain ⟨⟨hx, hb, hml, hown, hts⟩, hK⟩ := id C
  intro n
  induction n with
  | zero => intro uc us t x1_ x2_ x3_ hw; exact hw.elim
  | succ n ih =>
    intro uc us t x1_ x2_ x3_ hw hu H locs ls hH hl
    unfold wp_C_comeBack_2 at hw
    refine lv_iload_n hx hb dX10_comeBack_2 rfl (lv_at hl 2 rfl) ?_
    refine lv_aload_n hx hb dX10_comeBack_3 rfl (lv_at hl 0 rfl) ?_
    obtain ⟨h1, hw⟩ := hw
    refine cg C hH 2 x1_ (by decide) h1 rfl rfl ixX2 10 (by decide) rfl wd_804 rfl dX10_comeBack_4 ?_
    obtain ⟨h2, hw⟩ := hw
    refine lSize C hH (x1_ + 11) h2 wd_283 hl.1 (Nat.le_of_ble_eq_true rfl) dX10_comeBack_7 hu ⟨Nat.le_of_ble_eq_true rfl, Nat.le_of_ble_eq_true rfl⟩ (fun H locs hH => ?_)
    refine lv_icmp_ge (tgt := 48) hx hb dX10_comeBack_10 (by decide) (fun c3 => ?_) (fun c3 => ?_)
    · have hw := ifp c3 hw
      exact crv C hr hk hH hu.1 hu.2 hw dX10_comeBack_48
    · have hw := ifn c3 hw
      refine lv_aload_n hx hb dX10_comeBack_13 rfl (lv_at hl 0 rfl) ?_
      refine cg C hH 2 x1_ (by decide) h1 rfl rfl ixX2 10 (by decide) rfl wd_804 rfl dX10_comeBack_14 ?_
      refine lv_iload_n hx hb dX10_comeBack_17 rfl (lv_at hl 2 rfl) ?_
      obtain ⟨h4, hw⟩ := hw
      obtain ⟨h5, hw⟩ := hw
      refine lGet C hH (x1_ + 11) h2 h4 h5 wd_320 hl.1 (Nat.le_of_ble_eq_true rfl) dX10_comeBack_18 hu ⟨Nat.le_of_ble_eq_true rfl, Nat.le_of_ble_eq_true rfl⟩ (fun H locs hH => ?_)
      obtain ⟨j6, ej6⟩ : ∃ x : Nat, x = ((tT t (x1_ + 11)).getD x3_.toNatClampNeg 0) := ⟨_, rfl⟩
      rw [← ej6]
      have hw := hw j6 ej6
      obtain ⟨h7, hw⟩ := hw
      refine cCast C hH 3 j6 (by decide) h7 rfl rfl wd_374 dX10_comeBack_21 ?_
      refine lv_astore (lv' := [(4, .ref (ad 3 j6)), (1, .ref (ad 2 x1_)), (2, .ref (ad 0 x2_)), (3, .int x3_)]) hx hb dX10_comeBack_24 hl (by decide) rfl (fun ls hl => ?_)
      refine lv_aload hx hb dX10_comeBack_26 (lv_at hl 0 rfl) ?_
      refine lv_iconst (v := -1) hx hb dX10_comeBack_28 (by decide) ?_
      refine cp C hH 3 j6 104 (by decide) h7 rfl rfl ixX3 tyX3_ok nmX3 8 (by decide) (by decide) rfl rfl wd_402 pfI rfl rfl (Nat.le_of_ble_eq_true rfl) (hs_104_Man Z ad t j6 _) dX10_comeBack_29 (fun H locs hH => ?_)
      obtain ⟨t8, et8⟩ : ∃ x : CS, x = sF t 104 j6 (-1 : Int32) := ⟨_, rfl⟩
      rw [← et8] at hH
      have hw := hw t8 et8
      refine lv_aload_n hx hb dX10_comeBack_32 rfl (lv_at hl 2 rfl) ?_
      obtain ⟨h9, hw⟩ := hw
      refine cg C hH 0 x2_ (by decide) h9 rfl rfl ixX0 1 (by decide) rfl wd_70 rfl dX10_comeBack_33 ?_
      refine lv_aload hx hb dX10_comeBack_36 (lv_at hl 0 rfl) ?_
      obtain ⟨h10, hw⟩ := hw
      obtain ⟨h11, hw⟩ := hw
      obtain ⟨h12, hw⟩ := hw
      obtain ⟨h13, hw⟩ := hw
      obtain ⟨hu, hw⟩ := hw
      refine lAddR C hH (x2_ + 7) j6 h10 h11 h12 h13 wd_103 hl.1 (Nat.le_of_ble_eq_true rfl) dX10_comeBack_38 hu ⟨Nat.le_of_ble_eq_true rfl, Nat.le_of_ble_eq_true rfl⟩ (fun H locs hH => ?_)
      obtain ⟨c15, ec15⟩ : ∃ x : Nat, x = (uc + aC (tT t8 (x2_ + 7)).length (tK t8 (x2_ + 7))) := ⟨_, rfl⟩
      obtain ⟨s16, es16⟩ : ∃ x : Nat, x = (us + aS (tT t8 (x2_ + 7)).length (tK t8 (x2_ + 7))) := ⟨_, rfl⟩
      have hw := hw c15 s16 ec15 es16
      rw [← ec15, ← es16] at hu ⊢
      obtain ⟨t17, et17⟩ : ∃ x : CS, x = lAdd t8 (x2_ + 7) j6 := ⟨_, rfl⟩
      rw [← et17] at hH
      have hw := hw t17 et17
      refine lv_pop hx hb dX10_comeBack_41 rfl ?_
      obtain ⟨x18, ex18⟩ : ∃ y : Int32, y = x3_ + (1 : Int32) := ⟨_, rfl⟩
      have hw := hw x18 ex18
      refine lv_iinc (v := x18) (lv' := [(3, .int x18), (4, .ref (ad 3 j6)), (1, .ref (ad 2 x1_)), (2, .ref (ad 0 x2_))]) hx hb dX10_comeBack_42 hl (k := 3) rfl (by rw [ex18]; rfl) (by decide) rfl (fun ls hl => ?_)
      refine lv_goto (tgt := 2) hx hb dX10_comeBack_45 (by decide) ?_
      exact ih c15 s16 t17 x1_ x2_ x18 hw hu _ _ _ hH (lv_sub hl [2, 3, 0] rfl)
def wp_C_comeBack (mc ms : Nat) (t : CS) (a1 : Nat) (a2 : Nat) (post : CS → Prop) : Prop := ∃ nn : Nat, wp_C_comeBack_2 mc ms post nn 0 0 t a1 a2 (0 : Int32)
set_option maxHeartbeats 4000000 in
set_option maxRecDepth 100000 in
theorem c_C_comeBack (l : Launch) (D : va_G) (Z : Nat → ClassId) (E : Nat → Nat) (ad : Nat → Nat → Nat) (mc ms : Nat) (t : CS) (a1 : Nat) (a2 : Nat) (post : CS → Prop) (hw : wp_C_comeBack mc ms t a1 a2 post) (L : List Nat) (sz : Nat) : Met l yX10_comeBack (Wd yX10_comeBack cX10_comeBack 5 (none)) (rm_C_comeBack mc ms) (va_Pc [.ref (ad 5 0), .ref (ad 2 a1), .ref (ad 0 a2)] (cPre D Z E ad L sz t)) (va_Qv post (cPost D Z E ad (cAs L sz)) (cAs L sz)) mc ms (cAs L sz) := by
  refine cMet (Qc := fun A => va_Qv post (cPost D Z E ad A) A) (by decide) rfl _ (Nat.le_of_ble_eq_true rfl) (fun p e s m args below meth c A C hr hk ls hl hH => ?_) L sz
  obtain ⟨⟨hx, hb, hml, hown, hts⟩, hK⟩ := id C
  have hl : lv_has ls 5 [(0, .ref (ad 5 0)), (1, .ref (ad 2 a1)), (2, .ref (ad 0 a2))] := hl
  have hu : 0 ≤ mc ∧ 0 ≤ ms := ⟨Nat.zero_le _, Nat.zero_le _⟩
  unfold wp_C_comeBack at hw
  refine lv_iconst (v := 0) hx hb dX10_comeBack_0 (by decide) ?_
  refine lv_istore_n (lv' := [(3, .int (0 : Int32)), (0, .ref (ad 5 0)), (1, .ref (ad 2 a1)), (2, .ref (ad 0 a2))]) hx hb dX10_comeBack_1 rfl hl (by decide) rfl (fun ls hl => ?_)
  obtain ⟨nn, hw⟩ := hw
  exact b_C_comeBack_2 C hr hk  nn 0 0 t a1 a2 (0 : Int32) hw hu _ _ _ hH (lv_sub hl [2, 3, 0] rfl)
/-! PorterTurns.bringIn -/
abbrev rm_C_bringIn (mc ms : Nat) : Room := { frames := 8, cells := mc, slots := ms, locals := 545 }
def wp_C_bringIn_86 (mc ms : Nat) (k2 : Nat → Nat → CS → Int32 → Prop) (post : CS → Prop) (uc us : Nat) (t : CS) (x1_ : Int32) : Prop := ∀ x1 : Int32, x1 = x1_ + (1 : Int32) → (k2 uc us t x1)
set_option maxHeartbeats 4000000 in
set_option maxRecDepth 100000 in
theorem b_C_bringIn_86 {p : Program} {l : Launch} {e : Env} {s : State} {m : MethodId} {args : Array Value} {below : List Frame} {meth : Method} {c : Code} {D : va_G} {Z : Nat → ClassId} {E : Nat → Nat} {ad : Nat → Nat → Nat} {A : Nat → Prop} (C : CC p s m args c cX10_bringIn 4 RX10 D Z E A) (hr : meth.sig.returnType = none) (hk : meth.locks = false) {mc ms : Nat} {post : CS → Prop} {k2 : Nat → Nat → CS → Int32 → Prop} (hk2 : ∀ (uc us : Nat) (t : CS) (y1 : Int32), k2 uc us t y1 → (uc ≤ mc ∧ us ≤ ms) → ∀ (H : Heap) (locs : List Loc) (ls : Array Slot), CH D Z E ad A s.heap t H locs → lv_has ls 4 [(0, .ref (ad 5 0)), (1, .int y1)] → CWv p l e (rm_C_bringIn mc ms) s m args below meth c D Z E ad A mc ms post H locs uc us (F0 m 2 ls [])) : ∀ (uc us : Nat) (t : CS) (x1_ : Int32), wp_C_bringIn_86 mc ms k2 post uc us t x1_ → (uc ≤ mc ∧ us ≤ ms) → ∀ (H : Heap) (locs : List Loc) (ls : Array Slot), CH D Z E ad A s.heap t H locs → lv_has ls 4 [(0, .ref (ad 5 0)), (1, .int x1_)] → CWv p l e (rm_C_bringIn mc ms) s m args below meth c D Z E ad A mc ms post H locs uc us (F0 m 86 ls []) := by
  obtain ⟨⟨hx, hb, hml, hown, hts⟩, hK⟩ := id C
  intro uc us t x1_ hw hu H locs ls hH hl
  unfold wp_C_bringIn_86 at hw
  obtain ⟨x1, ex1⟩ : ∃ y : Int32, y = x1_ + (1 : Int32) := ⟨_, rfl⟩
  have hw := hw x1 ex1
  refine lv_iinc (v := x1) (lv' := [(1, .int x1), (0, .ref (ad 5 0))]) hx hb dX10_bringIn_86 hl (k := 1) rfl (by rw [ex1]; rfl) (by decide) rfl (fun ls hl => ?_)
  refine lv_goto (tgt := 2) hx hb dX10_bringIn_89 (by decide) ?_
  exact hk2 uc us t x1 hw hu _ _ _ hH (lv_sub hl [1, 0] rfl)
def wp_C_bringIn_80 (mc ms : Nat) (k2 : Nat → Nat → CS → Int32 → Prop) (post : CS → Prop) (uc us : Nat) (t : CS) (x1_ : Int32) (x2_ : Nat) (x3_ : Nat) : Prop := ∃ c3 s4 : Nat, (uc + c3 ≤ mc ∧ us + s4 ≤ ms) ∧ (wp_C_comeBack c3 s4 t x2_ x3_ (fun  t2 => wp_C_bringIn_86 mc ms (k2) post (uc + c3) (us + s4) t2 x1_))
set_option maxHeartbeats 4000000 in
set_option maxRecDepth 100000 in
theorem b_C_bringIn_80 {p : Program} {l : Launch} {e : Env} {s : State} {m : MethodId} {args : Array Value} {below : List Frame} {meth : Method} {c : Code} {D : va_G} {Z : Nat → ClassId} {E : Nat → Nat} {ad : Nat → Nat → Nat} {A : Nat → Prop} (C : CC p s m args c cX10_bringIn 4 RX10 D Z E A) (hr : meth.sig.returnType = none) (hk : meth.locks = false) {mc ms : Nat} {post : CS → Prop} {k2 : Nat → Nat → CS → Int32 → Prop} (hk2 : ∀ (uc us : Nat) (t : CS) (y1 : Int32), k2 uc us t y1 → (uc ≤ mc ∧ us ≤ ms) → ∀ (H : Heap) (locs : List Loc) (ls : Array Slot), CH D Z E ad A s.heap t H locs → lv_has ls 4 [(0, .ref (ad 5 0)), (1, .int y1)] → CWv p l e (rm_C_bringIn mc ms) s m args below meth c D Z E ad A mc ms post H locs uc us (F0 m 2 ls [])) : ∀ (uc us : Nat) (t : CS) (x1_ : Int32) (x2_ : Nat) (x3_ : Nat), wp_C_bringIn_80 mc ms k2 post uc us t x1_ x2_ x3_ → (uc ≤ mc ∧ us ≤ ms) → ∀ (H : Heap) (locs : List Loc) (ls : Array Slot), CH D Z E ad A s.heap t H locs → lv_has ls 4 [(0, .ref (ad 5 0)), (1, .int x1_), (2, .ref (ad 2 x2_)), (3, .ref (ad 0 x3_))] → CWv p l e (rm_C_bringIn mc ms) s m args below meth c D Z E ad A mc ms post H locs uc us (F0 m 80 ls []) := by
  obtain ⟨⟨hx, hb, hml, hown, hts⟩, hK⟩ := id C
  intro uc us t x1_ x2_ x3_ hw hu H locs ls hH hl
  unfold wp_C_bringIn_80 at hw
  refine lv_aload_n hx hb dX10_bringIn_80 rfl (lv_at hl 0 rfl) ?_
  refine lv_aload_n hx hb dX10_bringIn_81 rfl (lv_at hl 2 rfl) ?_
  refine lv_aload_n hx hb dX10_bringIn_82 rfl (lv_at hl 3 rfl) ?_
  obtain ⟨c3, s4, hu, hw⟩ := hw
  refine ccVv C hH (crecv C hH 5 0 (by decide) (Nat.le_of_ble_eq_true rfl) rfl rfl (q := (RX10, TX10, 13))) [.ref (ad 2 x2_), .ref (ad 0 x3_)] (c_C_comeBack l D Z E ad c3 s4 t x2_ x3_ _ hw) (cwTV 2 hts wd_980 wd_982 ws_40 wd_1 wd_983 rfl rfl (by decide +kernel) ⟨Nat.le_of_ble_eq_true rfl, Nat.le_of_ble_eq_true rfl⟩) rfl hl.1 rfl (Nat.le_of_ble_eq_true rfl) dX10_bringIn_83 hu (fun  t2 H locs hw hH => ?_)
  exact b_C_bringIn_86 C hr hk hk2 (uc + c3) (us + s4) t2 x1_ hw hu _ _ _ hH (lv_sub hl [0, 1] rfl)
def wp_C_bringIn_2 (mc ms : Nat) (post : CS → Prop) : Nat → Nat → Nat → CS → Int32 → Prop
  | 0 => fun _ _ _ _ => False
  | n + 1 => fun uc us t x1_ => if (nI (tT t 2).length) ≤ x1_ then (post t) else (vp_in x1_ (tT t 2).length ∧ ((tT t 2).length < 2 ^ 31 ∧ (∀ j8 : Nat, j8 = ((tT t 2).getD x1_.toNatClampNeg 0) → (j8 < tN t 2 ∧ (wp_C_fellowshipAt t (tF t 77 j8) (fun o11 t10 => oM o11 (wp_C_bringIn_86 mc ms (wp_C_bringIn_2 mc ms post n) post uc us t10 x1_) (fun j12 => j8 < tN t10 2 ∧ (if (tF t10 82 j8) = 0 then (wp_C_bringIn_86 mc ms (wp_C_bringIn_2 mc ms post n) post uc us t10 x1_) else (if (tF t10 171 0) < (tF t10 81 j8) then (wp_C_bringIn_86 mc ms (wp_C_bringIn_2 mc ms post n) post uc us t10 x1_) else (∀ t16 : CS, t16 = sF t10 82 j8 (0 : Int32) → (j8 < tN t16 2 ∧ (if (tF t16 75 j8) = (1 : Int32) then (∀ t19 : CS, t19 = sF t16 75 j8 (2 : Int32) → (wp_C_payFor t19 j8 j12 (fun  t20 => wp_C_bringIn_80 mc ms (wp_C_bringIn_2 mc ms post n) post uc us t20 x1_ j8 j12))) else (wp_C_bringIn_80 mc ms (wp_C_bringIn_2 mc ms post n) post uc us t16 x1_ j8 j12)))))))))))))
set_option maxHeartbeats 4000000 in
set_option maxRecDepth 100000 in
theorem b_C_bringIn_2 {p : Program} {l : Launch} {e : Env} {s : State} {m : MethodId} {args : Array Value} {below : List Frame} {meth : Method} {c : Code} {D : va_G} {Z : Nat → ClassId} {E : Nat → Nat} {ad : Nat → Nat → Nat} {A : Nat → Prop} (C : CC p s m args c cX10_bringIn 4 RX10 D Z E A) (hr : meth.sig.returnType = none) (hk : meth.locks = false) {mc ms : Nat} {post : CS → Prop} : ∀ (n : Nat) (uc us : Nat) (t : CS) (x1_ : Int32), wp_C_bringIn_2 mc ms post n uc us t x1_ → (uc ≤ mc ∧ us ≤ ms) → ∀ (H : Heap) (locs : List Loc) (ls : Array Slot), CH D Z E ad A s.heap t H locs → lv_has ls 4 [(0, .ref (ad 5 0)), (1, .int x1_)] → CWv p l e (rm_C_bringIn mc ms) s m args below meth c D Z E ad A mc ms post H locs uc us (F0 m 2 ls []) := by
  obtain ⟨⟨hx, hb, hml, hown, hts⟩, hK⟩ := id C
  intro n
  induction n with
  | zero => intro uc us t x1_ hw; exact hw.elim
  | succ n ih =>
    intro uc us t x1_ hw hu H locs ls hH hl
    unfold wp_C_bringIn_2 at hw
    refine lv_iload_n hx hb dX10_bringIn_2 rfl (lv_at hl 1 rfl) ?_
    refine lv_aload_n hx hb dX10_bringIn_3 rfl (lv_at hl 0 rfl) ?_
    refine cg C hH 5 0 (by decide) (Nat.le_of_ble_eq_true rfl) rfl rfl ixX10 2 (by decide) rfl wd_238 rfl dX10_bringIn_4 ?_
    refine lSize C hH 2 (Nat.lt_of_lt_of_le (show 2 < 11 by decide) (Nat.le_add_left _ _)) wd_283 hl.1 (Nat.le_of_ble_eq_true rfl) dX10_bringIn_7 hu ⟨Nat.le_of_ble_eq_true rfl, Nat.le_of_ble_eq_true rfl⟩ (fun H locs hH => ?_)
    refine lv_icmp_ge (tgt := 92) hx hb dX10_bringIn_10 (by decide) (fun c5 => ?_) (fun c5 => ?_)
    · have hw := ifp c5 hw
      exact crv C hr hk hH hu.1 hu.2 hw dX10_bringIn_92
    · have hw := ifn c5 hw
      refine lv_aload_n hx hb dX10_bringIn_13 rfl (lv_at hl 0 rfl) ?_
      refine cg C hH 5 0 (by decide) (Nat.le_of_ble_eq_true rfl) rfl rfl ixX10 2 (by decide) rfl wd_238 rfl dX10_bringIn_14 ?_
      refine lv_iload_n hx hb dX10_bringIn_17 rfl (lv_at hl 1 rfl) ?_
      obtain ⟨h6, hw⟩ := hw
      obtain ⟨h7, hw⟩ := hw
      refine lGet C hH 2 (Nat.lt_of_lt_of_le (show 2 < 11 by decide) (Nat.le_add_left _ _)) h6 h7 wd_320 hl.1 (Nat.le_of_ble_eq_true rfl) dX10_bringIn_18 hu ⟨Nat.le_of_ble_eq_true rfl, Nat.le_of_ble_eq_true rfl⟩ (fun H locs hH => ?_)
      obtain ⟨j8, ej8⟩ : ∃ x : Nat, x = ((tT t 2).getD x1_.toNatClampNeg 0) := ⟨_, rfl⟩
      rw [← ej8]
      have hw := hw j8 ej8
      obtain ⟨h9, hw⟩ := hw
      refine cCast C hH 2 j8 (by decide) h9 rfl rfl wd_702 dX10_bringIn_21 ?_
      refine lv_astore_n (lv' := [(2, .ref (ad 2 j8)), (0, .ref (ad 5 0)), (1, .int x1_)]) hx hb dX10_bringIn_24 rfl hl (by decide) rfl (fun ls hl => ?_)
      refine lv_aload_n hx hb dX10_bringIn_25 rfl (lv_at hl 1 rfl) ?_
      refine lv_aload_n hx hb dX10_bringIn_26 rfl (lv_at hl 0 rfl) ?_
      refine cg C hH 2 j8 (by decide) h9 rfl rfl ixX2 13 (by decide) rfl wd_810 rfl dX10_bringIn_27 ?_
      refine ccVq0 C hH (crecv C hH 5 0 (by decide) (Nat.le_of_ble_eq_true rfl) rfl rfl (q := (RX10, TX10, 13))) [.int (tF t 77 j8)] (c_C_fellowshipAt l D Z E ad t (tF t 77 j8) _ hw) (cwTV 1 hts wd_370 wd_372 ws_5 wd_1 wd_373 rfl rfl (by decide +kernel) ⟨Nat.le_of_ble_eq_true rfl, Nat.le_of_ble_eq_true rfl⟩) rfl hl.1 rfl (Nat.le_of_ble_eq_true rfl) dX10_bringIn_30 hu (fun o11 t10 H locs hw hH => ?_)
      refine lq_astore_n (lv' := [(3, va_rf (o11.map (ad 0))), (2, .ref (ad 2 j8)), (0, .ref (ad 5 0)), (1, .int x1_)]) hx hb dX10_bringIn_33 rfl hl (by decide) rfl (fun ls hl => ?_)
      refine lq_aload_n hx hb dX10_bringIn_34 rfl (lv_at hl 0 rfl) ?_
      cases o11 with
      | none =>
        have hw := oM_none hw
        have hl : lv_has ls 4 [(3, va_rf (none.map (ad 0))), (2, .ref (ad 2 j8)), (0, .ref (ad 5 0)), (1, .int x1_)] := hl
        refine lv_ifnullN (tgt := 86) hx hb dX10_bringIn_35 (by decide) ?_
        exact b_C_bringIn_86 C hr hk ih uc us t10 x1_ hw hu _ _ _ hH (lv_sub hl [2, 3] rfl)
      | some j12 =>
        have hw := oM_some hw
        have hl : lv_has ls 4 [(3, .ref (ad 0 j12)), (2, .ref (ad 2 j8)), (0, .ref (ad 5 0)), (1, .int x1_)] := hl
        refine lv_ifnull hx hb dX10_bringIn_35 ?_
        refine lv_aload_n hx hb dX10_bringIn_38 rfl (lv_at hl 1 rfl) ?_
        obtain ⟨h13, hw⟩ := hw
        refine cg C hH 2 j8 (by decide) h13 rfl rfl ixX2 18 (by decide) rfl wd_815 rfl dX10_bringIn_39 ?_
        refine lv_if_eq (tgt := 86) hx hb dX10_bringIn_42 (by decide) (fun c14 => ?_) (fun c14 => ?_)
        · have hw := ifp c14 hw
          exact b_C_bringIn_86 C hr hk ih uc us t10 x1_ hw hu _ _ _ hH (lv_sub hl [2, 3] rfl)
        · have hw := ifn c14 hw
          refine lv_aload_n hx hb dX10_bringIn_45 rfl (lv_at hl 1 rfl) ?_
          refine cg C hH 2 j8 (by decide) h13 rfl rfl ixX2 17 (by decide) rfl wd_814 rfl dX10_bringIn_46 ?_
          refine lv_aload_n hx hb dX10_bringIn_49 rfl (lv_at hl 2 rfl) ?_
          refine cg C hH 5 0 (by decide) (Nat.le_of_ble_eq_true rfl) rfl rfl ixX10 11 (by decide) rfl wd_247 rfl dX10_bringIn_50 ?_
          refine lv_icmp_gt (tgt := 86) hx hb dX10_bringIn_53 (by decide) (fun c15 => ?_) (fun c15 => ?_)
          · have hw := ifp c15 hw
            exact b_C_bringIn_86 C hr hk ih uc us t10 x1_ hw hu _ _ _ hH (lv_sub hl [2, 3] rfl)
          · have hw := ifn c15 hw
            refine lv_aload_n hx hb dX10_bringIn_56 rfl (lv_at hl 1 rfl) ?_
            refine lv_iconst (v := 0) hx hb dX10_bringIn_57 (by decide) ?_
            refine cp C hH 2 j8 82 (by decide) h13 rfl rfl ixX2 tyX2_ok nmX2 18 (by decide) (by decide) rfl rfl wd_815 pfZ bz0.nar bz0.fit (Nat.le_of_ble_eq_true rfl) (hs_82_Load Z ad t10 j8 _) dX10_bringIn_58 (fun H locs hH => ?_)
            obtain ⟨t16, et16⟩ : ∃ x : CS, x = sF t10 82 j8 (0 : Int32) := ⟨_, rfl⟩
            rw [← et16] at hH
            have hw := hw t16 et16
            refine lv_aload_n hx hb dX10_bringIn_61 rfl (lv_at hl 1 rfl) ?_
            obtain ⟨h17, hw⟩ := hw
            refine cg C hH 2 j8 (by decide) h17 rfl rfl ixX2 11 (by decide) rfl wd_806 rfl dX10_bringIn_62 ?_
            refine lv_iconst (v := 1) hx hb dX10_bringIn_65 (by decide) ?_
            refine lv_icmp_ne (tgt := 80) hx hb dX10_bringIn_66 (by decide) (fun c18 => ?_) (fun c18 => ?_)
            · have hw := ifn c18 hw
              exact b_C_bringIn_80 C hr hk ih uc us t16 x1_ j8 j12 hw hu _ _ _ hH (lv_sub hl [2, 3, 1, 0] rfl)
            · have hw := ifp c18 hw
              refine lv_aload_n hx hb dX10_bringIn_69 rfl (lv_at hl 1 rfl) ?_
              refine lv_iconst (v := 2) hx hb dX10_bringIn_70 (by decide) ?_
              refine cp C hH 2 j8 75 (by decide) h17 rfl rfl ixX2 tyX2_ok nmX2 11 (by decide) (by decide) rfl rfl wd_806 pfI rfl rfl (Nat.le_of_ble_eq_true rfl) (hs_75_Load Z ad t16 j8 _) dX10_bringIn_71 (fun H locs hH => ?_)
              obtain ⟨t19, et19⟩ : ∃ x : CS, x = sF t16 75 j8 (2 : Int32) := ⟨_, rfl⟩
              rw [← et19] at hH
              have hw := hw t19 et19
              refine lv_aload_n hx hb dX10_bringIn_74 rfl (lv_at hl 2 rfl) ?_
              refine lv_aload_n hx hb dX10_bringIn_75 rfl (lv_at hl 1 rfl) ?_
              refine lv_aload_n hx hb dX10_bringIn_76 rfl (lv_at hl 0 rfl) ?_
              refine ccVv0 C hH (crecv C hH 5 0 (by decide) (Nat.le_of_ble_eq_true rfl) rfl rfl (q := (RX10, TX10, 13))) [.ref (ad 2 j8), .ref (ad 0 j12)] (c_C_payFor l D Z E ad t19 j8 j12 _ hw) (cwTV 2 hts wd_976 wd_978 ws_39 wd_1 wd_979 rfl rfl (by decide +kernel) ⟨Nat.le_of_ble_eq_true rfl, Nat.le_of_ble_eq_true rfl⟩) rfl hl.1 rfl (Nat.le_of_ble_eq_true rfl) dX10_bringIn_77 hu (fun  t20 H locs hw hH => ?_)
              exact b_C_bringIn_80 C hr hk ih uc us t20 x1_ j8 j12 hw hu _ _ _ hH (lv_sub hl [2, 3, 1, 0] rfl)
def wp_C_bringIn (mc ms : Nat) (t : CS) (post : CS → Prop) : Prop := ∃ nn : Nat, wp_C_bringIn_2 mc ms post nn 0 0 t (0 : Int32)
set_option maxHeartbeats 4000000 in
set_option maxRecDepth 100000 in
theorem c_C_bringIn (l : Launch) (D : va_G) (Z : Nat → ClassId) (E : Nat → Nat) (ad : Nat → Nat → Nat) (mc ms : Nat) (t : CS) (post : CS → Prop) (hw : wp_C_bringIn mc ms t  post) (L : List Nat) (sz : Nat) : Met l yX10_bringIn (Wd yX10_bringIn cX10_bringIn 4 (none)) (rm_C_bringIn mc ms) (va_Pc [.ref (ad 5 0)] (cPre D Z E ad L sz t)) (va_Qv post (cPost D Z E ad (cAs L sz)) (cAs L sz)) mc ms (cAs L sz) := by
  refine cMet (Qc := fun A => va_Qv post (cPost D Z E ad A) A) (by decide) rfl _ (Nat.le_of_ble_eq_true rfl) (fun p e s m args below meth c A C hr hk ls hl hH => ?_) L sz
  obtain ⟨⟨hx, hb, hml, hown, hts⟩, hK⟩ := id C
  have hl : lv_has ls 4 [(0, .ref (ad 5 0))] := hl
  have hu : 0 ≤ mc ∧ 0 ≤ ms := ⟨Nat.zero_le _, Nat.zero_le _⟩
  unfold wp_C_bringIn at hw
  refine lv_iconst (v := 0) hx hb dX10_bringIn_0 (by decide) ?_
  refine lv_istore_n (lv' := [(1, .int (0 : Int32)), (0, .ref (ad 5 0))]) hx hb dX10_bringIn_1 rfl hl (by decide) rfl (fun ls hl => ?_)
  obtain ⟨nn, hw⟩ := hw
  exact b_C_bringIn_2 C hr hk  nn 0 0 t (0 : Int32) hw hu _ _ _ hH (lv_sub hl [1, 0] rfl)
/-! PorterTurns.minutes -/
abbrev rm_C_minutes (mc ms : Nat) : Room := { frames := 9, cells := mc, slots := ms, locals := 568 }
def wp_C_minutes_71 (mc ms : Nat) (k34 : Nat → Nat → CS → Int32 → Int32 → Int32 → Prop) (post : Int32 → CS → Prop) (uc us : Nat) (t : CS) (x1_ : Int32) (x2_ : Int32) (x3_ : Int32) : Prop := ∃ c2 s3 : Nat, (uc + c2 ≤ mc ∧ us + s3 ≤ ms) ∧ (wp_C_bringIn c2 s3 t  (fun  t1 => ∀ x4 : Int32, x4 = x3_ + (1 : Int32) → (k34 (uc + c2) (us + s3) t1 x1_ x2_ x4)))
set_option maxHeartbeats 4000000 in
set_option maxRecDepth 100000 in
theorem b_C_minutes_71 {p : Program} {l : Launch} {e : Env} {s : State} {m : MethodId} {args : Array Value} {below : List Frame} {meth : Method} {c : Code} {D : va_G} {Z : Nat → ClassId} {E : Nat → Nat} {ad : Nat → Nat → Nat} {A : Nat → Prop} (C : CC p s m args c cX10_minutes 4 RX10 D Z E A) (hr : meth.sig.returnType = some .int) (hk : meth.locks = false) {mc ms : Nat} {post : Int32 → CS → Prop} {k34 : Nat → Nat → CS → Int32 → Int32 → Int32 → Prop} (hk34 : ∀ (uc us : Nat) (t : CS) (y1 : Int32) (y2 : Int32) (y3 : Int32), k34 uc us t y1 y2 y3 → (uc ≤ mc ∧ us ≤ ms) → ∀ (H : Heap) (locs : List Loc) (ls : Array Slot), CH D Z E ad A s.heap t H locs → lv_has ls 4 [(0, .ref (ad 5 0)), (1, .int y1), (2, .int y2), (3, .int y3)] → CWi p l e (rm_C_minutes mc ms) s m args below meth c D Z E ad A mc ms post H locs uc us (F0 m 34 ls [])) : ∀ (uc us : Nat) (t : CS) (x1_ : Int32) (x2_ : Int32) (x3_ : Int32), wp_C_minutes_71 mc ms k34 post uc us t x1_ x2_ x3_ → (uc ≤ mc ∧ us ≤ ms) → ∀ (H : Heap) (locs : List Loc) (ls : Array Slot), CH D Z E ad A s.heap t H locs → lv_has ls 4 [(0, .ref (ad 5 0)), (1, .int x1_), (2, .int x2_), (3, .int x3_)] → CWi p l e (rm_C_minutes mc ms) s m args below meth c D Z E ad A mc ms post H locs uc us (F0 m 71 ls []) := by
  obtain ⟨⟨hx, hb, hml, hown, hts⟩, hK⟩ := id C
  intro uc us t x1_ x2_ x3_ hw hu H locs ls hH hl
  unfold wp_C_minutes_71 at hw
  refine lv_aload_n hx hb dX10_minutes_71 rfl (lv_at hl 0 rfl) ?_
  obtain ⟨c2, s3, hu, hw⟩ := hw
  refine ccVv C hH (crecv C hH 5 0 (by decide) (Nat.le_of_ble_eq_true rfl) rfl rfl (q := (RX10, TX10, 13))) [] (c_C_bringIn l D Z E ad c2 s3 t  _ hw) (cwTV 0 hts wd_972 wd_974 ws_38 wd_1 wd_975 rfl rfl (by decide +kernel) ⟨Nat.le_of_ble_eq_true rfl, Nat.le_of_ble_eq_true rfl⟩) rfl hl.1 rfl (Nat.le_of_ble_eq_true rfl) dX10_minutes_72 hu (fun  t1 H locs hw hH => ?_)
  obtain ⟨x4, ex4⟩ : ∃ y : Int32, y = x3_ + (1 : Int32) := ⟨_, rfl⟩
  have hw := hw x4 ex4
  refine lv_iinc (v := x4) (lv' := [(3, .int x4), (0, .ref (ad 5 0)), (1, .int x1_), (2, .int x2_)]) hx hb dX10_minutes_75 hl (k := 3) rfl (by rw [ex4]; rfl) (by decide) rfl (fun ls hl => ?_)
  refine lv_goto (tgt := 34) hx hb dX10_minutes_78 (by decide) ?_
  exact hk34 (uc + c2) (us + s3) t1 x1_ x2_ x4 hw hu _ _ _ hH (lv_sub hl [1, 2, 3, 0] rfl)
def wp_C_minutes_34 (mc ms : Nat) (post : Int32 → CS → Prop) : Nat → Nat → Nat → CS → Int32 → Int32 → Int32 → Prop
  | 0 => fun _ _ _ _ _ _ => False
  | n + 1 => fun uc us t x1_ x2_ x3_ => if x1_ ≤ x3_ then (post (tF t 171 0) t) else (if x2_ ≤ (tF t 171 0) then (post (tF t 171 0) t) else (wp_C_nextStop t x2_ (fun r8 t7 => ∀ t9 : CS, t9 = sF t7 171 0 r8 → (if ((tF t9 171 0) - (tF t9 171 0) / (600 : Int32) * (600 : Int32)) = 0 then (wp_C_beginDay t9  (fun  t11 => wp_C_minutes_71 mc ms (wp_C_minutes_34 mc ms post n) post uc us t11 x1_ x2_ x3_)) else (wp_C_minutes_71 mc ms (wp_C_minutes_34 mc ms post n) post uc us t9 x1_ x2_ x3_)))))
set_option maxHeartbeats 4000000 in
set_option maxRecDepth 100000 in
theorem b_C_minutes_34 {p : Program} {l : Launch} {e : Env} {s : State} {m : MethodId} {args : Array Value} {below : List Frame} {meth : Method} {c : Code} {D : va_G} {Z : Nat → ClassId} {E : Nat → Nat} {ad : Nat → Nat → Nat} {A : Nat → Prop} (C : CC p s m args c cX10_minutes 4 RX10 D Z E A) (hr : meth.sig.returnType = some .int) (hk : meth.locks = false) {mc ms : Nat} {post : Int32 → CS → Prop} : ∀ (n : Nat) (uc us : Nat) (t : CS) (x1_ : Int32) (x2_ : Int32) (x3_ : Int32), wp_C_minutes_34 mc ms post n uc us t x1_ x2_ x3_ → (uc ≤ mc ∧ us ≤ ms) → ∀ (H : Heap) (locs : List Loc) (ls : Array Slot), CH D Z E ad A s.heap t H locs → lv_has ls 4 [(0, .ref (ad 5 0)), (1, .int x1_), (2, .int x2_), (3, .int x3_)] → CWi p l e (rm_C_minutes mc ms) s m args below meth c D Z E ad A mc ms post H locs uc us (F0 m 34 ls []) := by
  obtain ⟨⟨hx, hb, hml, hown, hts⟩, hK⟩ := id C
  intro n
  induction n with
  | zero => intro uc us t x1_ x2_ x3_ hw; exact hw.elim
  | succ n ih =>
    intro uc us t x1_ x2_ x3_ hw hu H locs ls hH hl
    unfold wp_C_minutes_34 at hw
    refine lv_iload_n hx hb dX10_minutes_34 rfl (lv_at hl 3 rfl) ?_
    refine lv_iload_n hx hb dX10_minutes_35 rfl (lv_at hl 1 rfl) ?_
    refine lv_icmp_ge (tgt := 81) hx hb dX10_minutes_36 (by decide) (fun c5 => ?_) (fun c5 => ?_)
    · have hw := ifp c5 hw
      refine lv_aload_n hx hb dX10_minutes_81 rfl (lv_at hl 0 rfl) ?_
      refine cg C hH 5 0 (by decide) (Nat.le_of_ble_eq_true rfl) rfl rfl ixX10 11 (by decide) rfl wd_247 rfl dX10_minutes_82 ?_
      exact cri C hr hk hH hu.1 hu.2 hw dX10_minutes_85
    · have hw := ifn c5 hw
      refine lv_aload_n hx hb dX10_minutes_39 rfl (lv_at hl 0 rfl) ?_
      refine cg C hH 5 0 (by decide) (Nat.le_of_ble_eq_true rfl) rfl rfl ixX10 11 (by decide) rfl wd_247 rfl dX10_minutes_40 ?_
      refine lv_iload_n hx hb dX10_minutes_43 rfl (lv_at hl 2 rfl) ?_
      refine lv_icmp_ge (tgt := 81) hx hb dX10_minutes_44 (by decide) (fun c6 => ?_) (fun c6 => ?_)
      · have hw := ifp c6 hw
        refine lv_aload_n hx hb dX10_minutes_81 rfl (lv_at hl 0 rfl) ?_
        refine cg C hH 5 0 (by decide) (Nat.le_of_ble_eq_true rfl) rfl rfl ixX10 11 (by decide) rfl wd_247 rfl dX10_minutes_82 ?_
        exact cri C hr hk hH hu.1 hu.2 hw dX10_minutes_85
      · have hw := ifn c6 hw
        refine lv_aload_n hx hb dX10_minutes_47 rfl (lv_at hl 0 rfl) ?_
        refine lv_aload_n hx hb dX10_minutes_48 rfl (lv_at hl 0 rfl) ?_
        refine lv_iload_n hx hb dX10_minutes_49 rfl (lv_at hl 2 rfl) ?_
        refine ccVi0 C hH (crecv C hH 5 0 (by decide) (Nat.le_of_ble_eq_true rfl) rfl rfl (q := (RX10, TX10, 13))) [.int x2_] (c_C_nextStop l D Z E ad t x2_ _ hw) (cwTV 1 hts wd_944 wd_946 ws_34 wd_1 wd_947 rfl rfl (by decide +kernel) ⟨Nat.le_of_ble_eq_true rfl, Nat.le_of_ble_eq_true rfl⟩) rfl hl.1 rfl (Nat.le_of_ble_eq_true rfl) dX10_minutes_50 hu (fun r8 t7 H locs hw hH => ?_)
        refine cp C hH 5 0 171 (by decide) (Nat.le_of_ble_eq_true rfl) rfl rfl ixX10 tyX10_ok nmX10 11 (by decide) (by decide) rfl rfl wd_247 pfI rfl rfl (Nat.le_of_ble_eq_true rfl) (hs_171_PorterTurns Z ad t7 _) dX10_minutes_53 (fun H locs hH => ?_)
        obtain ⟨t9, et9⟩ : ∃ x : CS, x = sF t7 171 0 r8 := ⟨_, rfl⟩
        rw [← et9] at hH
        have hw := hw t9 et9
        refine lv_aload_n hx hb dX10_minutes_56 rfl (lv_at hl 0 rfl) ?_
        refine cg C hH 5 0 (by decide) (Nat.le_of_ble_eq_true rfl) rfl rfl ixX10 11 (by decide) rfl wd_247 rfl dX10_minutes_57 ?_
        refine lv_sipush (v := 600) hx hb dX10_minutes_60 (by decide) ?_
        refine lv_irem hx hb dX10_minutes_63 (by decide) ?_
        refine lv_if_ne (tgt := 71) hx hb dX10_minutes_64 (by decide) (fun c10 => ?_) (fun c10 => ?_)
        · have hw := ifn c10 hw
          exact b_C_minutes_71 C hr hk ih uc us t9 x1_ x2_ x3_ hw hu _ _ _ hH (lv_sub hl [0, 1, 2, 3] rfl)
        · have hw := ifp c10 hw
          refine lv_aload_n hx hb dX10_minutes_67 rfl (lv_at hl 0 rfl) ?_
          refine ccVv0 C hH (crecv C hH 5 0 (by decide) (Nat.le_of_ble_eq_true rfl) rfl rfl (q := (RX10, TX10, 13))) [] (c_C_beginDay l D Z E ad t9  _ hw) (cwTV 0 hts wd_948 wd_950 ws_35 wd_1 wd_951 rfl rfl (by decide +kernel) ⟨Nat.le_of_ble_eq_true rfl, Nat.le_of_ble_eq_true rfl⟩) rfl hl.1 rfl (Nat.le_of_ble_eq_true rfl) dX10_minutes_68 hu (fun  t11 H locs hw hH => ?_)
          exact b_C_minutes_71 C hr hk ih uc us t11 x1_ x2_ x3_ hw hu _ _ _ hH (lv_sub hl [0, 1, 2, 3] rfl)
def wp_C_minutes (mc ms : Nat) (t : CS) (a1 : Int32) (post : Int32 → CS → Prop) : Prop := wp_C_within t a1 (1 : Int32) (600 : Int32) (fun r13 t12 => if r13 = 0 then (post (-1 : Int32) t12) else (if ((tF t12 171 0) + a1) ≤ (99999 : Int32) then (∀ x16 : Int32, x16 = ((tF t12 171 0) + a1) → (∃ nn : Nat, wp_C_minutes_34 mc ms post nn 0 0 t12 a1 x16 (0 : Int32))) else (post (-1 : Int32) t12)))
set_option maxHeartbeats 4000000 in
set_option maxRecDepth 100000 in
theorem c_C_minutes (l : Launch) (D : va_G) (Z : Nat → ClassId) (E : Nat → Nat) (ad : Nat → Nat → Nat) (mc ms : Nat) (t : CS) (a1 : Int32) (post : Int32 → CS → Prop) (hw : wp_C_minutes mc ms t a1 post) (L : List Nat) (sz : Nat) : Met l yX10_minutes (Wd yX10_minutes cX10_minutes 4 (some .int)) (rm_C_minutes mc ms) (va_Pc [.ref (ad 5 0), .int a1] (cPre D Z E ad L sz t)) (va_Qi post (cPost D Z E ad (cAs L sz)) (cAs L sz)) mc ms (cAs L sz) := by
  refine cMet (Qc := fun A => va_Qi post (cPost D Z E ad A) A) (by decide) rfl _ (Nat.le_of_ble_eq_true rfl) (fun p e s m args below meth c A C hr hk ls hl hH => ?_) L sz
  obtain ⟨⟨hx, hb, hml, hown, hts⟩, hK⟩ := id C
  have hl : lv_has ls 4 [(0, .ref (ad 5 0)), (1, .int a1)] := hl
  have hu : 0 ≤ mc ∧ 0 ≤ ms := ⟨Nat.zero_le _, Nat.zero_le _⟩
  unfold wp_C_minutes at hw
  refine lv_iload_n hx hb dX10_minutes_0 rfl (lv_at hl 1 rfl) ?_
  refine lv_iconst (v := 1) hx hb dX10_minutes_1 (by decide) ?_
  refine lv_sipush (v := 600) hx hb dX10_minutes_2 (by decide) ?_
  refine ccSi0 C hH [.int a1, .int (1 : Int32), .int (600 : Int32)] (c_C_within l D Z E ad t a1 (1 : Int32) (600 : Int32) _ hw) (cwTS 3 hts wd_280 wd_281 wd_1 wd_282 rfl rfl (by decide +kernel) ⟨Nat.le_of_ble_eq_true rfl, Nat.le_of_ble_eq_true rfl⟩) rfl hl.1 rfl (Nat.le_of_ble_eq_true rfl) dX10_minutes_5 hu (fun r13 t12 H locs hw hH => ?_)
  refine lv_if_eq (tgt := 23) hx hb dX10_minutes_8 (by decide) (fun c14 => ?_) (fun c14 => ?_)
  · have hw := ifp c14 hw
    refine lv_iconst (v := -1) hx hb dX10_minutes_23 (by decide) ?_
    exact cri C hr hk hH hu.1 hu.2 hw dX10_minutes_24
  · have hw := ifn c14 hw
    refine lv_aload_n hx hb dX10_minutes_11 rfl (lv_at hl 0 rfl) ?_
    refine cg C hH 5 0 (by decide) (Nat.le_of_ble_eq_true rfl) rfl rfl ixX10 11 (by decide) rfl wd_247 rfl dX10_minutes_12 ?_
    refine lv_iload_n hx hb dX10_minutes_15 rfl (lv_at hl 1 rfl) ?_
    refine lv_iadd hx hb dX10_minutes_16 ?_
    refine lv_ldcw (own := RX10) (index := 304) (v := 99999) hx hb hown (hts _ wd_943) dX10_minutes_17 ?_
    refine lv_icmp_le (tgt := 25) hx hb dX10_minutes_20 (by decide) (fun c15 => ?_) (fun c15 => ?_)
    · have hw := ifp c15 hw
      refine lv_aload_n hx hb dX10_minutes_25 rfl (lv_at hl 0 rfl) ?_
      refine cg C hH 5 0 (by decide) (Nat.le_of_ble_eq_true rfl) rfl rfl ixX10 11 (by decide) rfl wd_247 rfl dX10_minutes_26 ?_
      refine lv_iload_n hx hb dX10_minutes_29 rfl (lv_at hl 1 rfl) ?_
      refine lv_iadd hx hb dX10_minutes_30 ?_
      refine lv_topi (fun x16 ex16 => ?_)
      have hw := hw x16 ex16
      refine lv_istore_n (lv' := [(2, .int x16), (0, .ref (ad 5 0)), (1, .int a1)]) hx hb dX10_minutes_31 rfl hl (by decide) rfl (fun ls hl => ?_)
      refine lv_iconst (v := 0) hx hb dX10_minutes_32 (by decide) ?_
      refine lv_istore_n (lv' := [(3, .int (0 : Int32)), (2, .int x16), (0, .ref (ad 5 0)), (1, .int a1)]) hx hb dX10_minutes_33 rfl hl (by decide) rfl (fun ls hl => ?_)
      obtain ⟨nn, hw⟩ := hw
      exact b_C_minutes_34 C hr hk  nn 0 0 t12 a1 x16 (0 : Int32) hw hu _ _ _ hH (lv_sub hl [2, 3, 1, 0] rfl)
    · have hw := ifn c15 hw
      refine lv_iconst (v := -1) hx hb dX10_minutes_23 (by decide) ?_
      exact cri C hr hk hH hu.1 hu.2 hw dX10_minutes_24
/-! PorterTurns.judged -/
abbrev rm_C_judged : Room := { frames := 4, cells := 0, slots := 0, locals := 107 }
def wp_C_judged (t : CS) (a1 : Int32) (a2 : Int32) (a3 : Int32) (a4 : Int32) (post : Int32 → CS → Prop) : Prop := wp_C_loadAt t a1 (fun o2 t1 => oM o2 (post (-1 : Int32) t1) (fun j3 => wp_C_fellowshipAt t1 a2 (fun o5 t4 => oM o5 (post (-1 : Int32) t4) (fun j6 => wp_C_fellowshipAt t4 a3 (fun o8 t7 => oM o8 (post (-1 : Int32) t7) (fun j9 => if a2 = a3 then (post (-1 : Int32) t7) else (wp_C_isDay t7 a4 (fun r12 t11 => if r12 = 0 then (post (-1 : Int32) t11) else (j3 < tN t11 2 ∧ (∀ x15 : Int32, x15 = ((tF t11 73 j3) / (600 : Int32)) → (wp_C_lawKnown t11 a2 (0 : Int32) x15 a4 (fun o17 t16 => wp_C_lawKnown t16 a3 (0 : Int32) x15 a4 (fun o19 t18 => oM o17 (post (-2 : Int32) t18) (fun j20 => oM o19 (post (-2 : Int32) t18) (fun j21 => j3 < tN t18 2 ∧ (wp_Sky_rainsAt t18 (tF t18 73 j3) (fun r24 t23 => wp_Reck_lookAtMinute t23 (tF t18 73 j3) r24 (fun  t25 => wp_Reck_lookAtLoad t25 j3 (0 : Int32) (fun  t26 => j20 < tN t26 1 ∧ (wp_Reck_reckon t26 (j20 + 8) (fun r29 t28 => j21 < tN t28 1 ∧ (wp_Reck_reckon t28 (j21 + 8) (fun r32 t31 => if r29 = 0 then (post (-2 : Int32) t31) else (if r32 = 0 then (post (-2 : Int32) t31) else (if r29 = r32 then (j20 < tN t31 1 ∧ (j21 < tN t31 1 ∧ (if (nI j21) ≤ (nI j20) then (post a3 t31) else (post a2 t31)))) else (if r29 ≤ r32 then (post a3 t31) else (post a2 t31)))))))))))))))))))))))))))
set_option maxHeartbeats 4000000 in
set_option maxRecDepth 100000 in
theorem c_C_judged (l : Launch) (D : va_G) (Z : Nat → ClassId) (E : Nat → Nat) (ad : Nat → Nat → Nat) (t : CS) (a1 : Int32) (a2 : Int32) (a3 : Int32) (a4 : Int32) (post : Int32 → CS → Prop) (hw : wp_C_judged t a1 a2 a3 a4 post) (L : List Nat) (sz : Nat) : Met l yX10_judged (Wd yX10_judged cX10_judged 11 (some .int)) rm_C_judged (va_Pc [.ref (ad 5 0), .int a1, .int a2, .int a3, .int a4] (cPre D Z E ad L sz t)) (va_Qi post (cPost D Z E ad (cAs L sz)) (cAs L sz)) 0 0 (cAs L sz) := by
  refine cMet (Qc := fun A => va_Qi post (cPost D Z E ad A) A) (by decide) rfl _ (Nat.le_of_ble_eq_true rfl) (fun p e s m args below meth c A C hr hk ls hl hH => ?_) L sz
  obtain ⟨⟨hx, hb, hml, hown, hts⟩, hK⟩ := id C
  have hl : lv_has ls 11 [(0, .ref (ad 5 0)), (1, .int a1), (2, .int a2), (3, .int a3), (4, .int a4)] := hl
  unfold wp_C_judged at hw
  refine lv_aload_n hx hb dX10_judged_0 rfl (lv_at hl 0 rfl) ?_
  refine lv_iload_n hx hb dX10_judged_1 rfl (lv_at hl 1 rfl) ?_
  refine ccVq0 C hH (crecv C hH 5 0 (by decide) (Nat.le_of_ble_eq_true rfl) rfl rfl (q := (RX10, TX10, 13))) [.int a1] (c_C_loadAt l D Z E ad t a1 _ hw) (cwTV 1 hts wd_698 wd_700 ws_22 wd_1 wd_701 rfl rfl (by decide +kernel) ⟨Nat.le_of_ble_eq_true rfl, Nat.le_of_ble_eq_true rfl⟩) rfl hl.1 rfl (Nat.le_of_ble_eq_true rfl) dX10_judged_2 ⟨Nat.zero_le _, Nat.zero_le _⟩ (fun o2 t1 H locs hw hH => ?_)
  refine lq_astore (lv' := [(5, va_rf (o2.map (ad 2))), (0, .ref (ad 5 0)), (1, .int a1), (2, .int a2), (3, .int a3), (4, .int a4)]) hx hb dX10_judged_5 hl (by decide) rfl (fun ls hl => ?_)
  refine lq_aload hx hb dX10_judged_7 (lv_at hl 0 rfl) ?_
  cases o2 with
  | none =>
    have hw := oM_none hw
    have hl : lv_has ls 11 [(5, va_rf (none.map (ad 2))), (0, .ref (ad 5 0)), (1, .int a1), (2, .int a2), (3, .int a3), (4, .int a4)] := hl
    refine lv_ifnullN (tgt := 41) hx hb dX10_judged_9 (by decide) ?_
    refine lv_iconst (v := -1) hx hb dX10_judged_41 (by decide) ?_
    exact cri C hr hk hH (Nat.zero_le _) (Nat.zero_le _) hw dX10_judged_42
  | some j3 =>
    have hw := oM_some hw
    have hl : lv_has ls 11 [(5, .ref (ad 2 j3)), (0, .ref (ad 5 0)), (1, .int a1), (2, .int a2), (3, .int a3), (4, .int a4)] := hl
    refine lv_ifnull hx hb dX10_judged_9 ?_
    refine lv_aload_n hx hb dX10_judged_12 rfl (lv_at hl 1 rfl) ?_
    refine lv_iload_n hx hb dX10_judged_13 rfl (lv_at hl 3 rfl) ?_
    refine ccVq0 C hH (crecv C hH 5 0 (by decide) (Nat.le_of_ble_eq_true rfl) rfl rfl (q := (RX10, TX10, 13))) [.int a2] (c_C_fellowshipAt l D Z E ad t1 a2 _ hw) (cwTV 1 hts wd_370 wd_372 ws_5 wd_1 wd_373 rfl rfl (by decide +kernel) ⟨Nat.le_of_ble_eq_true rfl, Nat.le_of_ble_eq_true rfl⟩) rfl hl.1 rfl (Nat.le_of_ble_eq_true rfl) dX10_judged_14 ⟨Nat.zero_le _, Nat.zero_le _⟩ (fun o5 t4 H locs hw hH => ?_)
    cases o5 with
    | none =>
      have hw := oM_none hw
      have hl : lv_has ls 11 [(5, .ref (ad 2 j3)), (0, .ref (ad 5 0)), (1, .int a1), (2, .int a2), (3, .int a3), (4, .int a4)] := hl
      refine lv_ifnullN (tgt := 41) hx hb dX10_judged_17 (by decide) ?_
      refine lv_iconst (v := -1) hx hb dX10_judged_41 (by decide) ?_
      exact cri C hr hk hH (Nat.zero_le _) (Nat.zero_le _) hw dX10_judged_42
    | some j6 =>
      have hw := oM_some hw
      have hl : lv_has ls 11 [(5, .ref (ad 2 j3)), (0, .ref (ad 5 0)), (1, .int a1), (2, .int a2), (3, .int a3), (4, .int a4)] := hl
      refine lv_ifnull hx hb dX10_judged_17 ?_
      refine lv_aload_n hx hb dX10_judged_20 rfl (lv_at hl 1 rfl) ?_
      refine lv_iload_n hx hb dX10_judged_21 rfl (lv_at hl 4 rfl) ?_
      refine ccVq0 C hH (crecv C hH 5 0 (by decide) (Nat.le_of_ble_eq_true rfl) rfl rfl (q := (RX10, TX10, 13))) [.int a3] (c_C_fellowshipAt l D Z E ad t4 a3 _ hw) (cwTV 1 hts wd_370 wd_372 ws_5 wd_1 wd_373 rfl rfl (by decide +kernel) ⟨Nat.le_of_ble_eq_true rfl, Nat.le_of_ble_eq_true rfl⟩) rfl hl.1 rfl (Nat.le_of_ble_eq_true rfl) dX10_judged_22 ⟨Nat.zero_le _, Nat.zero_le _⟩ (fun o8 t7 H locs hw hH => ?_)
      cases o8 with
      | none =>
        have hw := oM_none hw
        have hl : lv_has ls 11 [(5, .ref (ad 2 j3)), (0, .ref (ad 5 0)), (1, .int a1), (2, .int a2), (3, .int a3), (4, .int a4)] := hl
        refine lv_ifnullN (tgt := 41) hx hb dX10_judged_25 (by decide) ?_
        refine lv_iconst (v := -1) hx hb dX10_judged_41 (by decide) ?_
        exact cri C hr hk hH (Nat.zero_le _) (Nat.zero_le _) hw dX10_judged_42
      | some j9 =>
        have hw := oM_some hw
        have hl : lv_has ls 11 [(5, .ref (ad 2 j3)), (0, .ref (ad 5 0)), (1, .int a1), (2, .int a2), (3, .int a3), (4, .int a4)] := hl
        refine lv_ifnull hx hb dX10_judged_25 ?_
        refine lv_iload_n hx hb dX10_judged_28 rfl (lv_at hl 3 rfl) ?_
        refine lv_iload_n hx hb dX10_judged_29 rfl (lv_at hl 4 rfl) ?_
        refine lv_icmp_eq (tgt := 41) hx hb dX10_judged_30 (by decide) (fun c10 => ?_) (fun c10 => ?_)
        · have hw := ifp c10 hw
          refine lv_iconst (v := -1) hx hb dX10_judged_41 (by decide) ?_
          exact cri C hr hk hH (Nat.zero_le _) (Nat.zero_le _) hw dX10_judged_42
        · have hw := ifn c10 hw
          refine lv_iload hx hb dX10_judged_33 (lv_at hl 5 rfl) ?_
          refine ccSi0 C hH [.int a4] (c_C_isDay l D Z E ad t7 a4 _ hw) (cwTS 1 hts wd_502 wd_503 wd_1 wd_504 rfl rfl (by decide +kernel) ⟨Nat.le_of_ble_eq_true rfl, Nat.le_of_ble_eq_true rfl⟩) rfl hl.1 rfl (Nat.le_of_ble_eq_true rfl) dX10_judged_35 ⟨Nat.zero_le _, Nat.zero_le _⟩ (fun r12 t11 H locs hw hH => ?_)
          refine lv_if_ne (tgt := 43) hx hb dX10_judged_38 (by decide) (fun c13 => ?_) (fun c13 => ?_)
          · have hw := ifn c13 hw
            refine lv_aload hx hb dX10_judged_43 (lv_at hl 0 rfl) ?_
            obtain ⟨h14, hw⟩ := hw
            refine cg C hH 2 j3 (by decide) h14 rfl rfl ixX2 9 (by decide) rfl wd_802 rfl dX10_judged_45 ?_
            refine lv_sipush (v := 600) hx hb dX10_judged_48 (by decide) ?_
            refine lv_idiv hx hb dX10_judged_51 (by decide) ?_
            refine lv_topi (fun x15 ex15 => ?_)
            have hw := hw x15 ex15
            refine lv_istore (lv' := [(6, .int x15), (5, .ref (ad 2 j3)), (0, .ref (ad 5 0)), (1, .int a1), (2, .int a2), (3, .int a3), (4, .int a4)]) hx hb dX10_judged_52 hl (by decide) rfl (fun ls hl => ?_)
            refine lv_aload_n hx hb dX10_judged_54 rfl (lv_at hl 2 rfl) ?_
            refine lv_iload_n hx hb dX10_judged_55 rfl (lv_at hl 4 rfl) ?_
            refine lv_iconst (v := 0) hx hb dX10_judged_56 (by decide) ?_
            refine lv_iload hx hb dX10_judged_57 (lv_at hl 0 rfl) ?_
            refine lv_iload hx hb dX10_judged_59 (lv_at hl 6 rfl) ?_
            refine ccVq0 C hH (crecv C hH 5 0 (by decide) (Nat.le_of_ble_eq_true rfl) rfl rfl (q := (RX10, TX10, 13))) [.int a2, .int (0 : Int32), .int x15, .int a4] (c_C_lawKnown l D Z E ad t11 a2 (0 : Int32) x15 a4 _ hw) (cwTV 4 hts wd_690 wd_692 ws_21 wd_1 wd_693 rfl rfl (by decide +kernel) ⟨Nat.le_of_ble_eq_true rfl, Nat.le_of_ble_eq_true rfl⟩) rfl hl.1 rfl (Nat.le_of_ble_eq_true rfl) dX10_judged_61 ⟨Nat.zero_le _, Nat.zero_le _⟩ (fun o17 t16 H locs hw hH => ?_)
            refine lq_astore (lv' := [(7, va_rf (o17.map (ad 1))), (6, .int x15), (5, .ref (ad 2 j3)), (0, .ref (ad 5 0)), (1, .int a1), (2, .int a2), (3, .int a3), (4, .int a4)]) hx hb dX10_judged_64 hl (by decide) rfl (fun ls hl => ?_)
            refine lv_aload_n hx hb dX10_judged_66 rfl (lv_at hl 3 rfl) ?_
            refine lv_iload_n hx hb dX10_judged_67 rfl (lv_at hl 6 rfl) ?_
            refine lv_iconst (v := 0) hx hb dX10_judged_68 (by decide) ?_
            refine lv_iload hx hb dX10_judged_69 (lv_at hl 1 rfl) ?_
            refine lv_iload hx hb dX10_judged_71 (lv_at hl 7 rfl) ?_
            refine ccVq0 C hH (crecv C hH 5 0 (by decide) (Nat.le_of_ble_eq_true rfl) rfl rfl (q := (RX10, TX10, 13))) [.int a3, .int (0 : Int32), .int x15, .int a4] (c_C_lawKnown l D Z E ad t16 a3 (0 : Int32) x15 a4 _ hw) (cwTV 4 hts wd_690 wd_692 ws_21 wd_1 wd_693 rfl rfl (by decide +kernel) ⟨Nat.le_of_ble_eq_true rfl, Nat.le_of_ble_eq_true rfl⟩) rfl hl.1 rfl (Nat.le_of_ble_eq_true rfl) dX10_judged_73 ⟨Nat.zero_le _, Nat.zero_le _⟩ (fun o19 t18 H locs hw hH => ?_)
            refine lq_astore (i := 8) (lv' := [(8, va_rf (o19.map (ad 1))), (7, va_rf (o17.map (ad 1))), (6, .int x15), (5, .ref (ad 2 j3)), (0, .ref (ad 5 0)), (1, .int a1), (2, .int a2), (3, .int a3), (4, .int a4)]) hx hb dX10_judged_76 hl (by decide) (by simp [lq_cat]) (fun ls hl => ?_)
            refine lq_aload hx hb dX10_judged_78 (lv_at hl 1 rfl) ?_
            cases o17 with
            | none =>
              have hw := oM_none hw
              have hl : lv_has ls 11 [(8, va_rf (o19.map (ad 1))), (7, va_rf (none.map (ad 1))), (6, .int x15), (5, .ref (ad 2 j3)), (0, .ref (ad 5 0)), (1, .int a1), (2, .int a2), (3, .int a3), (4, .int a4)] := hl
              refine lv_ifnullN (tgt := 88) hx hb dX10_judged_80 (by decide) ?_
              refine lv_bipush (v := -2) hx hb dX10_judged_88 (by decide) ?_
              exact cri C hr hk hH (Nat.zero_le _) (Nat.zero_le _) hw dX10_judged_90
            | some j20 =>
              have hw := oM_some hw
              have hl : lv_has ls 11 [(8, va_rf (o19.map (ad 1))), (7, .ref (ad 1 j20)), (6, .int x15), (5, .ref (ad 2 j3)), (0, .ref (ad 5 0)), (1, .int a1), (2, .int a2), (3, .int a3), (4, .int a4)] := hl
              refine lv_ifnull hx hb dX10_judged_80 ?_
              refine lq_aload hx hb dX10_judged_83 (lv_at hl 0 rfl) ?_
              cases o19 with
              | none =>
                have hw := oM_none hw
                have hl : lv_has ls 11 [(8, va_rf (none.map (ad 1))), (7, .ref (ad 1 j20)), (6, .int x15), (5, .ref (ad 2 j3)), (0, .ref (ad 5 0)), (1, .int a1), (2, .int a2), (3, .int a3), (4, .int a4)] := hl
                refine lv_ifnonnullN hx hb dX10_judged_85 ?_
                refine lv_bipush (v := -2) hx hb dX10_judged_88 (by decide) ?_
                exact cri C hr hk hH (Nat.zero_le _) (Nat.zero_le _) hw dX10_judged_90
              | some j21 =>
                have hw := oM_some hw
                have hl : lv_has ls 11 [(8, .ref (ad 1 j21)), (7, .ref (ad 1 j20)), (6, .int x15), (5, .ref (ad 2 j3)), (0, .ref (ad 5 0)), (1, .int a1), (2, .int a2), (3, .int a3), (4, .int a4)] := hl
                refine lv_ifnonnull (tgt := 91) hx hb dX10_judged_85 (by decide) ?_
                refine lv_aload_n hx hb dX10_judged_91 rfl (lv_at hl 4 rfl) ?_
                refine cg C hH 5 0 (by decide) (Nat.le_of_ble_eq_true rfl) rfl rfl ixX10 8 (by decide) rfl wd_244 rfl dX10_judged_92 ?_
                refine lv_aload hx hb dX10_judged_95 (lv_at hl 3 rfl) ?_
                obtain ⟨h22, hw⟩ := hw
                refine cg C hH 2 j3 (by decide) h22 rfl rfl ixX2 9 (by decide) rfl wd_802 rfl dX10_judged_97 ?_
                refine lv_aload_n hx hb dX10_judged_100 rfl (lv_at hl 4 rfl) ?_
                refine cg C hH 5 0 (by decide) (Nat.le_of_ble_eq_true rfl) rfl rfl ixX10 5 (by decide) rfl wd_241 rfl dX10_judged_101 ?_
                refine lv_aload hx hb dX10_judged_104 (lv_at hl 3 rfl) ?_
                refine cg C hH 2 j3 (by decide) h22 rfl rfl ixX2 9 (by decide) rfl wd_802 rfl dX10_judged_106 ?_
                refine ccVi0 C hH (crecv C hH 5 1 (by decide) (Nat.le_of_ble_eq_true rfl) rfl rfl (q := (RX7, TX7, 3))) [.int (tF t18 73 j3)] (c_Sky_rainsAt l D Z E ad t18 (tF t18 73 j3) _ hw) (cwTV 1 hts wd_362 wd_363 wd_364 wd_10 wd_365 rfl rfl (by decide +kernel) ⟨Nat.le_of_ble_eq_true rfl, Nat.le_of_ble_eq_true rfl⟩) rfl hl.1 rfl (Nat.le_of_ble_eq_true rfl) dX10_judged_109 ⟨Nat.zero_le _, Nat.zero_le _⟩ (fun r24 t23 H locs hw hH => ?_)
                refine ccVv0 C hH (crecv C hH 5 4 (by decide) (Nat.le_of_ble_eq_true rfl) rfl rfl (q := (RX6, TX6, 3))) [.int (tF t18 73 j3), .int r24] (c_Reck_lookAtMinute l D Z E ad t23 (tF t18 73 j3) r24 _ hw) (cwTV 2 hts wd_711 wd_712 wd_713 wd_13 wd_714 rfl rfl (by decide +kernel) ⟨Nat.le_of_ble_eq_true rfl, Nat.le_of_ble_eq_true rfl⟩) rfl hl.1 rfl (Nat.le_of_ble_eq_true rfl) dX10_judged_112 ⟨Nat.zero_le _, Nat.zero_le _⟩ (fun  t25 H locs hw hH => ?_)
                refine lv_aload_n hx hb dX10_judged_115 rfl (lv_at hl 4 rfl) ?_
                refine cg C hH 5 0 (by decide) (Nat.le_of_ble_eq_true rfl) rfl rfl ixX10 8 (by decide) rfl wd_244 rfl dX10_judged_116 ?_
                refine lv_aload hx hb dX10_judged_119 (lv_at hl 3 rfl) ?_
                refine lv_iconst (v := 0) hx hb dX10_judged_121 (by decide) ?_
                refine ccVv0 C hH (crecv C hH 5 4 (by decide) (Nat.le_of_ble_eq_true rfl) rfl rfl (q := (RX6, TX6, 3))) [.ref (ad 2 j3), .int (0 : Int32)] (c_Reck_lookAtLoad l D Z E ad t25 j3 (0 : Int32) _ hw) (cwTV 2 hts wd_731 wd_732 wd_733 wd_13 wd_734 rfl rfl (by decide +kernel) ⟨Nat.le_of_ble_eq_true rfl, Nat.le_of_ble_eq_true rfl⟩) rfl hl.1 rfl (Nat.le_of_ble_eq_true rfl) dX10_judged_122 ⟨Nat.zero_le _, Nat.zero_le _⟩ (fun  t26 H locs hw hH => ?_)
                refine lv_aload_n hx hb dX10_judged_125 rfl (lv_at hl 4 rfl) ?_
                refine cg C hH 5 0 (by decide) (Nat.le_of_ble_eq_true rfl) rfl rfl ixX10 8 (by decide) rfl wd_244 rfl dX10_judged_126 ?_
                refine lv_aload hx hb dX10_judged_129 (lv_at hl 1 rfl) ?_
                obtain ⟨h27, hw⟩ := hw
                refine cg C hH 1 j20 (by decide) h27 rfl rfl ixX1 5 (by decide) rfl wd_671 rfl dX10_judged_131 ?_
                refine ccVi0 C hH (crecv C hH 5 4 (by decide) (Nat.le_of_ble_eq_true rfl) rfl rfl (q := (RX6, TX6, 3))) [.ref (ad 7 (j20 + 8))] (c_Reck_reckon l D Z E ad t26 (j20 + 8) _ hw) (cwTV 1 hts wd_739 wd_740 wd_741 wd_13 wd_742 rfl rfl (by decide +kernel) ⟨Nat.le_of_ble_eq_true rfl, Nat.le_of_ble_eq_true rfl⟩) rfl hl.1 rfl (Nat.le_of_ble_eq_true rfl) dX10_judged_134 ⟨Nat.zero_le _, Nat.zero_le _⟩ (fun r29 t28 H locs hw hH => ?_)
                refine lv_istore (lv' := [(9, .int r29), (8, .ref (ad 1 j21)), (7, .ref (ad 1 j20)), (6, .int x15), (5, .ref (ad 2 j3)), (0, .ref (ad 5 0)), (1, .int a1), (2, .int a2), (3, .int a3), (4, .int a4)]) hx hb dX10_judged_137 hl (by decide) rfl (fun ls hl => ?_)
                refine lv_aload_n hx hb dX10_judged_139 rfl (lv_at hl 5 rfl) ?_
                refine cg C hH 5 0 (by decide) (Nat.le_of_ble_eq_true rfl) rfl rfl ixX10 8 (by decide) rfl wd_244 rfl dX10_judged_140 ?_
                refine lv_aload hx hb dX10_judged_143 (lv_at hl 1 rfl) ?_
                obtain ⟨h30, hw⟩ := hw
                refine cg C hH 1 j21 (by decide) h30 rfl rfl ixX1 5 (by decide) rfl wd_671 rfl dX10_judged_145 ?_
                refine ccVi0 C hH (crecv C hH 5 4 (by decide) (Nat.le_of_ble_eq_true rfl) rfl rfl (q := (RX6, TX6, 3))) [.ref (ad 7 (j21 + 8))] (c_Reck_reckon l D Z E ad t28 (j21 + 8) _ hw) (cwTV 1 hts wd_739 wd_740 wd_741 wd_13 wd_742 rfl rfl (by decide +kernel) ⟨Nat.le_of_ble_eq_true rfl, Nat.le_of_ble_eq_true rfl⟩) rfl hl.1 rfl (Nat.le_of_ble_eq_true rfl) dX10_judged_148 ⟨Nat.zero_le _, Nat.zero_le _⟩ (fun r32 t31 H locs hw hH => ?_)
                refine lv_istore (lv' := [(10, .int r32), (9, .int r29), (8, .ref (ad 1 j21)), (7, .ref (ad 1 j20)), (6, .int x15), (5, .ref (ad 2 j3)), (0, .ref (ad 5 0)), (1, .int a1), (2, .int a2), (3, .int a3), (4, .int a4)]) hx hb dX10_judged_151 hl (by decide) rfl (fun ls hl => ?_)
                refine lv_iload hx hb dX10_judged_153 (lv_at hl 1 rfl) ?_
                refine lv_if_eq (tgt := 163) hx hb dX10_judged_155 (by decide) (fun c33 => ?_) (fun c33 => ?_)
                · have hw := ifp c33 hw
                  refine lv_bipush (v := -2) hx hb dX10_judged_163 (by decide) ?_
                  exact cri C hr hk hH (Nat.zero_le _) (Nat.zero_le _) hw dX10_judged_165
                · have hw := ifn c33 hw
                  refine lv_iload hx hb dX10_judged_158 (lv_at hl 0 rfl) ?_
                  refine lv_if_ne (tgt := 166) hx hb dX10_judged_160 (by decide) (fun c34 => ?_) (fun c34 => ?_)
                  · have hw := ifn c34 hw
                    refine lv_iload hx hb dX10_judged_166 (lv_at hl 1 rfl) ?_
                    refine lv_iload hx hb dX10_judged_168 (lv_at hl 0 rfl) ?_
                    refine lv_icmp_eq (tgt := 186) hx hb dX10_judged_170 (by decide) (fun c35 => ?_) (fun c35 => ?_)
                    · have hw := ifp c35 hw
                      refine lv_aload hx hb dX10_judged_186 (lv_at hl 3 rfl) ?_
                      obtain ⟨h36, hw⟩ := hw
                      refine cg C hH 1 j20 (by decide) h36 rfl rfl ixX1 0 (by decide) rfl wd_661 rfl dX10_judged_188 ?_
                      refine lv_aload hx hb dX10_judged_191 (lv_at hl 2 rfl) ?_
                      obtain ⟨h37, hw⟩ := hw
                      refine cg C hH 1 j21 (by decide) h37 rfl rfl ixX1 0 (by decide) rfl wd_661 rfl dX10_judged_193 ?_
                      refine lv_icmp_ge (tgt := 203) hx hb dX10_judged_196 (by decide) (fun c38 => ?_) (fun c38 => ?_)
                      · have hw := ifp c38 hw
                        refine lv_iload_n hx hb dX10_judged_203 rfl (lv_at hl 9 rfl) ?_
                        exact cri C hr hk hH (Nat.zero_le _) (Nat.zero_le _) hw dX10_judged_204
                      · have hw := ifn c38 hw
                        refine lv_iload_n hx hb dX10_judged_199 rfl (lv_at hl 8 rfl) ?_
                        refine lv_goto (tgt := 204) hx hb dX10_judged_200 (by decide) ?_
                        exact cri C hr hk hH (Nat.zero_le _) (Nat.zero_le _) hw dX10_judged_204
                    · have hw := ifn c35 hw
                      refine lv_iload hx hb dX10_judged_173 (lv_at hl 1 rfl) ?_
                      refine lv_iload hx hb dX10_judged_175 (lv_at hl 0 rfl) ?_
                      refine lv_icmp_le (tgt := 184) hx hb dX10_judged_177 (by decide) (fun c39 => ?_) (fun c39 => ?_)
                      · have hw := ifp c39 hw
                        refine lv_iload_n hx hb dX10_judged_184 rfl (lv_at hl 9 rfl) ?_
                        exact cri C hr hk hH (Nat.zero_le _) (Nat.zero_le _) hw dX10_judged_185
                      · have hw := ifn c39 hw
                        refine lv_iload_n hx hb dX10_judged_180 rfl (lv_at hl 8 rfl) ?_
                        refine lv_goto (tgt := 185) hx hb dX10_judged_181 (by decide) ?_
                        exact cri C hr hk hH (Nat.zero_le _) (Nat.zero_le _) hw dX10_judged_185
                  · have hw := ifp c34 hw
                    refine lv_bipush (v := -2) hx hb dX10_judged_163 (by decide) ?_
                    exact cri C hr hk hH (Nat.zero_le _) (Nat.zero_le _) hw dX10_judged_165
          · have hw := ifp c13 hw
            refine lv_iconst (v := -1) hx hb dX10_judged_41 (by decide) ?_
            exact cri C hr hk hH (Nat.zero_le _) (Nat.zero_le _) hw dX10_judged_42
/-! PorterTurns.rates -/
abbrev rm_C_rates : Room := { frames := 4, cells := 0, slots := 0, locals := 102 }
def wp_C_rates (t : CS) (a1 : Int32) (a2 : Int32) (a3 : Int32) (post : Int32 → CS → Prop) : Prop := wp_C_fellowshipAt t a1 (fun o2 t1 => oM o2 (post (-1 : Int32) t1) (fun j3 => wp_C_within t1 a2 (0 : Int32) (99 : Int32) (fun r5 t4 => if r5 = 0 then (post (-1 : Int32) t4) else (wp_C_within t4 a3 (0 : Int32) (99 : Int32) (fun r8 t7 => if r8 = 0 then (post (-1 : Int32) t7) else (j3 < tN t7 0 ∧ (∀ t11 : CS, t11 = sF t7 8 j3 a2 → (j3 < tN t11 0 ∧ (∀ t13 : CS, t13 = sF t11 9 j3 a3 → (post (1 : Int32) t13))))))))))
set_option maxHeartbeats 4000000 in
set_option maxRecDepth 100000 in
theorem c_C_rates (l : Launch) (D : va_G) (Z : Nat → ClassId) (E : Nat → Nat) (ad : Nat → Nat → Nat) (t : CS) (a1 : Int32) (a2 : Int32) (a3 : Int32) (post : Int32 → CS → Prop) (hw : wp_C_rates t a1 a2 a3 post) (L : List Nat) (sz : Nat) : Met l yX10_rates (Wd yX10_rates cX10_rates 5 (some .int)) rm_C_rates (va_Pc [.ref (ad 5 0), .int a1, .int a2, .int a3] (cPre D Z E ad L sz t)) (va_Qi post (cPost D Z E ad (cAs L sz)) (cAs L sz)) 0 0 (cAs L sz) := by
  refine cMet (Qc := fun A => va_Qi post (cPost D Z E ad A) A) (by decide) rfl _ (Nat.le_of_ble_eq_true rfl) (fun p e s m args below meth c A C hr hk ls hl hH => ?_) L sz
  obtain ⟨⟨hx, hb, hml, hown, hts⟩, hK⟩ := id C
  have hl : lv_has ls 5 [(0, .ref (ad 5 0)), (1, .int a1), (2, .int a2), (3, .int a3)] := hl
  unfold wp_C_rates at hw
  refine lv_aload_n hx hb dX10_rates_0 rfl (lv_at hl 0 rfl) ?_
  refine lv_iload_n hx hb dX10_rates_1 rfl (lv_at hl 1 rfl) ?_
  refine ccVq0 C hH (crecv C hH 5 0 (by decide) (Nat.le_of_ble_eq_true rfl) rfl rfl (q := (RX10, TX10, 13))) [.int a1] (c_C_fellowshipAt l D Z E ad t a1 _ hw) (cwTV 1 hts wd_370 wd_372 ws_5 wd_1 wd_373 rfl rfl (by decide +kernel) ⟨Nat.le_of_ble_eq_true rfl, Nat.le_of_ble_eq_true rfl⟩) rfl hl.1 rfl (Nat.le_of_ble_eq_true rfl) dX10_rates_2 ⟨Nat.zero_le _, Nat.zero_le _⟩ (fun o2 t1 H locs hw hH => ?_)
  refine lq_astore (lv' := [(4, va_rf (o2.map (ad 0))), (0, .ref (ad 5 0)), (1, .int a1), (2, .int a2), (3, .int a3)]) hx hb dX10_rates_5 hl (by decide) rfl (fun ls hl => ?_)
  refine lq_aload hx hb dX10_rates_7 (lv_at hl 0 rfl) ?_
  cases o2 with
  | none =>
    have hw := oM_none hw
    have hl : lv_has ls 5 [(4, va_rf (none.map (ad 0))), (0, .ref (ad 5 0)), (1, .int a1), (2, .int a2), (3, .int a3)] := hl
    refine lv_ifnullN (tgt := 32) hx hb dX10_rates_9 (by decide) ?_
    refine lv_iconst (v := -1) hx hb dX10_rates_32 (by decide) ?_
    exact cri C hr hk hH (Nat.zero_le _) (Nat.zero_le _) hw dX10_rates_33
  | some j3 =>
    have hw := oM_some hw
    have hl : lv_has ls 5 [(4, .ref (ad 0 j3)), (0, .ref (ad 5 0)), (1, .int a1), (2, .int a2), (3, .int a3)] := hl
    refine lv_ifnull hx hb dX10_rates_9 ?_
    refine lv_iload_n hx hb dX10_rates_12 rfl (lv_at hl 3 rfl) ?_
    refine lv_iconst (v := 0) hx hb dX10_rates_13 (by decide) ?_
    refine lv_bipush (v := 99) hx hb dX10_rates_14 (by decide) ?_
    refine ccSi0 C hH [.int a2, .int (0 : Int32), .int (99 : Int32)] (c_C_within l D Z E ad t1 a2 (0 : Int32) (99 : Int32) _ hw) (cwTS 3 hts wd_280 wd_281 wd_1 wd_282 rfl rfl (by decide +kernel) ⟨Nat.le_of_ble_eq_true rfl, Nat.le_of_ble_eq_true rfl⟩) rfl hl.1 rfl (Nat.le_of_ble_eq_true rfl) dX10_rates_16 ⟨Nat.zero_le _, Nat.zero_le _⟩ (fun r5 t4 H locs hw hH => ?_)
    refine lv_if_eq (tgt := 32) hx hb dX10_rates_19 (by decide) (fun c6 => ?_) (fun c6 => ?_)
    · have hw := ifp c6 hw
      refine lv_iconst (v := -1) hx hb dX10_rates_32 (by decide) ?_
      exact cri C hr hk hH (Nat.zero_le _) (Nat.zero_le _) hw dX10_rates_33
    · have hw := ifn c6 hw
      refine lv_iload_n hx hb dX10_rates_22 rfl (lv_at hl 4 rfl) ?_
      refine lv_iconst (v := 0) hx hb dX10_rates_23 (by decide) ?_
      refine lv_bipush (v := 99) hx hb dX10_rates_24 (by decide) ?_
      refine ccSi0 C hH [.int a3, .int (0 : Int32), .int (99 : Int32)] (c_C_within l D Z E ad t4 a3 (0 : Int32) (99 : Int32) _ hw) (cwTS 3 hts wd_280 wd_281 wd_1 wd_282 rfl rfl (by decide +kernel) ⟨Nat.le_of_ble_eq_true rfl, Nat.le_of_ble_eq_true rfl⟩) rfl hl.1 rfl (Nat.le_of_ble_eq_true rfl) dX10_rates_26 ⟨Nat.zero_le _, Nat.zero_le _⟩ (fun r8 t7 H locs hw hH => ?_)
      refine lv_if_ne (tgt := 34) hx hb dX10_rates_29 (by decide) (fun c9 => ?_) (fun c9 => ?_)
      · have hw := ifn c9 hw
        refine lv_aload hx hb dX10_rates_34 (lv_at hl 0 rfl) ?_
        refine lv_iload_n hx hb dX10_rates_36 rfl (lv_at hl 3 rfl) ?_
        obtain ⟨h10, hw⟩ := hw
        refine cp C hH 0 j3 8 (by decide) h10 rfl rfl ixX0 tyX0_ok nmX0 8 (by decide) (by decide) rfl rfl wd_80 pfI rfl rfl (Nat.le_of_ble_eq_true rfl) (hs_8_Fellowship Z ad t7 j3 _) dX10_rates_37 (fun H locs hH => ?_)
        obtain ⟨t11, et11⟩ : ∃ x : CS, x = sF t7 8 j3 a2 := ⟨_, rfl⟩
        rw [← et11] at hH
        have hw := hw t11 et11
        refine lv_aload hx hb dX10_rates_40 (lv_at hl 0 rfl) ?_
        refine lv_iload_n hx hb dX10_rates_42 rfl (lv_at hl 4 rfl) ?_
        obtain ⟨h12, hw⟩ := hw
        refine cp C hH 0 j3 9 (by decide) h12 rfl rfl ixX0 tyX0_ok nmX0 9 (by decide) (by decide) rfl rfl wd_81 pfI rfl rfl (Nat.le_of_ble_eq_true rfl) (hs_9_Fellowship Z ad t11 j3 _) dX10_rates_43 (fun H locs hH => ?_)
        obtain ⟨t13, et13⟩ : ∃ x : CS, x = sF t11 9 j3 a3 := ⟨_, rfl⟩
        rw [← et13] at hH
        have hw := hw t13 et13
        refine lv_iconst (v := 1) hx hb dX10_rates_46 (by decide) ?_
        exact cri C hr hk hH (Nat.zero_le _) (Nat.zero_le _) hw dX10_rates_47
      · have hw := ifp c9 hw
        refine lv_iconst (v := -1) hx hb dX10_rates_32 (by decide) ?_
        exact cri C hr hk hH (Nat.zero_le _) (Nat.zero_le _) hw dX10_rates_33
/-! PorterTurns.gatherHurtAndCountOld -/
abbrev rm_C_gatherHurtAndCountOld (mc ms : Nat) : Room := { frames := 7, cells := mc, slots := ms, locals := 521 }
def wp_C_gatherHurtAndCountOld_83 (mc ms : Nat) (k11 : Nat → Nat → CS → Nat → Int32 → Int32 → Prop) (post : Int32 → CS → Prop) (uc us : Nat) (t : CS) (x1_ : Nat) (x2_ : Int32) (x3_ : Int32) : Prop := ∀ x1 : Int32, x1 = x3_ + (1 : Int32) → (k11 uc us t x1_ x2_ x1)
set_option maxHeartbeats 4000000 in
set_option maxRecDepth 100000 in
theorem b_C_gatherHurtAndCountOld_83 {p : Program} {l : Launch} {e : Env} {s : State} {m : MethodId} {args : Array Value} {below : List Frame} {meth : Method} {c : Code} {D : va_G} {Z : Nat → ClassId} {E : Nat → Nat} {ad : Nat → Nat → Nat} {A : Nat → Prop} (C : CC p s m args c cX10_gatherHurtAndCountOld 5 RX10 D Z E A) (hr : meth.sig.returnType = some .int) (hk : meth.locks = false) {mc ms : Nat} {post : Int32 → CS → Prop} {k11 : Nat → Nat → CS → Nat → Int32 → Int32 → Prop} (hk11 : ∀ (uc us : Nat) (t : CS) (y1 : Nat) (y2 : Int32) (y3 : Int32), k11 uc us t y1 y2 y3 → (uc ≤ mc ∧ us ≤ ms) → ∀ (H : Heap) (locs : List Loc) (ls : Array Slot), CH D Z E ad A s.heap t H locs → lv_has ls 5 [(0, .ref (ad 5 0)), (1, .ref (ad 0 y1)), (2, .int y2), (3, .int y3)] → CWi p l e (rm_C_gatherHurtAndCountOld mc ms) s m args below meth c D Z E ad A mc ms post H locs uc us (F0 m 11 ls [])) : ∀ (uc us : Nat) (t : CS) (x1_ : Nat) (x2_ : Int32) (x3_ : Int32), wp_C_gatherHurtAndCountOld_83 mc ms k11 post uc us t x1_ x2_ x3_ → (uc ≤ mc ∧ us ≤ ms) → ∀ (H : Heap) (locs : List Loc) (ls : Array Slot), CH D Z E ad A s.heap t H locs → lv_has ls 5 [(0, .ref (ad 5 0)), (1, .ref (ad 0 x1_)), (2, .int x2_), (3, .int x3_)] → CWi p l e (rm_C_gatherHurtAndCountOld mc ms) s m args below meth c D Z E ad A mc ms post H locs uc us (F0 m 83 ls []) := by
  obtain ⟨⟨hx, hb, hml, hown, hts⟩, hK⟩ := id C
  intro uc us t x1_ x2_ x3_ hw hu H locs ls hH hl
  unfold wp_C_gatherHurtAndCountOld_83 at hw
  obtain ⟨x1, ex1⟩ : ∃ y : Int32, y = x3_ + (1 : Int32) := ⟨_, rfl⟩
  have hw := hw x1 ex1
  refine lv_iinc (v := x1) (lv' := [(3, .int x1), (0, .ref (ad 5 0)), (1, .ref (ad 0 x1_)), (2, .int x2_)]) hx hb dX10_gatherHurtAndCountOld_83 hl (k := 3) rfl (by rw [ex1]; rfl) (by decide) rfl (fun ls hl => ?_)
  refine lv_goto (tgt := 11) hx hb dX10_gatherHurtAndCountOld_86 (by decide) ?_
  exact hk11 uc us t x1_ x2_ x1 hw hu _ _ _ hH (lv_sub hl [1, 2, 3, 0] rfl)
def wp_C_gatherHurtAndCountOld_72 (mc ms : Nat) (k11 : Nat → Nat → CS → Nat → Int32 → Int32 → Prop) (post : Int32 → CS → Prop) (uc us : Nat) (t : CS) (x1_ : Nat) (x2_ : Int32) (x3_ : Int32) (x4_ : Nat) : Prop := x4_ < tN t 3 ∧ (wp_Man_getsPension t x4_ (fun r4 t3 => if r4 = 0 then (wp_C_gatherHurtAndCountOld_83 mc ms (k11) post uc us t3 x1_ x2_ x3_) else (∀ x6 : Int32, x6 = x2_ + (1 : Int32) → (wp_C_gatherHurtAndCountOld_83 mc ms (k11) post uc us t3 x1_ x6 x3_))))
set_option maxHeartbeats 4000000 in
set_option maxRecDepth 100000 in
theorem b_C_gatherHurtAndCountOld_72 {p : Program} {l : Launch} {e : Env} {s : State} {m : MethodId} {args : Array Value} {below : List Frame} {meth : Method} {c : Code} {D : va_G} {Z : Nat → ClassId} {E : Nat → Nat} {ad : Nat → Nat → Nat} {A : Nat → Prop} (C : CC p s m args c cX10_gatherHurtAndCountOld 5 RX10 D Z E A) (hr : meth.sig.returnType = some .int) (hk : meth.locks = false) {mc ms : Nat} {post : Int32 → CS → Prop} {k11 : Nat → Nat → CS → Nat → Int32 → Int32 → Prop} (hk11 : ∀ (uc us : Nat) (t : CS) (y1 : Nat) (y2 : Int32) (y3 : Int32), k11 uc us t y1 y2 y3 → (uc ≤ mc ∧ us ≤ ms) → ∀ (H : Heap) (locs : List Loc) (ls : Array Slot), CH D Z E ad A s.heap t H locs → lv_has ls 5 [(0, .ref (ad 5 0)), (1, .ref (ad 0 y1)), (2, .int y2), (3, .int y3)] → CWi p l e (rm_C_gatherHurtAndCountOld mc ms) s m args below meth c D Z E ad A mc ms post H locs uc us (F0 m 11 ls [])) : ∀ (uc us : Nat) (t : CS) (x1_ : Nat) (x2_ : Int32) (x3_ : Int32) (x4_ : Nat), wp_C_gatherHurtAndCountOld_72 mc ms k11 post uc us t x1_ x2_ x3_ x4_ → (uc ≤ mc ∧ us ≤ ms) → ∀ (H : Heap) (locs : List Loc) (ls : Array Slot), CH D Z E ad A s.heap t H locs → lv_has ls 5 [(0, .ref (ad 5 0)), (1, .ref (ad 0 x1_)), (2, .int x2_), (3, .int x3_), (4, .ref (ad 3 x4_))] → CWi p l e (rm_C_gatherHurtAndCountOld mc ms) s m args below meth c D Z E ad A mc ms post H locs uc us (F0 m 72 ls []) := by
  obtain ⟨⟨hx, hb, hml, hown, hts⟩, hK⟩ := id C
  intro uc us t x1_ x2_ x3_ x4_ hw hu H locs ls hH hl
  unfold wp_C_gatherHurtAndCountOld_72 at hw
  refine lv_aload hx hb dX10_gatherHurtAndCountOld_72 (lv_at hl 4 rfl) ?_
  obtain ⟨h2, hw⟩ := hw
  refine ccVi0 C hH (crecv C hH 3 x4_ (by decide) h2 rfl rfl (q := (RX3, TX3, 10))) [] (c_Man_getsPension l D Z E ad t x4_ _ hw) (cwTV 0 hts wd_968 wd_969 wd_970 wd_18 wd_971 rfl rfl (by decide +kernel) ⟨Nat.le_of_ble_eq_true rfl, Nat.le_of_ble_eq_true rfl⟩) rfl hl.1 rfl (Nat.le_of_ble_eq_true rfl) dX10_gatherHurtAndCountOld_74 hu (fun r4 t3 H locs hw hH => ?_)
  refine lv_if_eq (tgt := 83) hx hb dX10_gatherHurtAndCountOld_77 (by decide) (fun c5 => ?_) (fun c5 => ?_)
  · have hw := ifp c5 hw
    exact b_C_gatherHurtAndCountOld_83 C hr hk hk11 uc us t3 x1_ x2_ x3_ hw hu _ _ _ hH (lv_sub hl [0, 1, 2, 3] rfl)
  · have hw := ifn c5 hw
    obtain ⟨x6, ex6⟩ : ∃ y : Int32, y = x2_ + (1 : Int32) := ⟨_, rfl⟩
    have hw := hw x6 ex6
    refine lv_iinc (v := x6) (lv' := [(2, .int x6), (0, .ref (ad 5 0)), (1, .ref (ad 0 x1_)), (3, .int x3_), (4, .ref (ad 3 x4_))]) hx hb dX10_gatherHurtAndCountOld_80 hl (k := 2) rfl (by rw [ex6]; rfl) (by decide) rfl (fun ls hl => ?_)
    exact b_C_gatherHurtAndCountOld_83 C hr hk hk11 uc us t3 x1_ x6 x3_ hw hu _ _ _ hH (lv_sub hl [1, 2, 0, 3] rfl)
def wp_C_gatherHurtAndCountOld_11 (mc ms : Nat) (post : Int32 → CS → Prop) : Nat → Nat → Nat → CS → Nat → Int32 → Int32 → Prop
  | 0 => fun _ _ _ _ _ _ => False
  | n + 1 => fun uc us t x1_ x2_ x3_ => if (nI (tT t 1).length) ≤ x3_ then (post x2_ t) else (vp_in x3_ (tT t 1).length ∧ ((tT t 1).length < 2 ^ 31 ∧ (∀ j10 : Nat, j10 = ((tT t 1).getD x3_.toNatClampNeg 0) → (j10 < tN t 3 ∧ (x1_ < tN t 0 ∧ (if (tF t 97 j10) = (nI x1_) then (wp_Man_getsHelpAt t j10 (tF t 171 0) (fun r15 t14 => if r15 = 0 then (wp_C_gatherHurtAndCountOld_72 mc ms (wp_C_gatherHurtAndCountOld_11 mc ms post n) post uc us t14 x1_ x2_ x3_ j10) else (tK t14 6 < 2 ^ 20 ∧ (elOk t14 6 ∧ (j10 < tN t14 3 ∧ (((uc + aC (tT t14 6).length (tK t14 6)) ≤ mc ∧ (us + aS (tT t14 6).length (tK t14 6)) ≤ ms) ∧ (∀ c21 s22 : Nat, c21 = (uc + aC (tT t14 6).length (tK t14 6)) → s22 = (us + aS (tT t14 6).length (tK t14 6)) → (∀ t23 : CS, t23 = lAdd t14 6 j10 → (wp_C_gatherHurtAndCountOld_72 mc ms (wp_C_gatherHurtAndCountOld_11 mc ms post n) post c21 s22 t23 x1_ x2_ x3_ j10))))))))) else (wp_C_gatherHurtAndCountOld_83 mc ms (wp_C_gatherHurtAndCountOld_11 mc ms post n) post uc us t x1_ x2_ x3_)))))))
set_option maxHeartbeats 4000000 in
set_option maxRecDepth 100000 in
theorem b_C_gatherHurtAndCountOld_11 {p : Program} {l : Launch} {e : Env} {s : State} {m : MethodId} {args : Array Value} {below : List Frame} {meth : Method} {c : Code} {D : va_G} {Z : Nat → ClassId} {E : Nat → Nat} {ad : Nat → Nat → Nat} {A : Nat → Prop} (C : CC p s m args c cX10_gatherHurtAndCountOld 5 RX10 D Z E A) (hr : meth.sig.returnType = some .int) (hk : meth.locks = false) {mc ms : Nat} {post : Int32 → CS → Prop} : ∀ (n : Nat) (uc us : Nat) (t : CS) (x1_ : Nat) (x2_ : Int32) (x3_ : Int32), wp_C_gatherHurtAndCountOld_11 mc ms post n uc us t x1_ x2_ x3_ → (uc ≤ mc ∧ us ≤ ms) → ∀ (H : Heap) (locs : List Loc) (ls : Array Slot), CH D Z E ad A s.heap t H locs → lv_has ls 5 [(0, .ref (ad 5 0)), (1, .ref (ad 0 x1_)), (2, .int x2_), (3, .int x3_)] → CWi p l e (rm_C_gatherHurtAndCountOld mc ms) s m args below meth c D Z E ad A mc ms post H locs uc us (F0 m 11 ls []) := by
  obtain ⟨⟨hx, hb, hml, hown, hts⟩, hK⟩ := id C
  intro n
  induction n with
  | zero => intro uc us t x1_ x2_ x3_ hw; exact hw.elim
  | succ n ih =>
    intro uc us t x1_ x2_ x3_ hw hu H locs ls hH hl
    unfold wp_C_gatherHurtAndCountOld_11 at hw
    refine lv_iload_n hx hb dX10_gatherHurtAndCountOld_11 rfl (lv_at hl 3 rfl) ?_
    refine lv_aload_n hx hb dX10_gatherHurtAndCountOld_12 rfl (lv_at hl 0 rfl) ?_
    refine cg C hH 5 0 (by decide) (Nat.le_of_ble_eq_true rfl) rfl rfl ixX10 1 (by decide) rfl wd_237 rfl dX10_gatherHurtAndCountOld_13 ?_
    refine lSize C hH 1 (Nat.lt_of_lt_of_le (show 1 < 11 by decide) (Nat.le_add_left _ _)) wd_283 hl.1 (Nat.le_of_ble_eq_true rfl) dX10_gatherHurtAndCountOld_16 hu ⟨Nat.le_of_ble_eq_true rfl, Nat.le_of_ble_eq_true rfl⟩ (fun H locs hH => ?_)
    refine lv_icmp_ge (tgt := 89) hx hb dX10_gatherHurtAndCountOld_19 (by decide) (fun c7 => ?_) (fun c7 => ?_)
    · have hw := ifp c7 hw
      refine lv_iload_n hx hb dX10_gatherHurtAndCountOld_89 rfl (lv_at hl 2 rfl) ?_
      exact cri C hr hk hH hu.1 hu.2 hw dX10_gatherHurtAndCountOld_90
    · have hw := ifn c7 hw
      refine lv_aload_n hx hb dX10_gatherHurtAndCountOld_22 rfl (lv_at hl 0 rfl) ?_
      refine cg C hH 5 0 (by decide) (Nat.le_of_ble_eq_true rfl) rfl rfl ixX10 1 (by decide) rfl wd_237 rfl dX10_gatherHurtAndCountOld_23 ?_
      refine lv_iload_n hx hb dX10_gatherHurtAndCountOld_26 rfl (lv_at hl 3 rfl) ?_
      obtain ⟨h8, hw⟩ := hw
      obtain ⟨h9, hw⟩ := hw
      refine lGet C hH 1 (Nat.lt_of_lt_of_le (show 1 < 11 by decide) (Nat.le_add_left _ _)) h8 h9 wd_320 hl.1 (Nat.le_of_ble_eq_true rfl) dX10_gatherHurtAndCountOld_27 hu ⟨Nat.le_of_ble_eq_true rfl, Nat.le_of_ble_eq_true rfl⟩ (fun H locs hH => ?_)
      obtain ⟨j10, ej10⟩ : ∃ x : Nat, x = ((tT t 1).getD x3_.toNatClampNeg 0) := ⟨_, rfl⟩
      rw [← ej10]
      have hw := hw j10 ej10
      obtain ⟨h11, hw⟩ := hw
      refine cCast C hH 3 j10 (by decide) h11 rfl rfl wd_374 dX10_gatherHurtAndCountOld_30 ?_
      refine lv_astore (lv' := [(4, .ref (ad 3 j10)), (0, .ref (ad 5 0)), (1, .ref (ad 0 x1_)), (2, .int x2_), (3, .int x3_)]) hx hb dX10_gatherHurtAndCountOld_33 hl (by decide) rfl (fun ls hl => ?_)
      refine lv_aload hx hb dX10_gatherHurtAndCountOld_35 (lv_at hl 0 rfl) ?_
      refine cg C hH 3 j10 (by decide) h11 rfl rfl ixX3 1 (by decide) rfl wd_385 rfl dX10_gatherHurtAndCountOld_37 ?_
      refine lv_aload_n hx hb dX10_gatherHurtAndCountOld_40 rfl (lv_at hl 2 rfl) ?_
      obtain ⟨h12, hw⟩ := hw
      refine cg C hH 0 x1_ (by decide) h12 rfl rfl ixX0 0 (by decide) rfl wd_68 rfl dX10_gatherHurtAndCountOld_41 ?_
      refine lv_icmp_eq (tgt := 50) hx hb dX10_gatherHurtAndCountOld_44 (by decide) (fun c13 => ?_) (fun c13 => ?_)
      · have hw := ifp c13 hw
        refine lv_aload hx hb dX10_gatherHurtAndCountOld_50 (lv_at hl 0 rfl) ?_
        refine lv_aload_n hx hb dX10_gatherHurtAndCountOld_52 rfl (lv_at hl 1 rfl) ?_
        refine cg C hH 5 0 (by decide) (Nat.le_of_ble_eq_true rfl) rfl rfl ixX10 11 (by decide) rfl wd_247 rfl dX10_gatherHurtAndCountOld_53 ?_
        refine ccVi0 C hH (crecv C hH 3 j10 (by decide) h11 rfl rfl (q := (RX3, TX3, 10))) [.int (tF t 171 0)] (c_Man_getsHelpAt l D Z E ad t j10 (tF t 171 0) _ hw) (cwTV 1 hts wd_956 wd_957 wd_958 wd_18 wd_959 rfl rfl (by decide +kernel) ⟨Nat.le_of_ble_eq_true rfl, Nat.le_of_ble_eq_true rfl⟩) rfl hl.1 rfl (Nat.le_of_ble_eq_true rfl) dX10_gatherHurtAndCountOld_56 hu (fun r15 t14 H locs hw hH => ?_)
        refine lv_if_eq (tgt := 72) hx hb dX10_gatherHurtAndCountOld_59 (by decide) (fun c16 => ?_) (fun c16 => ?_)
        · have hw := ifp c16 hw
          exact b_C_gatherHurtAndCountOld_72 C hr hk ih uc us t14 x1_ x2_ x3_ j10 hw hu _ _ _ hH (lv_sub hl [1, 2, 3, 4, 0] rfl)
        · have hw := ifn c16 hw
          refine lv_aload_n hx hb dX10_gatherHurtAndCountOld_62 rfl (lv_at hl 1 rfl) ?_
          refine cg C hH 5 0 (by decide) (Nat.le_of_ble_eq_true rfl) rfl rfl ixX10 10 (by decide) rfl wd_246 rfl dX10_gatherHurtAndCountOld_63 ?_
          refine lv_aload hx hb dX10_gatherHurtAndCountOld_66 (lv_at hl 0 rfl) ?_
          obtain ⟨h17, hw⟩ := hw
          obtain ⟨h18, hw⟩ := hw
          obtain ⟨h19, hw⟩ := hw
          obtain ⟨hu, hw⟩ := hw
          refine lAddR C hH 6 j10 (Nat.lt_of_lt_of_le (show 6 < 11 by decide) (Nat.le_add_left _ _)) h17 h18 h19 wd_103 hl.1 (Nat.le_of_ble_eq_true rfl) dX10_gatherHurtAndCountOld_68 hu ⟨Nat.le_of_ble_eq_true rfl, Nat.le_of_ble_eq_true rfl⟩ (fun H locs hH => ?_)
          obtain ⟨c21, ec21⟩ : ∃ x : Nat, x = (uc + aC (tT t14 6).length (tK t14 6)) := ⟨_, rfl⟩
          obtain ⟨s22, es22⟩ : ∃ x : Nat, x = (us + aS (tT t14 6).length (tK t14 6)) := ⟨_, rfl⟩
          have hw := hw c21 s22 ec21 es22
          rw [← ec21, ← es22] at hu ⊢
          obtain ⟨t23, et23⟩ : ∃ x : CS, x = lAdd t14 6 j10 := ⟨_, rfl⟩
          rw [← et23] at hH
          have hw := hw t23 et23
          refine lv_pop hx hb dX10_gatherHurtAndCountOld_71 rfl ?_
          exact b_C_gatherHurtAndCountOld_72 C hr hk ih c21 s22 t23 x1_ x2_ x3_ j10 hw hu _ _ _ hH (lv_sub hl [1, 2, 3, 4, 0] rfl)
      · have hw := ifn c13 hw
        refine lv_goto (tgt := 83) hx hb dX10_gatherHurtAndCountOld_47 (by decide) ?_
        exact b_C_gatherHurtAndCountOld_83 C hr hk ih uc us t x1_ x2_ x3_ hw hu _ _ _ hH (lv_sub hl [1, 2, 3, 4] rfl)
def wp_C_gatherHurtAndCountOld (mc ms : Nat) (t : CS) (a1 : Nat) (post : Int32 → CS → Prop) : Prop := (tT t 6).length < 2 ^ 31 ∧ (∀ t25 : CS, t25 = sT t 6 [] → (∃ nn : Nat, wp_C_gatherHurtAndCountOld_11 mc ms post nn 0 0 t25 a1 (0 : Int32) (0 : Int32)))
set_option maxHeartbeats 4000000 in
set_option maxRecDepth 100000 in
theorem c_C_gatherHurtAndCountOld (l : Launch) (D : va_G) (Z : Nat → ClassId) (E : Nat → Nat) (ad : Nat → Nat → Nat) (mc ms : Nat) (t : CS) (a1 : Nat) (post : Int32 → CS → Prop) (hw : wp_C_gatherHurtAndCountOld mc ms t a1 post) (L : List Nat) (sz : Nat) : Met l yX10_gatherHurtAndCountOld (Wd yX10_gatherHurtAndCountOld cX10_gatherHurtAndCountOld 5 (some .int)) (rm_C_gatherHurtAndCountOld mc ms) (va_Pc [.ref (ad 5 0), .ref (ad 0 a1)] (cPre D Z E ad L sz t)) (va_Qi post (cPost D Z E ad (cAs L sz)) (cAs L sz)) mc ms (cAs L sz) := by
  refine cMet (Qc := fun A => va_Qi post (cPost D Z E ad A) A) (by decide) rfl _ (Nat.le_of_ble_eq_true rfl) (fun p e s m args below meth c A C hr hk ls hl hH => ?_) L sz
  obtain ⟨⟨hx, hb, hml, hown, hts⟩, hK⟩ := id C
  have hl : lv_has ls 5 [(0, .ref (ad 5 0)), (1, .ref (ad 0 a1))] := hl
  have hu : 0 ≤ mc ∧ 0 ≤ ms := ⟨Nat.zero_le _, Nat.zero_le _⟩
  unfold wp_C_gatherHurtAndCountOld at hw
  refine lv_iconst (v := 0) hx hb dX10_gatherHurtAndCountOld_0 (by decide) ?_
  refine lv_istore_n (lv' := [(2, .int (0 : Int32)), (0, .ref (ad 5 0)), (1, .ref (ad 0 a1))]) hx hb dX10_gatherHurtAndCountOld_1 rfl hl (by decide) rfl (fun ls hl => ?_)
  refine lv_aload_n hx hb dX10_gatherHurtAndCountOld_2 rfl (lv_at hl 1 rfl) ?_
  refine cg C hH 5 0 (by decide) (Nat.le_of_ble_eq_true rfl) rfl rfl ixX10 10 (by decide) rfl wd_246 rfl dX10_gatherHurtAndCountOld_3 ?_
  obtain ⟨h24, hw⟩ := hw
  refine lClear C hH 6 (Nat.lt_of_lt_of_le (show 6 < 11 by decide) (Nat.le_add_left _ _)) h24 wd_884 hl.1 (Nat.le_of_ble_eq_true rfl) dX10_gatherHurtAndCountOld_6 hu ⟨Nat.le_of_ble_eq_true rfl, Nat.le_of_ble_eq_true rfl⟩ (fun H locs hH => ?_)
  obtain ⟨t25, et25⟩ : ∃ x : CS, x = sT t 6 [] := ⟨_, rfl⟩
  rw [← et25] at hH
  have hw := hw t25 et25
  refine lv_iconst (v := 0) hx hb dX10_gatherHurtAndCountOld_9 (by decide) ?_
  refine lv_istore_n (lv' := [(3, .int (0 : Int32)), (2, .int (0 : Int32)), (0, .ref (ad 5 0)), (1, .ref (ad 0 a1))]) hx hb dX10_gatherHurtAndCountOld_10 rfl hl (by decide) rfl (fun ls hl => ?_)
  obtain ⟨nn, hw⟩ := hw
  exact b_C_gatherHurtAndCountOld_11 C hr hk  nn 0 0 t25 a1 (0 : Int32) (0 : Int32) hw hu _ _ _ hH (lv_sub hl [2, 3, 1, 0] rfl)
/-! PorterTurns.stillHurt -/
abbrev rm_C_stillHurt : Room := { frames := 3, cells := 0, slots := 0, locals := 81 }
def wp_C_stillHurt_36 (k4 : CS → Int32 → Int32 → Int32 → Prop) (post : Int32 → CS → Prop) (t : CS) (x1_ : Int32) (x2_ : Int32) (x3_ : Int32) : Prop := ∀ x1 : Int32, x1 = x3_ + (1 : Int32) → (k4 t x1_ x2_ x1)
set_option maxHeartbeats 4000000 in
set_option maxRecDepth 100000 in
theorem b_C_stillHurt_36 {p : Program} {l : Launch} {e : Env} {s : State} {m : MethodId} {args : Array Value} {below : List Frame} {meth : Method} {c : Code} {D : va_G} {Z : Nat → ClassId} {E : Nat → Nat} {ad : Nat → Nat → Nat} {A : Nat → Prop} (C : CC p s m args c cX10_stillHurt 4 RX10 D Z E A) (hr : meth.sig.returnType = some .int) (hk : meth.locks = false) {post : Int32 → CS → Prop} {k4 : CS → Int32 → Int32 → Int32 → Prop} (hk4 : ∀ (t : CS) (y1 : Int32) (y2 : Int32) (y3 : Int32), k4 t y1 y2 y3 → ∀ (H : Heap) (locs : List Loc) (ls : Array Slot), CH D Z E ad A s.heap t H locs → lv_has ls 4 [(0, .ref (ad 5 0)), (1, .int y1), (2, .int y2), (3, .int y3)] → CWi p l e rm_C_stillHurt s m args below meth c D Z E ad A 0 0 post H locs 0 0 (F0 m 4 ls [])) : ∀ (t : CS) (x1_ : Int32) (x2_ : Int32) (x3_ : Int32), wp_C_stillHurt_36 k4 post t x1_ x2_ x3_ → ∀ (H : Heap) (locs : List Loc) (ls : Array Slot), CH D Z E ad A s.heap t H locs → lv_has ls 4 [(0, .ref (ad 5 0)), (1, .int x1_), (2, .int x2_), (3, .int x3_)] → CWi p l e rm_C_stillHurt s m args below meth c D Z E ad A 0 0 post H locs 0 0 (F0 m 36 ls []) := by
  obtain ⟨⟨hx, hb, hml, hown, hts⟩, hK⟩ := id C
  intro t x1_ x2_ x3_ hw H locs ls hH hl
  unfold wp_C_stillHurt_36 at hw
  obtain ⟨x1, ex1⟩ : ∃ y : Int32, y = x3_ + (1 : Int32) := ⟨_, rfl⟩
  have hw := hw x1 ex1
  refine lv_iinc (v := x1) (lv' := [(3, .int x1), (0, .ref (ad 5 0)), (1, .int x1_), (2, .int x2_)]) hx hb dX10_stillHurt_36 hl (k := 3) rfl (by rw [ex1]; rfl) (by decide) rfl (fun ls hl => ?_)
  refine lv_goto (tgt := 4) hx hb dX10_stillHurt_39 (by decide) ?_
  exact hk4 t x1_ x2_ x1 hw _ _ _ hH (lv_sub hl [1, 2, 3, 0] rfl)
def wp_C_stillHurt_4 (post : Int32 → CS → Prop) : Nat → CS → Int32 → Int32 → Int32 → Prop
  | 0 => fun _ _ _ _ => False
  | n + 1 => fun t x1_ x2_ x3_ => if (nI (tT t 6).length) ≤ x3_ then (post x2_ t) else (vp_in x3_ (tT t 6).length ∧ ((tT t 6).length < 2 ^ 31 ∧ (∀ j5 : Nat, j5 = ((tT t 6).getD x3_.toNatClampNeg 0) → (j5 < tN t 3 ∧ (wp_Man_hurtAt t j5 x1_ (fun r8 t7 => if r8 = 0 then (wp_C_stillHurt_36 (wp_C_stillHurt_4 post n) post t7 x1_ x2_ x3_) else (∀ x10 : Int32, x10 = x2_ + (1 : Int32) → (wp_C_stillHurt_36 (wp_C_stillHurt_4 post n) post t7 x1_ x10 x3_))))))))
set_option maxHeartbeats 4000000 in
set_option maxRecDepth 100000 in
theorem b_C_stillHurt_4 {p : Program} {l : Launch} {e : Env} {s : State} {m : MethodId} {args : Array Value} {below : List Frame} {meth : Method} {c : Code} {D : va_G} {Z : Nat → ClassId} {E : Nat → Nat} {ad : Nat → Nat → Nat} {A : Nat → Prop} (C : CC p s m args c cX10_stillHurt 4 RX10 D Z E A) (hr : meth.sig.returnType = some .int) (hk : meth.locks = false) {post : Int32 → CS → Prop} : ∀ (n : Nat) (t : CS) (x1_ : Int32) (x2_ : Int32) (x3_ : Int32), wp_C_stillHurt_4 post n t x1_ x2_ x3_ → ∀ (H : Heap) (locs : List Loc) (ls : Array Slot), CH D Z E ad A s.heap t H locs → lv_has ls 4 [(0, .ref (ad 5 0)), (1, .int x1_), (2, .int x2_), (3, .int x3_)] → CWi p l e rm_C_stillHurt s m args below meth c D Z E ad A 0 0 post H locs 0 0 (F0 m 4 ls []) := by
  obtain ⟨⟨hx, hb, hml, hown, hts⟩, hK⟩ := id C
  intro n
  induction n with
  | zero => intro t x1_ x2_ x3_ hw; exact hw.elim
  | succ n ih =>
    intro t x1_ x2_ x3_ hw H locs ls hH hl
    unfold wp_C_stillHurt_4 at hw
    refine lv_iload_n hx hb dX10_stillHurt_4 rfl (lv_at hl 3 rfl) ?_
    refine lv_aload_n hx hb dX10_stillHurt_5 rfl (lv_at hl 0 rfl) ?_
    refine cg C hH 5 0 (by decide) (Nat.le_of_ble_eq_true rfl) rfl rfl ixX10 10 (by decide) rfl wd_246 rfl dX10_stillHurt_6 ?_
    refine lSize C hH 6 (Nat.lt_of_lt_of_le (show 6 < 11 by decide) (Nat.le_add_left _ _)) wd_283 hl.1 (Nat.le_of_ble_eq_true rfl) dX10_stillHurt_9 ⟨Nat.zero_le _, Nat.zero_le _⟩ ⟨Nat.le_of_ble_eq_true rfl, Nat.le_of_ble_eq_true rfl⟩ (fun H locs hH => ?_)
    refine lv_icmp_ge (tgt := 42) hx hb dX10_stillHurt_12 (by decide) (fun c2 => ?_) (fun c2 => ?_)
    · have hw := ifp c2 hw
      refine lv_iload_n hx hb dX10_stillHurt_42 rfl (lv_at hl 2 rfl) ?_
      exact cri C hr hk hH (Nat.zero_le _) (Nat.zero_le _) hw dX10_stillHurt_43
    · have hw := ifn c2 hw
      refine lv_aload_n hx hb dX10_stillHurt_15 rfl (lv_at hl 0 rfl) ?_
      refine cg C hH 5 0 (by decide) (Nat.le_of_ble_eq_true rfl) rfl rfl ixX10 10 (by decide) rfl wd_246 rfl dX10_stillHurt_16 ?_
      refine lv_iload_n hx hb dX10_stillHurt_19 rfl (lv_at hl 3 rfl) ?_
      obtain ⟨h3, hw⟩ := hw
      obtain ⟨h4, hw⟩ := hw
      refine lGet C hH 6 (Nat.lt_of_lt_of_le (show 6 < 11 by decide) (Nat.le_add_left _ _)) h3 h4 wd_320 hl.1 (Nat.le_of_ble_eq_true rfl) dX10_stillHurt_20 ⟨Nat.zero_le _, Nat.zero_le _⟩ ⟨Nat.le_of_ble_eq_true rfl, Nat.le_of_ble_eq_true rfl⟩ (fun H locs hH => ?_)
      obtain ⟨j5, ej5⟩ : ∃ x : Nat, x = ((tT t 6).getD x3_.toNatClampNeg 0) := ⟨_, rfl⟩
      rw [← ej5]
      have hw := hw j5 ej5
      obtain ⟨h6, hw⟩ := hw
      refine cCast C hH 3 j5 (by decide) h6 rfl rfl wd_374 dX10_stillHurt_23 ?_
      refine lv_iload_n hx hb dX10_stillHurt_26 rfl (lv_at hl 1 rfl) ?_
      refine ccVi0 C hH (crecv C hH 3 j5 (by decide) h6 rfl rfl (q := (RX3, TX3, 10))) [.int x1_] (c_Man_hurtAt l D Z E ad t j5 x1_ _ hw) (cwTV 1 hts wd_722 wd_723 wd_724 wd_18 wd_725 rfl rfl (by decide +kernel) ⟨Nat.le_of_ble_eq_true rfl, Nat.le_of_ble_eq_true rfl⟩) rfl hl.1 rfl (Nat.le_of_ble_eq_true rfl) dX10_stillHurt_27 ⟨Nat.zero_le _, Nat.zero_le _⟩ (fun r8 t7 H locs hw hH => ?_)
      refine lv_if_eq (tgt := 36) hx hb dX10_stillHurt_30 (by decide) (fun c9 => ?_) (fun c9 => ?_)
      · have hw := ifp c9 hw
        exact b_C_stillHurt_36 C hr hk ih t7 x1_ x2_ x3_ hw _ _ _ hH (lv_sub hl [0, 1, 2, 3] rfl)
      · have hw := ifn c9 hw
        obtain ⟨x10, ex10⟩ : ∃ y : Int32, y = x2_ + (1 : Int32) := ⟨_, rfl⟩
        have hw := hw x10 ex10
        refine lv_iinc (v := x10) (lv' := [(2, .int x10), (0, .ref (ad 5 0)), (1, .int x1_), (3, .int x3_)]) hx hb dX10_stillHurt_33 hl (k := 2) rfl (by rw [ex10]; rfl) (by decide) rfl (fun ls hl => ?_)
        exact b_C_stillHurt_36 C hr hk ih t7 x1_ x10 x3_ hw _ _ _ hH (lv_sub hl [1, 2, 0, 3] rfl)
def wp_C_stillHurt (t : CS) (a1 : Int32) (post : Int32 → CS → Prop) : Prop := ∃ nn : Nat, wp_C_stillHurt_4 post nn t a1 (0 : Int32) (0 : Int32)
set_option maxHeartbeats 4000000 in
set_option maxRecDepth 100000 in
theorem c_C_stillHurt (l : Launch) (D : va_G) (Z : Nat → ClassId) (E : Nat → Nat) (ad : Nat → Nat → Nat) (t : CS) (a1 : Int32) (post : Int32 → CS → Prop) (hw : wp_C_stillHurt t a1 post) (L : List Nat) (sz : Nat) : Met l yX10_stillHurt (Wd yX10_stillHurt cX10_stillHurt 4 (some .int)) rm_C_stillHurt (va_Pc [.ref (ad 5 0), .int a1] (cPre D Z E ad L sz t)) (va_Qi post (cPost D Z E ad (cAs L sz)) (cAs L sz)) 0 0 (cAs L sz) := by
  refine cMet (Qc := fun A => va_Qi post (cPost D Z E ad A) A) (by decide) rfl _ (Nat.le_of_ble_eq_true rfl) (fun p e s m args below meth c A C hr hk ls hl hH => ?_) L sz
  obtain ⟨⟨hx, hb, hml, hown, hts⟩, hK⟩ := id C
  have hl : lv_has ls 4 [(0, .ref (ad 5 0)), (1, .int a1)] := hl
  unfold wp_C_stillHurt at hw
  refine lv_iconst (v := 0) hx hb dX10_stillHurt_0 (by decide) ?_
  refine lv_istore_n (lv' := [(2, .int (0 : Int32)), (0, .ref (ad 5 0)), (1, .int a1)]) hx hb dX10_stillHurt_1 rfl hl (by decide) rfl (fun ls hl => ?_)
  refine lv_iconst (v := 0) hx hb dX10_stillHurt_2 (by decide) ?_
  refine lv_istore_n (lv' := [(3, .int (0 : Int32)), (2, .int (0 : Int32)), (0, .ref (ad 5 0)), (1, .int a1)]) hx hb dX10_stillHurt_3 rfl hl (by decide) rfl (fun ls hl => ?_)
  obtain ⟨nn, hw⟩ := hw
  exact b_C_stillHurt_4 C hr hk  nn t a1 (0 : Int32) (0 : Int32) hw _ _ _ hH (lv_sub hl [2, 3, 1, 0] rfl)
