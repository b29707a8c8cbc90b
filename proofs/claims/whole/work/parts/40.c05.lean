/-! PorterTurns.foretold -/
abbrev rm_C_foretold (mc ms : Nat) : Room := { frames := 8, cells := mc, slots := ms, locals := 545 }
def wp_C_foretold_57 (mc ms : Nat) (post : Int32 → CS → Prop) : Nat → Nat → Nat → CS → Nat → Int32 → Int32 → Int32 → Int64 → Int32 → Prop
  | 0 => fun _ _ _ _ _ _ _ _ _ => False
  | n + 1 => fun uc us t x2_ x3_ x4_ x5_ x6_ x8_ => if (x3_ + (400 : Int32)) < x8_ then (post (-2 : Int32) t) else (x2_ < tN t 0 ∧ (wp_C_stillHurt t (x8_ * (600 : Int32)) (fun r4 t3 => ∀ x5 : Int64, x5 = (((x6_ + (x4_.toInt64)) - (((tF t 8 x2_) * r4).toInt64)) - (x5_.toInt64)) → (if 0 ≤ (lg_cmp x5 (0 : Int64)) then (∀ x7 : Int32, x7 = x8_ + (1 : Int32) → (wp_C_foretold_57 mc ms post n uc us t3 x2_ x3_ x4_ x5_ x5 x7)) else (post x8_ t3)))))
set_option maxHeartbeats 4000000 in
set_option maxRecDepth 100000 in
theorem b_C_foretold_57 {p : Program} {l : Launch} {e : Env} {s : State} {m : MethodId} {args : Array Value} {below : List Frame} {meth : Method} {c : Code} {D : va_G} {Z : Nat → ClassId} {E : Nat → Nat} {ad : Nat → Nat → Nat} {A : Nat → Prop} (C : CC p s m args c cX10_foretold 9 RX10 D Z E A) (hr : meth.sig.returnType = some .int) (hk : meth.locks = false) {mc ms : Nat} {post : Int32 → CS → Prop} : ∀ (n : Nat) (uc us : Nat) (t : CS) (x2_ : Nat) (x3_ : Int32) (x4_ : Int32) (x5_ : Int32) (x6_ : Int64) (x8_ : Int32), wp_C_foretold_57 mc ms post n uc us t x2_ x3_ x4_ x5_ x6_ x8_ → (uc ≤ mc ∧ us ≤ ms) → ∀ (H : Heap) (locs : List Loc) (ls : Array Slot), CH D Z E ad A s.heap t H locs → lv_has ls 9 [(0, .ref (ad 5 0)), (2, .ref (ad 0 x2_)), (3, .int x3_), (4, .int x4_), (5, .int x5_), (6, .long x6_), (8, .int x8_)] → CWi p l e (rm_C_foretold mc ms) s m args below meth c D Z E ad A mc ms post H locs uc us (F0 m 57 ls []) := by
  obtain ⟨⟨hx, hb, hml, hown, hts⟩, hK⟩ := id C
  intro n
  induction n with
  | zero => intro uc us t x2_ x3_ x4_ x5_ x6_ x8_ hw; exact hw.elim
  | succ n ih =>
    intro uc us t x2_ x3_ x4_ x5_ x6_ x8_ hw hu H locs ls hH hl
    unfold wp_C_foretold_57 at hw
    refine lv_iload hx hb dX10_foretold_57 (lv_at hl 6 rfl) ?_
    refine lv_iload_n hx hb dX10_foretold_59 rfl (lv_at hl 2 rfl) ?_
    refine lv_sipush (v := 400) hx hb dX10_foretold_60 (by decide) ?_
    refine lv_iadd hx hb dX10_foretold_63 ?_
    refine lv_icmp_gt (tgt := 112) hx hb dX10_foretold_64 (by decide) (fun c1 => ?_) (fun c1 => ?_)
    · have hw := ifp c1 hw
      refine lv_bipush (v := -2) hx hb dX10_foretold_112 (by decide) ?_
      exact cri C hr hk hH hu.1 hu.2 hw dX10_foretold_114
    · have hw := ifn c1 hw
      refine lv_lload hx hb dX10_foretold_67 (lv_at hl 5 rfl) ?_
      refine lv_iload hx hb dX10_foretold_69 (lv_at hl 3 rfl) ?_
      refine lv_i2l hx hb dX10_foretold_71 rfl ?_
      refine lv_ladd hx hb dX10_foretold_72 ?_
      refine lv_aload_n hx hb dX10_foretold_73 rfl (lv_at hl 1 rfl) ?_
      obtain ⟨h2, hw⟩ := hw
      refine cg C hH 0 x2_ (by decide) h2 rfl rfl ixX0 8 (by decide) rfl wd_80 rfl dX10_foretold_74 ?_
      refine lv_aload_n hx hb dX10_foretold_77 rfl (lv_at hl 0 rfl) ?_
      refine lv_iload hx hb dX10_foretold_78 (lv_at hl 6 rfl) ?_
      refine lv_sipush (v := 600) hx hb dX10_foretold_80 (by decide) ?_
      refine lv_imul hx hb dX10_foretold_83 ?_
      refine ccVi0 C hH (crecv C hH 5 0 (by decide) (Nat.le_of_ble_eq_true rfl) rfl rfl (q := (RX10, TX10, 13))) [.int (x8_ * (600 : Int32))] (c_C_stillHurt l D Z E ad t (x8_ * (600 : Int32)) _ hw) (cwTV 1 hts wd_1000 wd_1002 ws_42 wd_1 wd_1003 rfl rfl (by decide +kernel) ⟨Nat.le_of_ble_eq_true rfl, Nat.le_of_ble_eq_true rfl⟩) rfl hl.1 rfl (Nat.le_of_ble_eq_true rfl) dX10_foretold_84 hu (fun r4 t3 H locs hw hH => ?_)
      refine lv_imul hx hb dX10_foretold_87 ?_
      refine lv_i2l hx hb dX10_foretold_88 rfl ?_
      refine lv_lsub hx hb dX10_foretold_89 ?_
      refine lv_iload hx hb dX10_foretold_90 (lv_at hl 4 rfl) ?_
      refine lv_i2l hx hb dX10_foretold_92 rfl ?_
      refine lv_lsub hx hb dX10_foretold_93 ?_
      refine lv_topl (fun x5 ex5 => ?_)
      have hw := hw x5 ex5
      refine lv_lstore (lv' := [(6, .long x5), (0, .ref (ad 5 0)), (2, .ref (ad 0 x2_)), (3, .int x3_), (4, .int x4_), (5, .int x5_), (8, .int x8_)]) hx hb dX10_foretold_94 hl (by decide) rfl (fun ls hl => ?_)
      refine lv_lload hx hb dX10_foretold_96 (lv_at hl 0 rfl) ?_
      refine lv_lconst (v := 0) hx hb dX10_foretold_98 (by decide) ?_
      refine W.lcmp hx hb dX10_foretold_99 ?_
      refine lv_if_ge (tgt := 106) hx hb dX10_foretold_100 (by decide) (fun c6 => ?_) (fun c6 => ?_)
      · have hw := ifp c6 hw
        obtain ⟨x7, ex7⟩ : ∃ y : Int32, y = x8_ + (1 : Int32) := ⟨_, rfl⟩
        have hw := hw x7 ex7
        refine lv_iinc (v := x7) (lv' := [(8, .int x7), (6, .long x5), (0, .ref (ad 5 0)), (2, .ref (ad 0 x2_)), (3, .int x3_), (4, .int x4_), (5, .int x5_)]) hx hb dX10_foretold_106 hl (k := 6) rfl (by rw [ex7]; rfl) (by decide) rfl (fun ls hl => ?_)
        refine lv_goto (tgt := 57) hx hb dX10_foretold_109 (by decide) ?_
        exact ih uc us t3 x2_ x3_ x4_ x5_ x5 x7 hw hu _ _ _ hH (lv_sub hl [2, 3, 4, 5, 6, 1, 0] rfl)
      · have hw := ifn c6 hw
        refine lv_iload hx hb dX10_foretold_103 (lv_at hl 6 rfl) ?_
        exact cri C hr hk hH hu.1 hu.2 hw dX10_foretold_105
def wp_C_foretold_31 (mc ms : Nat) (post : Int32 → CS → Prop) (uc us : Nat) (t : CS) (x2_ : Nat) (x3_ : Int32) (t0_ : Int32) : Prop := x2_ < tN t 0 ∧ (∃ c11 s12 : Nat, (uc + c11 ≤ mc ∧ us + s12 ≤ ms) ∧ (wp_C_gatherHurtAndCountOld c11 s12 t x2_ (fun r10 t9 => ∀ x13 : Int32, x13 = ((tF t 9 x2_) * r10) → (x2_ < tN t9 0 ∧ (∀ x15 : Int64, x15 = ((tF t9 4 x2_).toInt64) → (∀ x16 : Int32, x16 = (x3_ + (1 : Int32)) → (∃ nn : Nat, wp_C_foretold_57 mc ms post nn (uc + c11) (us + s12) t9 x2_ x3_ t0_ x13 x15 x16)))))))
set_option maxHeartbeats 4000000 in
set_option maxRecDepth 100000 in
theorem b_C_foretold_31 {p : Program} {l : Launch} {e : Env} {s : State} {m : MethodId} {args : Array Value} {below : List Frame} {meth : Method} {c : Code} {D : va_G} {Z : Nat → ClassId} {E : Nat → Nat} {ad : Nat → Nat → Nat} {A : Nat → Prop} (C : CC p s m args c cX10_foretold 9 RX10 D Z E A) (hr : meth.sig.returnType = some .int) (hk : meth.locks = false) {mc ms : Nat} {post : Int32 → CS → Prop} : ∀ (uc us : Nat) (t : CS) (x2_ : Nat) (x3_ : Int32) (t0_ : Int32), wp_C_foretold_31 mc ms post uc us t x2_ x3_ t0_ → (uc ≤ mc ∧ us ≤ ms) → ∀ (H : Heap) (locs : List Loc) (ls : Array Slot), CH D Z E ad A s.heap t H locs → lv_has ls 9 [(0, .ref (ad 5 0)), (2, .ref (ad 0 x2_)), (3, .int x3_)] → CWi p l e (rm_C_foretold mc ms) s m args below meth c D Z E ad A mc ms post H locs uc us (F0 m 31 ls [.int t0_]) := by
  obtain ⟨⟨hx, hb, hml, hown, hts⟩, hK⟩ := id C
  intro uc us t x2_ x3_ t0_ hw hu H locs ls hH hl
  unfold wp_C_foretold_31 at hw
  refine lv_istore (lv' := [(4, .int t0_), (0, .ref (ad 5 0)), (2, .ref (ad 0 x2_)), (3, .int x3_)]) hx hb dX10_foretold_31 hl (by decide) rfl (fun ls hl => ?_)
  refine lv_aload_n hx hb dX10_foretold_33 rfl (lv_at hl 2 rfl) ?_
  obtain ⟨h8, hw⟩ := hw
  refine cg C hH 0 x2_ (by decide) h8 rfl rfl ixX0 9 (by decide) rfl wd_81 rfl dX10_foretold_34 ?_
  refine lv_aload_n hx hb dX10_foretold_37 rfl (lv_at hl 1 rfl) ?_
  refine lv_aload_n hx hb dX10_foretold_38 rfl (lv_at hl 2 rfl) ?_
  obtain ⟨c11, s12, hu, hw⟩ := hw
  refine ccVi C hH (crecv C hH 5 0 (by decide) (Nat.le_of_ble_eq_true rfl) rfl rfl (q := (RX10, TX10, 13))) [.ref (ad 0 x2_)] (c_C_gatherHurtAndCountOld l D Z E ad c11 s12 t x2_ _ hw) (cwTV 1 hts wd_996 wd_998 ws_41 wd_1 wd_999 rfl rfl (by decide +kernel) ⟨Nat.le_of_ble_eq_true rfl, Nat.le_of_ble_eq_true rfl⟩) rfl hl.1 rfl (Nat.le_of_ble_eq_true rfl) dX10_foretold_39 hu (fun r10 t9 H locs hw hH => ?_)
  refine lv_imul hx hb dX10_foretold_42 ?_
  refine lv_topi (fun x13 ex13 => ?_)
  have hw := hw x13 ex13
  refine lv_istore (lv' := [(5, .int x13), (4, .int t0_), (0, .ref (ad 5 0)), (2, .ref (ad 0 x2_)), (3, .int x3_)]) hx hb dX10_foretold_43 hl (by decide) rfl (fun ls hl => ?_)
  refine lv_aload_n hx hb dX10_foretold_45 rfl (lv_at hl 3 rfl) ?_
  obtain ⟨h14, hw⟩ := hw
  refine cg C hH 0 x2_ (by decide) h14 rfl rfl ixX0 4 (by decide) rfl wd_74 rfl dX10_foretold_46 ?_
  refine lv_i2l hx hb dX10_foretold_49 rfl ?_
  refine lv_topl (fun x15 ex15 => ?_)
  have hw := hw x15 ex15
  refine lv_lstore (lv' := [(6, .long x15), (5, .int x13), (4, .int t0_), (0, .ref (ad 5 0)), (2, .ref (ad 0 x2_)), (3, .int x3_)]) hx hb dX10_foretold_50 hl (by decide) rfl (fun ls hl => ?_)
  refine lv_iload_n hx hb dX10_foretold_52 rfl (lv_at hl 5 rfl) ?_
  refine lv_iconst (v := 1) hx hb dX10_foretold_53 (by decide) ?_
  refine lv_iadd hx hb dX10_foretold_54 ?_
  refine lv_topi (fun x16 ex16 => ?_)
  have hw := hw x16 ex16
  refine lv_istore (lv' := [(8, .int x16), (6, .long x15), (5, .int x13), (4, .int t0_), (0, .ref (ad 5 0)), (2, .ref (ad 0 x2_)), (3, .int x3_)]) hx hb dX10_foretold_55 hl (by decide) rfl (fun ls hl => ?_)
  obtain ⟨nn, hw⟩ := hw
  exact b_C_foretold_57 C hr hk  nn (uc + c11) (us + s12) t9 x2_ x3_ t0_ x13 x15 x16 hw hu _ _ _ hH (lv_sub hl [4, 5, 6, 3, 2, 1, 0] rfl)
def wp_C_foretold (mc ms : Nat) (t : CS) (a1 : Int32) (post : Int32 → CS → Prop) : Prop := wp_C_fellowshipAt t a1 (fun o18 t17 => oM o18 (post (-1 : Int32) t17) (fun j19 => wp_C_today t17  (fun r21 t20 => if r21 ≤ 0 then (wp_C_foretold_31 mc ms post 0 0 t20 j19 r21 (0 : Int32)) else (j19 < tN t20 0 ∧ (¬ r21 = 0 ∧ (wp_C_foretold_31 mc ms post 0 0 t20 j19 r21 ((tF t20 6 j19) / r21)))))))
set_option maxHeartbeats 4000000 in
set_option maxRecDepth 100000 in
theorem c_C_foretold (l : Launch) (D : va_G) (Z : Nat → ClassId) (E : Nat → Nat) (ad : Nat → Nat → Nat) (mc ms : Nat) (t : CS) (a1 : Int32) (post : Int32 → CS → Prop) (hw : wp_C_foretold mc ms t a1 post) (L : List Nat) (sz : Nat) : Met l yX10_foretold (Wd yX10_foretold cX10_foretold 9 (some .int)) (rm_C_foretold mc ms) (va_Pc [.ref (ad 5 0), .int a1] (cPre D Z E ad L sz t)) (va_Qi post (cPost D Z E ad (cAs L sz)) (cAs L sz)) mc ms (cAs L sz) := by
  refine cMet (Qc := fun A => va_Qi post (cPost D Z E ad A) A) (by decide) rfl _ (Nat.le_of_ble_eq_true rfl) (fun p e s m args below meth c A C hr hk ls hl hH => ?_) L sz
  obtain ⟨⟨hx, hb, hml, hown, hts⟩, hK⟩ := id C
  have hl : lv_has ls 9 [(0, .ref (ad 5 0)), (1, .int a1)] := hl
  have hu : 0 ≤ mc ∧ 0 ≤ ms := ⟨Nat.zero_le _, Nat.zero_le _⟩
  unfold wp_C_foretold at hw
  refine lv_aload_n hx hb dX10_foretold_0 rfl (lv_at hl 0 rfl) ?_
  refine lv_iload_n hx hb dX10_foretold_1 rfl (lv_at hl 1 rfl) ?_
  refine ccVq0 C hH (crecv C hH 5 0 (by decide) (Nat.le_of_ble_eq_true rfl) rfl rfl (q := (RX10, TX10, 13))) [.int a1] (c_C_fellowshipAt l D Z E ad t a1 _ hw) (cwTV 1 hts wd_370 wd_372 ws_5 wd_1 wd_373 rfl rfl (by decide +kernel) ⟨Nat.le_of_ble_eq_true rfl, Nat.le_of_ble_eq_true rfl⟩) rfl hl.1 rfl (Nat.le_of_ble_eq_true rfl) dX10_foretold_2 hu (fun o18 t17 H locs hw hH => ?_)
  refine lq_astore_n (lv' := [(2, va_rf (o18.map (ad 0))), (0, .ref (ad 5 0)), (1, .int a1)]) hx hb dX10_foretold_5 rfl hl (by decide) rfl (fun ls hl => ?_)
  refine lq_aload_n hx hb dX10_foretold_6 rfl (lv_at hl 0 rfl) ?_
  cases o18 with
  | none =>
    have hw := oM_none hw
    have hl : lv_has ls 9 [(2, va_rf (none.map (ad 0))), (0, .ref (ad 5 0)), (1, .int a1)] := hl
    refine lv_ifnonnullN hx hb dX10_foretold_7 ?_
    refine lv_iconst (v := -1) hx hb dX10_foretold_10 (by decide) ?_
    exact cri C hr hk hH hu.1 hu.2 hw dX10_foretold_11
  | some j19 =>
    have hw := oM_some hw
    have hl : lv_has ls 9 [(2, .ref (ad 0 j19)), (0, .ref (ad 5 0)), (1, .int a1)] := hl
    refine lv_ifnonnull (tgt := 12) hx hb dX10_foretold_7 (by decide) ?_
    refine lv_aload_n hx hb dX10_foretold_12 rfl (lv_at hl 1 rfl) ?_
    refine ccVi0 C hH (crecv C hH 5 0 (by decide) (Nat.le_of_ble_eq_true rfl) rfl rfl (q := (RX10, TX10, 13))) [] (c_C_today l D Z E ad t17  _ hw) (cwTV 0 hts wd_636 wd_638 ws_20 wd_1 wd_639 rfl rfl (by decide +kernel) ⟨Nat.le_of_ble_eq_true rfl, Nat.le_of_ble_eq_true rfl⟩) rfl hl.1 rfl (Nat.le_of_ble_eq_true rfl) dX10_foretold_13 hu (fun r21 t20 H locs hw hH => ?_)
    refine lv_istore_n (lv' := [(3, .int r21), (2, .ref (ad 0 j19)), (0, .ref (ad 5 0)), (1, .int a1)]) hx hb dX10_foretold_16 rfl hl (by decide) rfl (fun ls hl => ?_)
    refine lv_iload_n hx hb dX10_foretold_17 rfl (lv_at hl 0 rfl) ?_
    refine lv_if_le (tgt := 30) hx hb dX10_foretold_18 (by decide) (fun c22 => ?_) (fun c22 => ?_)
    · have hw := ifp c22 hw
      refine lv_iconst (v := 0) hx hb dX10_foretold_30 (by decide) ?_
      exact b_C_foretold_31 C hr hk  0 0 t20 j19 r21 (0 : Int32) hw hu _ _ _ hH (lv_sub hl [2, 1, 0] rfl)
    · have hw := ifn c22 hw
      refine lv_aload_n hx hb dX10_foretold_21 rfl (lv_at hl 1 rfl) ?_
      obtain ⟨h23, hw⟩ := hw
      refine cg C hH 0 j19 (by decide) h23 rfl rfl ixX0 6 (by decide) rfl wd_77 rfl dX10_foretold_22 ?_
      refine lv_iload_n hx hb dX10_foretold_25 rfl (lv_at hl 0 rfl) ?_
      obtain ⟨h24, hw⟩ := hw
      refine lv_idiv hx hb dX10_foretold_26 h24 ?_
      refine lv_goto (tgt := 31) hx hb dX10_foretold_27 (by decide) ?_
      exact b_C_foretold_31 C hr hk  0 0 t20 j19 r21 ((tF t20 6 j19) / r21) hw hu _ _ _ hH (lv_sub hl [2, 1, 0] rfl)
/-! PorterTurns.fund -/
abbrev rm_C_fund : Room := { frames := 4, cells := 0, slots := 0, locals := 102 }
def wp_C_fund (t : CS) (a1 : Int32) (a2 : Int32) (post : Int32 → CS → Prop) : Prop := wp_C_fellowshipAt t a1 (fun o2 t1 => oM o2 (post (-1 : Int32) t1) (fun j3 => if a2 = (0 : Int32) then (j3 < tN t1 0 ∧ (post (tF t1 4 j3) t1)) else (if a2 = (1 : Int32) then (j3 < tN t1 0 ∧ (post (tF t1 5 j3) t1)) else (if a2 = (2 : Int32) then (j3 < tN t1 0 ∧ (post (tF t1 7 j3) t1)) else (post (-1 : Int32) t1)))))
set_option maxHeartbeats 4000000 in
set_option maxRecDepth 100000 in
theorem c_C_fund (l : Launch) (D : va_G) (Z : Nat → ClassId) (E : Nat → Nat) (ad : Nat → Nat → Nat) (t : CS) (a1 : Int32) (a2 : Int32) (post : Int32 → CS → Prop) (hw : wp_C_fund t a1 a2 post) (L : List Nat) (sz : Nat) : Met l yX10_fund (Wd yX10_fund cX10_fund 4 (some .int)) rm_C_fund (va_Pc [.ref (ad 5 0), .int a1, .int a2] (cPre D Z E ad L sz t)) (va_Qi post (cPost D Z E ad (cAs L sz)) (cAs L sz)) 0 0 (cAs L sz) := by
  refine cMet (Qc := fun A => va_Qi post (cPost D Z E ad A) A) (by decide) rfl _ (Nat.le_of_ble_eq_true rfl) (fun p e s m args below meth c A C hr hk ls hl hH => ?_) L sz
  obtain ⟨⟨hx, hb, hml, hown, hts⟩, hK⟩ := id C
  have hl : lv_has ls 4 [(0, .ref (ad 5 0)), (1, .int a1), (2, .int a2)] := hl
  unfold wp_C_fund at hw
  refine lv_aload_n hx hb dX10_fund_0 rfl (lv_at hl 0 rfl) ?_
  refine lv_iload_n hx hb dX10_fund_1 rfl (lv_at hl 1 rfl) ?_
  refine ccVq0 C hH (crecv C hH 5 0 (by decide) (Nat.le_of_ble_eq_true rfl) rfl rfl (q := (RX10, TX10, 13))) [.int a1] (c_C_fellowshipAt l D Z E ad t a1 _ hw) (cwTV 1 hts wd_370 wd_372 ws_5 wd_1 wd_373 rfl rfl (by decide +kernel) ⟨Nat.le_of_ble_eq_true rfl, Nat.le_of_ble_eq_true rfl⟩) rfl hl.1 rfl (Nat.le_of_ble_eq_true rfl) dX10_fund_2 ⟨Nat.zero_le _, Nat.zero_le _⟩ (fun o2 t1 H locs hw hH => ?_)
  refine lq_astore_n (lv' := [(3, va_rf (o2.map (ad 0))), (0, .ref (ad 5 0)), (1, .int a1), (2, .int a2)]) hx hb dX10_fund_5 rfl hl (by decide) rfl (fun ls hl => ?_)
  refine lq_aload_n hx hb dX10_fund_6 rfl (lv_at hl 0 rfl) ?_
  cases o2 with
  | none =>
    have hw := oM_none hw
    have hl : lv_has ls 4 [(3, va_rf (none.map (ad 0))), (0, .ref (ad 5 0)), (1, .int a1), (2, .int a2)] := hl
    refine lv_ifnonnullN hx hb dX10_fund_7 ?_
    refine lv_iconst (v := -1) hx hb dX10_fund_10 (by decide) ?_
    exact cri C hr hk hH (Nat.zero_le _) (Nat.zero_le _) hw dX10_fund_11
  | some j3 =>
    have hw := oM_some hw
    have hl : lv_has ls 4 [(3, .ref (ad 0 j3)), (0, .ref (ad 5 0)), (1, .int a1), (2, .int a2)] := hl
    refine lv_ifnonnull (tgt := 12) hx hb dX10_fund_7 (by decide) ?_
    refine lv_iload_n hx hb dX10_fund_12 rfl (lv_at hl 3 rfl) ?_
    by_cases c4 : a2 = (0 : Int32)
    · have hw := ifp c4 hw
      refine lv_tableIn (tgt := 40) hx hb dX10_fund_13 (by rw [c4]; decide) (by rw [c4]; decide) (by rw [c4]; rfl) (by decide) ?_
      refine lv_aload_n hx hb dX10_fund_40 rfl (lv_at hl 0 rfl) ?_
      obtain ⟨h5, hw⟩ := hw
      refine cg C hH 0 j3 (by decide) h5 rfl rfl ixX0 4 (by decide) rfl wd_74 rfl dX10_fund_41 ?_
      exact cri C hr hk hH (Nat.zero_le _) (Nat.zero_le _) hw dX10_fund_44
    have hw := ifn c4 hw
    by_cases c6 : a2 = (1 : Int32)
    · have hw := ifp c6 hw
      refine lv_tableIn (tgt := 45) hx hb dX10_fund_13 (by rw [c6]; decide) (by rw [c6]; decide) (by rw [c6]; rfl) (by decide) ?_
      refine lv_aload_n hx hb dX10_fund_45 rfl (lv_at hl 0 rfl) ?_
      obtain ⟨h7, hw⟩ := hw
      refine cg C hH 0 j3 (by decide) h7 rfl rfl ixX0 5 (by decide) rfl wd_76 rfl dX10_fund_46 ?_
      exact cri C hr hk hH (Nat.zero_le _) (Nat.zero_le _) hw dX10_fund_49
    have hw := ifn c6 hw
    by_cases c8 : a2 = (2 : Int32)
    · have hw := ifp c8 hw
      refine lv_tableIn (tgt := 50) hx hb dX10_fund_13 (by rw [c8]; decide) (by rw [c8]; decide) (by rw [c8]; rfl) (by decide) ?_
      refine lv_aload_n hx hb dX10_fund_50 rfl (lv_at hl 0 rfl) ?_
      obtain ⟨h9, hw⟩ := hw
      refine cg C hH 0 j3 (by decide) h9 rfl rfl ixX0 7 (by decide) rfl wd_79 rfl dX10_fund_51 ?_
      exact cri C hr hk hH (Nat.zero_le _) (Nat.zero_le _) hw dX10_fund_54
    have hw := ifn c8 hw
    refine lv_tableOut (tgt := 55) hx hb dX10_fund_13 (by have := sw_ne c4 0 (by decide); have := sw_ne c6 1 (by decide); have := sw_ne c8 2 (by decide); omega) (by decide) ?_
    refine lv_iconst (v := -1) hx hb dX10_fund_55 (by decide) ?_
    exact cri C hr hk hH (Nat.zero_le _) (Nat.zero_le _) hw dX10_fund_56
/-! PorterTurns.loadsIn -/
abbrev rm_C_loadsIn : Room := { frames := 3, cells := 0, slots := 0, locals := 81 }
def wp_C_loadsIn_36 (k4 : CS → Int32 → Int32 → Int32 → Prop) (post : Int32 → CS → Prop) (t : CS) (x1_ : Int32) (x2_ : Int32) (x3_ : Int32) : Prop := ∀ x1 : Int32, x1 = x3_ + (1 : Int32) → (k4 t x1_ x2_ x1)
set_option maxHeartbeats 4000000 in
set_option maxRecDepth 100000 in
theorem b_C_loadsIn_36 {p : Program} {l : Launch} {e : Env} {s : State} {m : MethodId} {args : Array Value} {below : List Frame} {meth : Method} {c : Code} {D : va_G} {Z : Nat → ClassId} {E : Nat → Nat} {ad : Nat → Nat → Nat} {A : Nat → Prop} (C : CC p s m args c cX10_loadsIn 4 RX10 D Z E A) (hr : meth.sig.returnType = some .int) (hk : meth.locks = false) {post : Int32 → CS → Prop} {k4 : CS → Int32 → Int32 → Int32 → Prop} (hk4 : ∀ (t : CS) (y1 : Int32) (y2 : Int32) (y3 : Int32), k4 t y1 y2 y3 → ∀ (H : Heap) (locs : List Loc) (ls : Array Slot), CH D Z E ad A s.heap t H locs → lv_has ls 4 [(0, .ref (ad 5 0)), (1, .int y1), (2, .int y2), (3, .int y3)] → CWi p l e rm_C_loadsIn s m args below meth c D Z E ad A 0 0 post H locs 0 0 (F0 m 4 ls [])) : ∀ (t : CS) (x1_ : Int32) (x2_ : Int32) (x3_ : Int32), wp_C_loadsIn_36 k4 post t x1_ x2_ x3_ → ∀ (H : Heap) (locs : List Loc) (ls : Array Slot), CH D Z E ad A s.heap t H locs → lv_has ls 4 [(0, .ref (ad 5 0)), (1, .int x1_), (2, .int x2_), (3, .int x3_)] → CWi p l e rm_C_loadsIn s m args below meth c D Z E ad A 0 0 post H locs 0 0 (F0 m 36 ls []) := by
  obtain ⟨⟨hx, hb, hml, hown, hts⟩, hK⟩ := id C
  intro t x1_ x2_ x3_ hw H locs ls hH hl
  unfold wp_C_loadsIn_36 at hw
  obtain ⟨x1, ex1⟩ : ∃ y : Int32, y = x3_ + (1 : Int32) := ⟨_, rfl⟩
  have hw := hw x1 ex1
  refine lv_iinc (v := x1) (lv' := [(3, .int x1), (0, .ref (ad 5 0)), (1, .int x1_), (2, .int x2_)]) hx hb dX10_loadsIn_36 hl (k := 3) rfl (by rw [ex1]; rfl) (by decide) rfl (fun ls hl => ?_)
  refine lv_goto (tgt := 4) hx hb dX10_loadsIn_39 (by decide) ?_
  exact hk4 t x1_ x2_ x1 hw _ _ _ hH (lv_sub hl [1, 2, 3, 0] rfl)
def wp_C_loadsIn_4 (post : Int32 → CS → Prop) : Nat → CS → Int32 → Int32 → Int32 → Prop
  | 0 => fun _ _ _ _ => False
  | n + 1 => fun t x1_ x2_ x3_ => if (nI (tT t 2).length) ≤ x3_ then (post x2_ t) else (vp_in x3_ (tT t 2).length ∧ ((tT t 2).length < 2 ^ 31 ∧ (∀ j5 : Nat, j5 = ((tT t 2).getD x3_.toNatClampNeg 0) → (j5 < tN t 2 ∧ (if (tF t 75 j5) = x1_ then (∀ x8 : Int32, x8 = x2_ + (1 : Int32) → (wp_C_loadsIn_36 (wp_C_loadsIn_4 post n) post t x1_ x8 x3_)) else (wp_C_loadsIn_36 (wp_C_loadsIn_4 post n) post t x1_ x2_ x3_))))))
set_option maxHeartbeats 4000000 in
set_option maxRecDepth 100000 in
theorem b_C_loadsIn_4 {p : Program} {l : Launch} {e : Env} {s : State} {m : MethodId} {args : Array Value} {below : List Frame} {meth : Method} {c : Code} {D : va_G} {Z : Nat → ClassId} {E : Nat → Nat} {ad : Nat → Nat → Nat} {A : Nat → Prop} (C : CC p s m args c cX10_loadsIn 4 RX10 D Z E A) (hr : meth.sig.returnType = some .int) (hk : meth.locks = false) {post : Int32 → CS → Prop} : ∀ (n : Nat) (t : CS) (x1_ : Int32) (x2_ : Int32) (x3_ : Int32), wp_C_loadsIn_4 post n t x1_ x2_ x3_ → ∀ (H : Heap) (locs : List Loc) (ls : Array Slot), CH D Z E ad A s.heap t H locs → lv_has ls 4 [(0, .ref (ad 5 0)), (1, .int x1_), (2, .int x2_), (3, .int x3_)] → CWi p l e rm_C_loadsIn s m args below meth c D Z E ad A 0 0 post H locs 0 0 (F0 m 4 ls []) := by
  obtain ⟨⟨hx, hb, hml, hown, hts⟩, hK⟩ := id C
  intro n
  induction n with
  | zero => intro t x1_ x2_ x3_ hw; exact hw.elim
  | succ n ih =>
    intro t x1_ x2_ x3_ hw H locs ls hH hl
    unfold wp_C_loadsIn_4 at hw
    refine lv_iload_n hx hb dX10_loadsIn_4 rfl (lv_at hl 3 rfl) ?_
    refine lv_aload_n hx hb dX10_loadsIn_5 rfl (lv_at hl 0 rfl) ?_
    refine cg C hH 5 0 (by decide) (Nat.le_of_ble_eq_true rfl) rfl rfl ixX10 2 (by decide) rfl wd_238 rfl dX10_loadsIn_6 ?_
    refine lSize C hH 2 (Nat.lt_of_lt_of_le (show 2 < 11 by decide) (Nat.le_add_left _ _)) wd_283 hl.1 (Nat.le_of_ble_eq_true rfl) dX10_loadsIn_9 ⟨Nat.zero_le _, Nat.zero_le _⟩ ⟨Nat.le_of_ble_eq_true rfl, Nat.le_of_ble_eq_true rfl⟩ (fun H locs hH => ?_)
    refine lv_icmp_ge (tgt := 42) hx hb dX10_loadsIn_12 (by decide) (fun c2 => ?_) (fun c2 => ?_)
    · have hw := ifp c2 hw
      refine lv_iload_n hx hb dX10_loadsIn_42 rfl (lv_at hl 2 rfl) ?_
      exact cri C hr hk hH (Nat.zero_le _) (Nat.zero_le _) hw dX10_loadsIn_43
    · have hw := ifn c2 hw
      refine lv_aload_n hx hb dX10_loadsIn_15 rfl (lv_at hl 0 rfl) ?_
      refine cg C hH 5 0 (by decide) (Nat.le_of_ble_eq_true rfl) rfl rfl ixX10 2 (by decide) rfl wd_238 rfl dX10_loadsIn_16 ?_
      refine lv_iload_n hx hb dX10_loadsIn_19 rfl (lv_at hl 3 rfl) ?_
      obtain ⟨h3, hw⟩ := hw
      obtain ⟨h4, hw⟩ := hw
      refine lGet C hH 2 (Nat.lt_of_lt_of_le (show 2 < 11 by decide) (Nat.le_add_left _ _)) h3 h4 wd_320 hl.1 (Nat.le_of_ble_eq_true rfl) dX10_loadsIn_20 ⟨Nat.zero_le _, Nat.zero_le _⟩ ⟨Nat.le_of_ble_eq_true rfl, Nat.le_of_ble_eq_true rfl⟩ (fun H locs hH => ?_)
      obtain ⟨j5, ej5⟩ : ∃ x : Nat, x = ((tT t 2).getD x3_.toNatClampNeg 0) := ⟨_, rfl⟩
      rw [← ej5]
      have hw := hw j5 ej5
      obtain ⟨h6, hw⟩ := hw
      refine cCast C hH 2 j5 (by decide) h6 rfl rfl wd_702 dX10_loadsIn_23 ?_
      refine cg C hH 2 j5 (by decide) h6 rfl rfl ixX2 11 (by decide) rfl wd_806 rfl dX10_loadsIn_26 ?_
      refine lv_iload_n hx hb dX10_loadsIn_29 rfl (lv_at hl 1 rfl) ?_
      refine lv_icmp_ne (tgt := 36) hx hb dX10_loadsIn_30 (by decide) (fun c7 => ?_) (fun c7 => ?_)
      · have hw := ifn c7 hw
        exact b_C_loadsIn_36 C hr hk ih t x1_ x2_ x3_ hw _ _ _ hH (lv_sub hl [0, 1, 2, 3] rfl)
      · have hw := ifp c7 hw
        obtain ⟨x8, ex8⟩ : ∃ y : Int32, y = x2_ + (1 : Int32) := ⟨_, rfl⟩
        have hw := hw x8 ex8
        refine lv_iinc (v := x8) (lv' := [(2, .int x8), (0, .ref (ad 5 0)), (1, .int x1_), (3, .int x3_)]) hx hb dX10_loadsIn_33 hl (k := 2) rfl (by rw [ex8]; rfl) (by decide) rfl (fun ls hl => ?_)
        exact b_C_loadsIn_36 C hr hk ih t x1_ x8 x3_ hw _ _ _ hH (lv_sub hl [1, 2, 0, 3] rfl)
def wp_C_loadsIn (t : CS) (a1 : Int32) (post : Int32 → CS → Prop) : Prop := ∃ nn : Nat, wp_C_loadsIn_4 post nn t a1 (0 : Int32) (0 : Int32)
set_option maxHeartbeats 4000000 in
set_option maxRecDepth 100000 in
theorem c_C_loadsIn (l : Launch) (D : va_G) (Z : Nat → ClassId) (E : Nat → Nat) (ad : Nat → Nat → Nat) (t : CS) (a1 : Int32) (post : Int32 → CS → Prop) (hw : wp_C_loadsIn t a1 post) (L : List Nat) (sz : Nat) : Met l yX10_loadsIn (Wd yX10_loadsIn cX10_loadsIn 4 (some .int)) rm_C_loadsIn (va_Pc [.ref (ad 5 0), .int a1] (cPre D Z E ad L sz t)) (va_Qi post (cPost D Z E ad (cAs L sz)) (cAs L sz)) 0 0 (cAs L sz) := by
  refine cMet (Qc := fun A => va_Qi post (cPost D Z E ad A) A) (by decide) rfl _ (Nat.le_of_ble_eq_true rfl) (fun p e s m args below meth c A C hr hk ls hl hH => ?_) L sz
  obtain ⟨⟨hx, hb, hml, hown, hts⟩, hK⟩ := id C
  have hl : lv_has ls 4 [(0, .ref (ad 5 0)), (1, .int a1)] := hl
  unfold wp_C_loadsIn at hw
  refine lv_iconst (v := 0) hx hb dX10_loadsIn_0 (by decide) ?_
  refine lv_istore_n (lv' := [(2, .int (0 : Int32)), (0, .ref (ad 5 0)), (1, .int a1)]) hx hb dX10_loadsIn_1 rfl hl (by decide) rfl (fun ls hl => ?_)
  refine lv_iconst (v := 0) hx hb dX10_loadsIn_2 (by decide) ?_
  refine lv_istore_n (lv' := [(3, .int (0 : Int32)), (2, .int (0 : Int32)), (0, .ref (ad 5 0)), (1, .int a1)]) hx hb dX10_loadsIn_3 rfl hl (by decide) rfl (fun ls hl => ?_)
  obtain ⟨nn, hw⟩ := hw
  exact b_C_loadsIn_4 C hr hk  nn t a1 (0 : Int32) (0 : Int32) hw _ _ _ hH (lv_sub hl [2, 3, 1, 0] rfl)
/-! PorterTurns.allWaiting -/
abbrev rm_C_allWaiting : Room := { frames := 3, cells := 0, slots := 0, locals := 81 }
def wp_C_allWaiting_4 (post : Int32 → CS → Prop) : Nat → CS → Int32 → Int32 → Prop
  | 0 => fun _ _ _ => False
  | n + 1 => fun t x1_ x2_ => if (nI (tT t 2).length) ≤ x2_ then (post x1_ t) else (vp_in x2_ (tT t 2).length ∧ ((tT t 2).length < 2 ^ 31 ∧ (∀ j4 : Nat, j4 = ((tT t 2).getD x2_.toNatClampNeg 0) → (j4 < tN t 2 ∧ (wp_Load_waitedBy t j4 (tF t 171 0) (fun r7 t6 => ∀ x8 : Int32, x8 = (x1_ + r7) → (∀ x9 : Int32, x9 = x2_ + (1 : Int32) → (wp_C_allWaiting_4 post n t6 x8 x9))))))))
set_option maxHeartbeats 4000000 in
set_option maxRecDepth 100000 in
theorem b_C_allWaiting_4 {p : Program} {l : Launch} {e : Env} {s : State} {m : MethodId} {args : Array Value} {below : List Frame} {meth : Method} {c : Code} {D : va_G} {Z : Nat → ClassId} {E : Nat → Nat} {ad : Nat → Nat → Nat} {A : Nat → Prop} (C : CC p s m args c cX10_allWaiting 3 RX10 D Z E A) (hr : meth.sig.returnType = some .int) (hk : meth.locks = false) {post : Int32 → CS → Prop} : ∀ (n : Nat) (t : CS) (x1_ : Int32) (x2_ : Int32), wp_C_allWaiting_4 post n t x1_ x2_ → ∀ (H : Heap) (locs : List Loc) (ls : Array Slot), CH D Z E ad A s.heap t H locs → lv_has ls 3 [(0, .ref (ad 5 0)), (1, .int x1_), (2, .int x2_)] → CWi p l e rm_C_allWaiting s m args below meth c D Z E ad A 0 0 post H locs 0 0 (F0 m 4 ls []) := by
  obtain ⟨⟨hx, hb, hml, hown, hts⟩, hK⟩ := id C
  intro n
  induction n with
  | zero => intro t x1_ x2_ hw; exact hw.elim
  | succ n ih =>
    intro t x1_ x2_ hw H locs ls hH hl
    unfold wp_C_allWaiting_4 at hw
    refine lv_iload_n hx hb dX10_allWaiting_4 rfl (lv_at hl 2 rfl) ?_
    refine lv_aload_n hx hb dX10_allWaiting_5 rfl (lv_at hl 0 rfl) ?_
    refine cg C hH 5 0 (by decide) (Nat.le_of_ble_eq_true rfl) rfl rfl ixX10 2 (by decide) rfl wd_238 rfl dX10_allWaiting_6 ?_
    refine lSize C hH 2 (Nat.lt_of_lt_of_le (show 2 < 11 by decide) (Nat.le_add_left _ _)) wd_283 hl.1 (Nat.le_of_ble_eq_true rfl) dX10_allWaiting_9 ⟨Nat.zero_le _, Nat.zero_le _⟩ ⟨Nat.le_of_ble_eq_true rfl, Nat.le_of_ble_eq_true rfl⟩ (fun H locs hH => ?_)
    refine lv_icmp_ge (tgt := 42) hx hb dX10_allWaiting_12 (by decide) (fun c1 => ?_) (fun c1 => ?_)
    · have hw := ifp c1 hw
      refine lv_iload_n hx hb dX10_allWaiting_42 rfl (lv_at hl 1 rfl) ?_
      exact cri C hr hk hH (Nat.zero_le _) (Nat.zero_le _) hw dX10_allWaiting_43
    · have hw := ifn c1 hw
      refine lv_iload_n hx hb dX10_allWaiting_15 rfl (lv_at hl 1 rfl) ?_
      refine lv_aload_n hx hb dX10_allWaiting_16 rfl (lv_at hl 0 rfl) ?_
      refine cg C hH 5 0 (by decide) (Nat.le_of_ble_eq_true rfl) rfl rfl ixX10 2 (by decide) rfl wd_238 rfl dX10_allWaiting_17 ?_
      refine lv_iload_n hx hb dX10_allWaiting_20 rfl (lv_at hl 2 rfl) ?_
      obtain ⟨h2, hw⟩ := hw
      obtain ⟨h3, hw⟩ := hw
      refine lGet C hH 2 (Nat.lt_of_lt_of_le (show 2 < 11 by decide) (Nat.le_add_left _ _)) h2 h3 wd_320 hl.1 (Nat.le_of_ble_eq_true rfl) dX10_allWaiting_21 ⟨Nat.zero_le _, Nat.zero_le _⟩ ⟨Nat.le_of_ble_eq_true rfl, Nat.le_of_ble_eq_true rfl⟩ (fun H locs hH => ?_)
      obtain ⟨j4, ej4⟩ : ∃ x : Nat, x = ((tT t 2).getD x2_.toNatClampNeg 0) := ⟨_, rfl⟩
      rw [← ej4]
      have hw := hw j4 ej4
      obtain ⟨h5, hw⟩ := hw
      refine cCast C hH 2 j4 (by decide) h5 rfl rfl wd_702 dX10_allWaiting_24 ?_
      refine lv_aload_n hx hb dX10_allWaiting_27 rfl (lv_at hl 0 rfl) ?_
      refine cg C hH 5 0 (by decide) (Nat.le_of_ble_eq_true rfl) rfl rfl ixX10 11 (by decide) rfl wd_247 rfl dX10_allWaiting_28 ?_
      refine ccVi0 C hH (crecv C hH 2 j4 (by decide) h5 rfl rfl (q := (RX2, TX2, 19))) [.int (tF t 171 0)] (c_Load_waitedBy l D Z E ad t j4 (tF t 171 0) _ hw) (cwTV 1 hts wd_931 wd_932 wd_933 wd_24 wd_934 rfl rfl (by decide +kernel) ⟨Nat.le_of_ble_eq_true rfl, Nat.le_of_ble_eq_true rfl⟩) rfl hl.1 rfl (Nat.le_of_ble_eq_true rfl) dX10_allWaiting_31 ⟨Nat.zero_le _, Nat.zero_le _⟩ (fun r7 t6 H locs hw hH => ?_)
      refine lv_iadd hx hb dX10_allWaiting_34 ?_
      refine lv_topi (fun x8 ex8 => ?_)
      have hw := hw x8 ex8
      refine lv_istore_n (lv' := [(1, .int x8), (0, .ref (ad 5 0)), (2, .int x2_)]) hx hb dX10_allWaiting_35 rfl hl (by decide) rfl (fun ls hl => ?_)
      obtain ⟨x9, ex9⟩ : ∃ y : Int32, y = x2_ + (1 : Int32) := ⟨_, rfl⟩
      have hw := hw x9 ex9
      refine lv_iinc (v := x9) (lv' := [(2, .int x9), (1, .int x8), (0, .ref (ad 5 0))]) hx hb dX10_allWaiting_36 hl (k := 2) rfl (by rw [ex9]; rfl) (by decide) rfl (fun ls hl => ?_)
      refine lv_goto (tgt := 4) hx hb dX10_allWaiting_39 (by decide) ?_
      exact ih t6 x8 x9 hw _ _ _ hH (lv_sub hl [2, 1, 0] rfl)
def wp_C_allWaiting (t : CS) (post : Int32 → CS → Prop) : Prop := ∃ nn : Nat, wp_C_allWaiting_4 post nn t (0 : Int32) (0 : Int32)
set_option maxHeartbeats 4000000 in
set_option maxRecDepth 100000 in
theorem c_C_allWaiting (l : Launch) (D : va_G) (Z : Nat → ClassId) (E : Nat → Nat) (ad : Nat → Nat → Nat) (t : CS) (post : Int32 → CS → Prop) (hw : wp_C_allWaiting t  post) (L : List Nat) (sz : Nat) : Met l yX10_allWaiting (Wd yX10_allWaiting cX10_allWaiting 3 (some .int)) rm_C_allWaiting (va_Pc [.ref (ad 5 0)] (cPre D Z E ad L sz t)) (va_Qi post (cPost D Z E ad (cAs L sz)) (cAs L sz)) 0 0 (cAs L sz) := by
  refine cMet (Qc := fun A => va_Qi post (cPost D Z E ad A) A) (by decide) rfl _ (Nat.le_of_ble_eq_true rfl) (fun p e s m args below meth c A C hr hk ls hl hH => ?_) L sz
  obtain ⟨⟨hx, hb, hml, hown, hts⟩, hK⟩ := id C
  have hl : lv_has ls 3 [(0, .ref (ad 5 0))] := hl
  unfold wp_C_allWaiting at hw
  refine lv_iconst (v := 0) hx hb dX10_allWaiting_0 (by decide) ?_
  refine lv_istore_n (lv' := [(1, .int (0 : Int32)), (0, .ref (ad 5 0))]) hx hb dX10_allWaiting_1 rfl hl (by decide) rfl (fun ls hl => ?_)
  refine lv_iconst (v := 0) hx hb dX10_allWaiting_2 (by decide) ?_
  refine lv_istore_n (lv' := [(2, .int (0 : Int32)), (1, .int (0 : Int32)), (0, .ref (ad 5 0))]) hx hb dX10_allWaiting_3 rfl hl (by decide) rfl (fun ls hl => ?_)
  obtain ⟨nn, hw⟩ := hw
  exact b_C_allWaiting_4 C hr hk  nn t (0 : Int32) (0 : Int32) hw _ _ _ hH (lv_sub hl [2, 1, 0] rfl)
/-! PorterTurns.allPaid -/
abbrev rm_C_allPaid : Room := { frames := 3, cells := 0, slots := 0, locals := 81 }
def wp_C_allPaid_4 (post : Int32 → CS → Prop) : Nat → CS → Int32 → Int32 → Prop
  | 0 => fun _ _ _ => False
  | n + 1 => fun t x1_ x2_ => if (nI (tT t 2).length) ≤ x2_ then (post x1_ t) else (vp_in x2_ (tT t 2).length ∧ ((tT t 2).length < 2 ^ 31 ∧ (∀ j4 : Nat, j4 = ((tT t 2).getD x2_.toNatClampNeg 0) → (j4 < tN t 2 ∧ (∀ x6 : Int32, x6 = (x1_ + (tF t 80 j4)) → (∀ x7 : Int32, x7 = x2_ + (1 : Int32) → (wp_C_allPaid_4 post n t x6 x7)))))))
set_option maxHeartbeats 4000000 in
set_option maxRecDepth 100000 in
theorem b_C_allPaid_4 {p : Program} {l : Launch} {e : Env} {s : State} {m : MethodId} {args : Array Value} {below : List Frame} {meth : Method} {c : Code} {D : va_G} {Z : Nat → ClassId} {E : Nat → Nat} {ad : Nat → Nat → Nat} {A : Nat → Prop} (C : CC p s m args c cX10_allPaid 3 RX10 D Z E A) (hr : meth.sig.returnType = some .int) (hk : meth.locks = false) {post : Int32 → CS → Prop} : ∀ (n : Nat) (t : CS) (x1_ : Int32) (x2_ : Int32), wp_C_allPaid_4 post n t x1_ x2_ → ∀ (H : Heap) (locs : List Loc) (ls : Array Slot), CH D Z E ad A s.heap t H locs → lv_has ls 3 [(0, .ref (ad 5 0)), (1, .int x1_), (2, .int x2_)] → CWi p l e rm_C_allPaid s m args below meth c D Z E ad A 0 0 post H locs 0 0 (F0 m 4 ls []) := by
  obtain ⟨⟨hx, hb, hml, hown, hts⟩, hK⟩ := id C
  intro n
  induction n with
  | zero => intro t x1_ x2_ hw; exact hw.elim
  | succ n ih =>
    intro t x1_ x2_ hw H locs ls hH hl
    unfold wp_C_allPaid_4 at hw
    refine lv_iload_n hx hb dX10_allPaid_4 rfl (lv_at hl 2 rfl) ?_
    refine lv_aload_n hx hb dX10_allPaid_5 rfl (lv_at hl 0 rfl) ?_
    refine cg C hH 5 0 (by decide) (Nat.le_of_ble_eq_true rfl) rfl rfl ixX10 2 (by decide) rfl wd_238 rfl dX10_allPaid_6 ?_
    refine lSize C hH 2 (Nat.lt_of_lt_of_le (show 2 < 11 by decide) (Nat.le_add_left _ _)) wd_283 hl.1 (Nat.le_of_ble_eq_true rfl) dX10_allPaid_9 ⟨Nat.zero_le _, Nat.zero_le _⟩ ⟨Nat.le_of_ble_eq_true rfl, Nat.le_of_ble_eq_true rfl⟩ (fun H locs hH => ?_)
    refine lv_icmp_ge (tgt := 38) hx hb dX10_allPaid_12 (by decide) (fun c1 => ?_) (fun c1 => ?_)
    · have hw := ifp c1 hw
      refine lv_iload_n hx hb dX10_allPaid_38 rfl (lv_at hl 1 rfl) ?_
      exact cri C hr hk hH (Nat.zero_le _) (Nat.zero_le _) hw dX10_allPaid_39
    · have hw := ifn c1 hw
      refine lv_iload_n hx hb dX10_allPaid_15 rfl (lv_at hl 1 rfl) ?_
      refine lv_aload_n hx hb dX10_allPaid_16 rfl (lv_at hl 0 rfl) ?_
      refine cg C hH 5 0 (by decide) (Nat.le_of_ble_eq_true rfl) rfl rfl ixX10 2 (by decide) rfl wd_238 rfl dX10_allPaid_17 ?_
      refine lv_iload_n hx hb dX10_allPaid_20 rfl (lv_at hl 2 rfl) ?_
      obtain ⟨h2, hw⟩ := hw
      obtain ⟨h3, hw⟩ := hw
      refine lGet C hH 2 (Nat.lt_of_lt_of_le (show 2 < 11 by decide) (Nat.le_add_left _ _)) h2 h3 wd_320 hl.1 (Nat.le_of_ble_eq_true rfl) dX10_allPaid_21 ⟨Nat.zero_le _, Nat.zero_le _⟩ ⟨Nat.le_of_ble_eq_true rfl, Nat.le_of_ble_eq_true rfl⟩ (fun H locs hH => ?_)
      obtain ⟨j4, ej4⟩ : ∃ x : Nat, x = ((tT t 2).getD x2_.toNatClampNeg 0) := ⟨_, rfl⟩
      rw [← ej4]
      have hw := hw j4 ej4
      obtain ⟨h5, hw⟩ := hw
      refine cCast C hH 2 j4 (by decide) h5 rfl rfl wd_702 dX10_allPaid_24 ?_
      refine cg C hH 2 j4 (by decide) h5 rfl rfl ixX2 16 (by decide) rfl wd_813 rfl dX10_allPaid_27 ?_
      refine lv_iadd hx hb dX10_allPaid_30 ?_
      refine lv_topi (fun x6 ex6 => ?_)
      have hw := hw x6 ex6
      refine lv_istore_n (lv' := [(1, .int x6), (0, .ref (ad 5 0)), (2, .int x2_)]) hx hb dX10_allPaid_31 rfl hl (by decide) rfl (fun ls hl => ?_)
      obtain ⟨x7, ex7⟩ : ∃ y : Int32, y = x2_ + (1 : Int32) := ⟨_, rfl⟩
      have hw := hw x7 ex7
      refine lv_iinc (v := x7) (lv' := [(2, .int x7), (1, .int x6), (0, .ref (ad 5 0))]) hx hb dX10_allPaid_32 hl (k := 2) rfl (by rw [ex7]; rfl) (by decide) rfl (fun ls hl => ?_)
      refine lv_goto (tgt := 4) hx hb dX10_allPaid_35 (by decide) ?_
      exact ih t x6 x7 hw _ _ _ hH (lv_sub hl [2, 1, 0] rfl)
def wp_C_allPaid (t : CS) (post : Int32 → CS → Prop) : Prop := ∃ nn : Nat, wp_C_allPaid_4 post nn t (0 : Int32) (0 : Int32)
set_option maxHeartbeats 4000000 in
set_option maxRecDepth 100000 in
theorem c_C_allPaid (l : Launch) (D : va_G) (Z : Nat → ClassId) (E : Nat → Nat) (ad : Nat → Nat → Nat) (t : CS) (post : Int32 → CS → Prop) (hw : wp_C_allPaid t  post) (L : List Nat) (sz : Nat) : Met l yX10_allPaid (Wd yX10_allPaid cX10_allPaid 3 (some .int)) rm_C_allPaid (va_Pc [.ref (ad 5 0)] (cPre D Z E ad L sz t)) (va_Qi post (cPost D Z E ad (cAs L sz)) (cAs L sz)) 0 0 (cAs L sz) := by
  refine cMet (Qc := fun A => va_Qi post (cPost D Z E ad A) A) (by decide) rfl _ (Nat.le_of_ble_eq_true rfl) (fun p e s m args below meth c A C hr hk ls hl hH => ?_) L sz
  obtain ⟨⟨hx, hb, hml, hown, hts⟩, hK⟩ := id C
  have hl : lv_has ls 3 [(0, .ref (ad 5 0))] := hl
  unfold wp_C_allPaid at hw
  refine lv_iconst (v := 0) hx hb dX10_allPaid_0 (by decide) ?_
  refine lv_istore_n (lv' := [(1, .int (0 : Int32)), (0, .ref (ad 5 0))]) hx hb dX10_allPaid_1 rfl hl (by decide) rfl (fun ls hl => ?_)
  refine lv_iconst (v := 0) hx hb dX10_allPaid_2 (by decide) ?_
  refine lv_istore_n (lv' := [(2, .int (0 : Int32)), (1, .int (0 : Int32)), (0, .ref (ad 5 0))]) hx hb dX10_allPaid_3 rfl hl (by decide) rfl (fun ls hl => ?_)
  obtain ⟨nn, hw⟩ := hw
  exact b_C_allPaid_4 C hr hk  nn t (0 : Int32) (0 : Int32) hw _ _ _ hH (lv_sub hl [2, 1, 0] rfl)
/-! PorterTurns.count -/
abbrev rm_C_count : Room := { frames := 4, cells := 0, slots := 0, locals := 104 }
def wp_C_count (t : CS) (a1 : Int32) (post : Int32 → CS → Prop) : Prop := if a1 = (0 : Int32) then (post (nI (tT t 0).length) t) else (if a1 = (1 : Int32) then (post (nI (tT t 1).length) t) else (if a1 = (2 : Int32) then (post (nI (tT t 2).length) t) else (if a1 = (3 : Int32) then (post (nI (tT t 3).length) t) else (if a1 = (4 : Int32) then (post (tF t 171 0) t) else (if a1 = (5 : Int32) then (wp_C_loadsIn t (0 : Int32) (fun r8 t7 => post r8 t7)) else (if a1 = (6 : Int32) then (wp_C_loadsIn t (1 : Int32) (fun r11 t10 => post r11 t10)) else (if a1 = (7 : Int32) then (wp_C_loadsIn t (2 : Int32) (fun r14 t13 => post r14 t13)) else (if a1 = (8 : Int32) then (wp_C_loadsIn t (3 : Int32) (fun r17 t16 => post r17 t16)) else (if a1 = (9 : Int32) then (post (tF t 161 2) t) else (if a1 = (10 : Int32) then (wp_C_allWaiting t  (fun r21 t20 => post r21 t20)) else (if a1 = (11 : Int32) then (wp_C_allPaid t  (fun r24 t23 => post r24 t23)) else (post (-1 : Int32) t))))))))))))
set_option maxHeartbeats 4000000 in
set_option maxRecDepth 100000 in
theorem c_C_count (l : Launch) (D : va_G) (Z : Nat → ClassId) (E : Nat → Nat) (ad : Nat → Nat → Nat) (t : CS) (a1 : Int32) (post : Int32 → CS → Prop) (hw : wp_C_count t a1 post) (L : List Nat) (sz : Nat) : Met l yX10_count (Wd yX10_count cX10_count 2 (some .int)) rm_C_count (va_Pc [.ref (ad 5 0), .int a1] (cPre D Z E ad L sz t)) (va_Qi post (cPost D Z E ad (cAs L sz)) (cAs L sz)) 0 0 (cAs L sz) := by
  refine cMet (Qc := fun A => va_Qi post (cPost D Z E ad A) A) (by decide) rfl _ (Nat.le_of_ble_eq_true rfl) (fun p e s m args below meth c A C hr hk ls hl hH => ?_) L sz
  obtain ⟨⟨hx, hb, hml, hown, hts⟩, hK⟩ := id C
  have hl : lv_has ls 2 [(0, .ref (ad 5 0)), (1, .int a1)] := hl
  unfold wp_C_count at hw
  refine lv_iload_n hx hb dX10_count_0 rfl (lv_at hl 1 rfl) ?_
  by_cases c1 : a1 = (0 : Int32)
  · have hw := ifp c1 hw
    refine lv_tableIn (tgt := 64) hx hb dX10_count_1 (by rw [c1]; decide) (by rw [c1]; decide) (by rw [c1]; rfl) (by decide) ?_
    refine lv_aload_n hx hb dX10_count_64 rfl (lv_at hl 0 rfl) ?_
    refine cg C hH 5 0 (by decide) (Nat.le_of_ble_eq_true rfl) rfl rfl ixX10 0 (by decide) rfl wd_236 rfl dX10_count_65 ?_
    refine lSize C hH 0 (Nat.lt_of_lt_of_le (show 0 < 11 by decide) (Nat.le_add_left _ _)) wd_283 hl.1 (Nat.le_of_ble_eq_true rfl) dX10_count_68 ⟨Nat.zero_le _, Nat.zero_le _⟩ ⟨Nat.le_of_ble_eq_true rfl, Nat.le_of_ble_eq_true rfl⟩ (fun H locs hH => ?_)
    exact cri C hr hk hH (Nat.zero_le _) (Nat.zero_le _) hw dX10_count_71
  have hw := ifn c1 hw
  by_cases c2 : a1 = (1 : Int32)
  · have hw := ifp c2 hw
    refine lv_tableIn (tgt := 72) hx hb dX10_count_1 (by rw [c2]; decide) (by rw [c2]; decide) (by rw [c2]; rfl) (by decide) ?_
    refine lv_aload_n hx hb dX10_count_72 rfl (lv_at hl 0 rfl) ?_
    refine cg C hH 5 0 (by decide) (Nat.le_of_ble_eq_true rfl) rfl rfl ixX10 1 (by decide) rfl wd_237 rfl dX10_count_73 ?_
    refine lSize C hH 1 (Nat.lt_of_lt_of_le (show 1 < 11 by decide) (Nat.le_add_left _ _)) wd_283 hl.1 (Nat.le_of_ble_eq_true rfl) dX10_count_76 ⟨Nat.zero_le _, Nat.zero_le _⟩ ⟨Nat.le_of_ble_eq_true rfl, Nat.le_of_ble_eq_true rfl⟩ (fun H locs hH => ?_)
    exact cri C hr hk hH (Nat.zero_le _) (Nat.zero_le _) hw dX10_count_79
  have hw := ifn c2 hw
  by_cases c3 : a1 = (2 : Int32)
  · have hw := ifp c3 hw
    refine lv_tableIn (tgt := 80) hx hb dX10_count_1 (by rw [c3]; decide) (by rw [c3]; decide) (by rw [c3]; rfl) (by decide) ?_
    refine lv_aload_n hx hb dX10_count_80 rfl (lv_at hl 0 rfl) ?_
    refine cg C hH 5 0 (by decide) (Nat.le_of_ble_eq_true rfl) rfl rfl ixX10 2 (by decide) rfl wd_238 rfl dX10_count_81 ?_
    refine lSize C hH 2 (Nat.lt_of_lt_of_le (show 2 < 11 by decide) (Nat.le_add_left _ _)) wd_283 hl.1 (Nat.le_of_ble_eq_true rfl) dX10_count_84 ⟨Nat.zero_le _, Nat.zero_le _⟩ ⟨Nat.le_of_ble_eq_true rfl, Nat.le_of_ble_eq_true rfl⟩ (fun H locs hH => ?_)
    exact cri C hr hk hH (Nat.zero_le _) (Nat.zero_le _) hw dX10_count_87
  have hw := ifn c3 hw
  by_cases c4 : a1 = (3 : Int32)
  · have hw := ifp c4 hw
    refine lv_tableIn (tgt := 88) hx hb dX10_count_1 (by rw [c4]; decide) (by rw [c4]; decide) (by rw [c4]; rfl) (by decide) ?_
    refine lv_aload_n hx hb dX10_count_88 rfl (lv_at hl 0 rfl) ?_
    refine cg C hH 5 0 (by decide) (Nat.le_of_ble_eq_true rfl) rfl rfl ixX10 3 (by decide) rfl wd_239 rfl dX10_count_89 ?_
    refine lSize C hH 3 (Nat.lt_of_lt_of_le (show 3 < 11 by decide) (Nat.le_add_left _ _)) wd_283 hl.1 (Nat.le_of_ble_eq_true rfl) dX10_count_92 ⟨Nat.zero_le _, Nat.zero_le _⟩ ⟨Nat.le_of_ble_eq_true rfl, Nat.le_of_ble_eq_true rfl⟩ (fun H locs hH => ?_)
    exact cri C hr hk hH (Nat.zero_le _) (Nat.zero_le _) hw dX10_count_95
  have hw := ifn c4 hw
  by_cases c5 : a1 = (4 : Int32)
  · have hw := ifp c5 hw
    refine lv_tableIn (tgt := 96) hx hb dX10_count_1 (by rw [c5]; decide) (by rw [c5]; decide) (by rw [c5]; rfl) (by decide) ?_
    refine lv_aload_n hx hb dX10_count_96 rfl (lv_at hl 0 rfl) ?_
    refine cg C hH 5 0 (by decide) (Nat.le_of_ble_eq_true rfl) rfl rfl ixX10 11 (by decide) rfl wd_247 rfl dX10_count_97 ?_
    exact cri C hr hk hH (Nat.zero_le _) (Nat.zero_le _) hw dX10_count_100
  have hw := ifn c5 hw
  by_cases c6 : a1 = (5 : Int32)
  · have hw := ifp c6 hw
    refine lv_tableIn (tgt := 101) hx hb dX10_count_1 (by rw [c6]; decide) (by rw [c6]; decide) (by rw [c6]; rfl) (by decide) ?_
    refine lv_aload_n hx hb dX10_count_101 rfl (lv_at hl 0 rfl) ?_
    refine lv_iconst (v := 0) hx hb dX10_count_102 (by decide) ?_
    refine ccVi0 C hH (crecv C hH 5 0 (by decide) (Nat.le_of_ble_eq_true rfl) rfl rfl (q := (RX10, TX10, 13))) [.int (0 : Int32)] (c_C_loadsIn l D Z E ad t (0 : Int32) _ hw) (cwTV 1 hts wd_1012 wd_1014 ws_43 wd_1 wd_1015 rfl rfl (by decide +kernel) ⟨Nat.le_of_ble_eq_true rfl, Nat.le_of_ble_eq_true rfl⟩) rfl hl.1 rfl (Nat.le_of_ble_eq_true rfl) dX10_count_103 ⟨Nat.zero_le _, Nat.zero_le _⟩ (fun r8 t7 H locs hw hH => ?_)
    exact cri C hr hk hH (Nat.zero_le _) (Nat.zero_le _) hw dX10_count_106
  have hw := ifn c6 hw
  by_cases c9 : a1 = (6 : Int32)
  · have hw := ifp c9 hw
    refine lv_tableIn (tgt := 107) hx hb dX10_count_1 (by rw [c9]; decide) (by rw [c9]; decide) (by rw [c9]; rfl) (by decide) ?_
    refine lv_aload_n hx hb dX10_count_107 rfl (lv_at hl 0 rfl) ?_
    refine lv_iconst (v := 1) hx hb dX10_count_108 (by decide) ?_
    refine ccVi0 C hH (crecv C hH 5 0 (by decide) (Nat.le_of_ble_eq_true rfl) rfl rfl (q := (RX10, TX10, 13))) [.int (1 : Int32)] (c_C_loadsIn l D Z E ad t (1 : Int32) _ hw) (cwTV 1 hts wd_1012 wd_1014 ws_43 wd_1 wd_1015 rfl rfl (by decide +kernel) ⟨Nat.le_of_ble_eq_true rfl, Nat.le_of_ble_eq_true rfl⟩) rfl hl.1 rfl (Nat.le_of_ble_eq_true rfl) dX10_count_109 ⟨Nat.zero_le _, Nat.zero_le _⟩ (fun r11 t10 H locs hw hH => ?_)
    exact cri C hr hk hH (Nat.zero_le _) (Nat.zero_le _) hw dX10_count_112
  have hw := ifn c9 hw
  by_cases c12 : a1 = (7 : Int32)
  · have hw := ifp c12 hw
    refine lv_tableIn (tgt := 113) hx hb dX10_count_1 (by rw [c12]; decide) (by rw [c12]; decide) (by rw [c12]; rfl) (by decide) ?_
    refine lv_aload_n hx hb dX10_count_113 rfl (lv_at hl 0 rfl) ?_
    refine lv_iconst (v := 2) hx hb dX10_count_114 (by decide) ?_
    refine ccVi0 C hH (crecv C hH 5 0 (by decide) (Nat.le_of_ble_eq_true rfl) rfl rfl (q := (RX10, TX10, 13))) [.int (2 : Int32)] (c_C_loadsIn l D Z E ad t (2 : Int32) _ hw) (cwTV 1 hts wd_1012 wd_1014 ws_43 wd_1 wd_1015 rfl rfl (by decide +kernel) ⟨Nat.le_of_ble_eq_true rfl, Nat.le_of_ble_eq_true rfl⟩) rfl hl.1 rfl (Nat.le_of_ble_eq_true rfl) dX10_count_115 ⟨Nat.zero_le _, Nat.zero_le _⟩ (fun r14 t13 H locs hw hH => ?_)
    exact cri C hr hk hH (Nat.zero_le _) (Nat.zero_le _) hw dX10_count_118
  have hw := ifn c12 hw
  by_cases c15 : a1 = (8 : Int32)
  · have hw := ifp c15 hw
    refine lv_tableIn (tgt := 119) hx hb dX10_count_1 (by rw [c15]; decide) (by rw [c15]; decide) (by rw [c15]; rfl) (by decide) ?_
    refine lv_aload_n hx hb dX10_count_119 rfl (lv_at hl 0 rfl) ?_
    refine lv_iconst (v := 3) hx hb dX10_count_120 (by decide) ?_
    refine ccVi0 C hH (crecv C hH 5 0 (by decide) (Nat.le_of_ble_eq_true rfl) rfl rfl (q := (RX10, TX10, 13))) [.int (3 : Int32)] (c_C_loadsIn l D Z E ad t (3 : Int32) _ hw) (cwTV 1 hts wd_1012 wd_1014 ws_43 wd_1 wd_1015 rfl rfl (by decide +kernel) ⟨Nat.le_of_ble_eq_true rfl, Nat.le_of_ble_eq_true rfl⟩) rfl hl.1 rfl (Nat.le_of_ble_eq_true rfl) dX10_count_121 ⟨Nat.zero_le _, Nat.zero_le _⟩ (fun r17 t16 H locs hw hH => ?_)
    exact cri C hr hk hH (Nat.zero_le _) (Nat.zero_le _) hw dX10_count_124
  have hw := ifn c15 hw
  by_cases c18 : a1 = (9 : Int32)
  · have hw := ifp c18 hw
    refine lv_tableIn (tgt := 125) hx hb dX10_count_1 (by rw [c18]; decide) (by rw [c18]; decide) (by rw [c18]; rfl) (by decide) ?_
    refine lv_aload_n hx hb dX10_count_125 rfl (lv_at hl 0 rfl) ?_
    refine cg C hH 5 0 (by decide) (Nat.le_of_ble_eq_true rfl) rfl rfl ixX10 6 (by decide) rfl wd_242 rfl dX10_count_126 ?_
    refine cg C hH 5 2 (by decide) (Nat.le_of_ble_eq_true rfl) rfl rfl ixX8 1 (by decide) rfl wd_189 rfl dX10_count_129 ?_
    exact cri C hr hk hH (Nat.zero_le _) (Nat.zero_le _) hw dX10_count_132
  have hw := ifn c18 hw
  by_cases c19 : a1 = (10 : Int32)
  · have hw := ifp c19 hw
    refine lv_tableIn (tgt := 133) hx hb dX10_count_1 (by rw [c19]; decide) (by rw [c19]; decide) (by rw [c19]; rfl) (by decide) ?_
    refine lv_aload_n hx hb dX10_count_133 rfl (lv_at hl 0 rfl) ?_
    refine ccVi0 C hH (crecv C hH 5 0 (by decide) (Nat.le_of_ble_eq_true rfl) rfl rfl (q := (RX10, TX10, 13))) [] (c_C_allWaiting l D Z E ad t  _ hw) (cwTV 0 hts wd_1016 wd_1018 ws_44 wd_1 wd_1019 rfl rfl (by decide +kernel) ⟨Nat.le_of_ble_eq_true rfl, Nat.le_of_ble_eq_true rfl⟩) rfl hl.1 rfl (Nat.le_of_ble_eq_true rfl) dX10_count_134 ⟨Nat.zero_le _, Nat.zero_le _⟩ (fun r21 t20 H locs hw hH => ?_)
    exact cri C hr hk hH (Nat.zero_le _) (Nat.zero_le _) hw dX10_count_137
  have hw := ifn c19 hw
  by_cases c22 : a1 = (11 : Int32)
  · have hw := ifp c22 hw
    refine lv_tableIn (tgt := 138) hx hb dX10_count_1 (by rw [c22]; decide) (by rw [c22]; decide) (by rw [c22]; rfl) (by decide) ?_
    refine lv_aload_n hx hb dX10_count_138 rfl (lv_at hl 0 rfl) ?_
    refine ccVi0 C hH (crecv C hH 5 0 (by decide) (Nat.le_of_ble_eq_true rfl) rfl rfl (q := (RX10, TX10, 13))) [] (c_C_allPaid l D Z E ad t  _ hw) (cwTV 0 hts wd_1020 wd_1022 ws_45 wd_1 wd_1023 rfl rfl (by decide +kernel) ⟨Nat.le_of_ble_eq_true rfl, Nat.le_of_ble_eq_true rfl⟩) rfl hl.1 rfl (Nat.le_of_ble_eq_true rfl) dX10_count_139 ⟨Nat.zero_le _, Nat.zero_le _⟩ (fun r24 t23 H locs hw hH => ?_)
    exact cri C hr hk hH (Nat.zero_le _) (Nat.zero_le _) hw dX10_count_142
  have hw := ifn c22 hw
  refine lv_tableOut (tgt := 143) hx hb dX10_count_1 (by have := sw_ne c1 0 (by decide); have := sw_ne c2 1 (by decide); have := sw_ne c3 2 (by decide); have := sw_ne c4 3 (by decide); have := sw_ne c5 4 (by decide); have := sw_ne c6 5 (by decide); have := sw_ne c9 6 (by decide); have := sw_ne c12 7 (by decide); have := sw_ne c15 8 (by decide); have := sw_ne c18 9 (by decide); have := sw_ne c19 10 (by decide); have := sw_ne c22 11 (by decide); omega) (by decide) ?_
  refine lv_iconst (v := -1) hx hb dX10_count_143 (by decide) ?_
  exact cri C hr hk hH (Nat.zero_le _) (Nat.zero_le _) hw dX10_count_144
/-! PorterTurns$Tape.at -/
abbrev rm_Tape_at : Room := { frames := 0, cells := 0, slots := 0, locals := 0 }
def wp_Tape_at (t : CS) (a1 : Int32) (post : Int32 → CS → Prop) : Prop := if a1 < 0 then (post (0 : Int32) t) else (if (tF t 161 2) ≤ a1 then (post (0 : Int32) t) else (if (200 : Int32) ≤ a1 then (post (0 : Int32) t) else (vp_in a1 200 ∧ (post (tA t 2 a1.toNatClampNeg) t))))
set_option maxHeartbeats 4000000 in
set_option maxRecDepth 100000 in
theorem c_Tape_at (l : Launch) (D : va_G) (Z : Nat → ClassId) (E : Nat → Nat) (ad : Nat → Nat → Nat) (t : CS) (a1 : Int32) (post : Int32 → CS → Prop) (hw : wp_Tape_at t a1 post) (L : List Nat) (sz : Nat) : Met l yX8_at (Wd yX8_at cX8_at 2 (some .int)) rm_Tape_at (va_Pc [.ref (ad 5 2), .int a1] (cPre D Z E ad L sz t)) (va_Qi post (cPost D Z E ad (cAs L sz)) (cAs L sz)) 0 0 (cAs L sz) := by
  refine cMet (Qc := fun A => va_Qi post (cPost D Z E ad A) A) (by decide) rfl _ (Nat.le_of_ble_eq_true rfl) (fun p e s m args below meth c A C hr hk ls hl hH => ?_) L sz
  obtain ⟨⟨hx, hb, hml, hown, hts⟩, hK⟩ := id C
  have hl : lv_has ls 2 [(0, .ref (ad 5 2)), (1, .int a1)] := hl
  unfold wp_Tape_at at hw
  refine lv_iload_n hx hb dX8_at_0 rfl (lv_at hl 1 rfl) ?_
  refine lv_if_lt (tgt := 28) hx hb dX8_at_1 (by decide) (fun c1 => ?_) (fun c1 => ?_)
  · have hw := ifp c1 hw
    refine lv_iconst (v := 0) hx hb dX8_at_28 (by decide) ?_
    exact cri C hr hk hH (Nat.zero_le _) (Nat.zero_le _) hw dX8_at_29
  · have hw := ifn c1 hw
    refine lv_iload_n hx hb dX8_at_4 rfl (lv_at hl 1 rfl) ?_
    refine lv_aload_n hx hb dX8_at_5 rfl (lv_at hl 0 rfl) ?_
    refine cg C hH 5 2 (by decide) (Nat.le_of_ble_eq_true rfl) rfl rfl ixX8 1 (by decide) rfl wd_187 rfl dX8_at_6 ?_
    refine lv_icmp_ge (tgt := 28) hx hb dX8_at_9 (by decide) (fun c2 => ?_) (fun c2 => ?_)
    · have hw := ifp c2 hw
      refine lv_iconst (v := 0) hx hb dX8_at_28 (by decide) ?_
      exact cri C hr hk hH (Nat.zero_le _) (Nat.zero_le _) hw dX8_at_29
    · have hw := ifn c2 hw
      refine lv_iload_n hx hb dX8_at_12 rfl (lv_at hl 1 rfl) ?_
      refine lv_sipush (v := 200) hx hb dX8_at_13 (by decide) ?_
      refine lv_icmp_ge (tgt := 28) hx hb dX8_at_16 (by decide) (fun c3 => ?_) (fun c3 => ?_)
      · have hw := ifp c3 hw
        refine lv_iconst (v := 0) hx hb dX8_at_28 (by decide) ?_
        exact cri C hr hk hH (Nat.zero_le _) (Nat.zero_le _) hw dX8_at_29
      · have hw := ifn c3 hw
        refine lv_aload_n hx hb dX8_at_19 rfl (lv_at hl 0 rfl) ?_
        refine cg C hH 5 2 (by decide) (Nat.le_of_ble_eq_true rfl) rfl rfl ixX8 0 (by decide) rfl wd_186 rfl dX8_at_20 ?_
        refine lv_iload_n hx hb dX8_at_23 rfl (lv_at hl 1 rfl) ?_
        obtain ⟨h4, hw⟩ := hw
        refine cai C hH 2 (Nat.lt_of_lt_of_le (show 2 < 8 by decide) (Nat.le_add_left _ _)) h4 dX8_at_24 ?_
        refine lv_goto (tgt := 29) hx hb dX8_at_25 (by decide) ?_
        exact cri C hr hk hH (Nat.zero_le _) (Nat.zero_le _) hw dX8_at_29
/-! PorterTurns$Reader.isLetter -/
abbrev rm_Reader_isLetter : Room := { frames := 0, cells := 0, slots := 0, locals := 0 }
def wp_Reader_isLetter (t : CS) (a1 : Int32) (post : Int32 → CS → Prop) : Prop := if a1 < (97 : Int32) then (post (0 : Int32) t) else (if (122 : Int32) < a1 then (post (0 : Int32) t) else (post (1 : Int32) t))
set_option maxHeartbeats 4000000 in
set_option maxRecDepth 100000 in
theorem c_Reader_isLetter (l : Launch) (D : va_G) (Z : Nat → ClassId) (E : Nat → Nat) (ad : Nat → Nat → Nat) (t : CS) (a1 : Int32) (post : Int32 → CS → Prop) (hw : wp_Reader_isLetter t a1 post) (L : List Nat) (sz : Nat) : Met l yX5_isLetter (Wd yX5_isLetter cX5_isLetter 1 (some .boolean)) rm_Reader_isLetter (va_Pc [.int a1] (cPre D Z E ad L sz t)) (va_Qi post (cPost D Z E ad (cAs L sz)) (cAs L sz)) 0 0 (cAs L sz) := by
  refine cMet (Qc := fun A => va_Qi post (cPost D Z E ad A) A) (by decide) rfl _ (Nat.le_of_ble_eq_true rfl) (fun p e s m args below meth c A C hr hk ls hl hH => ?_) L sz
  obtain ⟨⟨hx, hb, hml, hown, hts⟩, hK⟩ := id C
  have hl : lv_has ls 1 [(0, .int a1)] := hl
  unfold wp_Reader_isLetter at hw
  refine lv_iload_n hx hb dX5_isLetter_0 rfl (lv_at hl 0 rfl) ?_
  refine lv_bipush (v := 97) hx hb dX5_isLetter_1 (by decide) ?_
  refine lv_icmp_lt (tgt := 16) hx hb dX5_isLetter_3 (by decide) (fun c1 => ?_) (fun c1 => ?_)
  · have hw := ifp c1 hw
    refine lv_iconst (v := 0) hx hb dX5_isLetter_16 (by decide) ?_
    exact crz C hr hk hH (Nat.zero_le _) (Nat.zero_le _) bz0 hw dX5_isLetter_17
  · have hw := ifn c1 hw
    refine lv_iload_n hx hb dX5_isLetter_6 rfl (lv_at hl 0 rfl) ?_
    refine lv_bipush (v := 122) hx hb dX5_isLetter_7 (by decide) ?_
    refine lv_icmp_gt (tgt := 16) hx hb dX5_isLetter_9 (by decide) (fun c2 => ?_) (fun c2 => ?_)
    · have hw := ifp c2 hw
      refine lv_iconst (v := 0) hx hb dX5_isLetter_16 (by decide) ?_
      exact crz C hr hk hH (Nat.zero_le _) (Nat.zero_le _) bz0 hw dX5_isLetter_17
    · have hw := ifn c2 hw
      refine lv_iconst (v := 1) hx hb dX5_isLetter_12 (by decide) ?_
      refine lv_goto (tgt := 17) hx hb dX5_isLetter_13 (by decide) ?_
      exact crz C hr hk hH (Nat.zero_le _) (Nat.zero_le _) bz1 hw dX5_isLetter_17
/-! PorterTurns$Reader.isDigit -/
abbrev rm_Reader_isDigit : Room := { frames := 0, cells := 0, slots := 0, locals := 0 }
def wp_Reader_isDigit (t : CS) (a1 : Int32) (post : Int32 → CS → Prop) : Prop := if a1 < (48 : Int32) then (post (0 : Int32) t) else (if (57 : Int32) < a1 then (post (0 : Int32) t) else (post (1 : Int32) t))
set_option maxHeartbeats 4000000 in
set_option maxRecDepth 100000 in
theorem c_Reader_isDigit (l : Launch) (D : va_G) (Z : Nat → ClassId) (E : Nat → Nat) (ad : Nat → Nat → Nat) (t : CS) (a1 : Int32) (post : Int32 → CS → Prop) (hw : wp_Reader_isDigit t a1 post) (L : List Nat) (sz : Nat) : Met l yX5_isDigit (Wd yX5_isDigit cX5_isDigit 1 (some .boolean)) rm_Reader_isDigit (va_Pc [.int a1] (cPre D Z E ad L sz t)) (va_Qi post (cPost D Z E ad (cAs L sz)) (cAs L sz)) 0 0 (cAs L sz) := by
  refine cMet (Qc := fun A => va_Qi post (cPost D Z E ad A) A) (by decide) rfl _ (Nat.le_of_ble_eq_true rfl) (fun p e s m args below meth c A C hr hk ls hl hH => ?_) L sz
  obtain ⟨⟨hx, hb, hml, hown, hts⟩, hK⟩ := id C
  have hl : lv_has ls 1 [(0, .int a1)] := hl
  unfold wp_Reader_isDigit at hw
  refine lv_iload_n hx hb dX5_isDigit_0 rfl (lv_at hl 0 rfl) ?_
  refine lv_bipush (v := 48) hx hb dX5_isDigit_1 (by decide) ?_
  refine lv_icmp_lt (tgt := 16) hx hb dX5_isDigit_3 (by decide) (fun c1 => ?_) (fun c1 => ?_)
  · have hw := ifp c1 hw
    refine lv_iconst (v := 0) hx hb dX5_isDigit_16 (by decide) ?_
    exact crz C hr hk hH (Nat.zero_le _) (Nat.zero_le _) bz0 hw dX5_isDigit_17
  · have hw := ifn c1 hw
    refine lv_iload_n hx hb dX5_isDigit_6 rfl (lv_at hl 0 rfl) ?_
    refine lv_bipush (v := 57) hx hb dX5_isDigit_7 (by decide) ?_
    refine lv_icmp_gt (tgt := 16) hx hb dX5_isDigit_9 (by decide) (fun c2 => ?_) (fun c2 => ?_)
    · have hw := ifp c2 hw
      refine lv_iconst (v := 0) hx hb dX5_isDigit_16 (by decide) ?_
      exact crz C hr hk hH (Nat.zero_le _) (Nat.zero_le _) bz0 hw dX5_isDigit_17
    · have hw := ifn c2 hw
      refine lv_iconst (v := 1) hx hb dX5_isDigit_12 (by decide) ?_
      refine lv_goto (tgt := 17) hx hb dX5_isDigit_13 (by decide) ?_
      exact crz C hr hk hH (Nat.zero_le _) (Nat.zero_le _) bz1 hw dX5_isDigit_17
/-! PorterTurns$Reader.endOfToken -/
abbrev rm_Reader_endOfToken : Room := { frames := 1, cells := 0, slots := 0, locals := 21 }
def wp_Reader_endOfToken_64 (k23 : CS → Int32 → Int32 → Int32 → Prop) (post : Int32 → CS → Prop) (t : CS) (x2_ : Int32) (x3_ : Int32) (x4_ : Int32) : Prop := ∀ x1 : Int32, x1 = x4_ + (1 : Int32) → (k23 t x2_ x3_ x1)
set_option maxHeartbeats 4000000 in
set_option maxRecDepth 100000 in
theorem b_Reader_endOfToken_64 {p : Program} {l : Launch} {e : Env} {s : State} {m : MethodId} {args : Array Value} {below : List Frame} {meth : Method} {c : Code} {D : va_G} {Z : Nat → ClassId} {E : Nat → Nat} {ad : Nat → Nat → Nat} {A : Nat → Prop} (C : CC p s m args c cX5_endOfToken 5 RX5 D Z E A) (hr : meth.sig.returnType = some .int) (hk : meth.locks = false) {post : Int32 → CS → Prop} {k23 : CS → Int32 → Int32 → Int32 → Prop} (hk23 : ∀ (t : CS) (y2 : Int32) (y3 : Int32) (y4 : Int32), k23 t y2 y3 y4 → ∀ (H : Heap) (locs : List Loc) (ls : Array Slot), CH D Z E ad A s.heap t H locs → lv_has ls 5 [(0, .ref (ad 5 2)), (2, .int y2), (3, .int y3), (4, .int y4)] → CWi p l e rm_Reader_endOfToken s m args below meth c D Z E ad A 0 0 post H locs 0 0 (F0 m 23 ls [])) : ∀ (t : CS) (x2_ : Int32) (x3_ : Int32) (x4_ : Int32), wp_Reader_endOfToken_64 k23 post t x2_ x3_ x4_ → ∀ (H : Heap) (locs : List Loc) (ls : Array Slot), CH D Z E ad A s.heap t H locs → lv_has ls 5 [(0, .ref (ad 5 2)), (2, .int x2_), (3, .int x3_), (4, .int x4_)] → CWi p l e rm_Reader_endOfToken s m args below meth c D Z E ad A 0 0 post H locs 0 0 (F0 m 64 ls []) := by
  obtain ⟨⟨hx, hb, hml, hown, hts⟩, hK⟩ := id C
  intro t x2_ x3_ x4_ hw H locs ls hH hl
  unfold wp_Reader_endOfToken_64 at hw
  obtain ⟨x1, ex1⟩ : ∃ y : Int32, y = x4_ + (1 : Int32) := ⟨_, rfl⟩
  have hw := hw x1 ex1
  refine lv_iinc (v := x1) (lv' := [(4, .int x1), (0, .ref (ad 5 2)), (2, .int x2_), (3, .int x3_)]) hx hb dX5_endOfToken_64 hl (k := 3) rfl (by rw [ex1]; rfl) (by decide) rfl (fun ls hl => ?_)
  refine lv_goto (tgt := 23) hx hb dX5_endOfToken_67 (by decide) ?_
  exact hk23 t x2_ x3_ x1 hw _ _ _ hH (lv_sub hl [1, 2, 3, 0] rfl)
def wp_Reader_endOfToken_48 (k23 : CS → Int32 → Int32 → Int32 → Prop) (post : Int32 → CS → Prop) (t : CS) (x2_ : Int32) (x3_ : Int32) (x4_ : Int32) : Prop := if x3_ = 0 then (post x4_ t) else (wp_Tape_at t x4_ (fun r4 t3 => wp_Reader_isDigit t3 r4 (fun r6 t5 => if r6 = 0 then (post x4_ t5) else (wp_Reader_endOfToken_64 (k23) post t5 x2_ x3_ x4_))))
set_option maxHeartbeats 4000000 in
set_option maxRecDepth 100000 in
theorem b_Reader_endOfToken_48 {p : Program} {l : Launch} {e : Env} {s : State} {m : MethodId} {args : Array Value} {below : List Frame} {meth : Method} {c : Code} {D : va_G} {Z : Nat → ClassId} {E : Nat → Nat} {ad : Nat → Nat → Nat} {A : Nat → Prop} (C : CC p s m args c cX5_endOfToken 5 RX5 D Z E A) (hr : meth.sig.returnType = some .int) (hk : meth.locks = false) {post : Int32 → CS → Prop} {k23 : CS → Int32 → Int32 → Int32 → Prop} (hk23 : ∀ (t : CS) (y2 : Int32) (y3 : Int32) (y4 : Int32), k23 t y2 y3 y4 → ∀ (H : Heap) (locs : List Loc) (ls : Array Slot), CH D Z E ad A s.heap t H locs → lv_has ls 5 [(0, .ref (ad 5 2)), (2, .int y2), (3, .int y3), (4, .int y4)] → CWi p l e rm_Reader_endOfToken s m args below meth c D Z E ad A 0 0 post H locs 0 0 (F0 m 23 ls [])) : ∀ (t : CS) (x2_ : Int32) (x3_ : Int32) (x4_ : Int32), wp_Reader_endOfToken_48 k23 post t x2_ x3_ x4_ → ∀ (H : Heap) (locs : List Loc) (ls : Array Slot), CH D Z E ad A s.heap t H locs → lv_has ls 5 [(0, .ref (ad 5 2)), (2, .int x2_), (3, .int x3_), (4, .int x4_)] → CWi p l e rm_Reader_endOfToken s m args below meth c D Z E ad A 0 0 post H locs 0 0 (F0 m 48 ls []) := by
  obtain ⟨⟨hx, hb, hml, hown, hts⟩, hK⟩ := id C
  intro t x2_ x3_ x4_ hw H locs ls hH hl
  unfold wp_Reader_endOfToken_48 at hw
  refine lv_iload_n hx hb dX5_endOfToken_48 rfl (lv_at hl 2 rfl) ?_
  refine lv_if_eq (tgt := 70) hx hb dX5_endOfToken_49 (by decide) (fun c2 => ?_) (fun c2 => ?_)
  · have hw := ifp c2 hw
    refine lv_iload hx hb dX5_endOfToken_70 (lv_at hl 3 rfl) ?_
    exact cri C hr hk hH (Nat.zero_le _) (Nat.zero_le _) hw dX5_endOfToken_72
  · have hw := ifn c2 hw
    refine lv_aload_n hx hb dX5_endOfToken_52 rfl (lv_at hl 0 rfl) ?_
    refine lv_iload hx hb dX5_endOfToken_53 (lv_at hl 3 rfl) ?_
    refine ccVi0 C hH (crecv C hH 5 2 (by decide) (Nat.le_of_ble_eq_true rfl) rfl rfl (q := (RX8, TX8, 2))) [.int x4_] (c_Tape_at l D Z E ad t x4_ _ hw) (cwTV 1 hts wd_513 wd_514 wd_515 wd_11 wd_516 rfl rfl (by decide +kernel) ⟨Nat.le_of_ble_eq_true rfl, Nat.le_of_ble_eq_true rfl⟩) rfl hl.1 rfl (Nat.le_of_ble_eq_true rfl) dX5_endOfToken_55 ⟨Nat.zero_le _, Nat.zero_le _⟩ (fun r4 t3 H locs hw hH => ?_)
    refine ccSi0 C hH [.int r4] (c_Reader_isDigit l D Z E ad t3 r4 _ hw) (cwTS 1 hts wd_523 wd_524 wd_12 wd_525 rfl rfl (by decide +kernel) ⟨Nat.le_of_ble_eq_true rfl, Nat.le_of_ble_eq_true rfl⟩) rfl hl.1 rfl (Nat.le_of_ble_eq_true rfl) dX5_endOfToken_58 ⟨Nat.zero_le _, Nat.zero_le _⟩ (fun r6 t5 H locs hw hH => ?_)
    refine lv_if_eq (tgt := 70) hx hb dX5_endOfToken_61 (by decide) (fun c7 => ?_) (fun c7 => ?_)
    · have hw := ifp c7 hw
      refine lv_iload hx hb dX5_endOfToken_70 (lv_at hl 3 rfl) ?_
      exact cri C hr hk hH (Nat.zero_le _) (Nat.zero_le _) hw dX5_endOfToken_72
    · have hw := ifn c7 hw
      exact b_Reader_endOfToken_64 C hr hk hk23 t5 x2_ x3_ x4_ hw _ _ _ hH (lv_sub hl [0, 1, 2, 3] rfl)
def wp_Reader_endOfToken_23 (post : Int32 → CS → Prop) : Nat → CS → Int32 → Int32 → Int32 → Prop
  | 0 => fun _ _ _ _ => False
  | n + 1 => fun t x2_ x3_ x4_ => if (tF t 161 2) ≤ x4_ then (post x4_ t) else (if x2_ = 0 then (wp_Reader_endOfToken_48 (wp_Reader_endOfToken_23 post n) post t x2_ x3_ x4_) else (wp_Tape_at t x4_ (fun r11 t10 => wp_Reader_isLetter t10 r11 (fun r13 t12 => if r13 = 0 then (wp_Reader_endOfToken_48 (wp_Reader_endOfToken_23 post n) post t12 x2_ x3_ x4_) else (wp_Reader_endOfToken_64 (wp_Reader_endOfToken_23 post n) post t12 x2_ x3_ x4_)))))
set_option maxHeartbeats 4000000 in
set_option maxRecDepth 100000 in
theorem b_Reader_endOfToken_23 {p : Program} {l : Launch} {e : Env} {s : State} {m : MethodId} {args : Array Value} {below : List Frame} {meth : Method} {c : Code} {D : va_G} {Z : Nat → ClassId} {E : Nat → Nat} {ad : Nat → Nat → Nat} {A : Nat → Prop} (C : CC p s m args c cX5_endOfToken 5 RX5 D Z E A) (hr : meth.sig.returnType = some .int) (hk : meth.locks = false) {post : Int32 → CS → Prop} : ∀ (n : Nat) (t : CS) (x2_ : Int32) (x3_ : Int32) (x4_ : Int32), wp_Reader_endOfToken_23 post n t x2_ x3_ x4_ → ∀ (H : Heap) (locs : List Loc) (ls : Array Slot), CH D Z E ad A s.heap t H locs → lv_has ls 5 [(0, .ref (ad 5 2)), (2, .int x2_), (3, .int x3_), (4, .int x4_)] → CWi p l e rm_Reader_endOfToken s m args below meth c D Z E ad A 0 0 post H locs 0 0 (F0 m 23 ls []) := by
  obtain ⟨⟨hx, hb, hml, hown, hts⟩, hK⟩ := id C
  intro n
  induction n with
  | zero => intro t x2_ x3_ x4_ hw; exact hw.elim
  | succ n ih =>
    intro t x2_ x3_ x4_ hw H locs ls hH hl
    unfold wp_Reader_endOfToken_23 at hw
    refine lv_iload hx hb dX5_endOfToken_23 (lv_at hl 3 rfl) ?_
    refine lv_aload_n hx hb dX5_endOfToken_25 rfl (lv_at hl 0 rfl) ?_
    refine cg C hH 5 2 (by decide) (Nat.le_of_ble_eq_true rfl) rfl rfl ixX8 1 (by decide) rfl wd_188 rfl dX5_endOfToken_26 ?_
    refine lv_icmp_ge (tgt := 70) hx hb dX5_endOfToken_29 (by decide) (fun c8 => ?_) (fun c8 => ?_)
    · have hw := ifp c8 hw
      refine lv_iload hx hb dX5_endOfToken_70 (lv_at hl 3 rfl) ?_
      exact cri C hr hk hH (Nat.zero_le _) (Nat.zero_le _) hw dX5_endOfToken_72
    · have hw := ifn c8 hw
      refine lv_iload_n hx hb dX5_endOfToken_32 rfl (lv_at hl 1 rfl) ?_
      refine lv_if_eq (tgt := 48) hx hb dX5_endOfToken_33 (by decide) (fun c9 => ?_) (fun c9 => ?_)
      · have hw := ifp c9 hw
        exact b_Reader_endOfToken_48 C hr hk ih t x2_ x3_ x4_ hw _ _ _ hH (lv_sub hl [0, 1, 2, 3] rfl)
      · have hw := ifn c9 hw
        refine lv_aload_n hx hb dX5_endOfToken_36 rfl (lv_at hl 0 rfl) ?_
        refine lv_iload hx hb dX5_endOfToken_37 (lv_at hl 3 rfl) ?_
        refine ccVi0 C hH (crecv C hH 5 2 (by decide) (Nat.le_of_ble_eq_true rfl) rfl rfl (q := (RX8, TX8, 2))) [.int x4_] (c_Tape_at l D Z E ad t x4_ _ hw) (cwTV 1 hts wd_513 wd_514 wd_515 wd_11 wd_516 rfl rfl (by decide +kernel) ⟨Nat.le_of_ble_eq_true rfl, Nat.le_of_ble_eq_true rfl⟩) rfl hl.1 rfl (Nat.le_of_ble_eq_true rfl) dX5_endOfToken_39 ⟨Nat.zero_le _, Nat.zero_le _⟩ (fun r11 t10 H locs hw hH => ?_)
        refine ccSi0 C hH [.int r11] (c_Reader_isLetter l D Z E ad t10 r11 _ hw) (cwTS 1 hts wd_520 wd_521 wd_12 wd_522 rfl rfl (by decide +kernel) ⟨Nat.le_of_ble_eq_true rfl, Nat.le_of_ble_eq_true rfl⟩) rfl hl.1 rfl (Nat.le_of_ble_eq_true rfl) dX5_endOfToken_42 ⟨Nat.zero_le _, Nat.zero_le _⟩ (fun r13 t12 H locs hw hH => ?_)
        refine lv_if_ne (tgt := 64) hx hb dX5_endOfToken_45 (by decide) (fun c14 => ?_) (fun c14 => ?_)
        · have hw := ifn c14 hw
          exact b_Reader_endOfToken_64 C hr hk ih t12 x2_ x3_ x4_ hw _ _ _ hH (lv_sub hl [0, 1, 2, 3] rfl)
        · have hw := ifp c14 hw
          exact b_Reader_endOfToken_48 C hr hk ih t12 x2_ x3_ x4_ hw _ _ _ hH (lv_sub hl [0, 1, 2, 3] rfl)
def wp_Reader_endOfToken (t : CS) (a2 : Int32) (post : Int32 → CS → Prop) : Prop := wp_Tape_at t a2 (fun r16 t15 => wp_Reader_isLetter t15 r16 (fun r18 t17 => wp_Tape_at t17 a2 (fun r20 t19 => wp_Reader_isDigit t19 r20 (fun r22 t21 => ∀ x23 : Int32, x23 = (a2 + (1 : Int32)) → (∃ nn : Nat, wp_Reader_endOfToken_23 post nn t21 r18 r22 x23)))))
set_option maxHeartbeats 4000000 in
set_option maxRecDepth 100000 in
theorem c_Reader_endOfToken (l : Launch) (D : va_G) (Z : Nat → ClassId) (E : Nat → Nat) (ad : Nat → Nat → Nat) (t : CS) (a2 : Int32) (post : Int32 → CS → Prop) (hw : wp_Reader_endOfToken t a2 post) (L : List Nat) (sz : Nat) : Met l yX5_endOfToken (Wd yX5_endOfToken cX5_endOfToken 5 (some .int)) rm_Reader_endOfToken (va_Pc [.ref (ad 5 2), .int a2] (cPre D Z E ad L sz t)) (va_Qi post (cPost D Z E ad (cAs L sz)) (cAs L sz)) 0 0 (cAs L sz) := by
  refine cMet (Qc := fun A => va_Qi post (cPost D Z E ad A) A) (by decide) rfl _ (Nat.le_of_ble_eq_true rfl) (fun p e s m args below meth c A C hr hk ls hl hH => ?_) L sz
  obtain ⟨⟨hx, hb, hml, hown, hts⟩, hK⟩ := id C
  have hl : lv_has ls 5 [(0, .ref (ad 5 2)), (1, .int a2)] := hl
  unfold wp_Reader_endOfToken at hw
  refine lv_aload_n hx hb dX5_endOfToken_0 rfl (lv_at hl 0 rfl) ?_
  refine lv_iload_n hx hb dX5_endOfToken_1 rfl (lv_at hl 1 rfl) ?_
  refine ccVi0 C hH (crecv C hH 5 2 (by decide) (Nat.le_of_ble_eq_true rfl) rfl rfl (q := (RX8, TX8, 2))) [.int a2] (c_Tape_at l D Z E ad t a2 _ hw) (cwTV 1 hts wd_513 wd_514 wd_515 wd_11 wd_516 rfl rfl (by decide +kernel) ⟨Nat.le_of_ble_eq_true rfl, Nat.le_of_ble_eq_true rfl⟩) rfl hl.1 rfl (Nat.le_of_ble_eq_true rfl) dX5_endOfToken_2 ⟨Nat.zero_le _, Nat.zero_le _⟩ (fun r16 t15 H locs hw hH => ?_)
  refine ccSi0 C hH [.int r16] (c_Reader_isLetter l D Z E ad t15 r16 _ hw) (cwTS 1 hts wd_520 wd_521 wd_12 wd_522 rfl rfl (by decide +kernel) ⟨Nat.le_of_ble_eq_true rfl, Nat.le_of_ble_eq_true rfl⟩) rfl hl.1 rfl (Nat.le_of_ble_eq_true rfl) dX5_endOfToken_5 ⟨Nat.zero_le _, Nat.zero_le _⟩ (fun r18 t17 H locs hw hH => ?_)
  refine lv_istore_n (lv' := [(2, .int r18), (0, .ref (ad 5 2)), (1, .int a2)]) hx hb dX5_endOfToken_8 rfl hl (by decide) rfl (fun ls hl => ?_)
  refine lv_aload_n hx hb dX5_endOfToken_9 rfl (lv_at hl 1 rfl) ?_
  refine lv_iload_n hx hb dX5_endOfToken_10 rfl (lv_at hl 2 rfl) ?_
  refine ccVi0 C hH (crecv C hH 5 2 (by decide) (Nat.le_of_ble_eq_true rfl) rfl rfl (q := (RX8, TX8, 2))) [.int a2] (c_Tape_at l D Z E ad t17 a2 _ hw) (cwTV 1 hts wd_513 wd_514 wd_515 wd_11 wd_516 rfl rfl (by decide +kernel) ⟨Nat.le_of_ble_eq_true rfl, Nat.le_of_ble_eq_true rfl⟩) rfl hl.1 rfl (Nat.le_of_ble_eq_true rfl) dX5_endOfToken_11 ⟨Nat.zero_le _, Nat.zero_le _⟩ (fun r20 t19 H locs hw hH => ?_)
  refine ccSi0 C hH [.int r20] (c_Reader_isDigit l D Z E ad t19 r20 _ hw) (cwTS 1 hts wd_523 wd_524 wd_12 wd_525 rfl rfl (by decide +kernel) ⟨Nat.le_of_ble_eq_true rfl, Nat.le_of_ble_eq_true rfl⟩) rfl hl.1 rfl (Nat.le_of_ble_eq_true rfl) dX5_endOfToken_14 ⟨Nat.zero_le _, Nat.zero_le _⟩ (fun r22 t21 H locs hw hH => ?_)
  refine lv_istore_n (lv' := [(3, .int r22), (2, .int r18), (0, .ref (ad 5 2)), (1, .int a2)]) hx hb dX5_endOfToken_17 rfl hl (by decide) rfl (fun ls hl => ?_)
  refine lv_iload_n hx hb dX5_endOfToken_18 rfl (lv_at hl 3 rfl) ?_
  refine lv_iconst (v := 1) hx hb dX5_endOfToken_19 (by decide) ?_
  refine lv_iadd hx hb dX5_endOfToken_20 ?_
  refine lv_topi (fun x23 ex23 => ?_)
  have hw := hw x23 ex23
  refine lv_istore (lv' := [(4, .int x23), (3, .int r22), (2, .int r18), (0, .ref (ad 5 2)), (1, .int a2)]) hx hb dX5_endOfToken_21 hl (by decide) rfl (fun ls hl => ?_)
  obtain ⟨nn, hw⟩ := hw
  exact b_Reader_endOfToken_23 C hr hk  nn t21 r18 r22 x23 hw _ _ _ hH (lv_sub hl [3, 2, 1, 0] rfl)
/-! PorterTurns$Reader.spells -/
abbrev rm_Reader_spells : Room := { frames := 6, cells := 0, slots := 0, locals := 300 }
def wp_Reader_spells_3 (post : Int32 → CS → Prop) : Nat → CS → Int32 → Int32 → Int32 → Int32 → Prop
  | 0 => fun _ _ _ _ _ => False
  | n + 1 => fun t x1_ x2_ x3_ x4_ => if x3_ ≤ x4_ then (post (1 : Int32) t) else (∀ x2 : Int32, x2 = (x2_ + x4_) → (if x2 < 0 then (post (0 : Int32) t) else (if (90 : Int32) ≤ x2 then (post (0 : Int32) t) else (vp_in x2 90 ∧ (wp_Tape_at t (x1_ + x4_) (fun r7 t6 => if (wordBytes.getD x2.toNatClampNeg 0) = r7 then (∀ x9 : Int32, x9 = x4_ + (1 : Int32) → (wp_Reader_spells_3 post n t6 x1_ x2_ x3_ x9)) else (post (0 : Int32) t6)))))))
set_option maxHeartbeats 4000000 in
set_option maxRecDepth 100000 in
theorem b_Reader_spells_3 {p : Program} {l : Launch} {e : Env} {s : State} {m : MethodId} {args : Array Value} {below : List Frame} {meth : Method} {c : Code} {D : va_G} {Z : Nat → ClassId} {E : Nat → Nat} {ad : Nat → Nat → Nat} {A : Nat → Prop} (C : CC p s m args c cX5_spells 6 RX5 D Z E A) (hr : meth.sig.returnType = some .boolean) (hk : meth.locks = false) {post : Int32 → CS → Prop} : ∀ (n : Nat) (t : CS) (x1_ : Int32) (x2_ : Int32) (x3_ : Int32) (x4_ : Int32), wp_Reader_spells_3 post n t x1_ x2_ x3_ x4_ → ∀ (H : Heap) (locs : List Loc) (ls : Array Slot), CH D Z E ad A s.heap t H locs → lv_has ls 6 [(0, .ref (ad 5 2)), (1, .int x1_), (2, .int x2_), (3, .int x3_), (4, .int x4_)] → CWi p l e rm_Reader_spells s m args below meth c D Z E ad A 0 0 post H locs 0 0 (F0 m 3 ls []) := by
  obtain ⟨⟨hx, hb, hml, hown, hts⟩, hK⟩ := id C
  intro n
  induction n with
  | zero => intro t x1_ x2_ x3_ x4_ hw; exact hw.elim
  | succ n ih =>
    intro t x1_ x2_ x3_ x4_ hw H locs ls hH hl
    unfold wp_Reader_spells_3 at hw
    refine lv_iload hx hb dX5_spells_3 (lv_at hl 4 rfl) ?_
    refine lv_iload_n hx hb dX5_spells_5 rfl (lv_at hl 3 rfl) ?_
    refine lv_icmp_ge (tgt := 56) hx hb dX5_spells_6 (by decide) (fun c1 => ?_) (fun c1 => ?_)
    · have hw := ifp c1 hw
      refine lv_iconst (v := 1) hx hb dX5_spells_56 (by decide) ?_
      exact crz C hr hk hH (Nat.zero_le _) (Nat.zero_le _) bz1 hw dX5_spells_57
    · have hw := ifn c1 hw
      refine lv_iload_n hx hb dX5_spells_9 rfl (lv_at hl 2 rfl) ?_
      refine lv_iload hx hb dX5_spells_10 (lv_at hl 4 rfl) ?_
      refine lv_iadd hx hb dX5_spells_12 ?_
      refine lv_topi (fun x2 ex2 => ?_)
      have hw := hw x2 ex2
      refine lv_istore (lv' := [(5, .int x2), (0, .ref (ad 5 2)), (1, .int x1_), (2, .int x2_), (3, .int x3_), (4, .int x4_)]) hx hb dX5_spells_13 hl (by decide) rfl (fun ls hl => ?_)
      refine lv_iload hx hb dX5_spells_15 (lv_at hl 0 rfl) ?_
      refine lv_if_lt (tgt := 48) hx hb dX5_spells_17 (by decide) (fun c3 => ?_) (fun c3 => ?_)
      · have hw := ifp c3 hw
        refine lv_iconst (v := 0) hx hb dX5_spells_48 (by decide) ?_
        exact crz C hr hk hH (Nat.zero_le _) (Nat.zero_le _) bz0 hw dX5_spells_49
      · have hw := ifn c3 hw
        refine lv_iload hx hb dX5_spells_20 (lv_at hl 0 rfl) ?_
        refine va_ldcS hx hb hown C.2.2.1.2.2.2.2.1 dX5_spells_22 ?_
        refine sLen C hH wd_533 hl.1 (Nat.le_of_ble_eq_true rfl) dX5_spells_24 ⟨Nat.zero_le _, Nat.zero_le _⟩ ⟨Nat.le_of_ble_eq_true rfl, Nat.le_of_ble_eq_true rfl⟩ (fun H locs hH => ?_)
        refine lv_icmp_ge (tgt := 48) hx hb dX5_spells_27 (by decide) (fun c4 => ?_) (fun c4 => ?_)
        · have hw := ifp c4 hw
          refine lv_iconst (v := 0) hx hb dX5_spells_48 (by decide) ?_
          exact crz C hr hk hH (Nat.zero_le _) (Nat.zero_le _) bz0 hw dX5_spells_49
        · have hw := ifn c4 hw
          refine va_ldcS hx hb hown C.2.2.1.2.2.2.2.1 dX5_spells_30 ?_
          refine lv_iload hx hb dX5_spells_32 (lv_at hl 0 rfl) ?_
          obtain ⟨h5, hw⟩ := hw
          refine sChar C hH h5 wd_543 hl.1 (Nat.le_of_ble_eq_true rfl) dX5_spells_34 ⟨Nat.zero_le _, Nat.zero_le _⟩ ⟨Nat.le_of_ble_eq_true rfl, Nat.le_of_ble_eq_true rfl⟩ (fun H locs hH => ?_)
          refine lv_aload_n hx hb dX5_spells_37 rfl (lv_at hl 1 rfl) ?_
          refine lv_iload_n hx hb dX5_spells_38 rfl (lv_at hl 2 rfl) ?_
          refine lv_iload hx hb dX5_spells_39 (lv_at hl 5 rfl) ?_
          refine lv_iadd hx hb dX5_spells_41 ?_
          refine ccVi0 C hH (crecv C hH 5 2 (by decide) (Nat.le_of_ble_eq_true rfl) rfl rfl (q := (RX8, TX8, 2))) [.int (x1_ + x4_)] (c_Tape_at l D Z E ad t (x1_ + x4_) _ hw) (cwTV 1 hts wd_513 wd_514 wd_515 wd_11 wd_516 rfl rfl (by decide +kernel) ⟨Nat.le_of_ble_eq_true rfl, Nat.le_of_ble_eq_true rfl⟩) rfl hl.1 rfl (Nat.le_of_ble_eq_true rfl) dX5_spells_42 ⟨Nat.zero_le _, Nat.zero_le _⟩ (fun r7 t6 H locs hw hH => ?_)
          refine lv_icmp_eq (tgt := 50) hx hb dX5_spells_45 (by decide) (fun c8 => ?_) (fun c8 => ?_)
          · have hw := ifp c8 hw
            obtain ⟨x9, ex9⟩ : ∃ y : Int32, y = x4_ + (1 : Int32) := ⟨_, rfl⟩
            have hw := hw x9 ex9
            refine lv_iinc (v := x9) (lv' := [(4, .int x9), (5, .int x2), (0, .ref (ad 5 2)), (1, .int x1_), (2, .int x2_), (3, .int x3_)]) hx hb dX5_spells_50 hl (k := 5) rfl (by rw [ex9]; rfl) (by decide) rfl (fun ls hl => ?_)
            refine lv_goto (tgt := 3) hx hb dX5_spells_53 (by decide) ?_
            exact ih t6 x1_ x2_ x3_ x9 hw _ _ _ hH (lv_sub hl [2, 3, 4, 5, 0] rfl)
          · have hw := ifn c8 hw
            refine lv_iconst (v := 0) hx hb dX5_spells_48 (by decide) ?_
            exact crz C hr hk hH (Nat.zero_le _) (Nat.zero_le _) bz0 hw dX5_spells_49
def wp_Reader_spells (t : CS) (a2 : Int32) (a3 : Int32) (a4 : Int32) (post : Int32 → CS → Prop) : Prop := ∃ nn : Nat, wp_Reader_spells_3 post nn t a2 a3 a4 (0 : Int32)
set_option maxHeartbeats 4000000 in
set_option maxRecDepth 100000 in
theorem c_Reader_spells (l : Launch) (D : va_G) (Z : Nat → ClassId) (E : Nat → Nat) (ad : Nat → Nat → Nat) (t : CS) (a2 : Int32) (a3 : Int32) (a4 : Int32) (post : Int32 → CS → Prop) (hw : wp_Reader_spells t a2 a3 a4 post) (L : List Nat) (sz : Nat) : Met l yX5_spells (Wd yX5_spells cX5_spells 6 (some .boolean)) rm_Reader_spells (va_Pc [.ref (ad 5 2), .int a2, .int a3, .int a4] (cPre D Z E ad L sz t)) (va_Qi post (cPost D Z E ad (cAs L sz)) (cAs L sz)) 0 0 (cAs L sz) := by
  refine cMet (Qc := fun A => va_Qi post (cPost D Z E ad A) A) (by decide) rfl _ (Nat.le_of_ble_eq_true rfl) (fun p e s m args below meth c A C hr hk ls hl hH => ?_) L sz
  obtain ⟨⟨hx, hb, hml, hown, hts⟩, hK⟩ := id C
  have hl : lv_has ls 6 [(0, .ref (ad 5 2)), (1, .int a2), (2, .int a3), (3, .int a4)] := hl
  unfold wp_Reader_spells at hw
  refine lv_iconst (v := 0) hx hb dX5_spells_0 (by decide) ?_
  refine lv_istore (lv' := [(4, .int (0 : Int32)), (0, .ref (ad 5 2)), (1, .int a2), (2, .int a3), (3, .int a4)]) hx hb dX5_spells_1 hl (by decide) rfl (fun ls hl => ?_)
  obtain ⟨nn, hw⟩ := hw
  exact b_Reader_spells_3 C hr hk  nn t a2 a3 a4 (0 : Int32) hw _ _ _ hH (lv_sub hl [1, 2, 3, 4, 0] rfl)
/-! PorterTurns$Reader.wordMeaning -/
abbrev rm_Reader_wordMeaning : Room := { frames := 7, cells := 0, slots := 0, locals := 325 }
def wp_Reader_wordMeaning_63 (k10 : CS → Int32 → Int32 → Int32 → Int32 → Int32 → Prop) (post : Int32 → CS → Prop) (t : CS) (x1_ : Int32) (x2_ : Int32) (x3_ : Int32) (x4_ : Int32) (x5_ : Int32) : Prop := ∀ x1 : Int32, x1 = x5_ + (1 : Int32) → (k10 t x1_ x2_ x3_ x4_ x1)
set_option maxHeartbeats 4000000 in
set_option maxRecDepth 100000 in
theorem b_Reader_wordMeaning_63 {p : Program} {l : Launch} {e : Env} {s : State} {m : MethodId} {args : Array Value} {below : List Frame} {meth : Method} {c : Code} {D : va_G} {Z : Nat → ClassId} {E : Nat → Nat} {ad : Nat → Nat → Nat} {A : Nat → Prop} (C : CC p s m args c cX5_wordMeaning 6 RX5 D Z E A) (hr : meth.sig.returnType = some .int) (hk : meth.locks = false) {post : Int32 → CS → Prop} {k10 : CS → Int32 → Int32 → Int32 → Int32 → Int32 → Prop} (hk10 : ∀ (t : CS) (y1 : Int32) (y2 : Int32) (y3 : Int32) (y4 : Int32) (y5 : Int32), k10 t y1 y2 y3 y4 y5 → ∀ (H : Heap) (locs : List Loc) (ls : Array Slot), CH D Z E ad A s.heap t H locs → lv_has ls 6 [(0, .ref (ad 5 2)), (1, .int y1), (2, .int y2), (3, .int y3), (4, .int y4), (5, .int y5)] → CWi p l e rm_Reader_wordMeaning s m args below meth c D Z E ad A 0 0 post H locs 0 0 (F0 m 10 ls [])) : ∀ (t : CS) (x1_ : Int32) (x2_ : Int32) (x3_ : Int32) (x4_ : Int32) (x5_ : Int32), wp_Reader_wordMeaning_63 k10 post t x1_ x2_ x3_ x4_ x5_ → ∀ (H : Heap) (locs : List Loc) (ls : Array Slot), CH D Z E ad A s.heap t H locs → lv_has ls 6 [(0, .ref (ad 5 2)), (1, .int x1_), (2, .int x2_), (3, .int x3_), (4, .int x4_), (5, .int x5_)] → CWi p l e rm_Reader_wordMeaning s m args below meth c D Z E ad A 0 0 post H locs 0 0 (F0 m 63 ls []) := by
  obtain ⟨⟨hx, hb, hml, hown, hts⟩, hK⟩ := id C
  intro t x1_ x2_ x3_ x4_ x5_ hw H locs ls hH hl
  unfold wp_Reader_wordMeaning_63 at hw
  obtain ⟨x1, ex1⟩ : ∃ y : Int32, y = x5_ + (1 : Int32) := ⟨_, rfl⟩
  have hw := hw x1 ex1
  refine lv_iinc (v := x1) (lv' := [(5, .int x1), (0, .ref (ad 5 2)), (1, .int x1_), (2, .int x2_), (3, .int x3_), (4, .int x4_)]) hx hb dX5_wordMeaning_63 hl (k := 5) rfl (by rw [ex1]; rfl) (by decide) rfl (fun ls hl => ?_)
  refine lv_goto (tgt := 10) hx hb dX5_wordMeaning_66 (by decide) ?_
  exact hk10 t x1_ x2_ x3_ x4_ x1 hw _ _ _ hH (lv_sub hl [1, 2, 3, 4, 5, 0] rfl)
def wp_Reader_wordMeaning_54 (k10 : CS → Int32 → Int32 → Int32 → Int32 → Int32 → Prop) (post : Int32 → CS → Prop) (t : CS) (x1_ : Int32) (x2_ : Int32) (x3_ : Int32) (x5_ : Int32) : Prop := ∀ x2 : Int32, x2 = x3_ + (1 : Int32) → (∀ x3 : Int32, x3 = (x5_ + (1 : Int32)) → (wp_Reader_wordMeaning_63 (k10) post t x1_ x2_ x2 x3 x5_))
set_option maxHeartbeats 4000000 in
set_option maxRecDepth 100000 in
theorem b_Reader_wordMeaning_54 {p : Program} {l : Launch} {e : Env} {s : State} {m : MethodId} {args : Array Value} {below : List Frame} {meth : Method} {c : Code} {D : va_G} {Z : Nat → ClassId} {E : Nat → Nat} {ad : Nat → Nat → Nat} {A : Nat → Prop} (C : CC p s m args c cX5_wordMeaning 6 RX5 D Z E A) (hr : meth.sig.returnType = some .int) (hk : meth.locks = false) {post : Int32 → CS → Prop} {k10 : CS → Int32 → Int32 → Int32 → Int32 → Int32 → Prop} (hk10 : ∀ (t : CS) (y1 : Int32) (y2 : Int32) (y3 : Int32) (y4 : Int32) (y5 : Int32), k10 t y1 y2 y3 y4 y5 → ∀ (H : Heap) (locs : List Loc) (ls : Array Slot), CH D Z E ad A s.heap t H locs → lv_has ls 6 [(0, .ref (ad 5 2)), (1, .int y1), (2, .int y2), (3, .int y3), (4, .int y4), (5, .int y5)] → CWi p l e rm_Reader_wordMeaning s m args below meth c D Z E ad A 0 0 post H locs 0 0 (F0 m 10 ls [])) : ∀ (t : CS) (x1_ : Int32) (x2_ : Int32) (x3_ : Int32) (x5_ : Int32), wp_Reader_wordMeaning_54 k10 post t x1_ x2_ x3_ x5_ → ∀ (H : Heap) (locs : List Loc) (ls : Array Slot), CH D Z E ad A s.heap t H locs → lv_has ls 6 [(0, .ref (ad 5 2)), (1, .int x1_), (2, .int x2_), (3, .int x3_), (5, .int x5_)] → CWi p l e rm_Reader_wordMeaning s m args below meth c D Z E ad A 0 0 post H locs 0 0 (F0 m 54 ls []) := by
  obtain ⟨⟨hx, hb, hml, hown, hts⟩, hK⟩ := id C
  intro t x1_ x2_ x3_ x5_ hw H locs ls hH hl
  unfold wp_Reader_wordMeaning_54 at hw
  obtain ⟨x2, ex2⟩ : ∃ y : Int32, y = x3_ + (1 : Int32) := ⟨_, rfl⟩
  have hw := hw x2 ex2
  refine lv_iinc (v := x2) (lv' := [(3, .int x2), (0, .ref (ad 5 2)), (1, .int x1_), (2, .int x2_), (5, .int x5_)]) hx hb dX5_wordMeaning_54 hl (k := 3) rfl (by rw [ex2]; rfl) (by decide) rfl (fun ls hl => ?_)
  refine lv_iload hx hb dX5_wordMeaning_57 (lv_at hl 4 rfl) ?_
  refine lv_iconst (v := 1) hx hb dX5_wordMeaning_59 (by decide) ?_
  refine lv_iadd hx hb dX5_wordMeaning_60 ?_
  refine lv_topi (fun x3 ex3 => ?_)
  have hw := hw x3 ex3
  refine lv_istore (lv' := [(4, .int x3), (3, .int x2), (0, .ref (ad 5 2)), (1, .int x1_), (2, .int x2_), (5, .int x5_)]) hx hb dX5_wordMeaning_61 hl (by decide) rfl (fun ls hl => ?_)
  exact b_Reader_wordMeaning_63 C hr hk hk10 t x1_ x2_ x2 x3 x5_ hw _ _ _ hH (lv_sub hl [2, 3, 4, 1, 0, 5] rfl)
def wp_Reader_wordMeaning_10 (post : Int32 → CS → Prop) : Nat → CS → Int32 → Int32 → Int32 → Int32 → Int32 → Prop
  | 0 => fun _ _ _ _ _ _ => False
  | n + 1 => fun t x1_ x2_ x3_ x4_ x5_ => if (90 : Int32) ≤ x5_ then (post (2 : Int32) t) else (vp_in x5_ 90 ∧ (if (wordBytes.getD x5_.toNatClampNeg 0) = (32 : Int32) then (if (x5_ - x4_) = x2_ then (wp_Reader_spells t x1_ x4_ x2_ (fun r9 t8 => if r9 = 0 then (wp_Reader_wordMeaning_54 (wp_Reader_wordMeaning_10 post n) post t8 x1_ x2_ x3_ x5_) else (post x3_ t8))) else (wp_Reader_wordMeaning_54 (wp_Reader_wordMeaning_10 post n) post t x1_ x2_ x3_ x5_)) else (wp_Reader_wordMeaning_63 (wp_Reader_wordMeaning_10 post n) post t x1_ x2_ x3_ x4_ x5_)))
set_option maxHeartbeats 4000000 in
set_option maxRecDepth 100000 in
theorem b_Reader_wordMeaning_10 {p : Program} {l : Launch} {e : Env} {s : State} {m : MethodId} {args : Array Value} {below : List Frame} {meth : Method} {c : Code} {D : va_G} {Z : Nat → ClassId} {E : Nat → Nat} {ad : Nat → Nat → Nat} {A : Nat → Prop} (C : CC p s m args c cX5_wordMeaning 6 RX5 D Z E A) (hr : meth.sig.returnType = some .int) (hk : meth.locks = false) {post : Int32 → CS → Prop} : ∀ (n : Nat) (t : CS) (x1_ : Int32) (x2_ : Int32) (x3_ : Int32) (x4_ : Int32) (x5_ : Int32), wp_Reader_wordMeaning_10 post n t x1_ x2_ x3_ x4_ x5_ → ∀ (H : Heap) (locs : List Loc) (ls : Array Slot), CH D Z E ad A s.heap t H locs → lv_has ls 6 [(0, .ref (ad 5 2)), (1, .int x1_), (2, .int x2_), (3, .int x3_), (4, .int x4_), (5, .int x5_)] → CWi p l e rm_Reader_wordMeaning s m args below meth c D Z E ad A 0 0 post H locs 0 0 (F0 m 10 ls []) := by
  obtain ⟨⟨hx, hb, hml, hown, hts⟩, hK⟩ := id C
  intro n
  induction n with
  | zero => intro t x1_ x2_ x3_ x4_ x5_ hw; exact hw.elim
  | succ n ih =>
    intro t x1_ x2_ x3_ x4_ x5_ hw H locs ls hH hl
    unfold wp_Reader_wordMeaning_10 at hw
    refine lv_iload hx hb dX5_wordMeaning_10 (lv_at hl 5 rfl) ?_
    refine va_ldcS hx hb hown C.2.2.1.2.2.2.2.1 dX5_wordMeaning_12 ?_
    refine sLen C hH wd_533 hl.1 (Nat.le_of_ble_eq_true rfl) dX5_wordMeaning_14 ⟨Nat.zero_le _, Nat.zero_le _⟩ ⟨Nat.le_of_ble_eq_true rfl, Nat.le_of_ble_eq_true rfl⟩ (fun H locs hH => ?_)
    refine lv_icmp_ge (tgt := 69) hx hb dX5_wordMeaning_17 (by decide) (fun c4 => ?_) (fun c4 => ?_)
    · have hw := ifp c4 hw
      refine lv_iconst (v := 2) hx hb dX5_wordMeaning_69 (by decide) ?_
      exact cri C hr hk hH (Nat.zero_le _) (Nat.zero_le _) hw dX5_wordMeaning_70
    · have hw := ifn c4 hw
      refine va_ldcS hx hb hown C.2.2.1.2.2.2.2.1 dX5_wordMeaning_20 ?_
      refine lv_iload hx hb dX5_wordMeaning_22 (lv_at hl 5 rfl) ?_
      obtain ⟨h5, hw⟩ := hw
      refine sChar C hH h5 wd_543 hl.1 (Nat.le_of_ble_eq_true rfl) dX5_wordMeaning_24 ⟨Nat.zero_le _, Nat.zero_le _⟩ ⟨Nat.le_of_ble_eq_true rfl, Nat.le_of_ble_eq_true rfl⟩ (fun H locs hH => ?_)
      refine lv_bipush (v := 32) hx hb dX5_wordMeaning_27 (by decide) ?_
      refine lv_icmp_ne (tgt := 63) hx hb dX5_wordMeaning_29 (by decide) (fun c6 => ?_) (fun c6 => ?_)
      · have hw := ifn c6 hw
        exact b_Reader_wordMeaning_63 C hr hk ih t x1_ x2_ x3_ x4_ x5_ hw _ _ _ hH (lv_sub hl [0, 1, 2, 3, 4, 5] rfl)
      · have hw := ifp c6 hw
        refine lv_iload hx hb dX5_wordMeaning_32 (lv_at hl 5 rfl) ?_
        refine lv_iload hx hb dX5_wordMeaning_34 (lv_at hl 4 rfl) ?_
        refine lv_isub hx hb dX5_wordMeaning_36 ?_
        refine lv_iload_n hx hb dX5_wordMeaning_37 rfl (lv_at hl 2 rfl) ?_
        refine lv_icmp_ne (tgt := 54) hx hb dX5_wordMeaning_38 (by decide) (fun c7 => ?_) (fun c7 => ?_)
        · have hw := ifn c7 hw
          exact b_Reader_wordMeaning_54 C hr hk ih t x1_ x2_ x3_ x5_ hw _ _ _ hH (lv_sub hl [0, 1, 2, 3, 5] rfl)
        · have hw := ifp c7 hw
          refine lv_aload_n hx hb dX5_wordMeaning_41 rfl (lv_at hl 0 rfl) ?_
          refine lv_iload_n hx hb dX5_wordMeaning_42 rfl (lv_at hl 1 rfl) ?_
          refine lv_iload hx hb dX5_wordMeaning_43 (lv_at hl 4 rfl) ?_
          refine lv_iload_n hx hb dX5_wordMeaning_45 rfl (lv_at hl 2 rfl) ?_
          refine ccSi0 C hH [.ref (ad 5 2), .int x1_, .int x4_, .int x2_] (c_Reader_spells l D Z E ad t x1_ x4_ x2_ _ hw) (cwTS 4 hts wd_579 wd_580 wd_12 wd_581 rfl rfl (by decide +kernel) ⟨Nat.le_of_ble_eq_true rfl, Nat.le_of_ble_eq_true rfl⟩) rfl hl.1 rfl (Nat.le_of_ble_eq_true rfl) dX5_wordMeaning_46 ⟨Nat.zero_le _, Nat.zero_le _⟩ (fun r9 t8 H locs hw hH => ?_)
          refine lv_if_eq (tgt := 54) hx hb dX5_wordMeaning_49 (by decide) (fun c10 => ?_) (fun c10 => ?_)
          · have hw := ifp c10 hw
            exact b_Reader_wordMeaning_54 C hr hk ih t8 x1_ x2_ x3_ x5_ hw _ _ _ hH (lv_sub hl [0, 1, 2, 3, 5] rfl)
          · have hw := ifn c10 hw
            refine lv_iload_n hx hb dX5_wordMeaning_52 rfl (lv_at hl 3 rfl) ?_
            exact cri C hr hk hH (Nat.zero_le _) (Nat.zero_le _) hw dX5_wordMeaning_53
def wp_Reader_wordMeaning (t : CS) (a2 : Int32) (a3 : Int32) (post : Int32 → CS → Prop) : Prop := ∃ nn : Nat, wp_Reader_wordMeaning_10 post nn t a2 a3 (128 : Int32) (0 : Int32) (0 : Int32)
set_option maxHeartbeats 4000000 in
set_option maxRecDepth 100000 in
theorem c_Reader_wordMeaning (l : Launch) (D : va_G) (Z : Nat → ClassId) (E : Nat → Nat) (ad : Nat → Nat → Nat) (t : CS) (a2 : Int32) (a3 : Int32) (post : Int32 → CS → Prop) (hw : wp_Reader_wordMeaning t a2 a3 post) (L : List Nat) (sz : Nat) : Met l yX5_wordMeaning (Wd yX5_wordMeaning cX5_wordMeaning 6 (some .int)) rm_Reader_wordMeaning (va_Pc [.ref (ad 5 2), .int a2, .int a3] (cPre D Z E ad L sz t)) (va_Qi post (cPost D Z E ad (cAs L sz)) (cAs L sz)) 0 0 (cAs L sz) := by
  refine cMet (Qc := fun A => va_Qi post (cPost D Z E ad A) A) (by decide) rfl _ (Nat.le_of_ble_eq_true rfl) (fun p e s m args below meth c A C hr hk ls hl hH => ?_) L sz
  obtain ⟨⟨hx, hb, hml, hown, hts⟩, hK⟩ := id C
  have hl : lv_has ls 6 [(0, .ref (ad 5 2)), (1, .int a2), (2, .int a3)] := hl
  unfold wp_Reader_wordMeaning at hw
  refine lv_sipush (v := 128) hx hb dX5_wordMeaning_0 (by decide) ?_
  refine lv_istore_n (lv' := [(3, .int (128 : Int32)), (0, .ref (ad 5 2)), (1, .int a2), (2, .int a3)]) hx hb dX5_wordMeaning_3 rfl hl (by decide) rfl (fun ls hl => ?_)
  refine lv_iconst (v := 0) hx hb dX5_wordMeaning_4 (by decide) ?_
  refine lv_istore (lv' := [(4, .int (0 : Int32)), (3, .int (128 : Int32)), (0, .ref (ad 5 2)), (1, .int a2), (2, .int a3)]) hx hb dX5_wordMeaning_5 hl (by decide) rfl (fun ls hl => ?_)
  refine lv_iconst (v := 0) hx hb dX5_wordMeaning_7 (by decide) ?_
  refine lv_istore (lv' := [(5, .int (0 : Int32)), (4, .int (0 : Int32)), (3, .int (128 : Int32)), (0, .ref (ad 5 2)), (1, .int a2), (2, .int a3)]) hx hb dX5_wordMeaning_8 hl (by decide) rfl (fun ls hl => ?_)
  obtain ⟨nn, hw⟩ := hw
  exact b_Reader_wordMeaning_10 C hr hk  nn t a2 a3 (128 : Int32) (0 : Int32) (0 : Int32) hw _ _ _ hH (lv_sub hl [3, 4, 5, 2, 1, 0] rfl)
/-! PorterTurns$Reader.numberMeaning -/
abbrev rm_Reader_numberMeaning : Room := { frames := 1, cells := 0, slots := 0, locals := 21 }
def wp_Reader_numberMeaning_14 (post : Int32 → CS → Prop) : Nat → CS → Int32 → Int32 → Int32 → Prop
  | 0 => fun _ _ _ _ => False
  | n + 1 => fun t x2_ x3_ x4_ => if x2_ ≤ x4_ then (post ((1000 : Int32) + x3_) t) else (wp_Tape_at t x4_ (fun r3 t2 => ∀ x4 : Int32, x4 = (((x3_ * (10 : Int32)) + r3) - (48 : Int32)) → (∀ x5 : Int32, x5 = x4_ + (1 : Int32) → (wp_Reader_numberMeaning_14 post n t2 x2_ x4 x5))))
set_option maxHeartbeats 4000000 in
set_option maxRecDepth 100000 in
theorem b_Reader_numberMeaning_14 {p : Program} {l : Launch} {e : Env} {s : State} {m : MethodId} {args : Array Value} {below : List Frame} {meth : Method} {c : Code} {D : va_G} {Z : Nat → ClassId} {E : Nat → Nat} {ad : Nat → Nat → Nat} {A : Nat → Prop} (C : CC p s m args c cX5_numberMeaning 5 RX5 D Z E A) (hr : meth.sig.returnType = some .int) (hk : meth.locks = false) {post : Int32 → CS → Prop} : ∀ (n : Nat) (t : CS) (x2_ : Int32) (x3_ : Int32) (x4_ : Int32), wp_Reader_numberMeaning_14 post n t x2_ x3_ x4_ → ∀ (H : Heap) (locs : List Loc) (ls : Array Slot), CH D Z E ad A s.heap t H locs → lv_has ls 5 [(0, .ref (ad 5 2)), (2, .int x2_), (3, .int x3_), (4, .int x4_)] → CWi p l e rm_Reader_numberMeaning s m args below meth c D Z E ad A 0 0 post H locs 0 0 (F0 m 14 ls []) := by
  obtain ⟨⟨hx, hb, hml, hown, hts⟩, hK⟩ := id C
  intro n
  induction n with
  | zero => intro t x2_ x3_ x4_ hw; exact hw.elim
  | succ n ih =>
    intro t x2_ x3_ x4_ hw H locs ls hH hl
    unfold wp_Reader_numberMeaning_14 at hw
    refine lv_iload hx hb dX5_numberMeaning_14 (lv_at hl 3 rfl) ?_
    refine lv_iload_n hx hb dX5_numberMeaning_16 rfl (lv_at hl 1 rfl) ?_
    refine lv_icmp_ge (tgt := 41) hx hb dX5_numberMeaning_17 (by decide) (fun c1 => ?_) (fun c1 => ?_)
    · have hw := ifp c1 hw
      refine lv_sipush (v := 1000) hx hb dX5_numberMeaning_41 (by decide) ?_
      refine lv_iload_n hx hb dX5_numberMeaning_44 rfl (lv_at hl 2 rfl) ?_
      refine lv_iadd hx hb dX5_numberMeaning_45 ?_
      exact cri C hr hk hH (Nat.zero_le _) (Nat.zero_le _) hw dX5_numberMeaning_46
    · have hw := ifn c1 hw
      refine lv_iload_n hx hb dX5_numberMeaning_20 rfl (lv_at hl 2 rfl) ?_
      refine lv_bipush (v := 10) hx hb dX5_numberMeaning_21 (by decide) ?_
      refine lv_imul hx hb dX5_numberMeaning_23 ?_
      refine lv_aload_n hx hb dX5_numberMeaning_24 rfl (lv_at hl 0 rfl) ?_
      refine lv_iload hx hb dX5_numberMeaning_25 (lv_at hl 3 rfl) ?_
      refine ccVi0 C hH (crecv C hH 5 2 (by decide) (Nat.le_of_ble_eq_true rfl) rfl rfl (q := (RX8, TX8, 2))) [.int x4_] (c_Tape_at l D Z E ad t x4_ _ hw) (cwTV 1 hts wd_513 wd_514 wd_515 wd_11 wd_516 rfl rfl (by decide +kernel) ⟨Nat.le_of_ble_eq_true rfl, Nat.le_of_ble_eq_true rfl⟩) rfl hl.1 rfl (Nat.le_of_ble_eq_true rfl) dX5_numberMeaning_27 ⟨Nat.zero_le _, Nat.zero_le _⟩ (fun r3 t2 H locs hw hH => ?_)
      refine lv_iadd hx hb dX5_numberMeaning_30 ?_
      refine lv_bipush (v := 48) hx hb dX5_numberMeaning_31 (by decide) ?_
      refine lv_isub hx hb dX5_numberMeaning_33 ?_
      refine lv_topi (fun x4 ex4 => ?_)
      have hw := hw x4 ex4
      refine lv_istore_n (lv' := [(3, .int x4), (0, .ref (ad 5 2)), (2, .int x2_), (4, .int x4_)]) hx hb dX5_numberMeaning_34 rfl hl (by decide) rfl (fun ls hl => ?_)
      obtain ⟨x5, ex5⟩ : ∃ y : Int32, y = x4_ + (1 : Int32) := ⟨_, rfl⟩
      have hw := hw x5 ex5
      refine lv_iinc (v := x5) (lv' := [(4, .int x5), (3, .int x4), (0, .ref (ad 5 2)), (2, .int x2_)]) hx hb dX5_numberMeaning_35 hl (k := 3) rfl (by rw [ex5]; rfl) (by decide) rfl (fun ls hl => ?_)
      refine lv_goto (tgt := 14) hx hb dX5_numberMeaning_38 (by decide) ?_
      exact ih t2 x2_ x4 x5 hw _ _ _ hH (lv_sub hl [2, 3, 1, 0] rfl)
def wp_Reader_numberMeaning (t : CS) (a2 : Int32) (a3 : Int32) (post : Int32 → CS → Prop) : Prop := if (a3 - a2) ≤ (5 : Int32) then (∃ nn : Nat, wp_Reader_numberMeaning_14 post nn t a3 (0 : Int32) a2) else (post (2 : Int32) t)
set_option maxHeartbeats 4000000 in
set_option maxRecDepth 100000 in
theorem c_Reader_numberMeaning (l : Launch) (D : va_G) (Z : Nat → ClassId) (E : Nat → Nat) (ad : Nat → Nat → Nat) (t : CS) (a2 : Int32) (a3 : Int32) (post : Int32 → CS → Prop) (hw : wp_Reader_numberMeaning t a2 a3 post) (L : List Nat) (sz : Nat) : Met l yX5_numberMeaning (Wd yX5_numberMeaning cX5_numberMeaning 5 (some .int)) rm_Reader_numberMeaning (va_Pc [.ref (ad 5 2), .int a2, .int a3] (cPre D Z E ad L sz t)) (va_Qi post (cPost D Z E ad (cAs L sz)) (cAs L sz)) 0 0 (cAs L sz) := by
  refine cMet (Qc := fun A => va_Qi post (cPost D Z E ad A) A) (by decide) rfl _ (Nat.le_of_ble_eq_true rfl) (fun p e s m args below meth c A C hr hk ls hl hH => ?_) L sz
  obtain ⟨⟨hx, hb, hml, hown, hts⟩, hK⟩ := id C
  have hl : lv_has ls 5 [(0, .ref (ad 5 2)), (1, .int a2), (2, .int a3)] := hl
  unfold wp_Reader_numberMeaning at hw
  refine lv_iload_n hx hb dX5_numberMeaning_0 rfl (lv_at hl 2 rfl) ?_
  refine lv_iload_n hx hb dX5_numberMeaning_1 rfl (lv_at hl 1 rfl) ?_
  refine lv_isub hx hb dX5_numberMeaning_2 ?_
  refine lv_iconst (v := 5) hx hb dX5_numberMeaning_3 (by decide) ?_
  refine lv_icmp_le (tgt := 9) hx hb dX5_numberMeaning_4 (by decide) (fun c6 => ?_) (fun c6 => ?_)
  · have hw := ifp c6 hw
    refine lv_iconst (v := 0) hx hb dX5_numberMeaning_9 (by decide) ?_
    refine lv_istore_n (lv' := [(3, .int (0 : Int32)), (0, .ref (ad 5 2)), (1, .int a2), (2, .int a3)]) hx hb dX5_numberMeaning_10 rfl hl (by decide) rfl (fun ls hl => ?_)
    refine lv_iload_n hx hb dX5_numberMeaning_11 rfl (lv_at hl 2 rfl) ?_
    refine lv_istore (lv' := [(4, .int a2), (3, .int (0 : Int32)), (0, .ref (ad 5 2)), (1, .int a2), (2, .int a3)]) hx hb dX5_numberMeaning_12 hl (by decide) rfl (fun ls hl => ?_)
    obtain ⟨nn, hw⟩ := hw
    exact b_Reader_numberMeaning_14 C hr hk  nn t a3 (0 : Int32) a2 hw _ _ _ hH (lv_sub hl [2, 4, 1, 0] rfl)
  · have hw := ifn c6 hw
    refine lv_iconst (v := 2) hx hb dX5_numberMeaning_7 (by decide) ?_
    exact cri C hr hk hH (Nat.zero_le _) (Nat.zero_le _) hw dX5_numberMeaning_8
/-! PorterTurns$Reader.meaning -/
abbrev rm_Reader_meaning : Room := { frames := 8, cells := 0, slots := 0, locals := 350 }
def wp_Reader_meaning_54 (post : Int32 → CS → Prop) (t : CS) (x3_ : Int32) : Prop := if x3_ < (59 : Int32) then (post (2 : Int32) t) else (if (62 : Int32) < x3_ then (post (2 : Int32) t) else (post x3_ t))
set_option maxHeartbeats 4000000 in
set_option maxRecDepth 100000 in
theorem b_Reader_meaning_54 {p : Program} {l : Launch} {e : Env} {s : State} {m : MethodId} {args : Array Value} {below : List Frame} {meth : Method} {c : Code} {D : va_G} {Z : Nat → ClassId} {E : Nat → Nat} {ad : Nat → Nat → Nat} {A : Nat → Prop} (C : CC p s m args c cX5_meaning 4 RX5 D Z E A) (hr : meth.sig.returnType = some .int) (hk : meth.locks = false) {post : Int32 → CS → Prop} : ∀ (t : CS) (x3_ : Int32), wp_Reader_meaning_54 post t x3_ → ∀ (H : Heap) (locs : List Loc) (ls : Array Slot), CH D Z E ad A s.heap t H locs → lv_has ls 4 [(3, .int x3_)] → CWi p l e rm_Reader_meaning s m args below meth c D Z E ad A 0 0 post H locs 0 0 (F0 m 54 ls []) := by
  obtain ⟨⟨hx, hb, hml, hown, hts⟩, hK⟩ := id C
  intro t x3_ hw H locs ls hH hl
  unfold wp_Reader_meaning_54 at hw
  refine lv_iload_n hx hb dX5_meaning_54 rfl (lv_at hl 0 rfl) ?_
  refine lv_bipush (v := 59) hx hb dX5_meaning_55 (by decide) ?_
  refine lv_icmp_lt (tgt := 70) hx hb dX5_meaning_57 (by decide) (fun c1 => ?_) (fun c1 => ?_)
  · have hw := ifp c1 hw
    refine lv_iconst (v := 2) hx hb dX5_meaning_70 (by decide) ?_
    exact cri C hr hk hH (Nat.zero_le _) (Nat.zero_le _) hw dX5_meaning_71
  · have hw := ifn c1 hw
    refine lv_iload_n hx hb dX5_meaning_60 rfl (lv_at hl 0 rfl) ?_
    refine lv_bipush (v := 62) hx hb dX5_meaning_61 (by decide) ?_
    refine lv_icmp_gt (tgt := 70) hx hb dX5_meaning_63 (by decide) (fun c2 => ?_) (fun c2 => ?_)
    · have hw := ifp c2 hw
      refine lv_iconst (v := 2) hx hb dX5_meaning_70 (by decide) ?_
      exact cri C hr hk hH (Nat.zero_le _) (Nat.zero_le _) hw dX5_meaning_71
    · have hw := ifn c2 hw
      refine lv_iload_n hx hb dX5_meaning_66 rfl (lv_at hl 0 rfl) ?_
      refine lv_goto (tgt := 71) hx hb dX5_meaning_67 (by decide) ?_
      exact cri C hr hk hH (Nat.zero_le _) (Nat.zero_le _) hw dX5_meaning_71
def wp_Reader_meaning (t : CS) (a2 : Int32) (a3 : Int32) (post : Int32 → CS → Prop) : Prop := wp_Tape_at t a2 (fun r4 t3 => wp_Reader_isLetter t3 r4 (fun r6 t5 => if r6 = 0 then (wp_Reader_isDigit t5 r4 (fun r9 t8 => if r9 = 0 then (if r4 < (40 : Int32) then (wp_Reader_meaning_54 post t8 r4) else (if (47 : Int32) < r4 then (wp_Reader_meaning_54 post t8 r4) else (if r4 = (46 : Int32) then (wp_Reader_meaning_54 post t8 r4) else (post r4 t8)))) else (wp_Reader_numberMeaning t8 a2 a3 (fun r15 t14 => post r15 t14)))) else (wp_Reader_wordMeaning t5 a2 (a3 - a2) (fun r17 t16 => post r17 t16))))
set_option maxHeartbeats 4000000 in
set_option maxRecDepth 100000 in
theorem c_Reader_meaning (l : Launch) (D : va_G) (Z : Nat → ClassId) (E : Nat → Nat) (ad : Nat → Nat → Nat) (t : CS) (a2 : Int32) (a3 : Int32) (post : Int32 → CS → Prop) (hw : wp_Reader_meaning t a2 a3 post) (L : List Nat) (sz : Nat) : Met l yX5_meaning (Wd yX5_meaning cX5_meaning 4 (some .int)) rm_Reader_meaning (va_Pc [.ref (ad 5 2), .int a2, .int a3] (cPre D Z E ad L sz t)) (va_Qi post (cPost D Z E ad (cAs L sz)) (cAs L sz)) 0 0 (cAs L sz) := by
  refine cMet (Qc := fun A => va_Qi post (cPost D Z E ad A) A) (by decide) rfl _ (Nat.le_of_ble_eq_true rfl) (fun p e s m args below meth c A C hr hk ls hl hH => ?_) L sz
  obtain ⟨⟨hx, hb, hml, hown, hts⟩, hK⟩ := id C
  have hl : lv_has ls 4 [(0, .ref (ad 5 2)), (1, .int a2), (2, .int a3)] := hl
  unfold wp_Reader_meaning at hw
  refine lv_aload_n hx hb dX5_meaning_0 rfl (lv_at hl 0 rfl) ?_
  refine lv_iload_n hx hb dX5_meaning_1 rfl (lv_at hl 1 rfl) ?_
  refine ccVi0 C hH (crecv C hH 5 2 (by decide) (Nat.le_of_ble_eq_true rfl) rfl rfl (q := (RX8, TX8, 2))) [.int a2] (c_Tape_at l D Z E ad t a2 _ hw) (cwTV 1 hts wd_513 wd_514 wd_515 wd_11 wd_516 rfl rfl (by decide +kernel) ⟨Nat.le_of_ble_eq_true rfl, Nat.le_of_ble_eq_true rfl⟩) rfl hl.1 rfl (Nat.le_of_ble_eq_true rfl) dX5_meaning_2 ⟨Nat.zero_le _, Nat.zero_le _⟩ (fun r4 t3 H locs hw hH => ?_)
  refine lv_istore_n (lv' := [(3, .int r4), (0, .ref (ad 5 2)), (1, .int a2), (2, .int a3)]) hx hb dX5_meaning_5 rfl hl (by decide) rfl (fun ls hl => ?_)
  refine lv_iload_n hx hb dX5_meaning_6 rfl (lv_at hl 0 rfl) ?_
  refine ccSi0 C hH [.int r4] (c_Reader_isLetter l D Z E ad t3 r4 _ hw) (cwTS 1 hts wd_520 wd_521 wd_12 wd_522 rfl rfl (by decide +kernel) ⟨Nat.le_of_ble_eq_true rfl, Nat.le_of_ble_eq_true rfl⟩) rfl hl.1 rfl (Nat.le_of_ble_eq_true rfl) dX5_meaning_7 ⟨Nat.zero_le _, Nat.zero_le _⟩ (fun r6 t5 H locs hw hH => ?_)
  refine lv_if_eq (tgt := 22) hx hb dX5_meaning_10 (by decide) (fun c7 => ?_) (fun c7 => ?_)
  · have hw := ifp c7 hw
    refine lv_iload_n hx hb dX5_meaning_22 rfl (lv_at hl 0 rfl) ?_
    refine ccSi0 C hH [.int r4] (c_Reader_isDigit l D Z E ad t5 r4 _ hw) (cwTS 1 hts wd_523 wd_524 wd_12 wd_525 rfl rfl (by decide +kernel) ⟨Nat.le_of_ble_eq_true rfl, Nat.le_of_ble_eq_true rfl⟩) rfl hl.1 rfl (Nat.le_of_ble_eq_true rfl) dX5_meaning_23 ⟨Nat.zero_le _, Nat.zero_le _⟩ (fun r9 t8 H locs hw hH => ?_)
    refine lv_if_eq (tgt := 36) hx hb dX5_meaning_26 (by decide) (fun c10 => ?_) (fun c10 => ?_)
    · have hw := ifp c10 hw
      refine lv_iload_n hx hb dX5_meaning_36 rfl (lv_at hl 0 rfl) ?_
      refine lv_bipush (v := 40) hx hb dX5_meaning_37 (by decide) ?_
      refine lv_icmp_lt (tgt := 54) hx hb dX5_meaning_39 (by decide) (fun c11 => ?_) (fun c11 => ?_)
      · have hw := ifp c11 hw
        exact b_Reader_meaning_54 C hr hk  t8 r4 hw _ _ _ hH (lv_sub hl [0] rfl)
      · have hw := ifn c11 hw
        refine lv_iload_n hx hb dX5_meaning_42 rfl (lv_at hl 0 rfl) ?_
        refine lv_bipush (v := 47) hx hb dX5_meaning_43 (by decide) ?_
        refine lv_icmp_gt (tgt := 54) hx hb dX5_meaning_45 (by decide) (fun c12 => ?_) (fun c12 => ?_)
        · have hw := ifp c12 hw
          exact b_Reader_meaning_54 C hr hk  t8 r4 hw _ _ _ hH (lv_sub hl [0] rfl)
        · have hw := ifn c12 hw
          refine lv_iload_n hx hb dX5_meaning_48 rfl (lv_at hl 0 rfl) ?_
          refine lv_bipush (v := 46) hx hb dX5_meaning_49 (by decide) ?_
          refine lv_icmp_ne (tgt := 66) hx hb dX5_meaning_51 (by decide) (fun c13 => ?_) (fun c13 => ?_)
          · have hw := ifn c13 hw
            refine lv_iload_n hx hb dX5_meaning_66 rfl (lv_at hl 0 rfl) ?_
            refine lv_goto (tgt := 71) hx hb dX5_meaning_67 (by decide) ?_
            exact cri C hr hk hH (Nat.zero_le _) (Nat.zero_le _) hw dX5_meaning_71
          · have hw := ifp c13 hw
            exact b_Reader_meaning_54 C hr hk  t8 r4 hw _ _ _ hH (lv_sub hl [0] rfl)
    · have hw := ifn c10 hw
      refine lv_aload_n hx hb dX5_meaning_29 rfl (lv_at hl 1 rfl) ?_
      refine lv_iload_n hx hb dX5_meaning_30 rfl (lv_at hl 2 rfl) ?_
      refine lv_iload_n hx hb dX5_meaning_31 rfl (lv_at hl 3 rfl) ?_
      refine ccSi0 C hH [.ref (ad 5 2), .int a2, .int a3] (c_Reader_numberMeaning l D Z E ad t8 a2 a3 _ hw) (cwTS 3 hts wd_582 wd_583 wd_12 wd_584 rfl rfl (by decide +kernel) ⟨Nat.le_of_ble_eq_true rfl, Nat.le_of_ble_eq_true rfl⟩) rfl hl.1 rfl (Nat.le_of_ble_eq_true rfl) dX5_meaning_32 ⟨Nat.zero_le _, Nat.zero_le _⟩ (fun r15 t14 H locs hw hH => ?_)
      exact cri C hr hk hH (Nat.zero_le _) (Nat.zero_le _) hw dX5_meaning_35
  · have hw := ifn c7 hw
    refine lv_aload_n hx hb dX5_meaning_13 rfl (lv_at hl 1 rfl) ?_
    refine lv_iload_n hx hb dX5_meaning_14 rfl (lv_at hl 2 rfl) ?_
    refine lv_iload_n hx hb dX5_meaning_15 rfl (lv_at hl 3 rfl) ?_
    refine lv_iload_n hx hb dX5_meaning_16 rfl (lv_at hl 2 rfl) ?_
    refine lv_isub hx hb dX5_meaning_17 ?_
    refine ccSi0 C hH [.ref (ad 5 2), .int a2, .int (a3 - a2)] (c_Reader_wordMeaning l D Z E ad t5 a2 (a3 - a2) _ hw) (cwTS 3 hts wd_529 wd_530 wd_12 wd_531 rfl rfl (by decide +kernel) ⟨Nat.le_of_ble_eq_true rfl, Nat.le_of_ble_eq_true rfl⟩) rfl hl.1 rfl (Nat.le_of_ble_eq_true rfl) dX5_meaning_18 ⟨Nat.zero_le _, Nat.zero_le _⟩ (fun r17 t16 H locs hw hH => ?_)
    exact cri C hr hk hH (Nat.zero_le _) (Nat.zero_le _) hw dX5_meaning_21
/-! PorterTurns$Reader.addToken -/
abbrev rm_Reader_addToken : Room := { frames := 0, cells := 0, slots := 0, locals := 0 }
def wp_Reader_addToken (t : CS) (a1 : Int32) (a2 : Int32) (post : CS → Prop) : Prop := if (tF t 163 3) < 0 then (post t) else (if (201 : Int32) ≤ (tF t 163 3) then (post t) else (vp_in (tF t 163 3) 201 ∧ (∀ t4 : CS, t4 = sA t 3 (tF t 163 3).toNatClampNeg a1 → (vp_in (tF t4 163 3) 201 ∧ (∀ t6 : CS, t6 = sA t4 4 (tF t4 163 3).toNatClampNeg a2 → (∀ t7 : CS, t7 = sF t6 163 3 ((tF t6 163 3) + (1 : Int32)) → (post t7)))))))
set_option maxHeartbeats 4000000 in
set_option maxRecDepth 100000 in
theorem c_Reader_addToken (l : Launch) (D : va_G) (Z : Nat → ClassId) (E : Nat → Nat) (ad : Nat → Nat → Nat) (t : CS) (a1 : Int32) (a2 : Int32) (post : CS → Prop) (hw : wp_Reader_addToken t a1 a2 post) (L : List Nat) (sz : Nat) : Met l yX5_addToken (Wd yX5_addToken cX5_addToken 3 (none)) rm_Reader_addToken (va_Pc [.ref (ad 5 3), .int a1, .int a2] (cPre D Z E ad L sz t)) (va_Qv post (cPost D Z E ad (cAs L sz)) (cAs L sz)) 0 0 (cAs L sz) := by
  refine cMet (Qc := fun A => va_Qv post (cPost D Z E ad A) A) (by decide) rfl _ (Nat.le_of_ble_eq_true rfl) (fun p e s m args below meth c A C hr hk ls hl hH => ?_) L sz
  obtain ⟨⟨hx, hb, hml, hown, hts⟩, hK⟩ := id C
  have hl : lv_has ls 3 [(0, .ref (ad 5 3)), (1, .int a1), (2, .int a2)] := hl
  unfold wp_Reader_addToken at hw
  refine lv_aload_n hx hb dX5_addToken_0 rfl (lv_at hl 0 rfl) ?_
  refine cg C hH 5 3 (by decide) (Nat.le_of_ble_eq_true rfl) rfl rfl ixX5 3 (by decide) rfl wd_204 rfl dX5_addToken_1 ?_
  refine lv_if_lt (tgt := 47) hx hb dX5_addToken_4 (by decide) (fun c1 => ?_) (fun c1 => ?_)
  · have hw := ifp c1 hw
    exact crv C hr hk hH (Nat.zero_le _) (Nat.zero_le _) hw dX5_addToken_47
  · have hw := ifn c1 hw
    refine lv_aload_n hx hb dX5_addToken_7 rfl (lv_at hl 0 rfl) ?_
    refine cg C hH 5 3 (by decide) (Nat.le_of_ble_eq_true rfl) rfl rfl ixX5 3 (by decide) rfl wd_204 rfl dX5_addToken_8 ?_
    refine lv_sipush (v := 201) hx hb dX5_addToken_11 (by decide) ?_
    refine lv_icmp_ge (tgt := 47) hx hb dX5_addToken_14 (by decide) (fun c2 => ?_) (fun c2 => ?_)
    · have hw := ifp c2 hw
      exact crv C hr hk hH (Nat.zero_le _) (Nat.zero_le _) hw dX5_addToken_47
    · have hw := ifn c2 hw
      refine lv_aload_n hx hb dX5_addToken_17 rfl (lv_at hl 0 rfl) ?_
      refine cg C hH 5 3 (by decide) (Nat.le_of_ble_eq_true rfl) rfl rfl ixX5 0 (by decide) rfl wd_201 rfl dX5_addToken_18 ?_
      refine lv_aload_n hx hb dX5_addToken_21 rfl (lv_at hl 0 rfl) ?_
      refine cg C hH 5 3 (by decide) (Nat.le_of_ble_eq_true rfl) rfl rfl ixX5 3 (by decide) rfl wd_204 rfl dX5_addToken_22 ?_
      refine lv_iload_n hx hb dX5_addToken_25 rfl (lv_at hl 1 rfl) ?_
      obtain ⟨h3, hw⟩ := hw
      refine cas C hH 3 (Nat.lt_of_lt_of_le (show 3 < 8 by decide) (Nat.le_add_left _ _)) rfl h3 dX5_addToken_26 (fun H locs hH => ?_)
      obtain ⟨t4, et4⟩ : ∃ x : CS, x = sA t 3 (tF t 163 3).toNatClampNeg a1 := ⟨_, rfl⟩
      rw [← et4] at hH
      have hw := hw t4 et4
      refine lv_aload_n hx hb dX5_addToken_27 rfl (lv_at hl 0 rfl) ?_
      refine cg C hH 5 3 (by decide) (Nat.le_of_ble_eq_true rfl) rfl rfl ixX5 1 (by decide) rfl wd_202 rfl dX5_addToken_28 ?_
      refine lv_aload_n hx hb dX5_addToken_31 rfl (lv_at hl 0 rfl) ?_
      refine cg C hH 5 3 (by decide) (Nat.le_of_ble_eq_true rfl) rfl rfl ixX5 3 (by decide) rfl wd_204 rfl dX5_addToken_32 ?_
      refine lv_iload_n hx hb dX5_addToken_35 rfl (lv_at hl 2 rfl) ?_
      obtain ⟨h5, hw⟩ := hw
      refine cas C hH 4 (Nat.lt_of_lt_of_le (show 4 < 8 by decide) (Nat.le_add_left _ _)) rfl h5 dX5_addToken_36 (fun H locs hH => ?_)
      obtain ⟨t6, et6⟩ : ∃ x : CS, x = sA t4 4 (tF t4 163 3).toNatClampNeg a2 := ⟨_, rfl⟩
      rw [← et6] at hH
      have hw := hw t6 et6
      refine lv_aload_n hx hb dX5_addToken_37 rfl (lv_at hl 0 rfl) ?_
      refine lv_dup hx hb dX5_addToken_38 rfl ?_
      refine cg C hH 5 3 (by decide) (Nat.le_of_ble_eq_true rfl) rfl rfl ixX5 3 (by decide) rfl wd_204 rfl dX5_addToken_39 ?_
      refine lv_iconst (v := 1) hx hb dX5_addToken_42 (by decide) ?_
      refine lv_iadd hx hb dX5_addToken_43 ?_
      refine cp C hH 5 3 163 (by decide) (Nat.le_of_ble_eq_true rfl) rfl rfl ixX5 tyX5_ok nmX5 3 (by decide) (by decide) rfl rfl wd_204 pfI rfl rfl (Nat.le_of_ble_eq_true rfl) (hs_163_Reader Z ad t6 _) dX5_addToken_44 (fun H locs hH => ?_)
      obtain ⟨t7, et7⟩ : ∃ x : CS, x = sF t6 163 3 ((tF t6 163 3) + (1 : Int32)) := ⟨_, rfl⟩
      rw [← et7] at hH
      have hw := hw t7 et7
      exact crv C hr hk hH (Nat.zero_le _) (Nat.zero_le _) hw dX5_addToken_47
/-! PorterTurns$Reader.split -/
abbrev rm_Reader_split : Room := { frames := 9, cells := 0, slots := 0, locals := 373 }
def wp_Reader_split_66 (post : CS → Prop) (t : CS) : Prop := wp_Reader_addToken t (0 : Int32) (tF t 161 2) (fun  t1 => post t1)
set_option maxHeartbeats 4000000 in
set_option maxRecDepth 100000 in
theorem b_Reader_split_66 {p : Program} {l : Launch} {e : Env} {s : State} {m : MethodId} {args : Array Value} {below : List Frame} {meth : Method} {c : Code} {D : va_G} {Z : Nat → ClassId} {E : Nat → Nat} {ad : Nat → Nat → Nat} {A : Nat → Prop} (C : CC p s m args c cX5_split 6 RX5 D Z E A) (hr : meth.sig.returnType = none) (hk : meth.locks = false) {post : CS → Prop} : ∀ (t : CS) , wp_Reader_split_66 post t → ∀ (H : Heap) (locs : List Loc) (ls : Array Slot), CH D Z E ad A s.heap t H locs → lv_has ls 6 [(0, .ref (ad 5 3)), (1, .ref (ad 5 2))] → CWv p l e rm_Reader_split s m args below meth c D Z E ad A 0 0 post H locs 0 0 (F0 m 66 ls []) := by
  obtain ⟨⟨hx, hb, hml, hown, hts⟩, hK⟩ := id C
  intro t  hw H locs ls hH hl
  unfold wp_Reader_split_66 at hw
  refine lv_aload_n hx hb dX5_split_66 rfl (lv_at hl 0 rfl) ?_
  refine lv_iconst (v := 0) hx hb dX5_split_67 (by decide) ?_
  refine lv_aload_n hx hb dX5_split_68 rfl (lv_at hl 1 rfl) ?_
  refine cg C hH 5 2 (by decide) (Nat.le_of_ble_eq_true rfl) rfl rfl ixX8 1 (by decide) rfl wd_188 rfl dX5_split_69 ?_
  refine ccVv0 C hH (crecv C hH 5 3 (by decide) (Nat.le_of_ble_eq_true rfl) rfl rfl (q := (RX5, TX5, 6))) [.int (0 : Int32), .int (tF t 161 2)] (c_Reader_addToken l D Z E ad t (0 : Int32) (tF t 161 2) _ hw) (cwTV 2 hts wd_585 wd_587 ws_10 wd_12 wd_588 rfl rfl (by decide +kernel) ⟨Nat.le_of_ble_eq_true rfl, Nat.le_of_ble_eq_true rfl⟩) rfl hl.1 rfl (Nat.le_of_ble_eq_true rfl) dX5_split_72 ⟨Nat.zero_le _, Nat.zero_le _⟩ (fun  t1 H locs hw hH => ?_)
  exact crv C hr hk hH (Nat.zero_le _) (Nat.zero_le _) hw dX5_split_75
def wp_Reader_split_60 (k9 : CS → Int32 → Int32 → Prop) (post : CS → Prop) (t : CS) (x2_ : Int32) (x3_ : Int32) : Prop := ∀ x2 : Int32, x2 = x3_ + (1 : Int32) → (k9 t x2_ x2)
set_option maxHeartbeats 4000000 in
set_option maxRecDepth 100000 in
theorem b_Reader_split_60 {p : Program} {l : Launch} {e : Env} {s : State} {m : MethodId} {args : Array Value} {below : List Frame} {meth : Method} {c : Code} {D : va_G} {Z : Nat → ClassId} {E : Nat → Nat} {ad : Nat → Nat → Nat} {A : Nat → Prop} (C : CC p s m args c cX5_split 6 RX5 D Z E A) (hr : meth.sig.returnType = none) (hk : meth.locks = false) {post : CS → Prop} {k9 : CS → Int32 → Int32 → Prop} (hk9 : ∀ (t : CS) (y2 : Int32) (y3 : Int32), k9 t y2 y3 → ∀ (H : Heap) (locs : List Loc) (ls : Array Slot), CH D Z E ad A s.heap t H locs → lv_has ls 6 [(0, .ref (ad 5 3)), (1, .ref (ad 5 2)), (2, .int y2), (3, .int y3)] → CWv p l e rm_Reader_split s m args below meth c D Z E ad A 0 0 post H locs 0 0 (F0 m 9 ls [])) : ∀ (t : CS) (x2_ : Int32) (x3_ : Int32), wp_Reader_split_60 k9 post t x2_ x3_ → ∀ (H : Heap) (locs : List Loc) (ls : Array Slot), CH D Z E ad A s.heap t H locs → lv_has ls 6 [(0, .ref (ad 5 3)), (1, .ref (ad 5 2)), (2, .int x2_), (3, .int x3_)] → CWv p l e rm_Reader_split s m args below meth c D Z E ad A 0 0 post H locs 0 0 (F0 m 60 ls []) := by
  obtain ⟨⟨hx, hb, hml, hown, hts⟩, hK⟩ := id C
  intro t x2_ x3_ hw H locs ls hH hl
  unfold wp_Reader_split_60 at hw
  obtain ⟨x2, ex2⟩ : ∃ y : Int32, y = x3_ + (1 : Int32) := ⟨_, rfl⟩
  have hw := hw x2 ex2
  refine lv_iinc (v := x2) (lv' := [(3, .int x2), (0, .ref (ad 5 3)), (1, .ref (ad 5 2)), (2, .int x2_)]) hx hb dX5_split_60 hl (k := 3) rfl (by rw [ex2]; rfl) (by decide) rfl (fun ls hl => ?_)
  refine lv_goto (tgt := 9) hx hb dX5_split_63 (by decide) ?_
  exact hk9 t x2_ x2 hw _ _ _ hH (lv_sub hl [1, 2, 3, 0] rfl)
def wp_Reader_split_9 (post : CS → Prop) : Nat → CS → Int32 → Int32 → Prop
  | 0 => fun _ _ _ => False
  | n + 1 => fun t x2_ x3_ => if (200 : Int32) ≤ x3_ then (wp_Reader_split_66 post t) else (if (tF t 161 2) ≤ x2_ then (wp_Reader_split_66 post t) else (wp_Tape_at t x2_ (fun r6 t5 => wp_Reader_endOfToken t5 x2_ (fun r8 t7 => if r6 = (32 : Int32) then (wp_Reader_split_60 (wp_Reader_split_9 post n) post t7 r8 x3_) else (wp_Reader_meaning t7 x2_ r8 (fun r11 t10 => wp_Reader_addToken t10 r11 x2_ (fun  t12 => wp_Reader_split_60 (wp_Reader_split_9 post n) post t12 r8 x3_)))))))
set_option maxHeartbeats 4000000 in
set_option maxRecDepth 100000 in
theorem b_Reader_split_9 {p : Program} {l : Launch} {e : Env} {s : State} {m : MethodId} {args : Array Value} {below : List Frame} {meth : Method} {c : Code} {D : va_G} {Z : Nat → ClassId} {E : Nat → Nat} {ad : Nat → Nat → Nat} {A : Nat → Prop} (C : CC p s m args c cX5_split 6 RX5 D Z E A) (hr : meth.sig.returnType = none) (hk : meth.locks = false) {post : CS → Prop} : ∀ (n : Nat) (t : CS) (x2_ : Int32) (x3_ : Int32), wp_Reader_split_9 post n t x2_ x3_ → ∀ (H : Heap) (locs : List Loc) (ls : Array Slot), CH D Z E ad A s.heap t H locs → lv_has ls 6 [(0, .ref (ad 5 3)), (1, .ref (ad 5 2)), (2, .int x2_), (3, .int x3_)] → CWv p l e rm_Reader_split s m args below meth c D Z E ad A 0 0 post H locs 0 0 (F0 m 9 ls []) := by
  obtain ⟨⟨hx, hb, hml, hown, hts⟩, hK⟩ := id C
  intro n
  induction n with
  | zero => intro t x2_ x3_ hw; exact hw.elim
  | succ n ih =>
    intro t x2_ x3_ hw H locs ls hH hl
    unfold wp_Reader_split_9 at hw
    refine lv_iload_n hx hb dX5_split_9 rfl (lv_at hl 3 rfl) ?_
    refine lv_sipush (v := 200) hx hb dX5_split_10 (by decide) ?_
    refine lv_icmp_ge (tgt := 66) hx hb dX5_split_13 (by decide) (fun c3 => ?_) (fun c3 => ?_)
    · have hw := ifp c3 hw
      exact b_Reader_split_66 C hr hk  t  hw _ _ _ hH (lv_sub hl [0, 1] rfl)
    · have hw := ifn c3 hw
      refine lv_iload_n hx hb dX5_split_16 rfl (lv_at hl 2 rfl) ?_
      refine lv_aload_n hx hb dX5_split_17 rfl (lv_at hl 1 rfl) ?_
      refine cg C hH 5 2 (by decide) (Nat.le_of_ble_eq_true rfl) rfl rfl ixX8 1 (by decide) rfl wd_188 rfl dX5_split_18 ?_
      refine lv_icmp_ge (tgt := 66) hx hb dX5_split_21 (by decide) (fun c4 => ?_) (fun c4 => ?_)
      · have hw := ifp c4 hw
        exact b_Reader_split_66 C hr hk  t  hw _ _ _ hH (lv_sub hl [0, 1] rfl)
      · have hw := ifn c4 hw
        refine lv_iload_n hx hb dX5_split_24 rfl (lv_at hl 2 rfl) ?_
        refine lv_istore (lv' := [(4, .int x2_), (0, .ref (ad 5 3)), (1, .ref (ad 5 2)), (2, .int x2_), (3, .int x3_)]) hx hb dX5_split_25 hl (by decide) rfl (fun ls hl => ?_)
        refine lv_aload_n hx hb dX5_split_27 rfl (lv_at hl 2 rfl) ?_
        refine lv_iload_n hx hb dX5_split_28 rfl (lv_at hl 3 rfl) ?_
        refine ccVi0 C hH (crecv C hH 5 2 (by decide) (Nat.le_of_ble_eq_true rfl) rfl rfl (q := (RX8, TX8, 2))) [.int x2_] (c_Tape_at l D Z E ad t x2_ _ hw) (cwTV 1 hts wd_513 wd_514 wd_515 wd_11 wd_516 rfl rfl (by decide +kernel) ⟨Nat.le_of_ble_eq_true rfl, Nat.le_of_ble_eq_true rfl⟩) rfl hl.1 rfl (Nat.le_of_ble_eq_true rfl) dX5_split_29 ⟨Nat.zero_le _, Nat.zero_le _⟩ (fun r6 t5 H locs hw hH => ?_)
        refine lv_istore (lv' := [(5, .int r6), (4, .int x2_), (0, .ref (ad 5 3)), (1, .ref (ad 5 2)), (2, .int x2_), (3, .int x3_)]) hx hb dX5_split_32 hl (by decide) rfl (fun ls hl => ?_)
        refine lv_aload_n hx hb dX5_split_34 rfl (lv_at hl 3 rfl) ?_
        refine lv_iload_n hx hb dX5_split_35 rfl (lv_at hl 4 rfl) ?_
        refine ccSi0 C hH [.ref (ad 5 2), .int x2_] (c_Reader_endOfToken l D Z E ad t5 x2_ _ hw) (cwTS 2 hts wd_517 wd_518 wd_12 wd_519 rfl rfl (by decide +kernel) ⟨Nat.le_of_ble_eq_true rfl, Nat.le_of_ble_eq_true rfl⟩) rfl hl.1 rfl (Nat.le_of_ble_eq_true rfl) dX5_split_36 ⟨Nat.zero_le _, Nat.zero_le _⟩ (fun r8 t7 H locs hw hH => ?_)
        refine lv_istore_n (lv' := [(2, .int r8), (5, .int r6), (4, .int x2_), (0, .ref (ad 5 3)), (1, .ref (ad 5 2)), (3, .int x3_)]) hx hb dX5_split_39 rfl hl (by decide) rfl (fun ls hl => ?_)
        refine lv_iload hx hb dX5_split_40 (lv_at hl 1 rfl) ?_
        refine lv_bipush (v := 32) hx hb dX5_split_42 (by decide) ?_
        refine lv_icmp_eq (tgt := 60) hx hb dX5_split_44 (by decide) (fun c9 => ?_) (fun c9 => ?_)
        · have hw := ifp c9 hw
          exact b_Reader_split_60 C hr hk ih t7 r8 x3_ hw _ _ _ hH (lv_sub hl [3, 4, 0, 5] rfl)
        · have hw := ifn c9 hw
          refine lv_aload_n hx hb dX5_split_47 rfl (lv_at hl 3 rfl) ?_
          refine lv_aload_n hx hb dX5_split_48 rfl (lv_at hl 4 rfl) ?_
          refine lv_iload hx hb dX5_split_49 (lv_at hl 2 rfl) ?_
          refine lv_iload_n hx hb dX5_split_51 rfl (lv_at hl 0 rfl) ?_
          refine ccSi0 C hH [.ref (ad 5 2), .int x2_, .int r8] (c_Reader_meaning l D Z E ad t7 x2_ r8 _ hw) (cwTS 3 hts wd_526 wd_527 wd_12 wd_528 rfl rfl (by decide +kernel) ⟨Nat.le_of_ble_eq_true rfl, Nat.le_of_ble_eq_true rfl⟩) rfl hl.1 rfl (Nat.le_of_ble_eq_true rfl) dX5_split_52 ⟨Nat.zero_le _, Nat.zero_le _⟩ (fun r11 t10 H locs hw hH => ?_)
          refine lv_iload hx hb dX5_split_55 (lv_at hl 2 rfl) ?_
          refine ccVv0 C hH (crecv C hH 5 3 (by decide) (Nat.le_of_ble_eq_true rfl) rfl rfl (q := (RX5, TX5, 6))) [.int r11, .int x2_] (c_Reader_addToken l D Z E ad t10 r11 x2_ _ hw) (cwTV 2 hts wd_585 wd_587 ws_10 wd_12 wd_588 rfl rfl (by decide +kernel) ⟨Nat.le_of_ble_eq_true rfl, Nat.le_of_ble_eq_true rfl⟩) rfl hl.1 rfl (Nat.le_of_ble_eq_true rfl) dX5_split_57 ⟨Nat.zero_le _, Nat.zero_le _⟩ (fun  t12 H locs hw hH => ?_)
          exact b_Reader_split_60 C hr hk ih t12 r8 x3_ hw _ _ _ hH (lv_sub hl [3, 4, 0, 5] rfl)
def wp_Reader_split (t : CS) (post : CS → Prop) : Prop := ∀ t13 : CS, t13 = sF t 163 3 (0 : Int32) → (∃ nn : Nat, wp_Reader_split_9 post nn t13 (0 : Int32) (0 : Int32))
set_option maxHeartbeats 4000000 in
set_option maxRecDepth 100000 in
theorem c_Reader_split (l : Launch) (D : va_G) (Z : Nat → ClassId) (E : Nat → Nat) (ad : Nat → Nat → Nat) (t : CS) (post : CS → Prop) (hw : wp_Reader_split t  post) (L : List Nat) (sz : Nat) : Met l yX5_split (Wd yX5_split cX5_split 6 (none)) rm_Reader_split (va_Pc [.ref (ad 5 3), .ref (ad 5 2)] (cPre D Z E ad L sz t)) (va_Qv post (cPost D Z E ad (cAs L sz)) (cAs L sz)) 0 0 (cAs L sz) := by
  refine cMet (Qc := fun A => va_Qv post (cPost D Z E ad A) A) (by decide) rfl _ (Nat.le_of_ble_eq_true rfl) (fun p e s m args below meth c A C hr hk ls hl hH => ?_) L sz
  obtain ⟨⟨hx, hb, hml, hown, hts⟩, hK⟩ := id C
  have hl : lv_has ls 6 [(0, .ref (ad 5 3)), (1, .ref (ad 5 2))] := hl
  unfold wp_Reader_split at hw
  refine lv_aload_n hx hb dX5_split_0 rfl (lv_at hl 0 rfl) ?_
  refine lv_iconst (v := 0) hx hb dX5_split_1 (by decide) ?_
  refine cp C hH 5 3 163 (by decide) (Nat.le_of_ble_eq_true rfl) rfl rfl ixX5 tyX5_ok nmX5 3 (by decide) (by decide) rfl rfl wd_204 pfI rfl rfl (Nat.le_of_ble_eq_true rfl) (hs_163_Reader Z ad t _) dX5_split_2 (fun H locs hH => ?_)
  obtain ⟨t13, et13⟩ : ∃ x : CS, x = sF t 163 3 (0 : Int32) := ⟨_, rfl⟩
  rw [← et13] at hH
  have hw := hw t13 et13
  refine lv_iconst (v := 0) hx hb dX5_split_5 (by decide) ?_
  refine lv_istore_n (lv' := [(2, .int (0 : Int32)), (0, .ref (ad 5 3)), (1, .ref (ad 5 2))]) hx hb dX5_split_6 rfl hl (by decide) rfl (fun ls hl => ?_)
  refine lv_iconst (v := 0) hx hb dX5_split_7 (by decide) ?_
  refine lv_istore_n (lv' := [(3, .int (0 : Int32)), (2, .int (0 : Int32)), (0, .ref (ad 5 3)), (1, .ref (ad 5 2))]) hx hb dX5_split_8 rfl hl (by decide) rfl (fun ls hl => ?_)
  obtain ⟨nn, hw⟩ := hw
  exact b_Reader_split_9 C hr hk  nn t13 (0 : Int32) (0 : Int32) hw _ _ _ hH (lv_sub hl [2, 3, 1, 0] rfl)
