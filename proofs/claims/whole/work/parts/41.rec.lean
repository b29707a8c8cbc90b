/-! the reader's recursion -/
abbrev rmR (n : Nat) : Room := { frames := 10 + n, cells := 0, slots := 0, locals := 1000 + 60 * n }
theorem rmR_fit {f lo : Nat} (n : Nat) (hf : f ≤ 10) (hl : lo ≤ 1000) : f ≤ (rmR n).frames ∧ lo ≤ (rmR n).locals := ⟨by show f ≤ 10 + n; omega, by show lo ≤ 1000 + 60 * n; omega⟩
theorem rmR_rec {maxL : Nat} (n : Nat) (h : maxL ≤ 40) : (rmR n).frames + 1 ≤ (rmR (n + 1)).frames ∧ 8 + (maxL + 11) + (rmR n).locals ≤ (rmR (n + 1)).locals := ⟨by show 10 + n + 1 ≤ 10 + (n + 1); omega, by show 8 + (maxL + 11) + (1000 + 60 * n) ≤ 1000 + 60 * (n + 1); omega⟩
def RcOk (l : Launch) (D : va_G) (Z : Nat → ClassId) (E : Nat → Nat) (ad : Nat → Nat → Nat) (rc : Nat → CS → Int32 → Int32 → (Int32 → CS → Prop) → Prop) (n : Nat) : Prop := (∀ (t : CS) (a b : Int32) (post : Int32 → CS → Prop), rc 0 t a b post → ∀ (L : List Nat) (sz : Nat), Met l yX5_readPart (Wd yX5_readPart cX5_readPart 6 (some .boolean)) (rmR n) (va_Pc [.ref (ad 5 3), .int a, .int b] (cPre D Z E ad L sz t)) (va_Qi post (cPost D Z E ad (cAs L sz)) (cAs L sz)) 0 0 (cAs L sz)) ∧ (∀ (t : CS) (a : Int32) (post : Int32 → CS → Prop), rc 1 t a 0 post → ∀ (L : List Nat) (sz : Nat), Met l yX5_readNegation (Wd yX5_readNegation cX5_readNegation 2 (some .boolean)) (rmR n) (va_Pc [.ref (ad 5 3), .int a] (cPre D Z E ad L sz t)) (va_Qi post (cPost D Z E ad (cAs L sz)) (cAs L sz)) 0 0 (cAs L sz)) ∧ (∀ (t : CS) (a : Int32) (post : Int32 → CS → Prop), rc 2 t a 0 post → ∀ (L : List Nat) (sz : Nat), Met l yX5_readOperand (Wd yX5_readOperand cX5_readOperand 3 (some .boolean)) (rmR n) (va_Pc [.ref (ad 5 3), .int a] (cPre D Z E ad L sz t)) (va_Qi post (cPost D Z E ad (cAs L sz)) (cAs L sz)) 0 0 (cAs L sz)) ∧ (∀ (t : CS) (a b : Int32) (post : Int32 → CS → Prop), rc 3 t a b post → ∀ (L : List Nat) (sz : Nat), Met l yX5_readPair (Wd yX5_readPair cX5_readPair 4 (some .boolean)) (rmR n) (va_Pc [.ref (ad 5 3), .int a, .int b] (cPre D Z E ad L sz t)) (va_Qi post (cPost D Z E ad (cAs L sz)) (cAs L sz)) 0 0 (cAs L sz))
def wp_Reader_readPart_62 (rc : Nat → CS → Int32 → Int32 → (Int32 → CS → Prop) → Prop) (post : Int32 → CS → Prop) : Nat → CS → Int32 → Int32 → Int32 → Int32 → Prop
  | 0 => fun _ _ _ _ _ => False
  | n + 1 => fun t x1_ x2_ x3_ x4_ => if x3_ ≤ x4_ then (post (1 : Int32) t) else (wp_Reader_token t  (fun r3 t2 => wp_Reader_levelOf t2 r3 (fun r5 t4 => if r5 = x1_ then (wp_Reader_token t4  (fun r8 t7 => ∀ t9 : CS, t9 = sF t7 165 3 ((tF t7 165 3) + (1 : Int32)) → (rc 0 t9 (x1_ + (1 : Int32)) x2_ (fun r11 t10 => if r11 = 0 then (post (0 : Int32) t10) else (wp_Reader_addStep t10 r8 (fun  t13 => ∀ x14 : Int32, x14 = x4_ + (1 : Int32) → (wp_Reader_readPart_62 rc post n t13 x1_ x2_ x3_ x14))))))) else (post (1 : Int32) t4))))
set_option maxHeartbeats 4000000 in
set_option maxRecDepth 100000 in
theorem b_Reader_readPart_62 {p : Program} {l : Launch} {e : Env} {s : State} {m : MethodId} {args : Array Value} {below : List Frame} {meth : Method} {c : Code} {D : va_G} {Z : Nat → ClassId} {E : Nat → Nat} {ad : Nat → Nat → Nat} {A : Nat → Prop} (C : CC p s m args c cX5_readPart 6 RX5 D Z E A) (hr : meth.sig.returnType = some .boolean) (hk : meth.locks = false) {rc : Nat → CS → Int32 → Int32 → (Int32 → CS → Prop) → Prop} {n0 : Nat} (Hrc : RcOk l D Z E ad rc n0) {post : Int32 → CS → Prop} : ∀ (n : Nat) (t : CS) (x1_ : Int32) (x2_ : Int32) (x3_ : Int32) (x4_ : Int32), wp_Reader_readPart_62 rc post n t x1_ x2_ x3_ x4_ → ∀ (H : Heap) (locs : List Loc) (ls : Array Slot), CH D Z E ad A s.heap t H locs → lv_has ls 6 [(0, .ref (ad 5 3)), (1, .int x1_), (2, .int x2_), (3, .int x3_), (4, .int x4_)] → CWi p l e (rmR (n0 + 1)) s m args below meth c D Z E ad A 0 0 post H locs 0 0 (F0 m 62 ls []) := by
  obtain ⟨⟨hx, hb, hml, hown, hts⟩, hK⟩ := id C
  intro n
  induction n with
  | zero => intro t x1_ x2_ x3_ x4_ hw; exact hw.elim
  | succ n ih =>
    intro t x1_ x2_ x3_ x4_ hw H locs ls hH hl
    unfold wp_Reader_readPart_62 at hw
    refine lv_iload hx hb dX5_readPart_62 (lv_at hl 4 rfl) ?_
    refine lv_iload_n hx hb dX5_readPart_64 rfl (lv_at hl 3 rfl) ?_
    refine lv_icmp_ge (tgt := 120) hx hb dX5_readPart_65 (by decide) (fun c1 => ?_) (fun c1 => ?_)
    · have hw := ifp c1 hw
      refine lv_iconst (v := 1) hx hb dX5_readPart_120 (by decide) ?_
      exact crz C hr hk hH (Nat.zero_le _) (Nat.zero_le _) bz1 hw dX5_readPart_121
    · have hw := ifn c1 hw
      refine lv_aload_n hx hb dX5_readPart_68 rfl (lv_at hl 0 rfl) ?_
      refine ccVi0 C hH (crecv C hH 5 3 (by decide) (Nat.le_of_ble_eq_true rfl) rfl rfl (q := (RX5, TX5, 6))) [] (c_Reader_token l D Z E ad t  _ hw) (cwTV 0 hts wd_601 wd_603 ws_14 wd_12 wd_604 rfl rfl (by decide +kernel) (rmR_fit _ (Nat.le_of_ble_eq_true rfl) (Nat.le_of_ble_eq_true rfl))) rfl hl.1 rfl (Nat.le_of_ble_eq_true rfl) dX5_readPart_69 ⟨Nat.zero_le _, Nat.zero_le _⟩ (fun r3 t2 H locs hw hH => ?_)
      refine ccSi0 C hH [.int r3] (c_Reader_levelOf l D Z E ad t2 r3 _ hw) (cwTS 1 hts wd_627 wd_628 wd_12 wd_629 rfl rfl (by decide +kernel) (rmR_fit _ (Nat.le_of_ble_eq_true rfl) (Nat.le_of_ble_eq_true rfl))) rfl hl.1 rfl (Nat.le_of_ble_eq_true rfl) dX5_readPart_72 ⟨Nat.zero_le _, Nat.zero_le _⟩ (fun r5 t4 H locs hw hH => ?_)
      refine lv_iload_n hx hb dX5_readPart_75 rfl (lv_at hl 1 rfl) ?_
      refine lv_icmp_ne (tgt := 120) hx hb dX5_readPart_76 (by decide) (fun c6 => ?_) (fun c6 => ?_)
      · have hw := ifn c6 hw
        refine lv_iconst (v := 1) hx hb dX5_readPart_120 (by decide) ?_
        exact crz C hr hk hH (Nat.zero_le _) (Nat.zero_le _) bz1 hw dX5_readPart_121
      · have hw := ifp c6 hw
        refine lv_aload_n hx hb dX5_readPart_79 rfl (lv_at hl 0 rfl) ?_
        refine ccVi0 C hH (crecv C hH 5 3 (by decide) (Nat.le_of_ble_eq_true rfl) rfl rfl (q := (RX5, TX5, 6))) [] (c_Reader_token l D Z E ad t4  _ hw) (cwTV 0 hts wd_601 wd_603 ws_14 wd_12 wd_604 rfl rfl (by decide +kernel) (rmR_fit _ (Nat.le_of_ble_eq_true rfl) (Nat.le_of_ble_eq_true rfl))) rfl hl.1 rfl (Nat.le_of_ble_eq_true rfl) dX5_readPart_80 ⟨Nat.zero_le _, Nat.zero_le _⟩ (fun r8 t7 H locs hw hH => ?_)
        refine lv_istore (lv' := [(5, .int r8), (0, .ref (ad 5 3)), (1, .int x1_), (2, .int x2_), (3, .int x3_), (4, .int x4_)]) hx hb dX5_readPart_83 hl (by decide) rfl (fun ls hl => ?_)
        refine lv_aload_n hx hb dX5_readPart_85 rfl (lv_at hl 1 rfl) ?_
        refine lv_dup hx hb dX5_readPart_86 rfl ?_
        refine cg C hH 5 3 (by decide) (Nat.le_of_ble_eq_true rfl) rfl rfl ixX5 5 (by decide) rfl wd_206 rfl dX5_readPart_87 ?_
        refine lv_iconst (v := 1) hx hb dX5_readPart_90 (by decide) ?_
        refine lv_iadd hx hb dX5_readPart_91 ?_
        refine cp C hH 5 3 165 (by decide) (Nat.le_of_ble_eq_true rfl) rfl rfl ixX5 tyX5_ok nmX5 5 (by decide) (by decide) rfl rfl wd_206 pfI rfl rfl (Nat.le_of_ble_eq_true rfl) (hs_165_Reader Z ad t7 _) dX5_readPart_92 (fun H locs hH => ?_)
        obtain ⟨t9, et9⟩ : ∃ x : CS, x = sF t7 165 3 ((tF t7 165 3) + (1 : Int32)) := ⟨_, rfl⟩
        rw [← et9] at hH
        have hw := hw t9 et9
        refine lv_aload_n hx hb dX5_readPart_95 rfl (lv_at hl 1 rfl) ?_
        refine lv_iload_n hx hb dX5_readPart_96 rfl (lv_at hl 2 rfl) ?_
        refine lv_iconst (v := 1) hx hb dX5_readPart_97 (by decide) ?_
        refine lv_iadd hx hb dX5_readPart_98 ?_
        refine lv_iload_n hx hb dX5_readPart_99 rfl (lv_at hl 3 rfl) ?_
        refine ccVi0 C hH (crecv C hH 5 3 (by decide) (Nat.le_of_ble_eq_true rfl) rfl rfl (q := (RX5, TX5, 6))) [.int (x1_ + (1 : Int32)), .int x2_] (Hrc.1 t9 (x1_ + (1 : Int32)) x2_ _ hw) (cwTV 2 hts wd_593 wd_595 ws_12 wd_12 wd_596 rfl rfl (by decide +kernel) (rmR_rec _ (by decide))) rfl hl.1 rfl (Nat.le_of_ble_eq_true rfl) dX5_readPart_100 ⟨Nat.zero_le _, Nat.zero_le _⟩ (fun r11 t10 H locs hw hH => ?_)
        refine lv_if_ne (tgt := 108) hx hb dX5_readPart_103 (by decide) (fun c12 => ?_) (fun c12 => ?_)
        · have hw := ifn c12 hw
          refine lv_aload_n hx hb dX5_readPart_108 rfl (lv_at hl 1 rfl) ?_
          refine lv_iload hx hb dX5_readPart_109 (lv_at hl 0 rfl) ?_
          refine ccVv0 C hH (crecv C hH 5 3 (by decide) (Nat.le_of_ble_eq_true rfl) rfl rfl (q := (RX5, TX5, 6))) [.int r8] (c_Reader_addStep l D Z E ad t10 r8 _ hw) (cwTV 1 hts wd_611 wd_613 ws_15 wd_12 wd_614 rfl rfl (by decide +kernel) (rmR_fit _ (Nat.le_of_ble_eq_true rfl) (Nat.le_of_ble_eq_true rfl))) rfl hl.1 rfl (Nat.le_of_ble_eq_true rfl) dX5_readPart_111 ⟨Nat.zero_le _, Nat.zero_le _⟩ (fun  t13 H locs hw hH => ?_)
          obtain ⟨x14, ex14⟩ : ∃ y : Int32, y = x4_ + (1 : Int32) := ⟨_, rfl⟩
          have hw := hw x14 ex14
          refine lv_iinc (v := x14) (lv' := [(4, .int x14), (5, .int r8), (0, .ref (ad 5 3)), (1, .int x1_), (2, .int x2_), (3, .int x3_)]) hx hb dX5_readPart_114 hl (k := 5) rfl (by rw [ex14]; rfl) (by decide) rfl (fun ls hl => ?_)
          refine lv_goto (tgt := 62) hx hb dX5_readPart_117 (by decide) ?_
          exact ih t13 x1_ x2_ x3_ x14 hw _ _ _ hH (lv_sub hl [2, 3, 4, 5, 0] rfl)
        · have hw := ifp c12 hw
          refine lv_iconst (v := 0) hx hb dX5_readPart_106 (by decide) ?_
          exact crz C hr hk hH (Nat.zero_le _) (Nat.zero_le _) bz0 hw dX5_readPart_107
def wp_Reader_readPart_58 (rc : Nat → CS → Int32 → Int32 → (Int32 → CS → Prop) → Prop) (post : Int32 → CS → Prop) (t : CS) (x1_ : Int32) (x2_ : Int32) (t0_ : Int32) : Prop := ∃ nn : Nat, wp_Reader_readPart_62 rc post nn t x1_ x2_ t0_ (0 : Int32)
set_option maxHeartbeats 4000000 in
set_option maxRecDepth 100000 in
theorem b_Reader_readPart_58 {p : Program} {l : Launch} {e : Env} {s : State} {m : MethodId} {args : Array Value} {below : List Frame} {meth : Method} {c : Code} {D : va_G} {Z : Nat → ClassId} {E : Nat → Nat} {ad : Nat → Nat → Nat} {A : Nat → Prop} (C : CC p s m args c cX5_readPart 6 RX5 D Z E A) (hr : meth.sig.returnType = some .boolean) (hk : meth.locks = false) {rc : Nat → CS → Int32 → Int32 → (Int32 → CS → Prop) → Prop} {n0 : Nat} (Hrc : RcOk l D Z E ad rc n0) {post : Int32 → CS → Prop} : ∀ (t : CS) (x1_ : Int32) (x2_ : Int32) (t0_ : Int32), wp_Reader_readPart_58 rc post t x1_ x2_ t0_ → ∀ (H : Heap) (locs : List Loc) (ls : Array Slot), CH D Z E ad A s.heap t H locs → lv_has ls 6 [(0, .ref (ad 5 3)), (1, .int x1_), (2, .int x2_)] → CWi p l e (rmR (n0 + 1)) s m args below meth c D Z E ad A 0 0 post H locs 0 0 (F0 m 58 ls [.int t0_]) := by
  obtain ⟨⟨hx, hb, hml, hown, hts⟩, hK⟩ := id C
  intro t x1_ x2_ t0_ hw H locs ls hH hl
  unfold wp_Reader_readPart_58 at hw
  refine lv_istore_n (lv' := [(3, .int t0_), (0, .ref (ad 5 3)), (1, .int x1_), (2, .int x2_)]) hx hb dX5_readPart_58 rfl hl (by decide) rfl (fun ls hl => ?_)
  refine lv_iconst (v := 0) hx hb dX5_readPart_59 (by decide) ?_
  refine lv_istore (lv' := [(4, .int (0 : Int32)), (3, .int t0_), (0, .ref (ad 5 3)), (1, .int x1_), (2, .int x2_)]) hx hb dX5_readPart_60 hl (by decide) rfl (fun ls hl => ?_)
  obtain ⟨nn, hw⟩ := hw
  exact b_Reader_readPart_62 C hr hk Hrc  nn t x1_ x2_ t0_ (0 : Int32) hw _ _ _ hH (lv_sub hl [2, 3, 4, 1, 0] rfl)
def wp_Reader_readPart_33 (rc : Nat → CS → Int32 → Int32 → (Int32 → CS → Prop) → Prop) (post : Int32 → CS → Prop) (t : CS) (x1_ : Int32) (x2_ : Int32) : Prop := rc 0 t (x1_ + (1 : Int32)) x2_ (fun r16 t15 => if r16 = 0 then (post (0 : Int32) t15) else (if x1_ = (3 : Int32) then (wp_Reader_readPart_58 rc post t15 x1_ x2_ (1 : Int32)) else (wp_Reader_readPart_58 rc post t15 x1_ x2_ (201 : Int32))))
set_option maxHeartbeats 4000000 in
set_option maxRecDepth 100000 in
theorem b_Reader_readPart_33 {p : Program} {l : Launch} {e : Env} {s : State} {m : MethodId} {args : Array Value} {below : List Frame} {meth : Method} {c : Code} {D : va_G} {Z : Nat → ClassId} {E : Nat → Nat} {ad : Nat → Nat → Nat} {A : Nat → Prop} (C : CC p s m args c cX5_readPart 6 RX5 D Z E A) (hr : meth.sig.returnType = some .boolean) (hk : meth.locks = false) {rc : Nat → CS → Int32 → Int32 → (Int32 → CS → Prop) → Prop} {n0 : Nat} (Hrc : RcOk l D Z E ad rc n0) {post : Int32 → CS → Prop} : ∀ (t : CS) (x1_ : Int32) (x2_ : Int32), wp_Reader_readPart_33 rc post t x1_ x2_ → ∀ (H : Heap) (locs : List Loc) (ls : Array Slot), CH D Z E ad A s.heap t H locs → lv_has ls 6 [(0, .ref (ad 5 3)), (1, .int x1_), (2, .int x2_)] → CWi p l e (rmR (n0 + 1)) s m args below meth c D Z E ad A 0 0 post H locs 0 0 (F0 m 33 ls []) := by
  obtain ⟨⟨hx, hb, hml, hown, hts⟩, hK⟩ := id C
  intro t x1_ x2_ hw H locs ls hH hl
  unfold wp_Reader_readPart_33 at hw
  refine lv_aload_n hx hb dX5_readPart_33 rfl (lv_at hl 0 rfl) ?_
  refine lv_iload_n hx hb dX5_readPart_34 rfl (lv_at hl 1 rfl) ?_
  refine lv_iconst (v := 1) hx hb dX5_readPart_35 (by decide) ?_
  refine lv_iadd hx hb dX5_readPart_36 ?_
  refine lv_iload_n hx hb dX5_readPart_37 rfl (lv_at hl 2 rfl) ?_
  refine ccVi0 C hH (crecv C hH 5 3 (by decide) (Nat.le_of_ble_eq_true rfl) rfl rfl (q := (RX5, TX5, 6))) [.int (x1_ + (1 : Int32)), .int x2_] (Hrc.1 t (x1_ + (1 : Int32)) x2_ _ hw) (cwTV 2 hts wd_593 wd_595 ws_12 wd_12 wd_596 rfl rfl (by decide +kernel) (rmR_rec _ (by decide))) rfl hl.1 rfl (Nat.le_of_ble_eq_true rfl) dX5_readPart_38 ⟨Nat.zero_le _, Nat.zero_le _⟩ (fun r16 t15 H locs hw hH => ?_)
  refine lv_if_ne (tgt := 46) hx hb dX5_readPart_41 (by decide) (fun c17 => ?_) (fun c17 => ?_)
  · have hw := ifn c17 hw
    refine lv_iload_n hx hb dX5_readPart_46 rfl (lv_at hl 1 rfl) ?_
    refine lv_iconst (v := 3) hx hb dX5_readPart_47 (by decide) ?_
    refine lv_icmp_ne (tgt := 55) hx hb dX5_readPart_48 (by decide) (fun c18 => ?_) (fun c18 => ?_)
    · have hw := ifn c18 hw
      refine lv_sipush (v := 201) hx hb dX5_readPart_55 (by decide) ?_
      exact b_Reader_readPart_58 C hr hk Hrc  t15 x1_ x2_ (201 : Int32) hw _ _ _ hH (lv_sub hl [0, 1, 2] rfl)
    · have hw := ifp c18 hw
      refine lv_iconst (v := 1) hx hb dX5_readPart_51 (by decide) ?_
      refine lv_goto (tgt := 58) hx hb dX5_readPart_52 (by decide) ?_
      exact b_Reader_readPart_58 C hr hk Hrc  t15 x1_ x2_ (1 : Int32) hw _ _ _ hH (lv_sub hl [0, 1, 2] rfl)
  · have hw := ifp c17 hw
    refine lv_iconst (v := 0) hx hb dX5_readPart_44 (by decide) ?_
    exact crz C hr hk hH (Nat.zero_le _) (Nat.zero_le _) bz0 hw dX5_readPart_45
def wp_Reader_readPart (rc : Nat → CS → Int32 → Int32 → (Int32 → CS → Prop) → Prop) (t : CS) (a1 : Int32) (a2 : Int32) (post : Int32 → CS → Prop) : Prop := if a1 < (6 : Int32) then (if a1 = (2 : Int32) then (wp_Reader_token t  (fun r22 t21 => if r22 = (144 : Int32) then (rc 1 t21 a2 0 (fun r25 t24 => bz r25 ∧ post r25 t24)) else (wp_Reader_readPart_33 rc post t21 a1 a2))) else (wp_Reader_readPart_33 rc post t a1 a2)) else (rc 2 t a2 0 (fun r27 t26 => bz r27 ∧ post r27 t26))
set_option maxHeartbeats 4000000 in
set_option maxRecDepth 100000 in
theorem c_Reader_readPart (l : Launch) (D : va_G) (Z : Nat → ClassId) (E : Nat → Nat) (ad : Nat → Nat → Nat) (rc : Nat → CS → Int32 → Int32 → (Int32 → CS → Prop) → Prop) (n0 : Nat) (Hrc : RcOk l D Z E ad rc n0) (t : CS) (a1 : Int32) (a2 : Int32) (post : Int32 → CS → Prop) (hw : wp_Reader_readPart rc t a1 a2 post) (L : List Nat) (sz : Nat) : Met l yX5_readPart (Wd yX5_readPart cX5_readPart 6 (some .boolean)) (rmR (n0 + 1)) (va_Pc [.ref (ad 5 3), .int a1, .int a2] (cPre D Z E ad L sz t)) (va_Qi post (cPost D Z E ad (cAs L sz)) (cAs L sz)) 0 0 (cAs L sz) := by
  refine cMet (Qc := fun A => va_Qi post (cPost D Z E ad A) A) (by decide) rfl _ (Nat.le_of_ble_eq_true rfl) (fun p e s m args below meth c A C hr hk ls hl hH => ?_) L sz
  obtain ⟨⟨hx, hb, hml, hown, hts⟩, hK⟩ := id C
  have hl : lv_has ls 6 [(0, .ref (ad 5 3)), (1, .int a1), (2, .int a2)] := hl
  unfold wp_Reader_readPart at hw
  refine lv_iload_n hx hb dX5_readPart_0 rfl (lv_at hl 1 rfl) ?_
  refine lv_bipush (v := 6) hx hb dX5_readPart_1 (by decide) ?_
  refine lv_icmp_lt (tgt := 12) hx hb dX5_readPart_3 (by decide) (fun c19 => ?_) (fun c19 => ?_)
  · have hw := ifp c19 hw
    refine lv_iload_n hx hb dX5_readPart_12 rfl (lv_at hl 1 rfl) ?_
    refine lv_iconst (v := 2) hx hb dX5_readPart_13 (by decide) ?_
    refine lv_icmp_ne (tgt := 33) hx hb dX5_readPart_14 (by decide) (fun c20 => ?_) (fun c20 => ?_)
    · have hw := ifn c20 hw
      exact b_Reader_readPart_33 C hr hk Hrc  t a1 a2 hw _ _ _ hH (lv_sub hl [0, 1, 2] rfl)
    · have hw := ifp c20 hw
      refine lv_aload_n hx hb dX5_readPart_17 rfl (lv_at hl 0 rfl) ?_
      refine ccVi0 C hH (crecv C hH 5 3 (by decide) (Nat.le_of_ble_eq_true rfl) rfl rfl (q := (RX5, TX5, 6))) [] (c_Reader_token l D Z E ad t  _ hw) (cwTV 0 hts wd_601 wd_603 ws_14 wd_12 wd_604 rfl rfl (by decide +kernel) (rmR_fit _ (Nat.le_of_ble_eq_true rfl) (Nat.le_of_ble_eq_true rfl))) rfl hl.1 rfl (Nat.le_of_ble_eq_true rfl) dX5_readPart_18 ⟨Nat.zero_le _, Nat.zero_le _⟩ (fun r22 t21 H locs hw hH => ?_)
      refine lv_sipush (v := 144) hx hb dX5_readPart_21 (by decide) ?_
      refine lv_icmp_ne (tgt := 33) hx hb dX5_readPart_24 (by decide) (fun c23 => ?_) (fun c23 => ?_)
      · have hw := ifn c23 hw
        exact b_Reader_readPart_33 C hr hk Hrc  t21 a1 a2 hw _ _ _ hH (lv_sub hl [0, 1, 2] rfl)
      · have hw := ifp c23 hw
        refine lv_aload_n hx hb dX5_readPart_27 rfl (lv_at hl 0 rfl) ?_
        refine lv_iload_n hx hb dX5_readPart_28 rfl (lv_at hl 2 rfl) ?_
        refine ccVi0 C hH (crecv C hH 5 3 (by decide) (Nat.le_of_ble_eq_true rfl) rfl rfl (q := (RX5, TX5, 6))) [.int a2] (Hrc.2.1 t21 a2 _ hw) (cwTV 1 hts wd_623 wd_625 ws_18 wd_12 wd_626 rfl rfl (by decide +kernel) (rmR_rec _ (by decide))) rfl hl.1 rfl (Nat.le_of_ble_eq_true rfl) dX5_readPart_29 ⟨Nat.zero_le _, Nat.zero_le _⟩ (fun r25 t24 H locs hw hH => ?_)
        exact crz C hr hk hH (Nat.zero_le _) (Nat.zero_le _) hw.1 hw.2 dX5_readPart_32
  · have hw := ifn c19 hw
    refine lv_aload_n hx hb dX5_readPart_6 rfl (lv_at hl 0 rfl) ?_
    refine lv_iload_n hx hb dX5_readPart_7 rfl (lv_at hl 2 rfl) ?_
    refine ccVi0 C hH (crecv C hH 5 3 (by decide) (Nat.le_of_ble_eq_true rfl) rfl rfl (q := (RX5, TX5, 6))) [.int a2] (Hrc.2.2.1 t a2 _ hw) (cwTV 1 hts wd_597 wd_599 ws_13 wd_12 wd_600 rfl rfl (by decide +kernel) (rmR_rec _ (by decide))) rfl hl.1 rfl (Nat.le_of_ble_eq_true rfl) dX5_readPart_8 ⟨Nat.zero_le _, Nat.zero_le _⟩ (fun r27 t26 H locs hw hH => ?_)
    exact crz C hr hk hH (Nat.zero_le _) (Nat.zero_le _) hw.1 hw.2 dX5_readPart_11
def wp_Reader_readNegation (rc : Nat → CS → Int32 → Int32 → (Int32 → CS → Prop) → Prop) (t : CS) (a1 : Int32) (post : Int32 → CS → Prop) : Prop := if a1 < (12 : Int32) then (∀ t2 : CS, t2 = sF t 165 3 ((tF t 165 3) + (1 : Int32)) → (rc 0 t2 (2 : Int32) (a1 + (1 : Int32)) (fun r4 t3 => if r4 = 0 then (post (0 : Int32) t3) else (wp_Reader_addStep t3 (144 : Int32) (fun  t6 => post (1 : Int32) t6))))) else (post (0 : Int32) t)
set_option maxHeartbeats 4000000 in
set_option maxRecDepth 100000 in
theorem c_Reader_readNegation (l : Launch) (D : va_G) (Z : Nat → ClassId) (E : Nat → Nat) (ad : Nat → Nat → Nat) (rc : Nat → CS → Int32 → Int32 → (Int32 → CS → Prop) → Prop) (n0 : Nat) (Hrc : RcOk l D Z E ad rc n0) (t : CS) (a1 : Int32) (post : Int32 → CS → Prop) (hw : wp_Reader_readNegation rc t a1 post) (L : List Nat) (sz : Nat) : Met l yX5_readNegation (Wd yX5_readNegation cX5_readNegation 2 (some .boolean)) (rmR (n0 + 1)) (va_Pc [.ref (ad 5 3), .int a1] (cPre D Z E ad L sz t)) (va_Qi post (cPost D Z E ad (cAs L sz)) (cAs L sz)) 0 0 (cAs L sz) := by
  refine cMet (Qc := fun A => va_Qi post (cPost D Z E ad A) A) (by decide) rfl _ (Nat.le_of_ble_eq_true rfl) (fun p e s m args below meth c A C hr hk ls hl hH => ?_) L sz
  obtain ⟨⟨hx, hb, hml, hown, hts⟩, hK⟩ := id C
  have hl : lv_has ls 2 [(0, .ref (ad 5 3)), (1, .int a1)] := hl
  unfold wp_Reader_readNegation at hw
  refine lv_iload_n hx hb dX5_readNegation_0 rfl (lv_at hl 1 rfl) ?_
  refine lv_bipush (v := 12) hx hb dX5_readNegation_1 (by decide) ?_
  refine lv_icmp_lt (tgt := 8) hx hb dX5_readNegation_3 (by decide) (fun c1 => ?_) (fun c1 => ?_)
  · have hw := ifp c1 hw
    refine lv_aload_n hx hb dX5_readNegation_8 rfl (lv_at hl 0 rfl) ?_
    refine lv_dup hx hb dX5_readNegation_9 rfl ?_
    refine cg C hH 5 3 (by decide) (Nat.le_of_ble_eq_true rfl) rfl rfl ixX5 5 (by decide) rfl wd_206 rfl dX5_readNegation_10 ?_
    refine lv_iconst (v := 1) hx hb dX5_readNegation_13 (by decide) ?_
    refine lv_iadd hx hb dX5_readNegation_14 ?_
    refine cp C hH 5 3 165 (by decide) (Nat.le_of_ble_eq_true rfl) rfl rfl ixX5 tyX5_ok nmX5 5 (by decide) (by decide) rfl rfl wd_206 pfI rfl rfl (Nat.le_of_ble_eq_true rfl) (hs_165_Reader Z ad t _) dX5_readNegation_15 (fun H locs hH => ?_)
    obtain ⟨t2, et2⟩ : ∃ x : CS, x = sF t 165 3 ((tF t 165 3) + (1 : Int32)) := ⟨_, rfl⟩
    rw [← et2] at hH
    have hw := hw t2 et2
    refine lv_aload_n hx hb dX5_readNegation_18 rfl (lv_at hl 0 rfl) ?_
    refine lv_iconst (v := 2) hx hb dX5_readNegation_19 (by decide) ?_
    refine lv_iload_n hx hb dX5_readNegation_20 rfl (lv_at hl 1 rfl) ?_
    refine lv_iconst (v := 1) hx hb dX5_readNegation_21 (by decide) ?_
    refine lv_iadd hx hb dX5_readNegation_22 ?_
    refine ccVi0 C hH (crecv C hH 5 3 (by decide) (Nat.le_of_ble_eq_true rfl) rfl rfl (q := (RX5, TX5, 6))) [.int (2 : Int32), .int (a1 + (1 : Int32))] (Hrc.1 t2 (2 : Int32) (a1 + (1 : Int32)) _ hw) (cwTV 2 hts wd_593 wd_595 ws_12 wd_12 wd_596 rfl rfl (by decide +kernel) (rmR_rec _ (by decide))) rfl hl.1 rfl (Nat.le_of_ble_eq_true rfl) dX5_readNegation_23 ⟨Nat.zero_le _, Nat.zero_le _⟩ (fun r4 t3 H locs hw hH => ?_)
    refine lv_if_ne (tgt := 31) hx hb dX5_readNegation_26 (by decide) (fun c5 => ?_) (fun c5 => ?_)
    · have hw := ifn c5 hw
      refine lv_aload_n hx hb dX5_readNegation_31 rfl (lv_at hl 0 rfl) ?_
      refine lv_sipush (v := 144) hx hb dX5_readNegation_32 (by decide) ?_
      refine ccVv0 C hH (crecv C hH 5 3 (by decide) (Nat.le_of_ble_eq_true rfl) rfl rfl (q := (RX5, TX5, 6))) [.int (144 : Int32)] (c_Reader_addStep l D Z E ad t3 (144 : Int32) _ hw) (cwTV 1 hts wd_611 wd_613 ws_15 wd_12 wd_614 rfl rfl (by decide +kernel) (rmR_fit _ (Nat.le_of_ble_eq_true rfl) (Nat.le_of_ble_eq_true rfl))) rfl hl.1 rfl (Nat.le_of_ble_eq_true rfl) dX5_readNegation_35 ⟨Nat.zero_le _, Nat.zero_le _⟩ (fun  t6 H locs hw hH => ?_)
      refine lv_iconst (v := 1) hx hb dX5_readNegation_38 (by decide) ?_
      exact crz C hr hk hH (Nat.zero_le _) (Nat.zero_le _) bz1 hw dX5_readNegation_39
    · have hw := ifp c5 hw
      refine lv_iconst (v := 0) hx hb dX5_readNegation_29 (by decide) ?_
      exact crz C hr hk hH (Nat.zero_le _) (Nat.zero_le _) bz0 hw dX5_readNegation_30
  · have hw := ifn c1 hw
    refine lv_iconst (v := 0) hx hb dX5_readNegation_6 (by decide) ?_
    exact crz C hr hk hH (Nat.zero_le _) (Nat.zero_le _) bz0 hw dX5_readNegation_7
def wp_Reader_readOperand_50 (rc : Nat → CS → Int32 → Int32 → (Int32 → CS → Prop) → Prop) (post : Int32 → CS → Prop) (t : CS) (x1_ : Int32) (x2_ : Int32) : Prop := ∀ t1 : CS, t1 = sF t 165 3 ((tF t 165 3) + (1 : Int32)) → (rc 3 t1 x2_ x1_ (fun r3 t2 => bz r3 ∧ post r3 t2))
set_option maxHeartbeats 4000000 in
set_option maxRecDepth 100000 in
theorem b_Reader_readOperand_50 {p : Program} {l : Launch} {e : Env} {s : State} {m : MethodId} {args : Array Value} {below : List Frame} {meth : Method} {c : Code} {D : va_G} {Z : Nat → ClassId} {E : Nat → Nat} {ad : Nat → Nat → Nat} {A : Nat → Prop} (C : CC p s m args c cX5_readOperand 3 RX5 D Z E A) (hr : meth.sig.returnType = some .boolean) (hk : meth.locks = false) {rc : Nat → CS → Int32 → Int32 → (Int32 → CS → Prop) → Prop} {n0 : Nat} (Hrc : RcOk l D Z E ad rc n0) {post : Int32 → CS → Prop} : ∀ (t : CS) (x1_ : Int32) (x2_ : Int32), wp_Reader_readOperand_50 rc post t x1_ x2_ → ∀ (H : Heap) (locs : List Loc) (ls : Array Slot), CH D Z E ad A s.heap t H locs → lv_has ls 3 [(0, .ref (ad 5 3)), (1, .int x1_), (2, .int x2_)] → CWi p l e (rmR (n0 + 1)) s m args below meth c D Z E ad A 0 0 post H locs 0 0 (F0 m 50 ls []) := by
  obtain ⟨⟨hx, hb, hml, hown, hts⟩, hK⟩ := id C
  intro t x1_ x2_ hw H locs ls hH hl
  unfold wp_Reader_readOperand_50 at hw
  refine lv_aload_n hx hb dX5_readOperand_50 rfl (lv_at hl 0 rfl) ?_
  refine lv_dup hx hb dX5_readOperand_51 rfl ?_
  refine cg C hH 5 3 (by decide) (Nat.le_of_ble_eq_true rfl) rfl rfl ixX5 5 (by decide) rfl wd_206 rfl dX5_readOperand_52 ?_
  refine lv_iconst (v := 1) hx hb dX5_readOperand_55 (by decide) ?_
  refine lv_iadd hx hb dX5_readOperand_56 ?_
  refine cp C hH 5 3 165 (by decide) (Nat.le_of_ble_eq_true rfl) rfl rfl ixX5 tyX5_ok nmX5 5 (by decide) (by decide) rfl rfl wd_206 pfI rfl rfl (Nat.le_of_ble_eq_true rfl) (hs_165_Reader Z ad t _) dX5_readOperand_57 (fun H locs hH => ?_)
  obtain ⟨t1, et1⟩ : ∃ x : CS, x = sF t 165 3 ((tF t 165 3) + (1 : Int32)) := ⟨_, rfl⟩
  rw [← et1] at hH
  have hw := hw t1 et1
  refine lv_aload_n hx hb dX5_readOperand_60 rfl (lv_at hl 0 rfl) ?_
  refine lv_iload_n hx hb dX5_readOperand_61 rfl (lv_at hl 2 rfl) ?_
  refine lv_iload_n hx hb dX5_readOperand_62 rfl (lv_at hl 1 rfl) ?_
  refine ccVi0 C hH (crecv C hH 5 3 (by decide) (Nat.le_of_ble_eq_true rfl) rfl rfl (q := (RX5, TX5, 6))) [.int x2_, .int x1_] (Hrc.2.2.2 t1 x2_ x1_ _ hw) (cwTV 2 hts wd_615 wd_617 ws_16 wd_12 wd_618 rfl rfl (by decide +kernel) (rmR_rec _ (by decide))) rfl hl.1 rfl (Nat.le_of_ble_eq_true rfl) dX5_readOperand_63 ⟨Nat.zero_le _, Nat.zero_le _⟩ (fun r3 t2 H locs hw hH => ?_)
  exact crz C hr hk hH (Nat.zero_le _) (Nat.zero_le _) hw.1 hw.2 dX5_readOperand_66
def wp_Reader_readOperand_19 (rc : Nat → CS → Int32 → Int32 → (Int32 → CS → Prop) → Prop) (post : Int32 → CS → Prop) (t : CS) (x2_ : Int32) : Prop := wp_Reader_addStep t x2_ (fun  t4 => ∀ t5 : CS, t5 = sF t4 165 3 ((tF t4 165 3) + (1 : Int32)) → (post (1 : Int32) t5))
set_option maxHeartbeats 4000000 in
set_option maxRecDepth 100000 in
theorem b_Reader_readOperand_19 {p : Program} {l : Launch} {e : Env} {s : State} {m : MethodId} {args : Array Value} {below : List Frame} {meth : Method} {c : Code} {D : va_G} {Z : Nat → ClassId} {E : Nat → Nat} {ad : Nat → Nat → Nat} {A : Nat → Prop} (C : CC p s m args c cX5_readOperand 3 RX5 D Z E A) (hr : meth.sig.returnType = some .boolean) (hk : meth.locks = false) {rc : Nat → CS → Int32 → Int32 → (Int32 → CS → Prop) → Prop} {n0 : Nat} (Hrc : RcOk l D Z E ad rc n0) {post : Int32 → CS → Prop} : ∀ (t : CS) (x2_ : Int32), wp_Reader_readOperand_19 rc post t x2_ → ∀ (H : Heap) (locs : List Loc) (ls : Array Slot), CH D Z E ad A s.heap t H locs → lv_has ls 3 [(0, .ref (ad 5 3)), (2, .int x2_)] → CWi p l e (rmR (n0 + 1)) s m args below meth c D Z E ad A 0 0 post H locs 0 0 (F0 m 19 ls []) := by
  obtain ⟨⟨hx, hb, hml, hown, hts⟩, hK⟩ := id C
  intro t x2_ hw H locs ls hH hl
  unfold wp_Reader_readOperand_19 at hw
  refine lv_aload_n hx hb dX5_readOperand_19 rfl (lv_at hl 0 rfl) ?_
  refine lv_iload_n hx hb dX5_readOperand_20 rfl (lv_at hl 1 rfl) ?_
  refine ccVv0 C hH (crecv C hH 5 3 (by decide) (Nat.le_of_ble_eq_true rfl) rfl rfl (q := (RX5, TX5, 6))) [.int x2_] (c_Reader_addStep l D Z E ad t x2_ _ hw) (cwTV 1 hts wd_611 wd_613 ws_15 wd_12 wd_614 rfl rfl (by decide +kernel) (rmR_fit _ (Nat.le_of_ble_eq_true rfl) (Nat.le_of_ble_eq_true rfl))) rfl hl.1 rfl (Nat.le_of_ble_eq_true rfl) dX5_readOperand_21 ⟨Nat.zero_le _, Nat.zero_le _⟩ (fun  t4 H locs hw hH => ?_)
  refine lv_aload_n hx hb dX5_readOperand_24 rfl (lv_at hl 0 rfl) ?_
  refine lv_dup hx hb dX5_readOperand_25 rfl ?_
  refine cg C hH 5 3 (by decide) (Nat.le_of_ble_eq_true rfl) rfl rfl ixX5 5 (by decide) rfl wd_206 rfl dX5_readOperand_26 ?_
  refine lv_iconst (v := 1) hx hb dX5_readOperand_29 (by decide) ?_
  refine lv_iadd hx hb dX5_readOperand_30 ?_
  refine cp C hH 5 3 165 (by decide) (Nat.le_of_ble_eq_true rfl) rfl rfl ixX5 tyX5_ok nmX5 5 (by decide) (by decide) rfl rfl wd_206 pfI rfl rfl (Nat.le_of_ble_eq_true rfl) (hs_165_Reader Z ad t4 _) dX5_readOperand_31 (fun H locs hH => ?_)
  obtain ⟨t5, et5⟩ : ∃ x : CS, x = sF t4 165 3 ((tF t4 165 3) + (1 : Int32)) := ⟨_, rfl⟩
  rw [← et5] at hH
  have hw := hw t5 et5
  refine lv_iconst (v := 1) hx hb dX5_readOperand_34 (by decide) ?_
  exact crz C hr hk hH (Nat.zero_le _) (Nat.zero_le _) bz1 hw dX5_readOperand_35
def wp_Reader_readOperand (rc : Nat → CS → Int32 → Int32 → (Int32 → CS → Prop) → Prop) (t : CS) (a1 : Int32) (post : Int32 → CS → Prop) : Prop := wp_Reader_token t  (fun r7 t6 => wp_Token_isNumber t6 r7 (fun r9 t8 => if r9 = 0 then (wp_Token_isName t8 r7 (fun r12 t11 => if r12 = 0 then (if r7 = (145 : Int32) then (wp_Reader_readOperand_50 rc post t11 a1 r7) else (if r7 = (146 : Int32) then (wp_Reader_readOperand_50 rc post t11 a1 r7) else (if (12 : Int32) ≤ a1 then (post (0 : Int32) t11) else (wp_Reader_pass t11 (40 : Int32) (fun r18 t17 => if r18 = 0 then (post (0 : Int32) t17) else (rc 0 t17 (0 : Int32) (a1 + (1 : Int32)) (fun r21 t20 => if r21 = 0 then (post (0 : Int32) t20) else (wp_Reader_pass t20 (41 : Int32) (fun r24 t23 => if r24 = 0 then (post (0 : Int32) t23) else (post (1 : Int32) t23)))))))))) else (wp_Reader_readOperand_19 rc post t11 r7))) else (wp_Reader_readOperand_19 rc post t8 r7)))
set_option maxHeartbeats 4000000 in
set_option maxRecDepth 100000 in
theorem c_Reader_readOperand (l : Launch) (D : va_G) (Z : Nat → ClassId) (E : Nat → Nat) (ad : Nat → Nat → Nat) (rc : Nat → CS → Int32 → Int32 → (Int32 → CS → Prop) → Prop) (n0 : Nat) (Hrc : RcOk l D Z E ad rc n0) (t : CS) (a1 : Int32) (post : Int32 → CS → Prop) (hw : wp_Reader_readOperand rc t a1 post) (L : List Nat) (sz : Nat) : Met l yX5_readOperand (Wd yX5_readOperand cX5_readOperand 3 (some .boolean)) (rmR (n0 + 1)) (va_Pc [.ref (ad 5 3), .int a1] (cPre D Z E ad L sz t)) (va_Qi post (cPost D Z E ad (cAs L sz)) (cAs L sz)) 0 0 (cAs L sz) := by
  refine cMet (Qc := fun A => va_Qi post (cPost D Z E ad A) A) (by decide) rfl _ (Nat.le_of_ble_eq_true rfl) (fun p e s m args below meth c A C hr hk ls hl hH => ?_) L sz
  obtain ⟨⟨hx, hb, hml, hown, hts⟩, hK⟩ := id C
  have hl : lv_has ls 3 [(0, .ref (ad 5 3)), (1, .int a1)] := hl
  unfold wp_Reader_readOperand at hw
  refine lv_aload_n hx hb dX5_readOperand_0 rfl (lv_at hl 0 rfl) ?_
  refine ccVi0 C hH (crecv C hH 5 3 (by decide) (Nat.le_of_ble_eq_true rfl) rfl rfl (q := (RX5, TX5, 6))) [] (c_Reader_token l D Z E ad t  _ hw) (cwTV 0 hts wd_601 wd_603 ws_14 wd_12 wd_604 rfl rfl (by decide +kernel) (rmR_fit _ (Nat.le_of_ble_eq_true rfl) (Nat.le_of_ble_eq_true rfl))) rfl hl.1 rfl (Nat.le_of_ble_eq_true rfl) dX5_readOperand_1 ⟨Nat.zero_le _, Nat.zero_le _⟩ (fun r7 t6 H locs hw hH => ?_)
  refine lv_istore_n (lv' := [(2, .int r7), (0, .ref (ad 5 3)), (1, .int a1)]) hx hb dX5_readOperand_4 rfl hl (by decide) rfl (fun ls hl => ?_)
  refine lv_iload_n hx hb dX5_readOperand_5 rfl (lv_at hl 0 rfl) ?_
  refine ccSi0 C hH [.int r7] (c_Token_isNumber l D Z E ad t6 r7 _ hw) (cwTS 1 hts wd_605 wd_606 wd_22 wd_607 rfl rfl (by decide +kernel) (rmR_fit _ (Nat.le_of_ble_eq_true rfl) (Nat.le_of_ble_eq_true rfl))) rfl hl.1 rfl (Nat.le_of_ble_eq_true rfl) dX5_readOperand_6 ⟨Nat.zero_le _, Nat.zero_le _⟩ (fun r9 t8 H locs hw hH => ?_)
  refine lv_if_ne (tgt := 19) hx hb dX5_readOperand_9 (by decide) (fun c10 => ?_) (fun c10 => ?_)
  · have hw := ifn c10 hw
    exact b_Reader_readOperand_19 C hr hk Hrc  t8 r7 hw _ _ _ hH (lv_sub hl [1, 0] rfl)
  · have hw := ifp c10 hw
    refine lv_iload_n hx hb dX5_readOperand_12 rfl (lv_at hl 0 rfl) ?_
    refine ccSi0 C hH [.int r7] (c_Token_isName l D Z E ad t8 r7 _ hw) (cwTS 1 hts wd_608 wd_609 wd_22 wd_610 rfl rfl (by decide +kernel) (rmR_fit _ (Nat.le_of_ble_eq_true rfl) (Nat.le_of_ble_eq_true rfl))) rfl hl.1 rfl (Nat.le_of_ble_eq_true rfl) dX5_readOperand_13 ⟨Nat.zero_le _, Nat.zero_le _⟩ (fun r12 t11 H locs hw hH => ?_)
    refine lv_if_eq (tgt := 36) hx hb dX5_readOperand_16 (by decide) (fun c13 => ?_) (fun c13 => ?_)
    · have hw := ifp c13 hw
      refine lv_iload_n hx hb dX5_readOperand_36 rfl (lv_at hl 0 rfl) ?_
      refine lv_sipush (v := 145) hx hb dX5_readOperand_37 (by decide) ?_
      refine lv_icmp_eq (tgt := 50) hx hb dX5_readOperand_40 (by decide) (fun c14 => ?_) (fun c14 => ?_)
      · have hw := ifp c14 hw
        exact b_Reader_readOperand_50 C hr hk Hrc  t11 a1 r7 hw _ _ _ hH (lv_sub hl [1, 2, 0] rfl)
      · have hw := ifn c14 hw
        refine lv_iload_n hx hb dX5_readOperand_43 rfl (lv_at hl 0 rfl) ?_
        refine lv_sipush (v := 146) hx hb dX5_readOperand_44 (by decide) ?_
        refine lv_icmp_ne (tgt := 67) hx hb dX5_readOperand_47 (by decide) (fun c15 => ?_) (fun c15 => ?_)
        · have hw := ifn c15 hw
          refine lv_iload_n hx hb dX5_readOperand_67 rfl (lv_at hl 2 rfl) ?_
          refine lv_bipush (v := 12) hx hb dX5_readOperand_68 (by decide) ?_
          refine lv_icmp_ge (tgt := 106) hx hb dX5_readOperand_70 (by decide) (fun c16 => ?_) (fun c16 => ?_)
          · have hw := ifp c16 hw
            refine lv_iconst (v := 0) hx hb dX5_readOperand_106 (by decide) ?_
            exact crz C hr hk hH (Nat.zero_le _) (Nat.zero_le _) bz0 hw dX5_readOperand_107
          · have hw := ifn c16 hw
            refine lv_aload_n hx hb dX5_readOperand_73 rfl (lv_at hl 1 rfl) ?_
            refine lv_bipush (v := 40) hx hb dX5_readOperand_74 (by decide) ?_
            refine ccVi0 C hH (crecv C hH 5 3 (by decide) (Nat.le_of_ble_eq_true rfl) rfl rfl (q := (RX5, TX5, 6))) [.int (40 : Int32)] (c_Reader_pass l D Z E ad t11 (40 : Int32) _ hw) (cwTV 1 hts wd_619 wd_621 ws_17 wd_12 wd_622 rfl rfl (by decide +kernel) (rmR_fit _ (Nat.le_of_ble_eq_true rfl) (Nat.le_of_ble_eq_true rfl))) rfl hl.1 rfl (Nat.le_of_ble_eq_true rfl) dX5_readOperand_76 ⟨Nat.zero_le _, Nat.zero_le _⟩ (fun r18 t17 H locs hw hH => ?_)
            refine lv_if_eq (tgt := 106) hx hb dX5_readOperand_79 (by decide) (fun c19 => ?_) (fun c19 => ?_)
            · have hw := ifp c19 hw
              refine lv_iconst (v := 0) hx hb dX5_readOperand_106 (by decide) ?_
              exact crz C hr hk hH (Nat.zero_le _) (Nat.zero_le _) bz0 hw dX5_readOperand_107
            · have hw := ifn c19 hw
              refine lv_aload_n hx hb dX5_readOperand_82 rfl (lv_at hl 1 rfl) ?_
              refine lv_iconst (v := 0) hx hb dX5_readOperand_83 (by decide) ?_
              refine lv_iload_n hx hb dX5_readOperand_84 rfl (lv_at hl 2 rfl) ?_
              refine lv_iconst (v := 1) hx hb dX5_readOperand_85 (by decide) ?_
              refine lv_iadd hx hb dX5_readOperand_86 ?_
              refine ccVi0 C hH (crecv C hH 5 3 (by decide) (Nat.le_of_ble_eq_true rfl) rfl rfl (q := (RX5, TX5, 6))) [.int (0 : Int32), .int (a1 + (1 : Int32))] (Hrc.1 t17 (0 : Int32) (a1 + (1 : Int32)) _ hw) (cwTV 2 hts wd_593 wd_595 ws_12 wd_12 wd_596 rfl rfl (by decide +kernel) (rmR_rec _ (by decide))) rfl hl.1 rfl (Nat.le_of_ble_eq_true rfl) dX5_readOperand_87 ⟨Nat.zero_le _, Nat.zero_le _⟩ (fun r21 t20 H locs hw hH => ?_)
              refine lv_if_eq (tgt := 106) hx hb dX5_readOperand_90 (by decide) (fun c22 => ?_) (fun c22 => ?_)
              · have hw := ifp c22 hw
                refine lv_iconst (v := 0) hx hb dX5_readOperand_106 (by decide) ?_
                exact crz C hr hk hH (Nat.zero_le _) (Nat.zero_le _) bz0 hw dX5_readOperand_107
              · have hw := ifn c22 hw
                refine lv_aload_n hx hb dX5_readOperand_93 rfl (lv_at hl 1 rfl) ?_
                refine lv_bipush (v := 41) hx hb dX5_readOperand_94 (by decide) ?_
                refine ccVi0 C hH (crecv C hH 5 3 (by decide) (Nat.le_of_ble_eq_true rfl) rfl rfl (q := (RX5, TX5, 6))) [.int (41 : Int32)] (c_Reader_pass l D Z E ad t20 (41 : Int32) _ hw) (cwTV 1 hts wd_619 wd_621 ws_17 wd_12 wd_622 rfl rfl (by decide +kernel) (rmR_fit _ (Nat.le_of_ble_eq_true rfl) (Nat.le_of_ble_eq_true rfl))) rfl hl.1 rfl (Nat.le_of_ble_eq_true rfl) dX5_readOperand_96 ⟨Nat.zero_le _, Nat.zero_le _⟩ (fun r24 t23 H locs hw hH => ?_)
                refine lv_if_eq (tgt := 106) hx hb dX5_readOperand_99 (by decide) (fun c25 => ?_) (fun c25 => ?_)
                · have hw := ifp c25 hw
                  refine lv_iconst (v := 0) hx hb dX5_readOperand_106 (by decide) ?_
                  exact crz C hr hk hH (Nat.zero_le _) (Nat.zero_le _) bz0 hw dX5_readOperand_107
                · have hw := ifn c25 hw
                  refine lv_iconst (v := 1) hx hb dX5_readOperand_102 (by decide) ?_
                  refine lv_goto (tgt := 107) hx hb dX5_readOperand_103 (by decide) ?_
                  exact crz C hr hk hH (Nat.zero_le _) (Nat.zero_le _) bz1 hw dX5_readOperand_107
        · have hw := ifp c15 hw
          exact b_Reader_readOperand_50 C hr hk Hrc  t11 a1 r7 hw _ _ _ hH (lv_sub hl [1, 2, 0] rfl)
    · have hw := ifn c13 hw
      exact b_Reader_readOperand_19 C hr hk Hrc  t11 r7 hw _ _ _ hH (lv_sub hl [1, 0] rfl)
def wp_Reader_readPair_60 (rc : Nat → CS → Int32 → Int32 → (Int32 → CS → Prop) → Prop) (post : Int32 → CS → Prop) (t : CS) (x1_ : Int32) (t0_ : Int32) : Prop := if t0_ = 0 then (bz t0_ ∧ post t0_ t) else (wp_Reader_addStep t x1_ (fun  t2 => bz t0_ ∧ post t0_ t2))
set_option maxHeartbeats 4000000 in
set_option maxRecDepth 100000 in
theorem b_Reader_readPair_60 {p : Program} {l : Launch} {e : Env} {s : State} {m : MethodId} {args : Array Value} {below : List Frame} {meth : Method} {c : Code} {D : va_G} {Z : Nat → ClassId} {E : Nat → Nat} {ad : Nat → Nat → Nat} {A : Nat → Prop} (C : CC p s m args c cX5_readPair 4 RX5 D Z E A) (hr : meth.sig.returnType = some .boolean) (hk : meth.locks = false) {rc : Nat → CS → Int32 → Int32 → (Int32 → CS → Prop) → Prop} {n0 : Nat} (Hrc : RcOk l D Z E ad rc n0) {post : Int32 → CS → Prop} : ∀ (t : CS) (x1_ : Int32) (t0_ : Int32), wp_Reader_readPair_60 rc post t x1_ t0_ → ∀ (H : Heap) (locs : List Loc) (ls : Array Slot), CH D Z E ad A s.heap t H locs → lv_has ls 4 [(0, .ref (ad 5 3)), (1, .int x1_)] → CWi p l e (rmR (n0 + 1)) s m args below meth c D Z E ad A 0 0 post H locs 0 0 (F0 m 60 ls [.int t0_]) := by
  obtain ⟨⟨hx, hb, hml, hown, hts⟩, hK⟩ := id C
  intro t x1_ t0_ hw H locs ls hH hl
  unfold wp_Reader_readPair_60 at hw
  refine lv_istore_n (lv' := [(3, .int t0_), (0, .ref (ad 5 3)), (1, .int x1_)]) hx hb dX5_readPair_60 rfl hl (by decide) rfl (fun ls hl => ?_)
  refine lv_iload_n hx hb dX5_readPair_61 rfl (lv_at hl 0 rfl) ?_
  refine lv_if_eq (tgt := 70) hx hb dX5_readPair_62 (by decide) (fun c1 => ?_) (fun c1 => ?_)
  · have hw := ifp c1 hw
    refine lv_iload_n hx hb dX5_readPair_70 rfl (lv_at hl 0 rfl) ?_
    exact crz C hr hk hH (Nat.zero_le _) (Nat.zero_le _) hw.1 hw.2 dX5_readPair_71
  · have hw := ifn c1 hw
    refine lv_aload_n hx hb dX5_readPair_65 rfl (lv_at hl 1 rfl) ?_
    refine lv_iload_n hx hb dX5_readPair_66 rfl (lv_at hl 2 rfl) ?_
    refine ccVv0 C hH (crecv C hH 5 3 (by decide) (Nat.le_of_ble_eq_true rfl) rfl rfl (q := (RX5, TX5, 6))) [.int x1_] (c_Reader_addStep l D Z E ad t x1_ _ hw) (cwTV 1 hts wd_611 wd_613 ws_15 wd_12 wd_614 rfl rfl (by decide +kernel) (rmR_fit _ (Nat.le_of_ble_eq_true rfl) (Nat.le_of_ble_eq_true rfl))) rfl hl.1 rfl (Nat.le_of_ble_eq_true rfl) dX5_readPair_67 ⟨Nat.zero_le _, Nat.zero_le _⟩ (fun  t2 H locs hw hH => ?_)
    refine lv_iload_n hx hb dX5_readPair_70 rfl (lv_at hl 0 rfl) ?_
    exact crz C hr hk hH (Nat.zero_le _) (Nat.zero_le _) hw.1 hw.2 dX5_readPair_71
def wp_Reader_readPair_59 (rc : Nat → CS → Int32 → Int32 → (Int32 → CS → Prop) → Prop) (post : Int32 → CS → Prop) (t : CS) (x1_ : Int32) : Prop := wp_Reader_readPair_60 rc post t x1_ (0 : Int32)
set_option maxHeartbeats 4000000 in
set_option maxRecDepth 100000 in
theorem b_Reader_readPair_59 {p : Program} {l : Launch} {e : Env} {s : State} {m : MethodId} {args : Array Value} {below : List Frame} {meth : Method} {c : Code} {D : va_G} {Z : Nat → ClassId} {E : Nat → Nat} {ad : Nat → Nat → Nat} {A : Nat → Prop} (C : CC p s m args c cX5_readPair 4 RX5 D Z E A) (hr : meth.sig.returnType = some .boolean) (hk : meth.locks = false) {rc : Nat → CS → Int32 → Int32 → (Int32 → CS → Prop) → Prop} {n0 : Nat} (Hrc : RcOk l D Z E ad rc n0) {post : Int32 → CS → Prop} : ∀ (t : CS) (x1_ : Int32), wp_Reader_readPair_59 rc post t x1_ → ∀ (H : Heap) (locs : List Loc) (ls : Array Slot), CH D Z E ad A s.heap t H locs → lv_has ls 4 [(0, .ref (ad 5 3)), (1, .int x1_)] → CWi p l e (rmR (n0 + 1)) s m args below meth c D Z E ad A 0 0 post H locs 0 0 (F0 m 59 ls []) := by
  obtain ⟨⟨hx, hb, hml, hown, hts⟩, hK⟩ := id C
  intro t x1_ hw H locs ls hH hl
  unfold wp_Reader_readPair_59 at hw
  refine lv_iconst (v := 0) hx hb dX5_readPair_59 (by decide) ?_
  exact b_Reader_readPair_60 C hr hk Hrc  t x1_ (0 : Int32) hw _ _ _ hH (lv_sub hl [0, 1] rfl)
def wp_Reader_readPair (rc : Nat → CS → Int32 → Int32 → (Int32 → CS → Prop) → Prop) (t : CS) (a1 : Int32) (a2 : Int32) (post : Int32 → CS → Prop) : Prop := if (12 : Int32) ≤ a2 then (wp_Reader_readPair_59 rc post t a1) else (wp_Reader_pass t (40 : Int32) (fun r5 t4 => if r5 = 0 then (wp_Reader_readPair_59 rc post t4 a1) else (rc 0 t4 (3 : Int32) (a2 + (1 : Int32)) (fun r8 t7 => if r8 = 0 then (wp_Reader_readPair_59 rc post t7 a1) else (wp_Reader_pass t7 (44 : Int32) (fun r11 t10 => if r11 = 0 then (wp_Reader_readPair_59 rc post t10 a1) else (rc 0 t10 (3 : Int32) (a2 + (1 : Int32)) (fun r14 t13 => if r14 = 0 then (wp_Reader_readPair_59 rc post t13 a1) else (wp_Reader_pass t13 (41 : Int32) (fun r17 t16 => if r17 = 0 then (wp_Reader_readPair_59 rc post t16 a1) else (wp_Reader_readPair_60 rc post t16 a1 (1 : Int32))))))))))))
set_option maxHeartbeats 4000000 in
set_option maxRecDepth 100000 in
theorem c_Reader_readPair (l : Launch) (D : va_G) (Z : Nat → ClassId) (E : Nat → Nat) (ad : Nat → Nat → Nat) (rc : Nat → CS → Int32 → Int32 → (Int32 → CS → Prop) → Prop) (n0 : Nat) (Hrc : RcOk l D Z E ad rc n0) (t : CS) (a1 : Int32) (a2 : Int32) (post : Int32 → CS → Prop) (hw : wp_Reader_readPair rc t a1 a2 post) (L : List Nat) (sz : Nat) : Met l yX5_readPair (Wd yX5_readPair cX5_readPair 4 (some .boolean)) (rmR (n0 + 1)) (va_Pc [.ref (ad 5 3), .int a1, .int a2] (cPre D Z E ad L sz t)) (va_Qi post (cPost D Z E ad (cAs L sz)) (cAs L sz)) 0 0 (cAs L sz) := by
  refine cMet (Qc := fun A => va_Qi post (cPost D Z E ad A) A) (by decide) rfl _ (Nat.le_of_ble_eq_true rfl) (fun p e s m args below meth c A C hr hk ls hl hH => ?_) L sz
  obtain ⟨⟨hx, hb, hml, hown, hts⟩, hK⟩ := id C
  have hl : lv_has ls 4 [(0, .ref (ad 5 3)), (1, .int a1), (2, .int a2)] := hl
  unfold wp_Reader_readPair at hw
  refine lv_iload_n hx hb dX5_readPair_0 rfl (lv_at hl 2 rfl) ?_
  refine lv_bipush (v := 12) hx hb dX5_readPair_1 (by decide) ?_
  refine lv_icmp_ge (tgt := 59) hx hb dX5_readPair_3 (by decide) (fun c3 => ?_) (fun c3 => ?_)
  · have hw := ifp c3 hw
    exact b_Reader_readPair_59 C hr hk Hrc  t a1 hw _ _ _ hH (lv_sub hl [0, 1] rfl)
  · have hw := ifn c3 hw
    refine lv_aload_n hx hb dX5_readPair_6 rfl (lv_at hl 0 rfl) ?_
    refine lv_bipush (v := 40) hx hb dX5_readPair_7 (by decide) ?_
    refine ccVi0 C hH (crecv C hH 5 3 (by decide) (Nat.le_of_ble_eq_true rfl) rfl rfl (q := (RX5, TX5, 6))) [.int (40 : Int32)] (c_Reader_pass l D Z E ad t (40 : Int32) _ hw) (cwTV 1 hts wd_619 wd_621 ws_17 wd_12 wd_622 rfl rfl (by decide +kernel) (rmR_fit _ (Nat.le_of_ble_eq_true rfl) (Nat.le_of_ble_eq_true rfl))) rfl hl.1 rfl (Nat.le_of_ble_eq_true rfl) dX5_readPair_9 ⟨Nat.zero_le _, Nat.zero_le _⟩ (fun r5 t4 H locs hw hH => ?_)
    refine lv_if_eq (tgt := 59) hx hb dX5_readPair_12 (by decide) (fun c6 => ?_) (fun c6 => ?_)
    · have hw := ifp c6 hw
      exact b_Reader_readPair_59 C hr hk Hrc  t4 a1 hw _ _ _ hH (lv_sub hl [0, 1] rfl)
    · have hw := ifn c6 hw
      refine lv_aload_n hx hb dX5_readPair_15 rfl (lv_at hl 0 rfl) ?_
      refine lv_iconst (v := 3) hx hb dX5_readPair_16 (by decide) ?_
      refine lv_iload_n hx hb dX5_readPair_17 rfl (lv_at hl 2 rfl) ?_
      refine lv_iconst (v := 1) hx hb dX5_readPair_18 (by decide) ?_
      refine lv_iadd hx hb dX5_readPair_19 ?_
      refine ccVi0 C hH (crecv C hH 5 3 (by decide) (Nat.le_of_ble_eq_true rfl) rfl rfl (q := (RX5, TX5, 6))) [.int (3 : Int32), .int (a2 + (1 : Int32))] (Hrc.1 t4 (3 : Int32) (a2 + (1 : Int32)) _ hw) (cwTV 2 hts wd_593 wd_595 ws_12 wd_12 wd_596 rfl rfl (by decide +kernel) (rmR_rec _ (by decide))) rfl hl.1 rfl (Nat.le_of_ble_eq_true rfl) dX5_readPair_20 ⟨Nat.zero_le _, Nat.zero_le _⟩ (fun r8 t7 H locs hw hH => ?_)
      refine lv_if_eq (tgt := 59) hx hb dX5_readPair_23 (by decide) (fun c9 => ?_) (fun c9 => ?_)
      · have hw := ifp c9 hw
        exact b_Reader_readPair_59 C hr hk Hrc  t7 a1 hw _ _ _ hH (lv_sub hl [0, 1] rfl)
      · have hw := ifn c9 hw
        refine lv_aload_n hx hb dX5_readPair_26 rfl (lv_at hl 0 rfl) ?_
        refine lv_bipush (v := 44) hx hb dX5_readPair_27 (by decide) ?_
        refine ccVi0 C hH (crecv C hH 5 3 (by decide) (Nat.le_of_ble_eq_true rfl) rfl rfl (q := (RX5, TX5, 6))) [.int (44 : Int32)] (c_Reader_pass l D Z E ad t7 (44 : Int32) _ hw) (cwTV 1 hts wd_619 wd_621 ws_17 wd_12 wd_622 rfl rfl (by decide +kernel) (rmR_fit _ (Nat.le_of_ble_eq_true rfl) (Nat.le_of_ble_eq_true rfl))) rfl hl.1 rfl (Nat.le_of_ble_eq_true rfl) dX5_readPair_29 ⟨Nat.zero_le _, Nat.zero_le _⟩ (fun r11 t10 H locs hw hH => ?_)
        refine lv_if_eq (tgt := 59) hx hb dX5_readPair_32 (by decide) (fun c12 => ?_) (fun c12 => ?_)
        · have hw := ifp c12 hw
          exact b_Reader_readPair_59 C hr hk Hrc  t10 a1 hw _ _ _ hH (lv_sub hl [0, 1] rfl)
        · have hw := ifn c12 hw
          refine lv_aload_n hx hb dX5_readPair_35 rfl (lv_at hl 0 rfl) ?_
          refine lv_iconst (v := 3) hx hb dX5_readPair_36 (by decide) ?_
          refine lv_iload_n hx hb dX5_readPair_37 rfl (lv_at hl 2 rfl) ?_
          refine lv_iconst (v := 1) hx hb dX5_readPair_38 (by decide) ?_
          refine lv_iadd hx hb dX5_readPair_39 ?_
          refine ccVi0 C hH (crecv C hH 5 3 (by decide) (Nat.le_of_ble_eq_true rfl) rfl rfl (q := (RX5, TX5, 6))) [.int (3 : Int32), .int (a2 + (1 : Int32))] (Hrc.1 t10 (3 : Int32) (a2 + (1 : Int32)) _ hw) (cwTV 2 hts wd_593 wd_595 ws_12 wd_12 wd_596 rfl rfl (by decide +kernel) (rmR_rec _ (by decide))) rfl hl.1 rfl (Nat.le_of_ble_eq_true rfl) dX5_readPair_40 ⟨Nat.zero_le _, Nat.zero_le _⟩ (fun r14 t13 H locs hw hH => ?_)
          refine lv_if_eq (tgt := 59) hx hb dX5_readPair_43 (by decide) (fun c15 => ?_) (fun c15 => ?_)
          · have hw := ifp c15 hw
            exact b_Reader_readPair_59 C hr hk Hrc  t13 a1 hw _ _ _ hH (lv_sub hl [0, 1] rfl)
          · have hw := ifn c15 hw
            refine lv_aload_n hx hb dX5_readPair_46 rfl (lv_at hl 0 rfl) ?_
            refine lv_bipush (v := 41) hx hb dX5_readPair_47 (by decide) ?_
            refine ccVi0 C hH (crecv C hH 5 3 (by decide) (Nat.le_of_ble_eq_true rfl) rfl rfl (q := (RX5, TX5, 6))) [.int (41 : Int32)] (c_Reader_pass l D Z E ad t13 (41 : Int32) _ hw) (cwTV 1 hts wd_619 wd_621 ws_17 wd_12 wd_622 rfl rfl (by decide +kernel) (rmR_fit _ (Nat.le_of_ble_eq_true rfl) (Nat.le_of_ble_eq_true rfl))) rfl hl.1 rfl (Nat.le_of_ble_eq_true rfl) dX5_readPair_49 ⟨Nat.zero_le _, Nat.zero_le _⟩ (fun r17 t16 H locs hw hH => ?_)
            refine lv_if_eq (tgt := 59) hx hb dX5_readPair_52 (by decide) (fun c18 => ?_) (fun c18 => ?_)
            · have hw := ifp c18 hw
              exact b_Reader_readPair_59 C hr hk Hrc  t16 a1 hw _ _ _ hH (lv_sub hl [0, 1] rfl)
            · have hw := ifn c18 hw
              refine lv_iconst (v := 1) hx hb dX5_readPair_55 (by decide) ?_
              refine lv_goto (tgt := 60) hx hb dX5_readPair_56 (by decide) ?_
              exact b_Reader_readPair_60 C hr hk Hrc  t16 a1 (1 : Int32) hw _ _ _ hH (lv_sub hl [0, 1] rfl)
def wpR : Nat → Nat → CS → Int32 → Int32 → (Int32 → CS → Prop) → Prop
  | 0 => fun _ _ _ _ _ => False
  | n + 1 => fun w t a b post => if w = 0 then wp_Reader_readPart (wpR n) t a b post else if w = 1 then wp_Reader_readNegation (wpR n) t a post else if w = 2 then wp_Reader_readOperand (wpR n) t a post else wp_Reader_readPair (wpR n) t a b post
theorem c_RR (l : Launch) (D : va_G) (Z : Nat → ClassId) (E : Nat → Nat) (ad : Nat → Nat → Nat) : ∀ n : Nat, RcOk l D Z E ad (wpR n) n := by
  intro n
  induction n with
  | zero => exact ⟨fun _ _ _ _ h => h.elim, fun _ _ _ h => h.elim, fun _ _ _ h => h.elim, fun _ _ _ _ h => h.elim⟩
  | succ n ih => exact ⟨fun t a b post h => c_Reader_readPart l D Z E ad (wpR n) n ih t a b post (by unfold wpR at h; exact ifp rfl h), fun t a post h => c_Reader_readNegation l D Z E ad (wpR n) n ih t a post (by unfold wpR at h; exact ifp rfl (ifn (by decide) h)), fun t a post h => c_Reader_readOperand l D Z E ad (wpR n) n ih t a post (by unfold wpR at h; exact ifp rfl (ifn (by decide) (ifn (by decide) h))), fun t a b post h => c_Reader_readPair l D Z E ad (wpR n) n ih t a b post (by unfold wpR at h; exact ifn (by decide) (ifn (by decide) (ifn (by decide) h)))⟩
abbrev rm_Reader_readRule : Room := { frames := 211, cells := 0, slots := 0, locals := 13025 }
def wp_Reader_readRule (t : CS) (post : Int32 → CS → Prop) : Prop := wpR 200 0 t (3 : Int32) (0 : Int32) (fun r2 t1 => if r2 = 0 then (post (0 : Int32) t1) else (wp_Reader_pass t1 (141 : Int32) (fun r5 t4 => if r5 = 0 then (wp_Reader_addStep t4 (1 : Int32) (fun  t11 => post (1 : Int32) t11)) else (wpR 200 0 t4 (0 : Int32) (0 : Int32) (fun r8 t7 => if r8 = 0 then (post (0 : Int32) t7) else (wp_Reader_addStep t7 (141 : Int32) (fun  t10 => post (1 : Int32) t10)))))))
set_option maxHeartbeats 4000000 in
set_option maxRecDepth 100000 in
theorem c_Reader_readRule (l : Launch) (D : va_G) (Z : Nat → ClassId) (E : Nat → Nat) (ad : Nat → Nat → Nat) (t : CS) (post : Int32 → CS → Prop) (hw : wp_Reader_readRule t  post) (L : List Nat) (sz : Nat) : Met l yX5_readRule (Wd yX5_readRule cX5_readRule 1 (some .boolean)) rm_Reader_readRule (va_Pc [.ref (ad 5 3)] (cPre D Z E ad L sz t)) (va_Qi post (cPost D Z E ad (cAs L sz)) (cAs L sz)) 0 0 (cAs L sz) := by
  refine cMet (Qc := fun A => va_Qi post (cPost D Z E ad A) A) (by decide) rfl _ (Nat.le_of_ble_eq_true rfl) (fun p e s m args below meth c A C hr hk ls hl hH => ?_) L sz
  obtain ⟨⟨hx, hb, hml, hown, hts⟩, hK⟩ := id C
  have hl : lv_has ls 1 [(0, .ref (ad 5 3))] := hl
  unfold wp_Reader_readRule at hw
  refine lv_aload_n hx hb dX5_readRule_0 rfl (lv_at hl 0 rfl) ?_
  refine lv_iconst (v := 3) hx hb dX5_readRule_1 (by decide) ?_
  refine lv_iconst (v := 0) hx hb dX5_readRule_2 (by decide) ?_
  refine ccVi0 C hH (crecv C hH 5 3 (by decide) (Nat.le_of_ble_eq_true rfl) rfl rfl (q := (RX5, TX5, 6))) [.int (3 : Int32), .int (0 : Int32)] ((c_RR l D Z E ad 200).1 t (3 : Int32) (0 : Int32) _ hw) (cwTV 2 hts wd_593 wd_595 ws_12 wd_12 wd_596 rfl rfl (by decide +kernel) ⟨Nat.le_of_ble_eq_true rfl, Nat.le_of_ble_eq_true rfl⟩) rfl hl.1 rfl (Nat.le_of_ble_eq_true rfl) dX5_readRule_3 ⟨Nat.zero_le _, Nat.zero_le _⟩ (fun r2 t1 H locs hw hH => ?_)
  refine lv_if_ne (tgt := 11) hx hb dX5_readRule_6 (by decide) (fun c3 => ?_) (fun c3 => ?_)
  · have hw := ifn c3 hw
    refine lv_aload_n hx hb dX5_readRule_11 rfl (lv_at hl 0 rfl) ?_
    refine lv_sipush (v := 141) hx hb dX5_readRule_12 (by decide) ?_
    refine ccVi0 C hH (crecv C hH 5 3 (by decide) (Nat.le_of_ble_eq_true rfl) rfl rfl (q := (RX5, TX5, 6))) [.int (141 : Int32)] (c_Reader_pass l D Z E ad t1 (141 : Int32) _ hw) (cwTV 1 hts wd_619 wd_621 ws_17 wd_12 wd_622 rfl rfl (by decide +kernel) ⟨Nat.le_of_ble_eq_true rfl, Nat.le_of_ble_eq_true rfl⟩) rfl hl.1 rfl (Nat.le_of_ble_eq_true rfl) dX5_readRule_15 ⟨Nat.zero_le _, Nat.zero_le _⟩ (fun r5 t4 H locs hw hH => ?_)
    refine lv_if_ne (tgt := 28) hx hb dX5_readRule_18 (by decide) (fun c6 => ?_) (fun c6 => ?_)
    · have hw := ifn c6 hw
      refine lv_aload_n hx hb dX5_readRule_28 rfl (lv_at hl 0 rfl) ?_
      refine lv_iconst (v := 0) hx hb dX5_readRule_29 (by decide) ?_
      refine lv_iconst (v := 0) hx hb dX5_readRule_30 (by decide) ?_
      refine ccVi0 C hH (crecv C hH 5 3 (by decide) (Nat.le_of_ble_eq_true rfl) rfl rfl (q := (RX5, TX5, 6))) [.int (0 : Int32), .int (0 : Int32)] ((c_RR l D Z E ad 200).1 t4 (0 : Int32) (0 : Int32) _ hw) (cwTV 2 hts wd_593 wd_595 ws_12 wd_12 wd_596 rfl rfl (by decide +kernel) ⟨Nat.le_of_ble_eq_true rfl, Nat.le_of_ble_eq_true rfl⟩) rfl hl.1 rfl (Nat.le_of_ble_eq_true rfl) dX5_readRule_31 ⟨Nat.zero_le _, Nat.zero_le _⟩ (fun r8 t7 H locs hw hH => ?_)
      refine lv_if_ne (tgt := 39) hx hb dX5_readRule_34 (by decide) (fun c9 => ?_) (fun c9 => ?_)
      · have hw := ifn c9 hw
        refine lv_aload_n hx hb dX5_readRule_39 rfl (lv_at hl 0 rfl) ?_
        refine lv_sipush (v := 141) hx hb dX5_readRule_40 (by decide) ?_
        refine ccVv0 C hH (crecv C hH 5 3 (by decide) (Nat.le_of_ble_eq_true rfl) rfl rfl (q := (RX5, TX5, 6))) [.int (141 : Int32)] (c_Reader_addStep l D Z E ad t7 (141 : Int32) _ hw) (cwTV 1 hts wd_611 wd_613 ws_15 wd_12 wd_614 rfl rfl (by decide +kernel) ⟨Nat.le_of_ble_eq_true rfl, Nat.le_of_ble_eq_true rfl⟩) rfl hl.1 rfl (Nat.le_of_ble_eq_true rfl) dX5_readRule_43 ⟨Nat.zero_le _, Nat.zero_le _⟩ (fun  t10 H locs hw hH => ?_)
        refine lv_iconst (v := 1) hx hb dX5_readRule_46 (by decide) ?_
        exact crz C hr hk hH (Nat.zero_le _) (Nat.zero_le _) bz1 hw dX5_readRule_47
      · have hw := ifp c9 hw
        refine lv_iconst (v := 0) hx hb dX5_readRule_37 (by decide) ?_
        exact crz C hr hk hH (Nat.zero_le _) (Nat.zero_le _) bz0 hw dX5_readRule_38
    · have hw := ifp c6 hw
      refine lv_aload_n hx hb dX5_readRule_21 rfl (lv_at hl 0 rfl) ?_
      refine lv_iconst (v := 1) hx hb dX5_readRule_22 (by decide) ?_
      refine ccVv0 C hH (crecv C hH 5 3 (by decide) (Nat.le_of_ble_eq_true rfl) rfl rfl (q := (RX5, TX5, 6))) [.int (1 : Int32)] (c_Reader_addStep l D Z E ad t4 (1 : Int32) _ hw) (cwTV 1 hts wd_611 wd_613 ws_15 wd_12 wd_614 rfl rfl (by decide +kernel) ⟨Nat.le_of_ble_eq_true rfl, Nat.le_of_ble_eq_true rfl⟩) rfl hl.1 rfl (Nat.le_of_ble_eq_true rfl) dX5_readRule_23 ⟨Nat.zero_le _, Nat.zero_le _⟩ (fun  t11 H locs hw hH => ?_)
      refine lv_iconst (v := 1) hx hb dX5_readRule_26 (by decide) ?_
      exact crz C hr hk hH (Nat.zero_le _) (Nat.zero_le _) bz1 hw dX5_readRule_27
  · have hw := ifp c3 hw
    refine lv_iconst (v := 0) hx hb dX5_readRule_9 (by decide) ?_
    exact crz C hr hk hH (Nat.zero_le _) (Nat.zero_le _) bz0 hw dX5_readRule_10
abbrev rm_Reader_read : Room := { frames := 212, cells := 0, slots := 0, locals := 13045 }
def wp_Reader_read_78 (post : Int32 → CS → Prop) (t : CS) : Prop := wp_Reader_startHere t (tF t 161 2) (fun r2 t1 => post r2 t1)
set_option maxHeartbeats 4000000 in
set_option maxRecDepth 100000 in
theorem b_Reader_read_78 {p : Program} {l : Launch} {e : Env} {s : State} {m : MethodId} {args : Array Value} {below : List Frame} {meth : Method} {c : Code} {D : va_G} {Z : Nat → ClassId} {E : Nat → Nat} {ad : Nat → Nat → Nat} {A : Nat → Prop} (C : CC p s m args c cX5_read 4 RX5 D Z E A) (hr : meth.sig.returnType = some .int) (hk : meth.locks = false) {post : Int32 → CS → Prop} : ∀ (t : CS) , wp_Reader_read_78 post t → ∀ (H : Heap) (locs : List Loc) (ls : Array Slot), CH D Z E ad A s.heap t H locs → lv_has ls 4 [(0, .ref (ad 5 3)), (1, .ref (ad 5 2))] → CWi p l e rm_Reader_read s m args below meth c D Z E ad A 0 0 post H locs 0 0 (F0 m 78 ls []) := by
  obtain ⟨⟨hx, hb, hml, hown, hts⟩, hK⟩ := id C
  intro t  hw H locs ls hH hl
  unfold wp_Reader_read_78 at hw
  refine lv_aload_n hx hb dX5_read_78 rfl (lv_at hl 0 rfl) ?_
  refine lv_aload_n hx hb dX5_read_79 rfl (lv_at hl 1 rfl) ?_
  refine cg C hH 5 2 (by decide) (Nat.le_of_ble_eq_true rfl) rfl rfl ixX8 1 (by decide) rfl wd_188 rfl dX5_read_80 ?_
  refine ccVi0 C hH (crecv C hH 5 3 (by decide) (Nat.le_of_ble_eq_true rfl) rfl rfl (q := (RX5, TX5, 6))) [.int (tF t 161 2)] (c_Reader_startHere l D Z E ad t (tF t 161 2) _ hw) (cwTV 1 hts wd_630 wd_632 ws_19 wd_12 wd_633 rfl rfl (by decide +kernel) ⟨Nat.le_of_ble_eq_true rfl, Nat.le_of_ble_eq_true rfl⟩) rfl hl.1 rfl (Nat.le_of_ble_eq_true rfl) dX5_read_83 ⟨Nat.zero_le _, Nat.zero_le _⟩ (fun r2 t1 H locs hw hH => ?_)
  exact cri C hr hk hH (Nat.zero_le _) (Nat.zero_le _) hw dX5_read_86
def wp_Reader_read_63 (post : Int32 → CS → Prop) (t : CS) (x2_ : Int32) : Prop := if x2_ = 0 then (wp_Reader_read_78 post t) else (wp_Reader_token t  (fun r5 t4 => if r5 = 0 then (post (-1 : Int32) t4) else (wp_Reader_read_78 post t4)))
set_option maxHeartbeats 4000000 in
set_option maxRecDepth 100000 in
theorem b_Reader_read_63 {p : Program} {l : Launch} {e : Env} {s : State} {m : MethodId} {args : Array Value} {below : List Frame} {meth : Method} {c : Code} {D : va_G} {Z : Nat → ClassId} {E : Nat → Nat} {ad : Nat → Nat → Nat} {A : Nat → Prop} (C : CC p s m args c cX5_read 4 RX5 D Z E A) (hr : meth.sig.returnType = some .int) (hk : meth.locks = false) {post : Int32 → CS → Prop} : ∀ (t : CS) (x2_ : Int32), wp_Reader_read_63 post t x2_ → ∀ (H : Heap) (locs : List Loc) (ls : Array Slot), CH D Z E ad A s.heap t H locs → lv_has ls 4 [(0, .ref (ad 5 3)), (1, .ref (ad 5 2)), (2, .int x2_)] → CWi p l e rm_Reader_read s m args below meth c D Z E ad A 0 0 post H locs 0 0 (F0 m 63 ls []) := by
  obtain ⟨⟨hx, hb, hml, hown, hts⟩, hK⟩ := id C
  intro t x2_ hw H locs ls hH hl
  unfold wp_Reader_read_63 at hw
  refine lv_iload_n hx hb dX5_read_63 rfl (lv_at hl 2 rfl) ?_
  refine lv_if_eq (tgt := 78) hx hb dX5_read_64 (by decide) (fun c3 => ?_) (fun c3 => ?_)
  · have hw := ifp c3 hw
    exact b_Reader_read_78 C hr hk  t  hw _ _ _ hH (lv_sub hl [0, 1] rfl)
  · have hw := ifn c3 hw
    refine lv_aload_n hx hb dX5_read_67 rfl (lv_at hl 0 rfl) ?_
    refine ccVi0 C hH (crecv C hH 5 3 (by decide) (Nat.le_of_ble_eq_true rfl) rfl rfl (q := (RX5, TX5, 6))) [] (c_Reader_token l D Z E ad t  _ hw) (cwTV 0 hts wd_601 wd_603 ws_14 wd_12 wd_604 rfl rfl (by decide +kernel) ⟨Nat.le_of_ble_eq_true rfl, Nat.le_of_ble_eq_true rfl⟩) rfl hl.1 rfl (Nat.le_of_ble_eq_true rfl) dX5_read_68 ⟨Nat.zero_le _, Nat.zero_le _⟩ (fun r5 t4 H locs hw hH => ?_)
    refine lv_if_ne (tgt := 78) hx hb dX5_read_71 (by decide) (fun c6 => ?_) (fun c6 => ?_)
    · have hw := ifn c6 hw
      exact b_Reader_read_78 C hr hk  t4  hw _ _ _ hH (lv_sub hl [0, 1] rfl)
    · have hw := ifp c6 hw
      refine lv_iconst (v := -1) hx hb dX5_read_74 (by decide) ?_
      refine lv_goto (tgt := 86) hx hb dX5_read_75 (by decide) ?_
      exact cri C hr hk hH (Nat.zero_le _) (Nat.zero_le _) hw dX5_read_86
def wp_Reader_read_22 (post : Int32 → CS → Prop) : Nat → CS → Int32 → Int32 → Prop
  | 0 => fun _ _ _ => False
  | n + 1 => fun t x2_ x3_ => if (201 : Int32) ≤ x3_ then (wp_Reader_read_63 post t x2_) else (if x2_ = 0 then (wp_Reader_read_63 post t x2_) else (wp_Reader_token t  (fun r10 t9 => if r10 = (59 : Int32) then (∀ t12 : CS, t12 = sF t9 165 3 ((tF t9 165 3) + (1 : Int32)) → (wp_Reader_readRule t12  (fun r14 t13 => ∀ x15 : Int32, x15 = x3_ + (1 : Int32) → (wp_Reader_read_22 post n t13 r14 x15)))) else (wp_Reader_read_63 post t9 x2_))))
set_option maxHeartbeats 4000000 in
set_option maxRecDepth 100000 in
theorem b_Reader_read_22 {p : Program} {l : Launch} {e : Env} {s : State} {m : MethodId} {args : Array Value} {below : List Frame} {meth : Method} {c : Code} {D : va_G} {Z : Nat → ClassId} {E : Nat → Nat} {ad : Nat → Nat → Nat} {A : Nat → Prop} (C : CC p s m args c cX5_read 4 RX5 D Z E A) (hr : meth.sig.returnType = some .int) (hk : meth.locks = false) {post : Int32 → CS → Prop} : ∀ (n : Nat) (t : CS) (x2_ : Int32) (x3_ : Int32), wp_Reader_read_22 post n t x2_ x3_ → ∀ (H : Heap) (locs : List Loc) (ls : Array Slot), CH D Z E ad A s.heap t H locs → lv_has ls 4 [(0, .ref (ad 5 3)), (1, .ref (ad 5 2)), (2, .int x2_), (3, .int x3_)] → CWi p l e rm_Reader_read s m args below meth c D Z E ad A 0 0 post H locs 0 0 (F0 m 22 ls []) := by
  obtain ⟨⟨hx, hb, hml, hown, hts⟩, hK⟩ := id C
  intro n
  induction n with
  | zero => intro t x2_ x3_ hw; exact hw.elim
  | succ n ih =>
    intro t x2_ x3_ hw H locs ls hH hl
    unfold wp_Reader_read_22 at hw
    refine lv_iload_n hx hb dX5_read_22 rfl (lv_at hl 3 rfl) ?_
    refine lv_sipush (v := 201) hx hb dX5_read_23 (by decide) ?_
    refine lv_icmp_ge (tgt := 63) hx hb dX5_read_26 (by decide) (fun c7 => ?_) (fun c7 => ?_)
    · have hw := ifp c7 hw
      exact b_Reader_read_63 C hr hk  t x2_ hw _ _ _ hH (lv_sub hl [0, 1, 2] rfl)
    · have hw := ifn c7 hw
      refine lv_iload_n hx hb dX5_read_29 rfl (lv_at hl 2 rfl) ?_
      refine lv_if_eq (tgt := 63) hx hb dX5_read_30 (by decide) (fun c8 => ?_) (fun c8 => ?_)
      · have hw := ifp c8 hw
        exact b_Reader_read_63 C hr hk  t x2_ hw _ _ _ hH (lv_sub hl [0, 1, 2] rfl)
      · have hw := ifn c8 hw
        refine lv_aload_n hx hb dX5_read_33 rfl (lv_at hl 0 rfl) ?_
        refine ccVi0 C hH (crecv C hH 5 3 (by decide) (Nat.le_of_ble_eq_true rfl) rfl rfl (q := (RX5, TX5, 6))) [] (c_Reader_token l D Z E ad t  _ hw) (cwTV 0 hts wd_601 wd_603 ws_14 wd_12 wd_604 rfl rfl (by decide +kernel) ⟨Nat.le_of_ble_eq_true rfl, Nat.le_of_ble_eq_true rfl⟩) rfl hl.1 rfl (Nat.le_of_ble_eq_true rfl) dX5_read_34 ⟨Nat.zero_le _, Nat.zero_le _⟩ (fun r10 t9 H locs hw hH => ?_)
        refine lv_bipush (v := 59) hx hb dX5_read_37 (by decide) ?_
        refine lv_icmp_ne (tgt := 63) hx hb dX5_read_39 (by decide) (fun c11 => ?_) (fun c11 => ?_)
        · have hw := ifn c11 hw
          exact b_Reader_read_63 C hr hk  t9 x2_ hw _ _ _ hH (lv_sub hl [0, 1, 2] rfl)
        · have hw := ifp c11 hw
          refine lv_aload_n hx hb dX5_read_42 rfl (lv_at hl 0 rfl) ?_
          refine lv_dup hx hb dX5_read_43 rfl ?_
          refine cg C hH 5 3 (by decide) (Nat.le_of_ble_eq_true rfl) rfl rfl ixX5 5 (by decide) rfl wd_206 rfl dX5_read_44 ?_
          refine lv_iconst (v := 1) hx hb dX5_read_47 (by decide) ?_
          refine lv_iadd hx hb dX5_read_48 ?_
          refine cp C hH 5 3 165 (by decide) (Nat.le_of_ble_eq_true rfl) rfl rfl ixX5 tyX5_ok nmX5 5 (by decide) (by decide) rfl rfl wd_206 pfI rfl rfl (Nat.le_of_ble_eq_true rfl) (hs_165_Reader Z ad t9 _) dX5_read_49 (fun H locs hH => ?_)
          obtain ⟨t12, et12⟩ : ∃ x : CS, x = sF t9 165 3 ((tF t9 165 3) + (1 : Int32)) := ⟨_, rfl⟩
          rw [← et12] at hH
          have hw := hw t12 et12
          refine lv_aload_n hx hb dX5_read_52 rfl (lv_at hl 0 rfl) ?_
          refine ccVi0 C hH (crecv C hH 5 3 (by decide) (Nat.le_of_ble_eq_true rfl) rfl rfl (q := (RX5, TX5, 6))) [] (c_Reader_readRule l D Z E ad t12  _ hw) (cwTV 0 hts wd_589 wd_591 ws_11 wd_12 wd_592 rfl rfl (by decide +kernel) ⟨Nat.le_of_ble_eq_true rfl, Nat.le_of_ble_eq_true rfl⟩) rfl hl.1 rfl (Nat.le_of_ble_eq_true rfl) dX5_read_53 ⟨Nat.zero_le _, Nat.zero_le _⟩ (fun r14 t13 H locs hw hH => ?_)
          refine lv_istore_n (lv' := [(2, .int r14), (0, .ref (ad 5 3)), (1, .ref (ad 5 2)), (3, .int x3_)]) hx hb dX5_read_56 rfl hl (by decide) rfl (fun ls hl => ?_)
          obtain ⟨x15, ex15⟩ : ∃ y : Int32, y = x3_ + (1 : Int32) := ⟨_, rfl⟩
          have hw := hw x15 ex15
          refine lv_iinc (v := x15) (lv' := [(3, .int x15), (2, .int r14), (0, .ref (ad 5 3)), (1, .ref (ad 5 2))]) hx hb dX5_read_57 hl (k := 3) rfl (by rw [ex15]; rfl) (by decide) rfl (fun ls hl => ?_)
          refine lv_goto (tgt := 22) hx hb dX5_read_60 (by decide) ?_
          exact ih t13 r14 x15 hw _ _ _ hH (lv_sub hl [2, 3, 1, 0] rfl)
def wp_Reader_read (t : CS) (post : Int32 → CS → Prop) : Prop := wp_Reader_split t  (fun  t16 => ∀ t17 : CS, t17 = sF t16 165 3 (0 : Int32) → (∀ t18 : CS, t18 = sF t17 164 3 (0 : Int32) → (wp_Reader_readRule t18  (fun r20 t19 => ∃ nn : Nat, wp_Reader_read_22 post nn t19 r20 (0 : Int32)))))
set_option maxHeartbeats 4000000 in
set_option maxRecDepth 100000 in
theorem c_Reader_read (l : Launch) (D : va_G) (Z : Nat → ClassId) (E : Nat → Nat) (ad : Nat → Nat → Nat) (t : CS) (post : Int32 → CS → Prop) (hw : wp_Reader_read t  post) (L : List Nat) (sz : Nat) : Met l yX5_read (Wd yX5_read cX5_read 4 (some .int)) rm_Reader_read (va_Pc [.ref (ad 5 3), .ref (ad 5 2)] (cPre D Z E ad L sz t)) (va_Qi post (cPost D Z E ad (cAs L sz)) (cAs L sz)) 0 0 (cAs L sz) := by
  refine cMet (Qc := fun A => va_Qi post (cPost D Z E ad A) A) (by decide) rfl _ (Nat.le_of_ble_eq_true rfl) (fun p e s m args below meth c A C hr hk ls hl hH => ?_) L sz
  obtain ⟨⟨hx, hb, hml, hown, hts⟩, hK⟩ := id C
  have hl : lv_has ls 4 [(0, .ref (ad 5 3)), (1, .ref (ad 5 2))] := hl
  unfold wp_Reader_read at hw
  refine lv_aload_n hx hb dX5_read_0 rfl (lv_at hl 0 rfl) ?_
  refine lv_aload_n hx hb dX5_read_1 rfl (lv_at hl 1 rfl) ?_
  refine ccVv0 C hH (crecv C hH 5 3 (by decide) (Nat.le_of_ble_eq_true rfl) rfl rfl (q := (RX5, TX5, 6))) [.ref (ad 5 2)] (c_Reader_split l D Z E ad t  _ hw) (cwTV 1 hts wd_509 wd_511 ws_9 wd_12 wd_512 rfl rfl (by decide +kernel) ⟨Nat.le_of_ble_eq_true rfl, Nat.le_of_ble_eq_true rfl⟩) rfl hl.1 rfl (Nat.le_of_ble_eq_true rfl) dX5_read_2 ⟨Nat.zero_le _, Nat.zero_le _⟩ (fun  t16 H locs hw hH => ?_)
  refine lv_aload_n hx hb dX5_read_5 rfl (lv_at hl 0 rfl) ?_
  refine lv_iconst (v := 0) hx hb dX5_read_6 (by decide) ?_
  refine cp C hH 5 3 165 (by decide) (Nat.le_of_ble_eq_true rfl) rfl rfl ixX5 tyX5_ok nmX5 5 (by decide) (by decide) rfl rfl wd_206 pfI rfl rfl (Nat.le_of_ble_eq_true rfl) (hs_165_Reader Z ad t16 _) dX5_read_7 (fun H locs hH => ?_)
  obtain ⟨t17, et17⟩ : ∃ x : CS, x = sF t16 165 3 (0 : Int32) := ⟨_, rfl⟩
  rw [← et17] at hH
  have hw := hw t17 et17
  refine lv_aload_n hx hb dX5_read_10 rfl (lv_at hl 0 rfl) ?_
  refine lv_iconst (v := 0) hx hb dX5_read_11 (by decide) ?_
  refine cp C hH 5 3 164 (by decide) (Nat.le_of_ble_eq_true rfl) rfl rfl ixX5 tyX5_ok nmX5 4 (by decide) (by decide) rfl rfl wd_205 pfI rfl rfl (Nat.le_of_ble_eq_true rfl) (hs_164_Reader Z ad t17 _) dX5_read_12 (fun H locs hH => ?_)
  obtain ⟨t18, et18⟩ : ∃ x : CS, x = sF t17 164 3 (0 : Int32) := ⟨_, rfl⟩
  rw [← et18] at hH
  have hw := hw t18 et18
  refine lv_aload_n hx hb dX5_read_15 rfl (lv_at hl 0 rfl) ?_
  refine ccVi0 C hH (crecv C hH 5 3 (by decide) (Nat.le_of_ble_eq_true rfl) rfl rfl (q := (RX5, TX5, 6))) [] (c_Reader_readRule l D Z E ad t18  _ hw) (cwTV 0 hts wd_589 wd_591 ws_11 wd_12 wd_592 rfl rfl (by decide +kernel) ⟨Nat.le_of_ble_eq_true rfl, Nat.le_of_ble_eq_true rfl⟩) rfl hl.1 rfl (Nat.le_of_ble_eq_true rfl) dX5_read_16 ⟨Nat.zero_le _, Nat.zero_le _⟩ (fun r20 t19 H locs hw hH => ?_)
  refine lv_istore_n (lv' := [(2, .int r20), (0, .ref (ad 5 3)), (1, .ref (ad 5 2))]) hx hb dX5_read_19 rfl hl (by decide) rfl (fun ls hl => ?_)
  refine lv_iconst (v := 0) hx hb dX5_read_20 (by decide) ?_
  refine lv_istore_n (lv' := [(3, .int (0 : Int32)), (2, .int r20), (0, .ref (ad 5 3)), (1, .ref (ad 5 2))]) hx hb dX5_read_21 rfl hl (by decide) rfl (fun ls hl => ?_)
  obtain ⟨nn, hw⟩ := hw
  exact b_Reader_read_22 C hr hk  nn t19 r20 (0 : Int32) hw _ _ _ hH (lv_sub hl [2, 3, 1, 0] rfl)
