/-! PorterTurns$Reckoner.reckon -/
abbrev rm_Reck_reckon : Room := { frames := 2, cells := 0, slots := 0, locals := 46 }
def wp_Reck_reckon_140 (k7 : CS → Nat → Int32 → Prop) (post : Int32 → CS → Prop) (t : CS) (x1_ : Nat) (x2_ : Int32) : Prop := ∀ x1 : Int32, x1 = x2_ + (1 : Int32) → (k7 t x1_ x1)
set_option maxHeartbeats 4000000 in
set_option maxRecDepth 100000 in
theorem b_Reck_reckon_140 {p : Program} {l : Launch} {e : Env} {s : State} {m : MethodId} {args : Array Value} {below : List Frame} {meth : Method} {c : Code} {D : va_G} {Z : Nat → ClassId} {E : Nat → Nat} {ad : Nat → Nat → Nat} {A : Nat → Prop} (C : CC p s m args c cX6_reckon 6 RX6 D Z E A) (hr : meth.sig.returnType = some .int) (hk : meth.locks = false) {post : Int32 → CS → Prop} {k7 : CS → Nat → Int32 → Prop} (hk7 : ∀ (t : CS) (y1 : Nat) (y2 : Int32), k7 t y1 y2 → ∀ (H : Heap) (locs : List Loc) (ls : Array Slot), CH D Z E ad A s.heap t H locs → lv_has ls 6 [(0, .ref (ad 5 4)), (1, .ref (ad 7 y1)), (2, .int y2)] → CWi p l e rm_Reck_reckon s m args below meth c D Z E ad A 0 0 post H locs 0 0 (F0 m 7 ls [])) : ∀ (t : CS) (x1_ : Nat) (x2_ : Int32), wp_Reck_reckon_140 k7 post t x1_ x2_ → ∀ (H : Heap) (locs : List Loc) (ls : Array Slot), CH D Z E ad A s.heap t H locs → lv_has ls 6 [(0, .ref (ad 5 4)), (1, .ref (ad 7 x1_)), (2, .int x2_)] → CWi p l e rm_Reck_reckon s m args below meth c D Z E ad A 0 0 post H locs 0 0 (F0 m 140 ls []) := by
  obtain ⟨⟨hx, hb, hml, hown, hts⟩, hK⟩ := id C
  intro t x1_ x2_ hw H locs ls hH hl
  unfold wp_Reck_reckon_140 at hw
  obtain ⟨x1, ex1⟩ : ∃ y : Int32, y = x2_ + (1 : Int32) := ⟨_, rfl⟩
  have hw := hw x1 ex1
  refine lv_iinc (v := x1) (lv' := [(2, .int x1), (0, .ref (ad 5 4)), (1, .ref (ad 7 x1_))]) hx hb dX6_reckon_140 hl (k := 2) rfl (by rw [ex1]; rfl) (by decide) rfl (fun ls hl => ?_)
  refine lv_goto (tgt := 7) hx hb dX6_reckon_143 (by decide) ?_
  exact hk7 t x1_ x1 hw _ _ _ hH (lv_sub hl [1, 2, 0] rfl)
def wp_Reck_reckon_89 (k7 : CS → Nat → Int32 → Prop) (post : Int32 → CS → Prop) (t : CS) (x1_ : Nat) (x2_ : Int32) (t1_ : Int32) : Prop := wp_Reck_truth t t1_ (fun r3 t2 => wp_Reck_put t2 r3 (fun  t4 => wp_Reck_reckon_140 (k7) post t4 x1_ x2_))
set_option maxHeartbeats 4000000 in
set_option maxRecDepth 100000 in
theorem b_Reck_reckon_89 {p : Program} {l : Launch} {e : Env} {s : State} {m : MethodId} {args : Array Value} {below : List Frame} {meth : Method} {c : Code} {D : va_G} {Z : Nat → ClassId} {E : Nat → Nat} {ad : Nat → Nat → Nat} {A : Nat → Prop} (C : CC p s m args c cX6_reckon 6 RX6 D Z E A) (hr : meth.sig.returnType = some .int) (hk : meth.locks = false) {post : Int32 → CS → Prop} {k7 : CS → Nat → Int32 → Prop} (hk7 : ∀ (t : CS) (y1 : Nat) (y2 : Int32), k7 t y1 y2 → ∀ (H : Heap) (locs : List Loc) (ls : Array Slot), CH D Z E ad A s.heap t H locs → lv_has ls 6 [(0, .ref (ad 5 4)), (1, .ref (ad 7 y1)), (2, .int y2)] → CWi p l e rm_Reck_reckon s m args below meth c D Z E ad A 0 0 post H locs 0 0 (F0 m 7 ls [])) : ∀ (t : CS) (x1_ : Nat) (x2_ : Int32) (t1_ : Int32), wp_Reck_reckon_89 k7 post t x1_ x2_ t1_ → ∀ (H : Heap) (locs : List Loc) (ls : Array Slot), CH D Z E ad A s.heap t H locs → lv_has ls 6 [(0, .ref (ad 5 4)), (1, .ref (ad 7 x1_)), (2, .int x2_)] → CWi p l e rm_Reck_reckon s m args below meth c D Z E ad A 0 0 post H locs 0 0 (F0 m 89 ls [.int t1_, .ref (ad 5 4)]) := by
  obtain ⟨⟨hx, hb, hml, hown, hts⟩, hK⟩ := id C
  intro t x1_ x2_ t1_ hw H locs ls hH hl
  unfold wp_Reck_reckon_89 at hw
  refine ccSi0 C hH [.int t1_] (c_Reck_truth l D Z E ad t t1_ _ hw) (cwTS 1 hts wd_757 wd_758 wd_13 wd_759 rfl rfl (by decide +kernel) ⟨Nat.le_of_ble_eq_true rfl, Nat.le_of_ble_eq_true rfl⟩) rfl hl.1 rfl (Nat.le_of_ble_eq_true rfl) dX6_reckon_89 ⟨Nat.zero_le _, Nat.zero_le _⟩ (fun r3 t2 H locs hw hH => ?_)
  refine ccVv0 C hH (crecv C hH 5 4 (by decide) (Nat.le_of_ble_eq_true rfl) rfl rfl (q := (RX6, TX6, 3))) [.int r3] (c_Reck_put l D Z E ad t2 r3 _ hw) (cwTV 1 hts wd_744 wd_746 ws_25 wd_13 wd_747 rfl rfl (by decide +kernel) ⟨Nat.le_of_ble_eq_true rfl, Nat.le_of_ble_eq_true rfl⟩) rfl hl.1 rfl (Nat.le_of_ble_eq_true rfl) dX6_reckon_92 ⟨Nat.zero_le _, Nat.zero_le _⟩ (fun  t4 H locs hw hH => ?_)
  refine lv_goto (tgt := 140) hx hb dX6_reckon_95 (by decide) ?_
  exact b_Reck_reckon_140 C hr hk hk7 t4 x1_ x2_ hw _ _ _ hH (lv_sub hl [0, 1, 2] rfl)
def wp_Reck_reckon_7 (post : Int32 → CS → Prop) : Nat → CS → Nat → Int32 → Prop
  | 0 => fun _ _ _ => False
  | n + 1 => fun t x1_ x2_ => x1_ < tN t 1 + 8 ∧ (if (nI (alen t x1_)) ≤ x2_ then (post (0 : Int32) t) else (vp_in x2_ (alen t x1_) ∧ (∀ x8 : Int32, x8 = (tA t x1_ x2_.toNatClampNeg) → (wp_Token_isNumber t x8 (fun r10 t9 => if r10 = 0 then (wp_Token_isName t9 x8 (fun r13 t12 => if r13 = 0 then (if x8 = (1 : Int32) then (wp_Reck_take t12  (fun r30 t29 => post r30 t29)) else (if x8 = (144 : Int32) then (wp_Reck_take t12  (fun r27 t26 => if r27 = 0 then (wp_Reck_reckon_89 (wp_Reck_reckon_7 post n) post t26 x1_ x2_ (1 : Int32)) else (wp_Reck_reckon_89 (wp_Reck_reckon_7 post n) post t26 x1_ x2_ (0 : Int32)))) else (wp_Reck_take t12  (fun r18 t17 => wp_Reck_take t17  (fun r20 t19 => if x8 = (141 : Int32) then (if r18 = 0 then (wp_Reck_reckon_140 (wp_Reck_reckon_7 post n) post t19 x1_ x2_) else (post r20 t19)) else (wp_Reck_worked t19 x8 r20 r18 (fun r24 t23 => wp_Reck_put t23 r24 (fun  t25 => wp_Reck_reckon_140 (wp_Reck_reckon_7 post n) post t25 x1_ x2_)))))))) else (wp_Reck_valueOf t12 (x8 - (128 : Int32)) (fun r32 t31 => wp_Reck_put t31 r32 (fun  t33 => wp_Reck_reckon_140 (wp_Reck_reckon_7 post n) post t33 x1_ x2_))))) else (wp_Reck_put t9 (x8 - (1000 : Int32)) (fun  t34 => wp_Reck_reckon_140 (wp_Reck_reckon_7 post n) post t34 x1_ x2_)))))))
set_option maxHeartbeats 4000000 in
set_option maxRecDepth 100000 in
theorem b_Reck_reckon_7 {p : Program} {l : Launch} {e : Env} {s : State} {m : MethodId} {args : Array Value} {below : List Frame} {meth : Method} {c : Code} {D : va_G} {Z : Nat → ClassId} {E : Nat → Nat} {ad : Nat → Nat → Nat} {A : Nat → Prop} (C : CC p s m args c cX6_reckon 6 RX6 D Z E A) (hr : meth.sig.returnType = some .int) (hk : meth.locks = false) {post : Int32 → CS → Prop} : ∀ (n : Nat) (t : CS) (x1_ : Nat) (x2_ : Int32), wp_Reck_reckon_7 post n t x1_ x2_ → ∀ (H : Heap) (locs : List Loc) (ls : Array Slot), CH D Z E ad A s.heap t H locs → lv_has ls 6 [(0, .ref (ad 5 4)), (1, .ref (ad 7 x1_)), (2, .int x2_)] → CWi p l e rm_Reck_reckon s m args below meth c D Z E ad A 0 0 post H locs 0 0 (F0 m 7 ls []) := by
  obtain ⟨⟨hx, hb, hml, hown, hts⟩, hK⟩ := id C
  intro n
  induction n with
  | zero => intro t x1_ x2_ hw; exact hw.elim
  | succ n ih =>
    intro t x1_ x2_ hw H locs ls hH hl
    unfold wp_Reck_reckon_7 at hw
    refine lv_iload_n hx hb dX6_reckon_7 rfl (lv_at hl 2 rfl) ?_
    refine lv_aload_n hx hb dX6_reckon_8 rfl (lv_at hl 1 rfl) ?_
    obtain ⟨h5, hw⟩ := hw
    refine cal C hH x1_ h5 dX6_reckon_9 ?_
    refine lv_icmp_ge (tgt := 146) hx hb dX6_reckon_10 (by decide) (fun c6 => ?_) (fun c6 => ?_)
    · have hw := ifp c6 hw
      refine lv_iconst (v := 0) hx hb dX6_reckon_146 (by decide) ?_
      exact cri C hr hk hH (Nat.zero_le _) (Nat.zero_le _) hw dX6_reckon_147
    · have hw := ifn c6 hw
      refine lv_aload_n hx hb dX6_reckon_13 rfl (lv_at hl 1 rfl) ?_
      refine lv_iload_n hx hb dX6_reckon_14 rfl (lv_at hl 2 rfl) ?_
      obtain ⟨h7, hw⟩ := hw
      refine cai C hH x1_ h5 h7 dX6_reckon_15 ?_
      refine lv_topi (fun x8 ex8 => ?_)
      have hw := hw x8 ex8
      refine lv_istore_n (lv' := [(3, .int x8), (0, .ref (ad 5 4)), (1, .ref (ad 7 x1_)), (2, .int x2_)]) hx hb dX6_reckon_16 rfl hl (by decide) rfl (fun ls hl => ?_)
      refine lv_iload_n hx hb dX6_reckon_17 rfl (lv_at hl 0 rfl) ?_
      refine ccSi0 C hH [.int x8] (c_Token_isNumber l D Z E ad t x8 _ hw) (cwTS 1 hts wd_743 wd_606 wd_22 wd_607 rfl rfl (by decide +kernel) ⟨Nat.le_of_ble_eq_true rfl, Nat.le_of_ble_eq_true rfl⟩) rfl hl.1 rfl (Nat.le_of_ble_eq_true rfl) dX6_reckon_18 ⟨Nat.zero_le _, Nat.zero_le _⟩ (fun r10 t9 H locs hw hH => ?_)
      refine lv_if_eq (tgt := 36) hx hb dX6_reckon_21 (by decide) (fun c11 => ?_) (fun c11 => ?_)
      · have hw := ifp c11 hw
        refine lv_iload_n hx hb dX6_reckon_36 rfl (lv_at hl 0 rfl) ?_
        refine ccSi0 C hH [.int x8] (c_Token_isName l D Z E ad t9 x8 _ hw) (cwTS 1 hts wd_748 wd_609 wd_22 wd_610 rfl rfl (by decide +kernel) ⟨Nat.le_of_ble_eq_true rfl, Nat.le_of_ble_eq_true rfl⟩) rfl hl.1 rfl (Nat.le_of_ble_eq_true rfl) dX6_reckon_37 ⟨Nat.zero_le _, Nat.zero_le _⟩ (fun r13 t12 H locs hw hH => ?_)
        refine lv_if_eq (tgt := 59) hx hb dX6_reckon_40 (by decide) (fun c14 => ?_) (fun c14 => ?_)
        · have hw := ifp c14 hw
          refine lv_iload_n hx hb dX6_reckon_59 rfl (lv_at hl 0 rfl) ?_
          refine lv_iconst (v := 1) hx hb dX6_reckon_60 (by decide) ?_
          refine lv_icmp_ne (tgt := 69) hx hb dX6_reckon_61 (by decide) (fun c15 => ?_) (fun c15 => ?_)
          · have hw := ifn c15 hw
            refine lv_iload_n hx hb dX6_reckon_69 rfl (lv_at hl 0 rfl) ?_
            refine lv_sipush (v := 144) hx hb dX6_reckon_70 (by decide) ?_
            refine lv_icmp_ne (tgt := 98) hx hb dX6_reckon_73 (by decide) (fun c16 => ?_) (fun c16 => ?_)
            · have hw := ifn c16 hw
              refine lv_aload_n hx hb dX6_reckon_98 rfl (lv_at hl 1 rfl) ?_
              refine ccVi0 C hH (crecv C hH 5 4 (by decide) (Nat.le_of_ble_eq_true rfl) rfl rfl (q := (RX6, TX6, 3))) [] (c_Reck_take l D Z E ad t12  _ hw) (cwTV 0 hts wd_753 wd_755 ws_27 wd_13 wd_756 rfl rfl (by decide +kernel) ⟨Nat.le_of_ble_eq_true rfl, Nat.le_of_ble_eq_true rfl⟩) rfl hl.1 rfl (Nat.le_of_ble_eq_true rfl) dX6_reckon_99 ⟨Nat.zero_le _, Nat.zero_le _⟩ (fun r18 t17 H locs hw hH => ?_)
              refine lv_istore (lv' := [(4, .int r18), (3, .int x8), (0, .ref (ad 5 4)), (1, .ref (ad 7 x1_)), (2, .int x2_)]) hx hb dX6_reckon_102 hl (by decide) rfl (fun ls hl => ?_)
              refine lv_aload_n hx hb dX6_reckon_104 rfl (lv_at hl 2 rfl) ?_
              refine ccVi0 C hH (crecv C hH 5 4 (by decide) (Nat.le_of_ble_eq_true rfl) rfl rfl (q := (RX6, TX6, 3))) [] (c_Reck_take l D Z E ad t17  _ hw) (cwTV 0 hts wd_753 wd_755 ws_27 wd_13 wd_756 rfl rfl (by decide +kernel) ⟨Nat.le_of_ble_eq_true rfl, Nat.le_of_ble_eq_true rfl⟩) rfl hl.1 rfl (Nat.le_of_ble_eq_true rfl) dX6_reckon_105 ⟨Nat.zero_le _, Nat.zero_le _⟩ (fun r20 t19 H locs hw hH => ?_)
              refine lv_istore (lv' := [(5, .int r20), (4, .int r18), (3, .int x8), (0, .ref (ad 5 4)), (1, .ref (ad 7 x1_)), (2, .int x2_)]) hx hb dX6_reckon_108 hl (by decide) rfl (fun ls hl => ?_)
              refine lv_iload_n hx hb dX6_reckon_110 rfl (lv_at hl 2 rfl) ?_
              refine lv_sipush (v := 141) hx hb dX6_reckon_111 (by decide) ?_
              refine lv_icmp_eq (tgt := 132) hx hb dX6_reckon_114 (by decide) (fun c21 => ?_) (fun c21 => ?_)
              · have hw := ifp c21 hw
                refine lv_iload hx hb dX6_reckon_132 (lv_at hl 1 rfl) ?_
                refine lv_if_eq (tgt := 140) hx hb dX6_reckon_134 (by decide) (fun c22 => ?_) (fun c22 => ?_)
                · have hw := ifp c22 hw
                  exact b_Reck_reckon_140 C hr hk ih t19 x1_ x2_ hw _ _ _ hH (lv_sub hl [3, 4, 5] rfl)
                · have hw := ifn c22 hw
                  refine lv_iload hx hb dX6_reckon_137 (lv_at hl 0 rfl) ?_
                  exact cri C hr hk hH (Nat.zero_le _) (Nat.zero_le _) hw dX6_reckon_139
              · have hw := ifn c21 hw
                refine lv_aload_n hx hb dX6_reckon_117 rfl (lv_at hl 3 rfl) ?_
                refine lv_iload_n hx hb dX6_reckon_118 rfl (lv_at hl 2 rfl) ?_
                refine lv_iload hx hb dX6_reckon_119 (lv_at hl 0 rfl) ?_
                refine lv_iload hx hb dX6_reckon_121 (lv_at hl 1 rfl) ?_
                refine ccSi0 C hH [.int x8, .int r20, .int r18] (c_Reck_worked l D Z E ad t19 x8 r20 r18 _ hw) (cwTS 3 hts wd_760 wd_761 wd_13 wd_762 rfl rfl (by decide +kernel) ⟨Nat.le_of_ble_eq_true rfl, Nat.le_of_ble_eq_true rfl⟩) rfl hl.1 rfl (Nat.le_of_ble_eq_true rfl) dX6_reckon_123 ⟨Nat.zero_le _, Nat.zero_le _⟩ (fun r24 t23 H locs hw hH => ?_)
                refine ccVv0 C hH (crecv C hH 5 4 (by decide) (Nat.le_of_ble_eq_true rfl) rfl rfl (q := (RX6, TX6, 3))) [.int r24] (c_Reck_put l D Z E ad t23 r24 _ hw) (cwTV 1 hts wd_744 wd_746 ws_25 wd_13 wd_747 rfl rfl (by decide +kernel) ⟨Nat.le_of_ble_eq_true rfl, Nat.le_of_ble_eq_true rfl⟩) rfl hl.1 rfl (Nat.le_of_ble_eq_true rfl) dX6_reckon_126 ⟨Nat.zero_le _, Nat.zero_le _⟩ (fun  t25 H locs hw hH => ?_)
                refine lv_goto (tgt := 140) hx hb dX6_reckon_129 (by decide) ?_
                exact b_Reck_reckon_140 C hr hk ih t25 x1_ x2_ hw _ _ _ hH (lv_sub hl [3, 4, 5] rfl)
            · have hw := ifp c16 hw
              refine lv_aload_n hx hb dX6_reckon_76 rfl (lv_at hl 1 rfl) ?_
              refine lv_aload_n hx hb dX6_reckon_77 rfl (lv_at hl 1 rfl) ?_
              refine ccVi0 C hH (crecv C hH 5 4 (by decide) (Nat.le_of_ble_eq_true rfl) rfl rfl (q := (RX6, TX6, 3))) [] (c_Reck_take l D Z E ad t12  _ hw) (cwTV 0 hts wd_753 wd_755 ws_27 wd_13 wd_756 rfl rfl (by decide +kernel) ⟨Nat.le_of_ble_eq_true rfl, Nat.le_of_ble_eq_true rfl⟩) rfl hl.1 rfl (Nat.le_of_ble_eq_true rfl) dX6_reckon_78 ⟨Nat.zero_le _, Nat.zero_le _⟩ (fun r27 t26 H locs hw hH => ?_)
              refine lv_if_ne (tgt := 88) hx hb dX6_reckon_81 (by decide) (fun c28 => ?_) (fun c28 => ?_)
              · have hw := ifn c28 hw
                refine lv_iconst (v := 0) hx hb dX6_reckon_88 (by decide) ?_
                exact b_Reck_reckon_89 C hr hk ih t26 x1_ x2_ (0 : Int32) hw _ _ _ hH (lv_sub hl [1, 2, 3] rfl)
              · have hw := ifp c28 hw
                refine lv_iconst (v := 1) hx hb dX6_reckon_84 (by decide) ?_
                refine lv_goto (tgt := 89) hx hb dX6_reckon_85 (by decide) ?_
                exact b_Reck_reckon_89 C hr hk ih t26 x1_ x2_ (1 : Int32) hw _ _ _ hH (lv_sub hl [1, 2, 3] rfl)
          · have hw := ifp c15 hw
            refine lv_aload_n hx hb dX6_reckon_64 rfl (lv_at hl 1 rfl) ?_
            refine ccVi0 C hH (crecv C hH 5 4 (by decide) (Nat.le_of_ble_eq_true rfl) rfl rfl (q := (RX6, TX6, 3))) [] (c_Reck_take l D Z E ad t12  _ hw) (cwTV 0 hts wd_753 wd_755 ws_27 wd_13 wd_756 rfl rfl (by decide +kernel) ⟨Nat.le_of_ble_eq_true rfl, Nat.le_of_ble_eq_true rfl⟩) rfl hl.1 rfl (Nat.le_of_ble_eq_true rfl) dX6_reckon_65 ⟨Nat.zero_le _, Nat.zero_le _⟩ (fun r30 t29 H locs hw hH => ?_)
            exact cri C hr hk hH (Nat.zero_le _) (Nat.zero_le _) hw dX6_reckon_68
        · have hw := ifn c14 hw
          refine lv_aload_n hx hb dX6_reckon_43 rfl (lv_at hl 1 rfl) ?_
          refine lv_aload_n hx hb dX6_reckon_44 rfl (lv_at hl 1 rfl) ?_
          refine lv_iload_n hx hb dX6_reckon_45 rfl (lv_at hl 0 rfl) ?_
          refine lv_sipush (v := 128) hx hb dX6_reckon_46 (by decide) ?_
          refine lv_isub hx hb dX6_reckon_49 ?_
          refine ccVi0 C hH (crecv C hH 5 4 (by decide) (Nat.le_of_ble_eq_true rfl) rfl rfl (q := (RX6, TX6, 3))) [.int (x8 - (128 : Int32))] (c_Reck_valueOf l D Z E ad t12 (x8 - (128 : Int32)) _ hw) (cwTV 1 hts wd_749 wd_751 ws_26 wd_13 wd_752 rfl rfl (by decide +kernel) ⟨Nat.le_of_ble_eq_true rfl, Nat.le_of_ble_eq_true rfl⟩) rfl hl.1 rfl (Nat.le_of_ble_eq_true rfl) dX6_reckon_50 ⟨Nat.zero_le _, Nat.zero_le _⟩ (fun r32 t31 H locs hw hH => ?_)
          refine ccVv0 C hH (crecv C hH 5 4 (by decide) (Nat.le_of_ble_eq_true rfl) rfl rfl (q := (RX6, TX6, 3))) [.int r32] (c_Reck_put l D Z E ad t31 r32 _ hw) (cwTV 1 hts wd_744 wd_746 ws_25 wd_13 wd_747 rfl rfl (by decide +kernel) ⟨Nat.le_of_ble_eq_true rfl, Nat.le_of_ble_eq_true rfl⟩) rfl hl.1 rfl (Nat.le_of_ble_eq_true rfl) dX6_reckon_53 ⟨Nat.zero_le _, Nat.zero_le _⟩ (fun  t33 H locs hw hH => ?_)
          refine lv_goto (tgt := 140) hx hb dX6_reckon_56 (by decide) ?_
          exact b_Reck_reckon_140 C hr hk ih t33 x1_ x2_ hw _ _ _ hH (lv_sub hl [1, 2, 3] rfl)
      · have hw := ifn c11 hw
        refine lv_aload_n hx hb dX6_reckon_24 rfl (lv_at hl 1 rfl) ?_
        refine lv_iload_n hx hb dX6_reckon_25 rfl (lv_at hl 0 rfl) ?_
        refine lv_sipush (v := 1000) hx hb dX6_reckon_26 (by decide) ?_
        refine lv_isub hx hb dX6_reckon_29 ?_
        refine ccVv0 C hH (crecv C hH 5 4 (by decide) (Nat.le_of_ble_eq_true rfl) rfl rfl (q := (RX6, TX6, 3))) [.int (x8 - (1000 : Int32))] (c_Reck_put l D Z E ad t9 (x8 - (1000 : Int32)) _ hw) (cwTV 1 hts wd_744 wd_746 ws_25 wd_13 wd_747 rfl rfl (by decide +kernel) ⟨Nat.le_of_ble_eq_true rfl, Nat.le_of_ble_eq_true rfl⟩) rfl hl.1 rfl (Nat.le_of_ble_eq_true rfl) dX6_reckon_30 ⟨Nat.zero_le _, Nat.zero_le _⟩ (fun  t34 H locs hw hH => ?_)
        refine lv_goto (tgt := 140) hx hb dX6_reckon_33 (by decide) ?_
        exact b_Reck_reckon_140 C hr hk ih t34 x1_ x2_ hw _ _ _ hH (lv_sub hl [1, 2, 3] rfl)
def wp_Reck_reckon (t : CS) (a1 : Nat) (post : Int32 → CS → Prop) : Prop := ∀ t35 : CS, t35 = sF t 162 4 (0 : Int32) → (∃ nn : Nat, wp_Reck_reckon_7 post nn t35 a1 (0 : Int32))
set_option maxHeartbeats 4000000 in
set_option maxRecDepth 100000 in
theorem c_Reck_reckon (l : Launch) (D : va_G) (Z : Nat → ClassId) (E : Nat → Nat) (ad : Nat → Nat → Nat) (t : CS) (a1 : Nat) (post : Int32 → CS → Prop) (hw : wp_Reck_reckon t a1 post) (L : List Nat) (sz : Nat) : Met l yX6_reckon (Wd yX6_reckon cX6_reckon 6 (some .int)) rm_Reck_reckon (va_Pc [.ref (ad 5 4), .ref (ad 7 a1)] (cPre D Z E ad L sz t)) (va_Qi post (cPost D Z E ad (cAs L sz)) (cAs L sz)) 0 0 (cAs L sz) := by
  refine cMet (Qc := fun A => va_Qi post (cPost D Z E ad A) A) (by decide) rfl _ (Nat.le_of_ble_eq_true rfl) (fun p e s m args below meth c A C hr hk ls hl hH => ?_) L sz
  obtain ⟨⟨hx, hb, hml, hown, hts⟩, hK⟩ := id C
  have hl : lv_has ls 6 [(0, .ref (ad 5 4)), (1, .ref (ad 7 a1))] := hl
  unfold wp_Reck_reckon at hw
  refine lv_aload_n hx hb dX6_reckon_0 rfl (lv_at hl 0 rfl) ?_
  refine lv_iconst (v := 0) hx hb dX6_reckon_1 (by decide) ?_
  refine cp C hH 5 4 162 (by decide) (Nat.le_of_ble_eq_true rfl) rfl rfl ixX6 tyX6_ok nmX6 2 (by decide) (by decide) rfl rfl wd_228 pfI rfl rfl (Nat.le_of_ble_eq_true rfl) (hs_162_Reckoner Z ad t _) dX6_reckon_2 (fun H locs hH => ?_)
  obtain ⟨t35, et35⟩ : ∃ x : CS, x = sF t 162 4 (0 : Int32) := ⟨_, rfl⟩
  rw [← et35] at hH
  have hw := hw t35 et35
  refine lv_iconst (v := 0) hx hb dX6_reckon_5 (by decide) ?_
  refine lv_istore_n (lv' := [(2, .int (0 : Int32)), (0, .ref (ad 5 4)), (1, .ref (ad 7 a1))]) hx hb dX6_reckon_6 rfl hl (by decide) rfl (fun ls hl => ?_)
  obtain ⟨nn, hw⟩ := hw
  exact b_Reck_reckon_7 C hr hk  nn t35 a1 (0 : Int32) hw _ _ _ hH (lv_sub hl [1, 2, 0] rfl)
/-! PorterTurns.saying -/
abbrev rm_C_saying : Room := { frames := 4, cells := 0, slots := 0, locals := 107 }
def wp_C_saying_100 (post : Int32 → CS → Prop) (t : CS) (x5_ : Nat) : Prop := x5_ < tN t 1 ∧ (wp_Reck_reckon t (x5_ + 8) (fun r3 t2 => post r3 t2))
set_option maxHeartbeats 4000000 in
set_option maxRecDepth 100000 in
theorem b_C_saying_100 {p : Program} {l : Launch} {e : Env} {s : State} {m : MethodId} {args : Array Value} {below : List Frame} {meth : Method} {c : Code} {D : va_G} {Z : Nat → ClassId} {E : Nat → Nat} {ad : Nat → Nat → Nat} {A : Nat → Prop} (C : CC p s m args c cX10_saying 6 RX10 D Z E A) (hr : meth.sig.returnType = some .int) (hk : meth.locks = false) {post : Int32 → CS → Prop} : ∀ (t : CS) (x5_ : Nat), wp_C_saying_100 post t x5_ → ∀ (H : Heap) (locs : List Loc) (ls : Array Slot), CH D Z E ad A s.heap t H locs → lv_has ls 6 [(0, .ref (ad 5 0)), (5, .ref (ad 1 x5_))] → CWi p l e rm_C_saying s m args below meth c D Z E ad A 0 0 post H locs 0 0 (F0 m 100 ls []) := by
  obtain ⟨⟨hx, hb, hml, hown, hts⟩, hK⟩ := id C
  intro t x5_ hw H locs ls hH hl
  unfold wp_C_saying_100 at hw
  refine lv_aload_n hx hb dX10_saying_100 rfl (lv_at hl 0 rfl) ?_
  refine cg C hH 5 0 (by decide) (Nat.le_of_ble_eq_true rfl) rfl rfl ixX10 8 (by decide) rfl wd_244 rfl dX10_saying_101 ?_
  refine lv_aload hx hb dX10_saying_104 (lv_at hl 1 rfl) ?_
  obtain ⟨h1, hw⟩ := hw
  refine cg C hH 1 x5_ (by decide) h1 rfl rfl ixX1 5 (by decide) rfl wd_671 rfl dX10_saying_106 ?_
  refine ccVi0 C hH (crecv C hH 5 4 (by decide) (Nat.le_of_ble_eq_true rfl) rfl rfl (q := (RX6, TX6, 3))) [.ref (ad 7 (x5_ + 8))] (c_Reck_reckon l D Z E ad t (x5_ + 8) _ hw) (cwTV 1 hts wd_739 wd_740 wd_741 wd_13 wd_742 rfl rfl (by decide +kernel) ⟨Nat.le_of_ble_eq_true rfl, Nat.le_of_ble_eq_true rfl⟩) rfl hl.1 rfl (Nat.le_of_ble_eq_true rfl) dX10_saying_109 ⟨Nat.zero_le _, Nat.zero_le _⟩ (fun r3 t2 H locs hw hH => ?_)
  exact cri C hr hk hH (Nat.zero_le _) (Nat.zero_le _) hw dX10_saying_112
def wp_C_saying_86 (post : Int32 → CS → Prop) (t : CS) (x4_ : Option Nat) (x5_ : Nat) : Prop := oM x4_ (wp_C_saying_100 post t x5_) (fun j4 => wp_Reck_lookAtMan t j4 (fun  t5 => wp_C_saying_100 post t5 x5_))
set_option maxHeartbeats 4000000 in
set_option maxRecDepth 100000 in
theorem b_C_saying_86 {p : Program} {l : Launch} {e : Env} {s : State} {m : MethodId} {args : Array Value} {below : List Frame} {meth : Method} {c : Code} {D : va_G} {Z : Nat → ClassId} {E : Nat → Nat} {ad : Nat → Nat → Nat} {A : Nat → Prop} (C : CC p s m args c cX10_saying 6 RX10 D Z E A) (hr : meth.sig.returnType = some .int) (hk : meth.locks = false) {post : Int32 → CS → Prop} : ∀ (t : CS) (x4_ : Option Nat) (x5_ : Nat), wp_C_saying_86 post t x4_ x5_ → ∀ (H : Heap) (locs : List Loc) (ls : Array Slot), CH D Z E ad A s.heap t H locs → lv_has ls 6 [(0, .ref (ad 5 0)), (4, va_rf (x4_.map (ad 3))), (5, .ref (ad 1 x5_))] → CWi p l e rm_C_saying s m args below meth c D Z E ad A 0 0 post H locs 0 0 (F0 m 86 ls []) := by
  obtain ⟨⟨hx, hb, hml, hown, hts⟩, hK⟩ := id C
  intro t x4_ x5_ hw H locs ls hH hl
  unfold wp_C_saying_86 at hw
  refine lq_aload hx hb dX10_saying_86 (lv_at hl 1 rfl) ?_
  cases x4_ with
  | none =>
    have hw := oM_none hw
    have hl : lv_has ls 6 [(0, .ref (ad 5 0)), (4, va_rf (none.map (ad 3))), (5, .ref (ad 1 x5_))] := hl
    refine lv_ifnullN (tgt := 100) hx hb dX10_saying_88 (by decide) ?_
    exact b_C_saying_100 C hr hk  t x5_ hw _ _ _ hH (lv_sub hl [0, 2] rfl)
  | some j4 =>
    have hw := oM_some hw
    have hl : lv_has ls 6 [(0, .ref (ad 5 0)), (4, .ref (ad 3 j4)), (5, .ref (ad 1 x5_))] := hl
    refine lv_ifnull hx hb dX10_saying_88 ?_
    refine lv_aload_n hx hb dX10_saying_91 rfl (lv_at hl 0 rfl) ?_
    refine cg C hH 5 0 (by decide) (Nat.le_of_ble_eq_true rfl) rfl rfl ixX10 8 (by decide) rfl wd_244 rfl dX10_saying_92 ?_
    refine lv_aload hx hb dX10_saying_95 (lv_at hl 1 rfl) ?_
    refine ccVv0 C hH (crecv C hH 5 4 (by decide) (Nat.le_of_ble_eq_true rfl) rfl rfl (q := (RX6, TX6, 3))) [.ref (ad 3 j4)] (c_Reck_lookAtMan l D Z E ad t j4 _ hw) (cwTV 1 hts wd_735 wd_736 wd_737 wd_13 wd_738 rfl rfl (by decide +kernel) ⟨Nat.le_of_ble_eq_true rfl, Nat.le_of_ble_eq_true rfl⟩) rfl hl.1 rfl (Nat.le_of_ble_eq_true rfl) dX10_saying_97 ⟨Nat.zero_le _, Nat.zero_le _⟩ (fun  t5 H locs hw hH => ?_)
    exact b_C_saying_100 C hr hk  t5 x5_ hw _ _ _ hH (lv_sub hl [0, 2] rfl)
def wp_C_saying (t : CS) (a1 : Int32) (a2 : Int32) (a3 : Option Nat) (a4 : Option Nat) (post : Int32 → CS → Prop) : Prop := wp_C_today t  (fun r7 t6 => wp_C_today t6  (fun r9 t8 => wp_C_lawKnown t8 a1 a2 r7 r9 (fun o11 t10 => oM o11 (wp_C_unwritten t10 a2 a3 (fun r14 t13 => post r14 t13)) (fun j12 => wp_Sky_rainsAt t10 (tF t10 171 0) (fun r16 t15 => wp_Reck_lookAtMinute t15 (tF t10 171 0) r16 (fun  t17 => wp_C_readyMen t17 a1 (fun r19 t18 => wp_Reck_lookAtMen t18 r19 (fun  t20 => oM a3 (wp_C_saying_86 post t20 a4 j12) (fun j21 => j21 < tN t20 2 ∧ (wp_Reck_lookAtLoad t20 j21 (if (0 : Int32) < ((tF t20 171 0) - (tF t20 72 j21)) then ((tF t20 171 0) - (tF t20 72 j21)) else (0 : Int32)) (fun  t23 => wp_C_saying_86 post t23 a4 j12)))))))))))
set_option maxHeartbeats 4000000 in
set_option maxRecDepth 100000 in
theorem c_C_saying (l : Launch) (D : va_G) (Z : Nat → ClassId) (E : Nat → Nat) (ad : Nat → Nat → Nat) (t : CS) (a1 : Int32) (a2 : Int32) (a3 : Option Nat) (a4 : Option Nat) (post : Int32 → CS → Prop) (hw : wp_C_saying t a1 a2 a3 a4 post) (L : List Nat) (sz : Nat) : Met l yX10_saying (Wd yX10_saying cX10_saying 6 (some .int)) rm_C_saying (va_Pc [.ref (ad 5 0), .int a1, .int a2, va_rf (a3.map (ad 2)), va_rf (a4.map (ad 3))] (cPre D Z E ad L sz t)) (va_Qi post (cPost D Z E ad (cAs L sz)) (cAs L sz)) 0 0 (cAs L sz) := by
  refine cMet (Qc := fun A => va_Qi post (cPost D Z E ad A) A) (by decide) rfl _ (by cases a3 <;> cases a4 <;> exact Nat.le_of_ble_eq_true rfl) (fun p e s m args below meth c A C hr hk ls hl hH => ?_) L sz
  obtain ⟨⟨hx, hb, hml, hown, hts⟩, hK⟩ := id C
  have hl : lv_has ls 6 ((0, .ref (ad 5 0)) :: (1, .int a1) :: (2, .int a2) :: lv_args 3 [va_rf (a3.map (ad 2)), va_rf (a4.map (ad 3))]) := hl
  rw [lv_args_q, lv_args_q] at hl
  have hl : lv_has ls 6 [(0, .ref (ad 5 0)), (1, .int a1), (2, .int a2), (3, va_rf (a3.map (ad 2))), (4, va_rf (a4.map (ad 3)))] := hl
  unfold wp_C_saying at hw
  refine lv_aload_n hx hb dX10_saying_0 rfl (lv_at hl 0 rfl) ?_
  refine lv_iload_n hx hb dX10_saying_1 rfl (lv_at hl 1 rfl) ?_
  refine lv_iload_n hx hb dX10_saying_2 rfl (lv_at hl 2 rfl) ?_
  refine lv_aload_n hx hb dX10_saying_3 rfl (lv_at hl 0 rfl) ?_
  refine ccVi0 C hH (crecv C hH 5 0 (by decide) (Nat.le_of_ble_eq_true rfl) rfl rfl (q := (RX10, TX10, 13))) [] (c_C_today l D Z E ad t  _ hw) (cwTV 0 hts wd_636 wd_638 ws_20 wd_1 wd_639 rfl rfl (by decide +kernel) ⟨Nat.le_of_ble_eq_true rfl, Nat.le_of_ble_eq_true rfl⟩) rfl hl.1 rfl (Nat.le_of_ble_eq_true rfl) dX10_saying_4 ⟨Nat.zero_le _, Nat.zero_le _⟩ (fun r7 t6 H locs hw hH => ?_)
  refine lv_aload_n hx hb dX10_saying_7 rfl (lv_at hl 0 rfl) ?_
  refine ccVi0 C hH (crecv C hH 5 0 (by decide) (Nat.le_of_ble_eq_true rfl) rfl rfl (q := (RX10, TX10, 13))) [] (c_C_today l D Z E ad t6  _ hw) (cwTV 0 hts wd_636 wd_638 ws_20 wd_1 wd_639 rfl rfl (by decide +kernel) ⟨Nat.le_of_ble_eq_true rfl, Nat.le_of_ble_eq_true rfl⟩) rfl hl.1 rfl (Nat.le_of_ble_eq_true rfl) dX10_saying_8 ⟨Nat.zero_le _, Nat.zero_le _⟩ (fun r9 t8 H locs hw hH => ?_)
  refine ccVq0 C hH (crecv C hH 5 0 (by decide) (Nat.le_of_ble_eq_true rfl) rfl rfl (q := (RX10, TX10, 13))) [.int a1, .int a2, .int r7, .int r9] (c_C_lawKnown l D Z E ad t8 a1 a2 r7 r9 _ hw) (cwTV 4 hts wd_690 wd_692 ws_21 wd_1 wd_693 rfl rfl (by decide +kernel) ⟨Nat.le_of_ble_eq_true rfl, Nat.le_of_ble_eq_true rfl⟩) rfl hl.1 rfl (Nat.le_of_ble_eq_true rfl) dX10_saying_11 ⟨Nat.zero_le _, Nat.zero_le _⟩ (fun o11 t10 H locs hw hH => ?_)
  refine lq_astore (i := 5) (lv' := [(5, va_rf (o11.map (ad 1))), (0, .ref (ad 5 0)), (1, .int a1), (2, .int a2), (3, va_rf (a3.map (ad 2))), (4, va_rf (a4.map (ad 3)))]) hx hb dX10_saying_14 hl (by decide) (by simp [lq_cat]) (fun ls hl => ?_)
  refine lq_aload hx hb dX10_saying_16 (lv_at hl 0 rfl) ?_
  cases o11 with
  | none =>
    have hw := oM_none hw
    have hl : lv_has ls 6 [(5, va_rf (none.map (ad 1))), (0, .ref (ad 5 0)), (1, .int a1), (2, .int a2), (3, va_rf (a3.map (ad 2))), (4, va_rf (a4.map (ad 3)))] := hl
    refine lv_ifnonnullN hx hb dX10_saying_18 ?_
    refine lv_iload_n hx hb dX10_saying_21 rfl (lv_at hl 3 rfl) ?_
    refine lq_aload_n hx hb dX10_saying_22 rfl (lv_at hl 4 rfl) ?_
    refine ccSi0 C hH [.int a2, va_rf (a3.map (ad 2))] (c_C_unwritten l D Z E ad t10 a2 a3 _ hw) (cwTS 2 hts wd_708 wd_709 wd_1 wd_710 rfl rfl (by decide +kernel) ⟨Nat.le_of_ble_eq_true rfl, Nat.le_of_ble_eq_true rfl⟩) rfl hl.1 rfl (Nat.le_of_ble_eq_true rfl) dX10_saying_23 ⟨Nat.zero_le _, Nat.zero_le _⟩ (fun r14 t13 H locs hw hH => ?_)
    exact cri C hr hk hH (Nat.zero_le _) (Nat.zero_le _) hw dX10_saying_26
  | some j12 =>
    have hw := oM_some hw
    have hl : lv_has ls 6 [(5, .ref (ad 1 j12)), (0, .ref (ad 5 0)), (1, .int a1), (2, .int a2), (3, va_rf (a3.map (ad 2))), (4, va_rf (a4.map (ad 3)))] := hl
    refine lv_ifnonnull (tgt := 27) hx hb dX10_saying_18 (by decide) ?_
    refine lv_aload_n hx hb dX10_saying_27 rfl (lv_at hl 1 rfl) ?_
    refine cg C hH 5 0 (by decide) (Nat.le_of_ble_eq_true rfl) rfl rfl ixX10 8 (by decide) rfl wd_244 rfl dX10_saying_28 ?_
    refine lv_aload_n hx hb dX10_saying_31 rfl (lv_at hl 1 rfl) ?_
    refine cg C hH 5 0 (by decide) (Nat.le_of_ble_eq_true rfl) rfl rfl ixX10 11 (by decide) rfl wd_247 rfl dX10_saying_32 ?_
    refine lv_aload_n hx hb dX10_saying_35 rfl (lv_at hl 1 rfl) ?_
    refine cg C hH 5 0 (by decide) (Nat.le_of_ble_eq_true rfl) rfl rfl ixX10 5 (by decide) rfl wd_241 rfl dX10_saying_36 ?_
    refine lv_aload_n hx hb dX10_saying_39 rfl (lv_at hl 1 rfl) ?_
    refine cg C hH 5 0 (by decide) (Nat.le_of_ble_eq_true rfl) rfl rfl ixX10 11 (by decide) rfl wd_247 rfl dX10_saying_40 ?_
    refine ccVi0 C hH (crecv C hH 5 1 (by decide) (Nat.le_of_ble_eq_true rfl) rfl rfl (q := (RX7, TX7, 3))) [.int (tF t10 171 0)] (c_Sky_rainsAt l D Z E ad t10 (tF t10 171 0) _ hw) (cwTV 1 hts wd_362 wd_363 wd_364 wd_10 wd_365 rfl rfl (by decide +kernel) ⟨Nat.le_of_ble_eq_true rfl, Nat.le_of_ble_eq_true rfl⟩) rfl hl.1 rfl (Nat.le_of_ble_eq_true rfl) dX10_saying_43 ⟨Nat.zero_le _, Nat.zero_le _⟩ (fun r16 t15 H locs hw hH => ?_)
    refine ccVv0 C hH (crecv C hH 5 4 (by decide) (Nat.le_of_ble_eq_true rfl) rfl rfl (q := (RX6, TX6, 3))) [.int (tF t10 171 0), .int r16] (c_Reck_lookAtMinute l D Z E ad t15 (tF t10 171 0) r16 _ hw) (cwTV 2 hts wd_711 wd_712 wd_713 wd_13 wd_714 rfl rfl (by decide +kernel) ⟨Nat.le_of_ble_eq_true rfl, Nat.le_of_ble_eq_true rfl⟩) rfl hl.1 rfl (Nat.le_of_ble_eq_true rfl) dX10_saying_46 ⟨Nat.zero_le _, Nat.zero_le _⟩ (fun  t17 H locs hw hH => ?_)
    refine lv_aload_n hx hb dX10_saying_49 rfl (lv_at hl 1 rfl) ?_
    refine cg C hH 5 0 (by decide) (Nat.le_of_ble_eq_true rfl) rfl rfl ixX10 8 (by decide) rfl wd_244 rfl dX10_saying_50 ?_
    refine lv_aload_n hx hb dX10_saying_53 rfl (lv_at hl 1 rfl) ?_
    refine lv_iload_n hx hb dX10_saying_54 rfl (lv_at hl 2 rfl) ?_
    refine ccVi0 C hH (crecv C hH 5 0 (by decide) (Nat.le_of_ble_eq_true rfl) rfl rfl (q := (RX10, TX10, 13))) [.int a1] (c_C_readyMen l D Z E ad t17 a1 _ hw) (cwTV 1 hts wd_718 wd_720 ws_24 wd_1 wd_721 rfl rfl (by decide +kernel) ⟨Nat.le_of_ble_eq_true rfl, Nat.le_of_ble_eq_true rfl⟩) rfl hl.1 rfl (Nat.le_of_ble_eq_true rfl) dX10_saying_55 ⟨Nat.zero_le _, Nat.zero_le _⟩ (fun r19 t18 H locs hw hH => ?_)
    refine ccVv0 C hH (crecv C hH 5 4 (by decide) (Nat.le_of_ble_eq_true rfl) rfl rfl (q := (RX6, TX6, 3))) [.int r19] (c_Reck_lookAtMen l D Z E ad t18 r19 _ hw) (cwTV 1 hts wd_726 wd_727 wd_728 wd_13 wd_729 rfl rfl (by decide +kernel) ⟨Nat.le_of_ble_eq_true rfl, Nat.le_of_ble_eq_true rfl⟩) rfl hl.1 rfl (Nat.le_of_ble_eq_true rfl) dX10_saying_58 ⟨Nat.zero_le _, Nat.zero_le _⟩ (fun  t20 H locs hw hH => ?_)
    refine lq_aload_n hx hb dX10_saying_61 rfl (lv_at hl 4 rfl) ?_
    cases a3 with
    | none =>
      have hw := oM_none hw
      have hl : lv_has ls 6 [(5, .ref (ad 1 j12)), (0, .ref (ad 5 0)), (1, .int a1), (2, .int a2), (3, va_rf (none.map (ad 2))), (4, va_rf (a4.map (ad 3)))] := hl
      refine lv_ifnullN (tgt := 86) hx hb dX10_saying_62 (by decide) ?_
      exact b_C_saying_86 C hr hk  t20 a4 j12 hw _ _ _ hH (lv_sub hl [1, 5, 0] rfl)
    | some j21 =>
      have hw := oM_some hw
      have hl : lv_has ls 6 [(5, .ref (ad 1 j12)), (0, .ref (ad 5 0)), (1, .int a1), (2, .int a2), (3, .ref (ad 2 j21)), (4, va_rf (a4.map (ad 3)))] := hl
      refine lv_ifnull hx hb dX10_saying_62 ?_
      refine lv_aload_n hx hb dX10_saying_65 rfl (lv_at hl 1 rfl) ?_
      refine cg C hH 5 0 (by decide) (Nat.le_of_ble_eq_true rfl) rfl rfl ixX10 8 (by decide) rfl wd_244 rfl dX10_saying_66 ?_
      refine lv_aload_n hx hb dX10_saying_69 rfl (lv_at hl 4 rfl) ?_
      refine lv_iconst (v := 0) hx hb dX10_saying_70 (by decide) ?_
      refine lv_aload_n hx hb dX10_saying_71 rfl (lv_at hl 1 rfl) ?_
      refine cg C hH 5 0 (by decide) (Nat.le_of_ble_eq_true rfl) rfl rfl ixX10 11 (by decide) rfl wd_247 rfl dX10_saying_72 ?_
      refine lv_aload_n hx hb dX10_saying_75 rfl (lv_at hl 4 rfl) ?_
      obtain ⟨h22, hw⟩ := hw
      refine cg C hH 2 j21 (by decide) h22 rfl rfl ixX2 8 (by decide) rfl wd_800 rfl dX10_saying_76 ?_
      refine lv_isub hx hb dX10_saying_79 ?_
      refine va_mmax hx hb (by rw [hml, hl.1]) hown (hts _ wd_730) (hts _ wd_123) (hts _ wd_7) (hts _ wd_124) (Nat.le_of_ble_eq_true rfl) (Nat.le_of_ble_eq_true rfl) (show 0 ≤ 0 ∧ 0 ≤ 0 from ⟨Nat.zero_le _, Nat.zero_le _⟩).1 (show 0 ≤ 0 ∧ 0 ≤ 0 from ⟨Nat.zero_le _, Nat.zero_le _⟩).2 dX10_saying_80 ?_
      refine ccVv0 C hH (crecv C hH 5 4 (by decide) (Nat.le_of_ble_eq_true rfl) rfl rfl (q := (RX6, TX6, 3))) [.ref (ad 2 j21), .int (if (0 : Int32) < ((tF t20 171 0) - (tF t20 72 j21)) then ((tF t20 171 0) - (tF t20 72 j21)) else (0 : Int32))] (c_Reck_lookAtLoad l D Z E ad t20 j21 (if (0 : Int32) < ((tF t20 171 0) - (tF t20 72 j21)) then ((tF t20 171 0) - (tF t20 72 j21)) else (0 : Int32)) _ hw) (cwTV 2 hts wd_731 wd_732 wd_733 wd_13 wd_734 rfl rfl (by decide +kernel) ⟨Nat.le_of_ble_eq_true rfl, Nat.le_of_ble_eq_true rfl⟩) rfl hl.1 rfl (Nat.le_of_ble_eq_true rfl) dX10_saying_83 ⟨Nat.zero_le _, Nat.zero_le _⟩ (fun  t23 H locs hw hH => ?_)
      exact b_C_saying_86 C hr hk  t23 a4 j12 hw _ _ _ hH (lv_sub hl [1, 5, 0] rfl)
/-! PorterTurns.says -/
abbrev rm_C_says : Room := { frames := 5, cells := 0, slots := 0, locals := 132 }
def wp_C_says_54 (post : Int32 → CS → Prop) (t : CS) (x1_ : Int32) (x2_ : Int32) (x5_ : Option Nat) (x6_ : Option Nat) : Prop := wp_C_saying t x1_ x2_ x5_ x6_ (fun r2 t1 => post r2 t1)
set_option maxHeartbeats 4000000 in
set_option maxRecDepth 100000 in
theorem b_C_says_54 {p : Program} {l : Launch} {e : Env} {s : State} {m : MethodId} {args : Array Value} {below : List Frame} {meth : Method} {c : Code} {D : va_G} {Z : Nat → ClassId} {E : Nat → Nat} {ad : Nat → Nat → Nat} {A : Nat → Prop} (C : CC p s m args c cX10_says 7 RX10 D Z E A) (hr : meth.sig.returnType = some .int) (hk : meth.locks = false) {post : Int32 → CS → Prop} : ∀ (t : CS) (x1_ : Int32) (x2_ : Int32) (x5_ : Option Nat) (x6_ : Option Nat), wp_C_says_54 post t x1_ x2_ x5_ x6_ → ∀ (H : Heap) (locs : List Loc) (ls : Array Slot), CH D Z E ad A s.heap t H locs → lv_has ls 7 [(0, .ref (ad 5 0)), (1, .int x1_), (2, .int x2_), (5, va_rf (x5_.map (ad 2))), (6, va_rf (x6_.map (ad 3)))] → CWi p l e rm_C_says s m args below meth c D Z E ad A 0 0 post H locs 0 0 (F0 m 54 ls []) := by
  obtain ⟨⟨hx, hb, hml, hown, hts⟩, hK⟩ := id C
  intro t x1_ x2_ x5_ x6_ hw H locs ls hH hl
  unfold wp_C_says_54 at hw
  refine lv_aload_n hx hb dX10_says_54 rfl (lv_at hl 0 rfl) ?_
  refine lv_iload_n hx hb dX10_says_55 rfl (lv_at hl 1 rfl) ?_
  refine lv_iload_n hx hb dX10_says_56 rfl (lv_at hl 2 rfl) ?_
  refine lq_aload hx hb dX10_says_57 (lv_at hl 3 rfl) ?_
  refine lq_aload hx hb dX10_says_59 (lv_at hl 4 rfl) ?_
  refine ccVi0 C hH (crecv C hH 5 0 (by decide) (Nat.le_of_ble_eq_true rfl) rfl rfl (q := (RX10, TX10, 13))) [.int x1_, .int x2_, va_rf (x5_.map (ad 2)), va_rf (x6_.map (ad 3))] (c_C_saying l D Z E ad t x1_ x2_ x5_ x6_ _ hw) (cwTV 4 hts wd_704 wd_706 ws_23 wd_1 wd_707 rfl rfl (by decide +kernel) ⟨Nat.le_of_ble_eq_true rfl, Nat.le_of_ble_eq_true rfl⟩) rfl hl.1 rfl (Nat.le_of_ble_eq_true rfl) dX10_says_61 ⟨Nat.zero_le _, Nat.zero_le _⟩ (fun r2 t1 H locs hw hH => ?_)
  exact cri C hr hk hH (Nat.zero_le _) (Nat.zero_le _) hw dX10_says_64
def wp_C_says_40 (post : Int32 → CS → Prop) (t : CS) (x1_ : Int32) (x2_ : Int32) (x4_ : Int32) (x5_ : Option Nat) (x6_ : Option Nat) : Prop := oM x6_ (if x4_ = (-1 : Int32) then (wp_C_says_54 post t x1_ x2_ x5_ none) else (post (-2000000000 : Int32) t)) (fun j3 => wp_C_says_54 post t x1_ x2_ x5_ (some j3))
set_option maxHeartbeats 4000000 in
set_option maxRecDepth 100000 in
theorem b_C_says_40 {p : Program} {l : Launch} {e : Env} {s : State} {m : MethodId} {args : Array Value} {below : List Frame} {meth : Method} {c : Code} {D : va_G} {Z : Nat → ClassId} {E : Nat → Nat} {ad : Nat → Nat → Nat} {A : Nat → Prop} (C : CC p s m args c cX10_says 7 RX10 D Z E A) (hr : meth.sig.returnType = some .int) (hk : meth.locks = false) {post : Int32 → CS → Prop} : ∀ (t : CS) (x1_ : Int32) (x2_ : Int32) (x4_ : Int32) (x5_ : Option Nat) (x6_ : Option Nat), wp_C_says_40 post t x1_ x2_ x4_ x5_ x6_ → ∀ (H : Heap) (locs : List Loc) (ls : Array Slot), CH D Z E ad A s.heap t H locs → lv_has ls 7 [(0, .ref (ad 5 0)), (1, .int x1_), (2, .int x2_), (4, .int x4_), (5, va_rf (x5_.map (ad 2))), (6, va_rf (x6_.map (ad 3)))] → CWi p l e rm_C_says s m args below meth c D Z E ad A 0 0 post H locs 0 0 (F0 m 40 ls []) := by
  obtain ⟨⟨hx, hb, hml, hown, hts⟩, hK⟩ := id C
  intro t x1_ x2_ x4_ x5_ x6_ hw H locs ls hH hl
  unfold wp_C_says_40 at hw
  refine lq_aload hx hb dX10_says_40 (lv_at hl 5 rfl) ?_
  cases x6_ with
  | none =>
    have hw := oM_none hw
    have hl : lv_has ls 7 [(0, .ref (ad 5 0)), (1, .int x1_), (2, .int x2_), (4, .int x4_), (5, va_rf (x5_.map (ad 2))), (6, va_rf (none.map (ad 3)))] := hl
    refine lv_ifnonnullN hx hb dX10_says_42 ?_
    refine lv_iload hx hb dX10_says_45 (lv_at hl 3 rfl) ?_
    refine lv_iconst (v := -1) hx hb dX10_says_47 (by decide) ?_
    refine lv_icmp_eq (tgt := 54) hx hb dX10_says_48 (by decide) (fun c4 => ?_) (fun c4 => ?_)
    · have hw := ifp c4 hw
      exact b_C_says_54 C hr hk  t x1_ x2_ x5_ none hw _ _ _ hH (lv_sub hl [0, 1, 2, 4, 5] rfl)
    · have hw := ifn c4 hw
      refine lv_ldc (own := RX10) (index := 226) (v := -2000000000) hx hb hown (hts _ wd_703) dX10_says_51 ?_
      exact cri C hr hk hH (Nat.zero_le _) (Nat.zero_le _) hw dX10_says_53
  | some j3 =>
    have hw := oM_some hw
    have hl : lv_has ls 7 [(0, .ref (ad 5 0)), (1, .int x1_), (2, .int x2_), (4, .int x4_), (5, va_rf (x5_.map (ad 2))), (6, .ref (ad 3 j3))] := hl
    refine lv_ifnonnull (tgt := 54) hx hb dX10_says_42 (by decide) ?_
    exact b_C_says_54 C hr hk  t x1_ x2_ x5_ (some j3) hw _ _ _ hH (lv_sub hl [0, 1, 2, 4, 5] rfl)
def wp_C_says (t : CS) (a1 : Int32) (a2 : Int32) (a3 : Int32) (a4 : Int32) (post : Int32 → CS → Prop) : Prop := wp_C_loadAt t a3 (fun o6 t5 => wp_C_manAt t5 a4 (fun o8 t7 => wp_C_fellowshipAt t7 a1 (fun o10 t9 => oM o10 (post (-2000000000 : Int32) t9) (fun j11 => wp_C_isUse t9 a2 (fun r13 t12 => if r13 = 0 then (post (-2000000000 : Int32) t12) else (oM o6 (if a3 = (-1 : Int32) then (wp_C_says_40 post t12 a1 a2 a4 none o8) else (post (-2000000000 : Int32) t12)) (fun j15 => wp_C_says_40 post t12 a1 a2 a4 (some j15) o8)))))))
set_option maxHeartbeats 4000000 in
set_option maxRecDepth 100000 in
theorem c_C_says (l : Launch) (D : va_G) (Z : Nat → ClassId) (E : Nat → Nat) (ad : Nat → Nat → Nat) (t : CS) (a1 : Int32) (a2 : Int32) (a3 : Int32) (a4 : Int32) (post : Int32 → CS → Prop) (hw : wp_C_says t a1 a2 a3 a4 post) (L : List Nat) (sz : Nat) : Met l yX10_says (Wd yX10_says cX10_says 7 (some .int)) rm_C_says (va_Pc [.ref (ad 5 0), .int a1, .int a2, .int a3, .int a4] (cPre D Z E ad L sz t)) (va_Qi post (cPost D Z E ad (cAs L sz)) (cAs L sz)) 0 0 (cAs L sz) := by
  refine cMet (Qc := fun A => va_Qi post (cPost D Z E ad A) A) (by decide) rfl _ (Nat.le_of_ble_eq_true rfl) (fun p e s m args below meth c A C hr hk ls hl hH => ?_) L sz
  obtain ⟨⟨hx, hb, hml, hown, hts⟩, hK⟩ := id C
  have hl : lv_has ls 7 [(0, .ref (ad 5 0)), (1, .int a1), (2, .int a2), (3, .int a3), (4, .int a4)] := hl
  unfold wp_C_says at hw
  refine lv_aload_n hx hb dX10_says_0 rfl (lv_at hl 0 rfl) ?_
  refine lv_iload_n hx hb dX10_says_1 rfl (lv_at hl 3 rfl) ?_
  refine ccVq0 C hH (crecv C hH 5 0 (by decide) (Nat.le_of_ble_eq_true rfl) rfl rfl (q := (RX10, TX10, 13))) [.int a3] (c_C_loadAt l D Z E ad t a3 _ hw) (cwTV 1 hts wd_698 wd_700 ws_22 wd_1 wd_701 rfl rfl (by decide +kernel) ⟨Nat.le_of_ble_eq_true rfl, Nat.le_of_ble_eq_true rfl⟩) rfl hl.1 rfl (Nat.le_of_ble_eq_true rfl) dX10_says_2 ⟨Nat.zero_le _, Nat.zero_le _⟩ (fun o6 t5 H locs hw hH => ?_)
  refine lq_astore (lv' := [(5, va_rf (o6.map (ad 2))), (0, .ref (ad 5 0)), (1, .int a1), (2, .int a2), (3, .int a3), (4, .int a4)]) hx hb dX10_says_5 hl (by decide) rfl (fun ls hl => ?_)
  refine lv_aload_n hx hb dX10_says_7 rfl (lv_at hl 1 rfl) ?_
  refine lv_iload hx hb dX10_says_8 (lv_at hl 5 rfl) ?_
  refine ccVq0 C hH (crecv C hH 5 0 (by decide) (Nat.le_of_ble_eq_true rfl) rfl rfl (q := (RX10, TX10, 13))) [.int a4] (c_C_manAt l D Z E ad t5 a4 _ hw) (cwTV 1 hts wd_430 wd_432 ws_6 wd_1 wd_433 rfl rfl (by decide +kernel) ⟨Nat.le_of_ble_eq_true rfl, Nat.le_of_ble_eq_true rfl⟩) rfl hl.1 rfl (Nat.le_of_ble_eq_true rfl) dX10_says_10 ⟨Nat.zero_le _, Nat.zero_le _⟩ (fun o8 t7 H locs hw hH => ?_)
  refine lq_astore (i := 6) (lv' := [(6, va_rf (o8.map (ad 3))), (5, va_rf (o6.map (ad 2))), (0, .ref (ad 5 0)), (1, .int a1), (2, .int a2), (3, .int a3), (4, .int a4)]) hx hb dX10_says_13 hl (by decide) (by simp [lq_cat]) (fun ls hl => ?_)
  refine lv_aload_n hx hb dX10_says_15 rfl (lv_at hl 2 rfl) ?_
  refine lv_iload_n hx hb dX10_says_16 rfl (lv_at hl 3 rfl) ?_
  refine ccVq0 C hH (crecv C hH 5 0 (by decide) (Nat.le_of_ble_eq_true rfl) rfl rfl (q := (RX10, TX10, 13))) [.int a1] (c_C_fellowshipAt l D Z E ad t7 a1 _ hw) (cwTV 1 hts wd_370 wd_372 ws_5 wd_1 wd_373 rfl rfl (by decide +kernel) ⟨Nat.le_of_ble_eq_true rfl, Nat.le_of_ble_eq_true rfl⟩) rfl hl.1 rfl (Nat.le_of_ble_eq_true rfl) dX10_says_17 ⟨Nat.zero_le _, Nat.zero_le _⟩ (fun o10 t9 H locs hw hH => ?_)
  cases o10 with
  | none =>
    have hw := oM_none hw
    have hl : lv_has ls 7 [(6, va_rf (o8.map (ad 3))), (5, va_rf (o6.map (ad 2))), (0, .ref (ad 5 0)), (1, .int a1), (2, .int a2), (3, .int a3), (4, .int a4)] := hl
    refine lv_ifnullN (tgt := 51) hx hb dX10_says_20 (by decide) ?_
    refine lv_ldc (own := RX10) (index := 226) (v := -2000000000) hx hb hown (hts _ wd_703) dX10_says_51 ?_
    exact cri C hr hk hH (Nat.zero_le _) (Nat.zero_le _) hw dX10_says_53
  | some j11 =>
    have hw := oM_some hw
    have hl : lv_has ls 7 [(6, va_rf (o8.map (ad 3))), (5, va_rf (o6.map (ad 2))), (0, .ref (ad 5 0)), (1, .int a1), (2, .int a2), (3, .int a3), (4, .int a4)] := hl
    refine lv_ifnull hx hb dX10_says_20 ?_
    refine lv_iload_n hx hb dX10_says_23 rfl (lv_at hl 4 rfl) ?_
    refine ccSi0 C hH [.int a2] (c_C_isUse l D Z E ad t9 a2 _ hw) (cwTS 1 hts wd_499 wd_500 wd_1 wd_501 rfl rfl (by decide +kernel) ⟨Nat.le_of_ble_eq_true rfl, Nat.le_of_ble_eq_true rfl⟩) rfl hl.1 rfl (Nat.le_of_ble_eq_true rfl) dX10_says_24 ⟨Nat.zero_le _, Nat.zero_le _⟩ (fun r13 t12 H locs hw hH => ?_)
    refine lv_if_eq (tgt := 51) hx hb dX10_says_27 (by decide) (fun c14 => ?_) (fun c14 => ?_)
    · have hw := ifp c14 hw
      refine lv_ldc (own := RX10) (index := 226) (v := -2000000000) hx hb hown (hts _ wd_703) dX10_says_51 ?_
      exact cri C hr hk hH (Nat.zero_le _) (Nat.zero_le _) hw dX10_says_53
    · have hw := ifn c14 hw
      refine lq_aload hx hb dX10_says_30 (lv_at hl 1 rfl) ?_
      cases o6 with
      | none =>
        have hw := oM_none hw
        have hl : lv_has ls 7 [(6, va_rf (o8.map (ad 3))), (5, va_rf (none.map (ad 2))), (0, .ref (ad 5 0)), (1, .int a1), (2, .int a2), (3, .int a3), (4, .int a4)] := hl
        refine lv_ifnonnullN hx hb dX10_says_32 ?_
        refine lv_iload_n hx hb dX10_says_35 rfl (lv_at hl 5 rfl) ?_
        refine lv_iconst (v := -1) hx hb dX10_says_36 (by decide) ?_
        refine lv_icmp_ne (tgt := 51) hx hb dX10_says_37 (by decide) (fun c16 => ?_) (fun c16 => ?_)
        · have hw := ifn c16 hw
          refine lv_ldc (own := RX10) (index := 226) (v := -2000000000) hx hb hown (hts _ wd_703) dX10_says_51 ?_
          exact cri C hr hk hH (Nat.zero_le _) (Nat.zero_le _) hw dX10_says_53
        · have hw := ifp c16 hw
          exact b_C_says_40 C hr hk  t12 a1 a2 a4 none o8 hw _ _ _ hH (lv_sub hl [2, 3, 4, 6, 1, 0] rfl)
      | some j15 =>
        have hw := oM_some hw
        have hl : lv_has ls 7 [(6, va_rf (o8.map (ad 3))), (5, .ref (ad 2 j15)), (0, .ref (ad 5 0)), (1, .int a1), (2, .int a2), (3, .int a3), (4, .int a4)] := hl
        refine lv_ifnonnull (tgt := 40) hx hb dX10_says_32 (by decide) ?_
        exact b_C_says_40 C hr hk  t12 a1 a2 a4 (some j15) o8 hw _ _ _ hH (lv_sub hl [2, 3, 4, 6, 1, 0] rfl)
/-! PorterTurns.ownerOf -/
abbrev rm_C_ownerOf : Room := { frames := 5, cells := 0, slots := 0, locals := 132 }
def wp_C_ownerOf_31 (k4 : CS → Nat → Int32 → Int32 → Prop) (post : Int32 → CS → Prop) (t : CS) (x1_ : Nat) (x2_ : Int32) (x3_ : Int32) : Prop := ∀ x1 : Int32, x1 = x3_ + (1 : Int32) → (k4 t x1_ x2_ x1)
set_option maxHeartbeats 4000000 in
set_option maxRecDepth 100000 in
theorem b_C_ownerOf_31 {p : Program} {l : Launch} {e : Env} {s : State} {m : MethodId} {args : Array Value} {below : List Frame} {meth : Method} {c : Code} {D : va_G} {Z : Nat → ClassId} {E : Nat → Nat} {ad : Nat → Nat → Nat} {A : Nat → Prop} (C : CC p s m args c cX10_ownerOf 4 RX10 D Z E A) (hr : meth.sig.returnType = some .int) (hk : meth.locks = false) {post : Int32 → CS → Prop} {k4 : CS → Nat → Int32 → Int32 → Prop} (hk4 : ∀ (t : CS) (y1 : Nat) (y2 : Int32) (y3 : Int32), k4 t y1 y2 y3 → ∀ (H : Heap) (locs : List Loc) (ls : Array Slot), CH D Z E ad A s.heap t H locs → lv_has ls 4 [(0, .ref (ad 5 0)), (1, .ref (ad 2 y1)), (2, .int y2), (3, .int y3)] → CWi p l e rm_C_ownerOf s m args below meth c D Z E ad A 0 0 post H locs 0 0 (F0 m 4 ls [])) : ∀ (t : CS) (x1_ : Nat) (x2_ : Int32) (x3_ : Int32), wp_C_ownerOf_31 k4 post t x1_ x2_ x3_ → ∀ (H : Heap) (locs : List Loc) (ls : Array Slot), CH D Z E ad A s.heap t H locs → lv_has ls 4 [(0, .ref (ad 5 0)), (1, .ref (ad 2 x1_)), (2, .int x2_), (3, .int x3_)] → CWi p l e rm_C_ownerOf s m args below meth c D Z E ad A 0 0 post H locs 0 0 (F0 m 31 ls []) := by
  obtain ⟨⟨hx, hb, hml, hown, hts⟩, hK⟩ := id C
  intro t x1_ x2_ x3_ hw H locs ls hH hl
  unfold wp_C_ownerOf_31 at hw
  obtain ⟨x1, ex1⟩ : ∃ y : Int32, y = x3_ + (1 : Int32) := ⟨_, rfl⟩
  have hw := hw x1 ex1
  refine lv_iinc (v := x1) (lv' := [(3, .int x1), (0, .ref (ad 5 0)), (1, .ref (ad 2 x1_)), (2, .int x2_)]) hx hb dX10_ownerOf_31 hl (k := 3) rfl (by rw [ex1]; rfl) (by decide) rfl (fun ls hl => ?_)
  refine lv_goto (tgt := 4) hx hb dX10_ownerOf_34 (by decide) ?_
  exact hk4 t x1_ x2_ x1 hw _ _ _ hH (lv_sub hl [1, 2, 3, 0] rfl)
def wp_C_ownerOf_30 (k4 : CS → Nat → Int32 → Int32 → Prop) (post : Int32 → CS → Prop) (t : CS) (x1_ : Nat) (x3_ : Int32) (t0_ : Int32) : Prop := wp_C_ownerOf_31 (k4) post t x1_ t0_ x3_
set_option maxHeartbeats 4000000 in
set_option maxRecDepth 100000 in
theorem b_C_ownerOf_30 {p : Program} {l : Launch} {e : Env} {s : State} {m : MethodId} {args : Array Value} {below : List Frame} {meth : Method} {c : Code} {D : va_G} {Z : Nat → ClassId} {E : Nat → Nat} {ad : Nat → Nat → Nat} {A : Nat → Prop} (C : CC p s m args c cX10_ownerOf 4 RX10 D Z E A) (hr : meth.sig.returnType = some .int) (hk : meth.locks = false) {post : Int32 → CS → Prop} {k4 : CS → Nat → Int32 → Int32 → Prop} (hk4 : ∀ (t : CS) (y1 : Nat) (y2 : Int32) (y3 : Int32), k4 t y1 y2 y3 → ∀ (H : Heap) (locs : List Loc) (ls : Array Slot), CH D Z E ad A s.heap t H locs → lv_has ls 4 [(0, .ref (ad 5 0)), (1, .ref (ad 2 y1)), (2, .int y2), (3, .int y3)] → CWi p l e rm_C_ownerOf s m args below meth c D Z E ad A 0 0 post H locs 0 0 (F0 m 4 ls [])) : ∀ (t : CS) (x1_ : Nat) (x3_ : Int32) (t0_ : Int32), wp_C_ownerOf_30 k4 post t x1_ x3_ t0_ → ∀ (H : Heap) (locs : List Loc) (ls : Array Slot), CH D Z E ad A s.heap t H locs → lv_has ls 4 [(0, .ref (ad 5 0)), (1, .ref (ad 2 x1_)), (3, .int x3_)] → CWi p l e rm_C_ownerOf s m args below meth c D Z E ad A 0 0 post H locs 0 0 (F0 m 30 ls [.int t0_]) := by
  obtain ⟨⟨hx, hb, hml, hown, hts⟩, hK⟩ := id C
  intro t x1_ x3_ t0_ hw H locs ls hH hl
  unfold wp_C_ownerOf_30 at hw
  refine lv_istore_n (lv' := [(2, .int t0_), (0, .ref (ad 5 0)), (1, .ref (ad 2 x1_)), (3, .int x3_)]) hx hb dX10_ownerOf_30 rfl hl (by decide) rfl (fun ls hl => ?_)
  exact b_C_ownerOf_31 C hr hk hk4 t x1_ t0_ x3_ hw _ _ _ hH (lv_sub hl [1, 2, 0, 3] rfl)
def wp_C_ownerOf_4 (post : Int32 → CS → Prop) : Nat → CS → Nat → Int32 → Int32 → Prop
  | 0 => fun _ _ _ _ => False
  | n + 1 => fun t x1_ x2_ x3_ => if (4 : Int32) ≤ x3_ then (post x2_ t) else (wp_C_saying t x3_ (0 : Int32) (some x1_) none (fun r4 t3 => if r4 = 0 then (wp_C_ownerOf_31 (wp_C_ownerOf_4 post n) post t3 x1_ x2_ x3_) else (if x2_ = (4 : Int32) then (wp_C_ownerOf_30 (wp_C_ownerOf_4 post n) post t3 x1_ x3_ x3_) else (wp_C_ownerOf_30 (wp_C_ownerOf_4 post n) post t3 x1_ x3_ (5 : Int32)))))
set_option maxHeartbeats 4000000 in
set_option maxRecDepth 100000 in
theorem b_C_ownerOf_4 {p : Program} {l : Launch} {e : Env} {s : State} {m : MethodId} {args : Array Value} {below : List Frame} {meth : Method} {c : Code} {D : va_G} {Z : Nat → ClassId} {E : Nat → Nat} {ad : Nat → Nat → Nat} {A : Nat → Prop} (C : CC p s m args c cX10_ownerOf 4 RX10 D Z E A) (hr : meth.sig.returnType = some .int) (hk : meth.locks = false) {post : Int32 → CS → Prop} : ∀ (n : Nat) (t : CS) (x1_ : Nat) (x2_ : Int32) (x3_ : Int32), wp_C_ownerOf_4 post n t x1_ x2_ x3_ → ∀ (H : Heap) (locs : List Loc) (ls : Array Slot), CH D Z E ad A s.heap t H locs → lv_has ls 4 [(0, .ref (ad 5 0)), (1, .ref (ad 2 x1_)), (2, .int x2_), (3, .int x3_)] → CWi p l e rm_C_ownerOf s m args below meth c D Z E ad A 0 0 post H locs 0 0 (F0 m 4 ls []) := by
  obtain ⟨⟨hx, hb, hml, hown, hts⟩, hK⟩ := id C
  intro n
  induction n with
  | zero => intro t x1_ x2_ x3_ hw; exact hw.elim
  | succ n ih =>
    intro t x1_ x2_ x3_ hw H locs ls hH hl
    unfold wp_C_ownerOf_4 at hw
    refine lv_iload_n hx hb dX10_ownerOf_4 rfl (lv_at hl 3 rfl) ?_
    refine lv_iconst (v := 4) hx hb dX10_ownerOf_5 (by decide) ?_
    refine lv_icmp_ge (tgt := 37) hx hb dX10_ownerOf_6 (by decide) (fun c2 => ?_) (fun c2 => ?_)
    · have hw := ifp c2 hw
      refine lv_iload_n hx hb dX10_ownerOf_37 rfl (lv_at hl 2 rfl) ?_
      exact cri C hr hk hH (Nat.zero_le _) (Nat.zero_le _) hw dX10_ownerOf_38
    · have hw := ifn c2 hw
      refine lv_aload_n hx hb dX10_ownerOf_9 rfl (lv_at hl 0 rfl) ?_
      refine lv_iload_n hx hb dX10_ownerOf_10 rfl (lv_at hl 3 rfl) ?_
      refine lv_iconst (v := 0) hx hb dX10_ownerOf_11 (by decide) ?_
      refine lv_aload_n hx hb dX10_ownerOf_12 rfl (lv_at hl 1 rfl) ?_
      refine lv_null hx hb dX10_ownerOf_13 ?_
      refine ccVi0 C hH (crecv C hH 5 0 (by decide) (Nat.le_of_ble_eq_true rfl) rfl rfl (q := (RX10, TX10, 13))) [.int x3_, .int (0 : Int32), va_rf ((some x1_).map (ad 2)), va_rf (none.map (ad 3))] (c_C_saying l D Z E ad t x3_ (0 : Int32) (some x1_) none _ hw) (cwTV 4 hts wd_704 wd_706 ws_23 wd_1 wd_707 rfl rfl (by decide +kernel) ⟨Nat.le_of_ble_eq_true rfl, Nat.le_of_ble_eq_true rfl⟩) rfl hl.1 rfl (Nat.le_of_ble_eq_true rfl) dX10_ownerOf_14 ⟨Nat.zero_le _, Nat.zero_le _⟩ (fun r4 t3 H locs hw hH => ?_)
      refine lv_if_eq (tgt := 31) hx hb dX10_ownerOf_17 (by decide) (fun c5 => ?_) (fun c5 => ?_)
      · have hw := ifp c5 hw
        exact b_C_ownerOf_31 C hr hk ih t3 x1_ x2_ x3_ hw _ _ _ hH (lv_sub hl [0, 1, 2, 3] rfl)
      · have hw := ifn c5 hw
        refine lv_iload_n hx hb dX10_ownerOf_20 rfl (lv_at hl 2 rfl) ?_
        refine lv_iconst (v := 4) hx hb dX10_ownerOf_21 (by decide) ?_
        refine lv_icmp_ne (tgt := 29) hx hb dX10_ownerOf_22 (by decide) (fun c6 => ?_) (fun c6 => ?_)
        · have hw := ifn c6 hw
          refine lv_iconst (v := 5) hx hb dX10_ownerOf_29 (by decide) ?_
          exact b_C_ownerOf_30 C hr hk ih t3 x1_ x3_ (5 : Int32) hw _ _ _ hH (lv_sub hl [0, 1, 3] rfl)
        · have hw := ifp c6 hw
          refine lv_iload_n hx hb dX10_ownerOf_25 rfl (lv_at hl 3 rfl) ?_
          refine lv_goto (tgt := 30) hx hb dX10_ownerOf_26 (by decide) ?_
          exact b_C_ownerOf_30 C hr hk ih t3 x1_ x3_ x3_ hw _ _ _ hH (lv_sub hl [0, 1, 3] rfl)
def wp_C_ownerOf (t : CS) (a1 : Nat) (post : Int32 → CS → Prop) : Prop := ∃ nn : Nat, wp_C_ownerOf_4 post nn t a1 (4 : Int32) (0 : Int32)
set_option maxHeartbeats 4000000 in
set_option maxRecDepth 100000 in
theorem c_C_ownerOf (l : Launch) (D : va_G) (Z : Nat → ClassId) (E : Nat → Nat) (ad : Nat → Nat → Nat) (t : CS) (a1 : Nat) (post : Int32 → CS → Prop) (hw : wp_C_ownerOf t a1 post) (L : List Nat) (sz : Nat) : Met l yX10_ownerOf (Wd yX10_ownerOf cX10_ownerOf 4 (some .int)) rm_C_ownerOf (va_Pc [.ref (ad 5 0), .ref (ad 2 a1)] (cPre D Z E ad L sz t)) (va_Qi post (cPost D Z E ad (cAs L sz)) (cAs L sz)) 0 0 (cAs L sz) := by
  refine cMet (Qc := fun A => va_Qi post (cPost D Z E ad A) A) (by decide) rfl _ (Nat.le_of_ble_eq_true rfl) (fun p e s m args below meth c A C hr hk ls hl hH => ?_) L sz
  obtain ⟨⟨hx, hb, hml, hown, hts⟩, hK⟩ := id C
  have hl : lv_has ls 4 [(0, .ref (ad 5 0)), (1, .ref (ad 2 a1))] := hl
  unfold wp_C_ownerOf at hw
  refine lv_iconst (v := 4) hx hb dX10_ownerOf_0 (by decide) ?_
  refine lv_istore_n (lv' := [(2, .int (4 : Int32)), (0, .ref (ad 5 0)), (1, .ref (ad 2 a1))]) hx hb dX10_ownerOf_1 rfl hl (by decide) rfl (fun ls hl => ?_)
  refine lv_iconst (v := 0) hx hb dX10_ownerOf_2 (by decide) ?_
  refine lv_istore_n (lv' := [(3, .int (0 : Int32)), (2, .int (4 : Int32)), (0, .ref (ad 5 0)), (1, .ref (ad 2 a1))]) hx hb dX10_ownerOf_3 rfl hl (by decide) rfl (fun ls hl => ?_)
  obtain ⟨nn, hw⟩ := hw
  exact b_C_ownerOf_4 C hr hk  nn t a1 (4 : Int32) (0 : Int32) hw _ _ _ hH (lv_sub hl [2, 3, 1, 0] rfl)
/-! PorterTurns.whose -/
abbrev rm_C_whose : Room := { frames := 6, cells := 0, slots := 0, locals := 155 }
def wp_C_whose (t : CS) (a1 : Int32) (post : Int32 → CS → Prop) : Prop := wp_C_loadAt t a1 (fun o2 t1 => oM o2 (post (-1 : Int32) t1) (fun j3 => wp_C_ownerOf t1 j3 (fun r5 t4 => post r5 t4)))
set_option maxHeartbeats 4000000 in
set_option maxRecDepth 100000 in
theorem c_C_whose (l : Launch) (D : va_G) (Z : Nat → ClassId) (E : Nat → Nat) (ad : Nat → Nat → Nat) (t : CS) (a1 : Int32) (post : Int32 → CS → Prop) (hw : wp_C_whose t a1 post) (L : List Nat) (sz : Nat) : Met l yX10_whose (Wd yX10_whose cX10_whose 3 (some .int)) rm_C_whose (va_Pc [.ref (ad 5 0), .int a1] (cPre D Z E ad L sz t)) (va_Qi post (cPost D Z E ad (cAs L sz)) (cAs L sz)) 0 0 (cAs L sz) := by
  refine cMet (Qc := fun A => va_Qi post (cPost D Z E ad A) A) (by decide) rfl _ (Nat.le_of_ble_eq_true rfl) (fun p e s m args below meth c A C hr hk ls hl hH => ?_) L sz
  obtain ⟨⟨hx, hb, hml, hown, hts⟩, hK⟩ := id C
  have hl : lv_has ls 3 [(0, .ref (ad 5 0)), (1, .int a1)] := hl
  unfold wp_C_whose at hw
  refine lv_aload_n hx hb dX10_whose_0 rfl (lv_at hl 0 rfl) ?_
  refine lv_iload_n hx hb dX10_whose_1 rfl (lv_at hl 1 rfl) ?_
  refine ccVq0 C hH (crecv C hH 5 0 (by decide) (Nat.le_of_ble_eq_true rfl) rfl rfl (q := (RX10, TX10, 13))) [.int a1] (c_C_loadAt l D Z E ad t a1 _ hw) (cwTV 1 hts wd_698 wd_700 ws_22 wd_1 wd_701 rfl rfl (by decide +kernel) ⟨Nat.le_of_ble_eq_true rfl, Nat.le_of_ble_eq_true rfl⟩) rfl hl.1 rfl (Nat.le_of_ble_eq_true rfl) dX10_whose_2 ⟨Nat.zero_le _, Nat.zero_le _⟩ (fun o2 t1 H locs hw hH => ?_)
  refine lq_astore_n (lv' := [(2, va_rf (o2.map (ad 2))), (0, .ref (ad 5 0)), (1, .int a1)]) hx hb dX10_whose_5 rfl hl (by decide) rfl (fun ls hl => ?_)
  refine lq_aload_n hx hb dX10_whose_6 rfl (lv_at hl 0 rfl) ?_
  cases o2 with
  | none =>
    have hw := oM_none hw
    have hl : lv_has ls 3 [(2, va_rf (none.map (ad 2))), (0, .ref (ad 5 0)), (1, .int a1)] := hl
    refine lv_ifnonnullN hx hb dX10_whose_7 ?_
    refine lv_iconst (v := -1) hx hb dX10_whose_10 (by decide) ?_
    refine lv_goto (tgt := 19) hx hb dX10_whose_11 (by decide) ?_
    exact cri C hr hk hH (Nat.zero_le _) (Nat.zero_le _) hw dX10_whose_19
  | some j3 =>
    have hw := oM_some hw
    have hl : lv_has ls 3 [(2, .ref (ad 2 j3)), (0, .ref (ad 5 0)), (1, .int a1)] := hl
    refine lv_ifnonnull (tgt := 14) hx hb dX10_whose_7 (by decide) ?_
    refine lv_aload_n hx hb dX10_whose_14 rfl (lv_at hl 1 rfl) ?_
    refine lv_aload_n hx hb dX10_whose_15 rfl (lv_at hl 0 rfl) ?_
    refine ccVi0 C hH (crecv C hH 5 0 (by decide) (Nat.le_of_ble_eq_true rfl) rfl rfl (q := (RX10, TX10, 13))) [.ref (ad 2 j3)] (c_C_ownerOf l D Z E ad t1 j3 _ hw) (cwTV 1 hts wd_859 wd_861 ws_28 wd_1 wd_862 rfl rfl (by decide +kernel) ⟨Nat.le_of_ble_eq_true rfl, Nat.le_of_ble_eq_true rfl⟩) rfl hl.1 rfl (Nat.le_of_ble_eq_true rfl) dX10_whose_16 ⟨Nat.zero_le _, Nat.zero_le _⟩ (fun r5 t4 H locs hw hH => ?_)
    exact cri C hr hk hH (Nat.zero_le _) (Nat.zero_le _) hw dX10_whose_19
/-! PorterTurns$Place.underWaterAt -/
abbrev rm_Place_underWaterAt : Room := { frames := 0, cells := 0, slots := 0, locals := 0 }
def wp_Place_underWaterAt (t : CS) (i0 : Nat) (a1 : Int32) (post : Int32 → CS → Prop) : Prop := ∀ x1 : Int32, x1 = (a1 - a1 / (600 : Int32) * (600 : Int32)) → (i0 < tN t 4 ∧ (if x1 < (tF t 131 i0) then (post (0 : Int32) t) else (if (tF t 132 i0) ≤ x1 then (post (0 : Int32) t) else (post (1 : Int32) t))))
set_option maxHeartbeats 4000000 in
set_option maxRecDepth 100000 in
theorem c_Place_underWaterAt (l : Launch) (D : va_G) (Z : Nat → ClassId) (E : Nat → Nat) (ad : Nat → Nat → Nat) (t : CS) (i0 : Nat) (a1 : Int32) (post : Int32 → CS → Prop) (hw : wp_Place_underWaterAt t i0 a1 post) (L : List Nat) (sz : Nat) : Met l yX4_underWaterAt (Wd yX4_underWaterAt cX4_underWaterAt 3 (some .boolean)) rm_Place_underWaterAt (va_Pc [.ref (ad 4 i0), .int a1] (cPre D Z E ad L sz t)) (va_Qi post (cPost D Z E ad (cAs L sz)) (cAs L sz)) 0 0 (cAs L sz) := by
  refine cMet (Qc := fun A => va_Qi post (cPost D Z E ad A) A) (by decide) rfl _ (Nat.le_of_ble_eq_true rfl) (fun p e s m args below meth c A C hr hk ls hl hH => ?_) L sz
  obtain ⟨⟨hx, hb, hml, hown, hts⟩, hK⟩ := id C
  have hl : lv_has ls 3 [(0, .ref (ad 4 i0)), (1, .int a1)] := hl
  unfold wp_Place_underWaterAt at hw
  refine lv_iload_n hx hb dX4_underWaterAt_0 rfl (lv_at hl 1 rfl) ?_
  refine lv_sipush (v := 600) hx hb dX4_underWaterAt_1 (by decide) ?_
  refine lv_irem hx hb dX4_underWaterAt_4 (by decide) ?_
  refine lv_topi (fun x1 ex1 => ?_)
  have hw := hw x1 ex1
  refine lv_istore_n (lv' := [(2, .int x1), (0, .ref (ad 4 i0)), (1, .int a1)]) hx hb dX4_underWaterAt_5 rfl hl (by decide) rfl (fun ls hl => ?_)
  refine lv_iload_n hx hb dX4_underWaterAt_6 rfl (lv_at hl 0 rfl) ?_
  refine lv_aload_n hx hb dX4_underWaterAt_7 rfl (lv_at hl 1 rfl) ?_
  obtain ⟨h2, hw⟩ := hw
  refine cg C hH 4 i0 (by decide) h2 rfl rfl ixX4 3 (by decide) rfl wd_298 rfl dX4_underWaterAt_8 ?_
  refine lv_icmp_lt (tgt := 26) hx hb dX4_underWaterAt_11 (by decide) (fun c3 => ?_) (fun c3 => ?_)
  · have hw := ifp c3 hw
    refine lv_iconst (v := 0) hx hb dX4_underWaterAt_26 (by decide) ?_
    exact crz C hr hk hH (Nat.zero_le _) (Nat.zero_le _) bz0 hw dX4_underWaterAt_27
  · have hw := ifn c3 hw
    refine lv_iload_n hx hb dX4_underWaterAt_14 rfl (lv_at hl 0 rfl) ?_
    refine lv_aload_n hx hb dX4_underWaterAt_15 rfl (lv_at hl 1 rfl) ?_
    refine cg C hH 4 i0 (by decide) h2 rfl rfl ixX4 4 (by decide) rfl wd_300 rfl dX4_underWaterAt_16 ?_
    refine lv_icmp_ge (tgt := 26) hx hb dX4_underWaterAt_19 (by decide) (fun c4 => ?_) (fun c4 => ?_)
    · have hw := ifp c4 hw
      refine lv_iconst (v := 0) hx hb dX4_underWaterAt_26 (by decide) ?_
      exact crz C hr hk hH (Nat.zero_le _) (Nat.zero_le _) bz0 hw dX4_underWaterAt_27
    · have hw := ifn c4 hw
      refine lv_iconst (v := 1) hx hb dX4_underWaterAt_22 (by decide) ?_
      refine lv_goto (tgt := 27) hx hb dX4_underWaterAt_23 (by decide) ?_
      exact crz C hr hk hH (Nat.zero_le _) (Nat.zero_le _) bz1 hw dX4_underWaterAt_27
/-! PorterTurns.hindrance -/
abbrev rm_C_hindrance : Room := { frames := 6, cells := 0, slots := 0, locals := 155 }
def wp_C_hindrance_37 (post : Int32 → CS → Prop) (t : CS) (x2_ : Nat) : Prop := x2_ < tN t 2 ∧ ((tG t 0 x2_) < tN t 4 ∧ (wp_Place_underWaterAt t (tG t 0 x2_) (tF t 171 0) (fun r4 t3 => if r4 = 0 then (x2_ < tN t3 2 ∧ (if (tF t3 65 x2_) = 0 then (wp_Sky_rainsAt t3 (tF t3 171 0) (fun r9 t8 => if r9 = 0 then (post (0 : Int32) t8) else (post (5 : Int32) t8))) else (post (0 : Int32) t3))) else (post (4 : Int32) t3))))
set_option maxHeartbeats 4000000 in
set_option maxRecDepth 100000 in
theorem b_C_hindrance_37 {p : Program} {l : Launch} {e : Env} {s : State} {m : MethodId} {args : Array Value} {below : List Frame} {meth : Method} {c : Code} {D : va_G} {Z : Nat → ClassId} {E : Nat → Nat} {ad : Nat → Nat → Nat} {A : Nat → Prop} (C : CC p s m args c cX10_hindrance 4 RX10 D Z E A) (hr : meth.sig.returnType = some .int) (hk : meth.locks = false) {post : Int32 → CS → Prop} : ∀ (t : CS) (x2_ : Nat), wp_C_hindrance_37 post t x2_ → ∀ (H : Heap) (locs : List Loc) (ls : Array Slot), CH D Z E ad A s.heap t H locs → lv_has ls 4 [(0, .ref (ad 5 0)), (2, .ref (ad 2 x2_))] → CWi p l e rm_C_hindrance s m args below meth c D Z E ad A 0 0 post H locs 0 0 (F0 m 37 ls []) := by
  obtain ⟨⟨hx, hb, hml, hown, hts⟩, hK⟩ := id C
  intro t x2_ hw H locs ls hH hl
  unfold wp_C_hindrance_37 at hw
  refine lv_aload_n hx hb dX10_hindrance_37 rfl (lv_at hl 1 rfl) ?_
  obtain ⟨h1, hw⟩ := hw
  refine cg C hH 2 x2_ (by decide) h1 rfl rfl ixX2 3 (by decide) rfl wd_788 rfl dX10_hindrance_38 ?_
  refine lv_aload_n hx hb dX10_hindrance_41 rfl (lv_at hl 0 rfl) ?_
  refine cg C hH 5 0 (by decide) (Nat.le_of_ble_eq_true rfl) rfl rfl ixX10 11 (by decide) rfl wd_247 rfl dX10_hindrance_42 ?_
  obtain ⟨h2, hw⟩ := hw
  refine ccVi0 C hH (crecv C hH 4 (tG t 0 x2_) (by decide) h2 rfl rfl (q := (RX4, TX4, 5))) [.int (tF t 171 0)] (c_Place_underWaterAt l D Z E ad t (tG t 0 x2_) (tF t 171 0) _ hw) (cwTV 1 hts wd_871 wd_872 wd_873 wd_15 wd_874 rfl rfl (by decide +kernel) ⟨Nat.le_of_ble_eq_true rfl, Nat.le_of_ble_eq_true rfl⟩) rfl hl.1 rfl (Nat.le_of_ble_eq_true rfl) dX10_hindrance_45 ⟨Nat.zero_le _, Nat.zero_le _⟩ (fun r4 t3 H locs hw hH => ?_)
  refine lv_if_eq (tgt := 53) hx hb dX10_hindrance_48 (by decide) (fun c5 => ?_) (fun c5 => ?_)
  · have hw := ifp c5 hw
    refine lv_aload_n hx hb dX10_hindrance_53 rfl (lv_at hl 1 rfl) ?_
    obtain ⟨h6, hw⟩ := hw
    refine cg C hH 2 x2_ (by decide) h6 rfl rfl ixX2 1 (by decide) rfl wd_783 rfl dX10_hindrance_54 ?_
    refine lv_if_ne (tgt := 78) hx hb dX10_hindrance_57 (by decide) (fun c7 => ?_) (fun c7 => ?_)
    · have hw := ifn c7 hw
      refine lv_iconst (v := 0) hx hb dX10_hindrance_78 (by decide) ?_
      exact cri C hr hk hH (Nat.zero_le _) (Nat.zero_le _) hw dX10_hindrance_79
    · have hw := ifp c7 hw
      refine lv_aload_n hx hb dX10_hindrance_60 rfl (lv_at hl 0 rfl) ?_
      refine cg C hH 5 0 (by decide) (Nat.le_of_ble_eq_true rfl) rfl rfl ixX10 5 (by decide) rfl wd_241 rfl dX10_hindrance_61 ?_
      refine lv_aload_n hx hb dX10_hindrance_64 rfl (lv_at hl 0 rfl) ?_
      refine cg C hH 5 0 (by decide) (Nat.le_of_ble_eq_true rfl) rfl rfl ixX10 11 (by decide) rfl wd_247 rfl dX10_hindrance_65 ?_
      refine ccVi0 C hH (crecv C hH 5 1 (by decide) (Nat.le_of_ble_eq_true rfl) rfl rfl (q := (RX7, TX7, 3))) [.int (tF t3 171 0)] (c_Sky_rainsAt l D Z E ad t3 (tF t3 171 0) _ hw) (cwTV 1 hts wd_362 wd_363 wd_364 wd_10 wd_365 rfl rfl (by decide +kernel) ⟨Nat.le_of_ble_eq_true rfl, Nat.le_of_ble_eq_true rfl⟩) rfl hl.1 rfl (Nat.le_of_ble_eq_true rfl) dX10_hindrance_68 ⟨Nat.zero_le _, Nat.zero_le _⟩ (fun r9 t8 H locs hw hH => ?_)
      refine lv_if_eq (tgt := 78) hx hb dX10_hindrance_71 (by decide) (fun c10 => ?_) (fun c10 => ?_)
      · have hw := ifp c10 hw
        refine lv_iconst (v := 0) hx hb dX10_hindrance_78 (by decide) ?_
        exact cri C hr hk hH (Nat.zero_le _) (Nat.zero_le _) hw dX10_hindrance_79
      · have hw := ifn c10 hw
        refine lv_iconst (v := 5) hx hb dX10_hindrance_74 (by decide) ?_
        refine lv_goto (tgt := 79) hx hb dX10_hindrance_75 (by decide) ?_
        exact cri C hr hk hH (Nat.zero_le _) (Nat.zero_le _) hw dX10_hindrance_79
  · have hw := ifn c5 hw
    refine lv_iconst (v := 4) hx hb dX10_hindrance_51 (by decide) ?_
    exact cri C hr hk hH (Nat.zero_le _) (Nat.zero_le _) hw dX10_hindrance_52
def wp_C_hindrance (t : CS) (a1 : Nat) (a2 : Nat) (post : Int32 → CS → Prop) : Prop := a2 < tN t 2 ∧ (if (tF t 75 a2) = 0 then (wp_C_ownerOf t a2 (fun r14 t13 => if r14 = (5 : Int32) then (post (2 : Int32) t13) else (if r14 = (4 : Int32) then (wp_C_hindrance_37 post t13 a2) else (a1 < tN t13 0 ∧ (if r14 = (nI a1) then (wp_C_hindrance_37 post t13 a2) else (post (3 : Int32) t13)))))) else (post (1 : Int32) t))
set_option maxHeartbeats 4000000 in
set_option maxRecDepth 100000 in
theorem c_C_hindrance (l : Launch) (D : va_G) (Z : Nat → ClassId) (E : Nat → Nat) (ad : Nat → Nat → Nat) (t : CS) (a1 : Nat) (a2 : Nat) (post : Int32 → CS → Prop) (hw : wp_C_hindrance t a1 a2 post) (L : List Nat) (sz : Nat) : Met l yX10_hindrance (Wd yX10_hindrance cX10_hindrance 4 (some .int)) rm_C_hindrance (va_Pc [.ref (ad 5 0), .ref (ad 0 a1), .ref (ad 2 a2)] (cPre D Z E ad L sz t)) (va_Qi post (cPost D Z E ad (cAs L sz)) (cAs L sz)) 0 0 (cAs L sz) := by
  refine cMet (Qc := fun A => va_Qi post (cPost D Z E ad A) A) (by decide) rfl _ (Nat.le_of_ble_eq_true rfl) (fun p e s m args below meth c A C hr hk ls hl hH => ?_) L sz
  obtain ⟨⟨hx, hb, hml, hown, hts⟩, hK⟩ := id C
  have hl : lv_has ls 4 [(0, .ref (ad 5 0)), (1, .ref (ad 0 a1)), (2, .ref (ad 2 a2))] := hl
  unfold wp_C_hindrance at hw
  refine lv_aload_n hx hb dX10_hindrance_0 rfl (lv_at hl 2 rfl) ?_
  obtain ⟨h11, hw⟩ := hw
  refine cg C hH 2 a2 (by decide) h11 rfl rfl ixX2 11 (by decide) rfl wd_806 rfl dX10_hindrance_1 ?_
  refine lv_if_eq (tgt := 9) hx hb dX10_hindrance_4 (by decide) (fun c12 => ?_) (fun c12 => ?_)
  · have hw := ifp c12 hw
    refine lv_aload_n hx hb dX10_hindrance_9 rfl (lv_at hl 0 rfl) ?_
    refine lv_aload_n hx hb dX10_hindrance_10 rfl (lv_at hl 2 rfl) ?_
    refine ccVi0 C hH (crecv C hH 5 0 (by decide) (Nat.le_of_ble_eq_true rfl) rfl rfl (q := (RX10, TX10, 13))) [.ref (ad 2 a2)] (c_C_ownerOf l D Z E ad t a2 _ hw) (cwTV 1 hts wd_859 wd_861 ws_28 wd_1 wd_862 rfl rfl (by decide +kernel) ⟨Nat.le_of_ble_eq_true rfl, Nat.le_of_ble_eq_true rfl⟩) rfl hl.1 rfl (Nat.le_of_ble_eq_true rfl) dX10_hindrance_11 ⟨Nat.zero_le _, Nat.zero_le _⟩ (fun r14 t13 H locs hw hH => ?_)
    refine lv_istore_n (lv' := [(3, .int r14), (0, .ref (ad 5 0)), (1, .ref (ad 0 a1)), (2, .ref (ad 2 a2))]) hx hb dX10_hindrance_14 rfl hl (by decide) rfl (fun ls hl => ?_)
    refine lv_iload_n hx hb dX10_hindrance_15 rfl (lv_at hl 0 rfl) ?_
    refine lv_iconst (v := 5) hx hb dX10_hindrance_16 (by decide) ?_
    refine lv_icmp_ne (tgt := 22) hx hb dX10_hindrance_17 (by decide) (fun c15 => ?_) (fun c15 => ?_)
    · have hw := ifn c15 hw
      refine lv_iload_n hx hb dX10_hindrance_22 rfl (lv_at hl 0 rfl) ?_
      refine lv_iconst (v := 4) hx hb dX10_hindrance_23 (by decide) ?_
      refine lv_icmp_eq (tgt := 37) hx hb dX10_hindrance_24 (by decide) (fun c16 => ?_) (fun c16 => ?_)
      · have hw := ifp c16 hw
        exact b_C_hindrance_37 C hr hk  t13 a2 hw _ _ _ hH (lv_sub hl [1, 3] rfl)
      · have hw := ifn c16 hw
        refine lv_iload_n hx hb dX10_hindrance_27 rfl (lv_at hl 0 rfl) ?_
        refine lv_aload_n hx hb dX10_hindrance_28 rfl (lv_at hl 2 rfl) ?_
        obtain ⟨h17, hw⟩ := hw
        refine cg C hH 0 a1 (by decide) h17 rfl rfl ixX0 0 (by decide) rfl wd_68 rfl dX10_hindrance_29 ?_
        refine lv_icmp_eq (tgt := 37) hx hb dX10_hindrance_32 (by decide) (fun c18 => ?_) (fun c18 => ?_)
        · have hw := ifp c18 hw
          exact b_C_hindrance_37 C hr hk  t13 a2 hw _ _ _ hH (lv_sub hl [1, 3] rfl)
        · have hw := ifn c18 hw
          refine lv_iconst (v := 3) hx hb dX10_hindrance_35 (by decide) ?_
          exact cri C hr hk hH (Nat.zero_le _) (Nat.zero_le _) hw dX10_hindrance_36
    · have hw := ifp c15 hw
      refine lv_iconst (v := 2) hx hb dX10_hindrance_20 (by decide) ?_
      exact cri C hr hk hH (Nat.zero_le _) (Nat.zero_le _) hw dX10_hindrance_21
  · have hw := ifn c12 hw
    refine lv_iconst (v := 1) hx hb dX10_hindrance_7 (by decide) ?_
    exact cri C hr hk hH (Nat.zero_le _) (Nat.zero_le _) hw dX10_hindrance_8
/-! PorterTurns$Man.mayGo -/
abbrev rm_Man_mayGo : Room := { frames := 1, cells := 0, slots := 0, locals := 21 }
def wp_Man_mayGo_18 (post : Int32 → CS → Prop) (t : CS) (x0_ : Nat) (x1_ : Int32) (x2_ : Int32) (t0_ : Int32) : Prop := x0_ < tN t 3 ∧ (wp_Man_freeAt t x0_ x1_ (fun r3 t2 => if r3 = 0 then (post (0 : Int32) t2) else (x0_ < tN t2 3 ∧ (wp_Man_hurtAt t2 x0_ x1_ (fun r7 t6 => if r7 = 0 then (x0_ < tN t6 3 ∧ (if t0_ < ((tF t6 101 x0_) + x2_) then (post (0 : Int32) t6) else (post (1 : Int32) t6))) else (post (0 : Int32) t6))))))
set_option maxHeartbeats 4000000 in
set_option maxRecDepth 100000 in
theorem b_Man_mayGo_18 {p : Program} {l : Launch} {e : Env} {s : State} {m : MethodId} {args : Array Value} {below : List Frame} {meth : Method} {c : Code} {D : va_G} {Z : Nat → ClassId} {E : Nat → Nat} {ad : Nat → Nat → Nat} {A : Nat → Prop} (C : CC p s m args c cX3_mayGo 4 RX3 D Z E A) (hr : meth.sig.returnType = some .boolean) (hk : meth.locks = false) {post : Int32 → CS → Prop} : ∀ (t : CS) (x0_ : Nat) (x1_ : Int32) (x2_ : Int32) (t0_ : Int32), wp_Man_mayGo_18 post t x0_ x1_ x2_ t0_ → ∀ (H : Heap) (locs : List Loc) (ls : Array Slot), CH D Z E ad A s.heap t H locs → lv_has ls 4 [(0, .ref (ad 3 x0_)), (1, .int x1_), (2, .int x2_)] → CWi p l e rm_Man_mayGo s m args below meth c D Z E ad A 0 0 post H locs 0 0 (F0 m 18 ls [.int t0_]) := by
  obtain ⟨⟨hx, hb, hml, hown, hts⟩, hK⟩ := id C
  intro t x0_ x1_ x2_ t0_ hw H locs ls hH hl
  unfold wp_Man_mayGo_18 at hw
  refine lv_istore_n (lv' := [(3, .int t0_), (0, .ref (ad 3 x0_)), (1, .int x1_), (2, .int x2_)]) hx hb dX3_mayGo_18 rfl hl (by decide) rfl (fun ls hl => ?_)
  refine lv_aload_n hx hb dX3_mayGo_19 rfl (lv_at hl 1 rfl) ?_
  refine lv_iload_n hx hb dX3_mayGo_20 rfl (lv_at hl 2 rfl) ?_
  obtain ⟨h1, hw⟩ := hw
  refine ccVi0 C hH (crecv C hH 3 x0_ (by decide) h1 rfl rfl (q := (RX3, TX3, 10))) [.int x1_] (c_Man_freeAt l D Z E ad t x0_ x1_ _ hw) (cwTV 1 hts wd_892 wd_446 wd_447 wd_18 wd_448 rfl rfl (by decide +kernel) ⟨Nat.le_of_ble_eq_true rfl, Nat.le_of_ble_eq_true rfl⟩) rfl hl.1 rfl (Nat.le_of_ble_eq_true rfl) dX3_mayGo_21 ⟨Nat.zero_le _, Nat.zero_le _⟩ (fun r3 t2 H locs hw hH => ?_)
  refine lv_if_eq (tgt := 49) hx hb dX3_mayGo_24 (by decide) (fun c4 => ?_) (fun c4 => ?_)
  · have hw := ifp c4 hw
    refine lv_iconst (v := 0) hx hb dX3_mayGo_49 (by decide) ?_
    exact crz C hr hk hH (Nat.zero_le _) (Nat.zero_le _) bz0 hw dX3_mayGo_50
  · have hw := ifn c4 hw
    refine lv_aload_n hx hb dX3_mayGo_27 rfl (lv_at hl 1 rfl) ?_
    refine lv_iload_n hx hb dX3_mayGo_28 rfl (lv_at hl 2 rfl) ?_
    obtain ⟨h5, hw⟩ := hw
    refine ccVi0 C hH (crecv C hH 3 x0_ (by decide) h5 rfl rfl (q := (RX3, TX3, 10))) [.int x1_] (c_Man_hurtAt l D Z E ad t2 x0_ x1_ _ hw) (cwTV 1 hts wd_893 wd_723 wd_724 wd_18 wd_725 rfl rfl (by decide +kernel) ⟨Nat.le_of_ble_eq_true rfl, Nat.le_of_ble_eq_true rfl⟩) rfl hl.1 rfl (Nat.le_of_ble_eq_true rfl) dX3_mayGo_29 ⟨Nat.zero_le _, Nat.zero_le _⟩ (fun r7 t6 H locs hw hH => ?_)
    refine lv_if_ne (tgt := 49) hx hb dX3_mayGo_32 (by decide) (fun c8 => ?_) (fun c8 => ?_)
    · have hw := ifn c8 hw
      refine lv_iconst (v := 0) hx hb dX3_mayGo_49 (by decide) ?_
      exact crz C hr hk hH (Nat.zero_le _) (Nat.zero_le _) bz0 hw dX3_mayGo_50
    · have hw := ifp c8 hw
      refine lv_aload_n hx hb dX3_mayGo_35 rfl (lv_at hl 1 rfl) ?_
      obtain ⟨h9, hw⟩ := hw
      refine cg C hH 3 x0_ (by decide) h9 rfl rfl ixX3 5 (by decide) rfl wd_394 rfl dX3_mayGo_36 ?_
      refine lv_iload_n hx hb dX3_mayGo_39 rfl (lv_at hl 3 rfl) ?_
      refine lv_iadd hx hb dX3_mayGo_40 ?_
      refine lv_iload_n hx hb dX3_mayGo_41 rfl (lv_at hl 0 rfl) ?_
      refine lv_icmp_gt (tgt := 49) hx hb dX3_mayGo_42 (by decide) (fun c10 => ?_) (fun c10 => ?_)
      · have hw := ifp c10 hw
        refine lv_iconst (v := 0) hx hb dX3_mayGo_49 (by decide) ?_
        exact crz C hr hk hH (Nat.zero_le _) (Nat.zero_le _) bz0 hw dX3_mayGo_50
      · have hw := ifn c10 hw
        refine lv_iconst (v := 1) hx hb dX3_mayGo_45 (by decide) ?_
        refine lv_goto (tgt := 50) hx hb dX3_mayGo_46 (by decide) ?_
        exact crz C hr hk hH (Nat.zero_le _) (Nat.zero_le _) bz1 hw dX3_mayGo_50
def wp_Man_mayGo (t : CS) (i0 : Nat) (a1 : Int32) (a2 : Int32) (post : Int32 → CS → Prop) : Prop := i0 < tN t 3 ∧ (if (tF t 99 i0) < (60 : Int32) then (wp_Man_mayGo_18 post t i0 a1 a2 (480 : Int32)) else (wp_Man_mayGo_18 post t i0 a1 a2 (240 : Int32)))
set_option maxHeartbeats 4000000 in
set_option maxRecDepth 100000 in
theorem c_Man_mayGo (l : Launch) (D : va_G) (Z : Nat → ClassId) (E : Nat → Nat) (ad : Nat → Nat → Nat) (t : CS) (i0 : Nat) (a1 : Int32) (a2 : Int32) (post : Int32 → CS → Prop) (hw : wp_Man_mayGo t i0 a1 a2 post) (L : List Nat) (sz : Nat) : Met l yX3_mayGo (Wd yX3_mayGo cX3_mayGo 4 (some .boolean)) rm_Man_mayGo (va_Pc [.ref (ad 3 i0), .int a1, .int a2] (cPre D Z E ad L sz t)) (va_Qi post (cPost D Z E ad (cAs L sz)) (cAs L sz)) 0 0 (cAs L sz) := by
  refine cMet (Qc := fun A => va_Qi post (cPost D Z E ad A) A) (by decide) rfl _ (Nat.le_of_ble_eq_true rfl) (fun p e s m args below meth c A C hr hk ls hl hH => ?_) L sz
  obtain ⟨⟨hx, hb, hml, hown, hts⟩, hK⟩ := id C
  have hl : lv_has ls 4 [(0, .ref (ad 3 i0)), (1, .int a1), (2, .int a2)] := hl
  unfold wp_Man_mayGo at hw
  refine lv_aload_n hx hb dX3_mayGo_0 rfl (lv_at hl 0 rfl) ?_
  obtain ⟨h11, hw⟩ := hw
  refine cg C hH 3 i0 (by decide) h11 rfl rfl ixX3 3 (by decide) rfl wd_389 rfl dX3_mayGo_1 ?_
  refine lv_bipush (v := 60) hx hb dX3_mayGo_4 (by decide) ?_
  refine lv_icmp_lt (tgt := 15) hx hb dX3_mayGo_6 (by decide) (fun c12 => ?_) (fun c12 => ?_)
  · have hw := ifp c12 hw
    refine lv_sipush (v := 480) hx hb dX3_mayGo_15 (by decide) ?_
    exact b_Man_mayGo_18 C hr hk  t i0 a1 a2 (480 : Int32) hw _ _ _ hH (lv_sub hl [0, 1, 2] rfl)
  · have hw := ifn c12 hw
    refine lv_sipush (v := 240) hx hb dX3_mayGo_9 (by decide) ?_
    refine lv_goto (tgt := 18) hx hb dX3_mayGo_12 (by decide) ?_
    exact b_Man_mayGo_18 C hr hk  t i0 a1 a2 (240 : Int32) hw _ _ _ hH (lv_sub hl [0, 1, 2] rfl)
/-! PorterTurns.gatherCandidates -/
abbrev rm_C_gatherCandidates (mc ms : Nat) : Room := { frames := 7, cells := mc, slots := ms, locals := 521 }
def wp_C_gatherCandidates_56 (mc ms : Nat) (k9 : Nat → Nat → CS → Nat → Int32 → Int32 → Prop) (post : CS → Prop) (uc us : Nat) (t : CS) (x1_ : Nat) (x2_ : Int32) (x3_ : Int32) : Prop := ∀ x1 : Int32, x1 = x3_ + (1 : Int32) → (k9 uc us t x1_ x2_ x1)
set_option maxHeartbeats 4000000 in
set_option maxRecDepth 100000 in
theorem b_C_gatherCandidates_56 {p : Program} {l : Launch} {e : Env} {s : State} {m : MethodId} {args : Array Value} {below : List Frame} {meth : Method} {c : Code} {D : va_G} {Z : Nat → ClassId} {E : Nat → Nat} {ad : Nat → Nat → Nat} {A : Nat → Prop} (C : CC p s m args c cX10_gatherCandidates 5 RX10 D Z E A) (hr : meth.sig.returnType = none) (hk : meth.locks = false) {mc ms : Nat} {post : CS → Prop} {k9 : Nat → Nat → CS → Nat → Int32 → Int32 → Prop} (hk9 : ∀ (uc us : Nat) (t : CS) (y1 : Nat) (y2 : Int32) (y3 : Int32), k9 uc us t y1 y2 y3 → (uc ≤ mc ∧ us ≤ ms) → ∀ (H : Heap) (locs : List Loc) (ls : Array Slot), CH D Z E ad A s.heap t H locs → lv_has ls 5 [(0, .ref (ad 5 0)), (1, .ref (ad 0 y1)), (2, .int y2), (3, .int y3)] → CWv p l e (rm_C_gatherCandidates mc ms) s m args below meth c D Z E ad A mc ms post H locs uc us (F0 m 9 ls [])) : ∀ (uc us : Nat) (t : CS) (x1_ : Nat) (x2_ : Int32) (x3_ : Int32), wp_C_gatherCandidates_56 mc ms k9 post uc us t x1_ x2_ x3_ → (uc ≤ mc ∧ us ≤ ms) → ∀ (H : Heap) (locs : List Loc) (ls : Array Slot), CH D Z E ad A s.heap t H locs → lv_has ls 5 [(0, .ref (ad 5 0)), (1, .ref (ad 0 x1_)), (2, .int x2_), (3, .int x3_)] → CWv p l e (rm_C_gatherCandidates mc ms) s m args below meth c D Z E ad A mc ms post H locs uc us (F0 m 56 ls []) := by
  obtain ⟨⟨hx, hb, hml, hown, hts⟩, hK⟩ := id C
  intro uc us t x1_ x2_ x3_ hw hu H locs ls hH hl
  unfold wp_C_gatherCandidates_56 at hw
  obtain ⟨x1, ex1⟩ : ∃ y : Int32, y = x3_ + (1 : Int32) := ⟨_, rfl⟩
  have hw := hw x1 ex1
  refine lv_iinc (v := x1) (lv' := [(3, .int x1), (0, .ref (ad 5 0)), (1, .ref (ad 0 x1_)), (2, .int x2_)]) hx hb dX10_gatherCandidates_56 hl (k := 3) rfl (by rw [ex1]; rfl) (by decide) rfl (fun ls hl => ?_)
  refine lv_goto (tgt := 9) hx hb dX10_gatherCandidates_59 (by decide) ?_
  exact hk9 uc us t x1_ x2_ x1 hw hu _ _ _ hH (lv_sub hl [1, 2, 3, 0] rfl)
def wp_C_gatherCandidates_9 (mc ms : Nat) (post : CS → Prop) : Nat → Nat → Nat → CS → Nat → Int32 → Int32 → Prop
  | 0 => fun _ _ _ _ _ _ => False
  | n + 1 => fun uc us t x1_ x2_ x3_ => x1_ < tN t 0 ∧ ((x1_ + 7) < tN t 2 + 11 ∧ (if (nI (tT t (x1_ + 7)).length) ≤ x3_ then (post t) else (vp_in x3_ (tT t (x1_ + 7)).length ∧ ((tT t (x1_ + 7)).length < 2 ^ 31 ∧ (∀ j7 : Nat, j7 = ((tT t (x1_ + 7)).getD x3_.toNatClampNeg 0) → (j7 < tN t 3 ∧ (wp_Man_mayGo t j7 (tF t 171 0) x2_ (fun r10 t9 => if r10 = 0 then (wp_C_gatherCandidates_56 mc ms (wp_C_gatherCandidates_9 mc ms post n) post uc us t9 x1_ x2_ x3_) else (tK t9 6 < 2 ^ 20 ∧ (elOk t9 6 ∧ (j7 < tN t9 3 ∧ (((uc + aC (tT t9 6).length (tK t9 6)) ≤ mc ∧ (us + aS (tT t9 6).length (tK t9 6)) ≤ ms) ∧ (∀ c16 s17 : Nat, c16 = (uc + aC (tT t9 6).length (tK t9 6)) → s17 = (us + aS (tT t9 6).length (tK t9 6)) → (∀ t18 : CS, t18 = lAdd t9 6 j7 → (wp_C_gatherCandidates_56 mc ms (wp_C_gatherCandidates_9 mc ms post n) post c16 s17 t18 x1_ x2_ x3_)))))))))))))))
set_option maxHeartbeats 4000000 in
set_option maxRecDepth 100000 in
theorem b_C_gatherCandidates_9 {p : Program} {l : Launch} {e : Env} {s : State} {m : MethodId} {args : Array Value} {below : List Frame} {meth : Method} {c : Code} {D : va_G} {Z : Nat → ClassId} {E : Nat → Nat} {ad : Nat → Nat → Nat} {A : Nat → Prop} (C : CC p s m args c cX10_gatherCandidates 5 RX10 D Z E A) (hr : meth.sig.returnType = none) (hk : meth.locks = false) {mc ms : Nat} {post : CS → Prop} : ∀ (n : Nat) (uc us : Nat) (t : CS) (x1_ : Nat) (x2_ : Int32) (x3_ : Int32), wp_C_gatherCandidates_9 mc ms post n uc us t x1_ x2_ x3_ → (uc ≤ mc ∧ us ≤ ms) → ∀ (H : Heap) (locs : List Loc) (ls : Array Slot), CH D Z E ad A s.heap t H locs → lv_has ls 5 [(0, .ref (ad 5 0)), (1, .ref (ad 0 x1_)), (2, .int x2_), (3, .int x3_)] → CWv p l e (rm_C_gatherCandidates mc ms) s m args below meth c D Z E ad A mc ms post H locs uc us (F0 m 9 ls []) := by
  obtain ⟨⟨hx, hb, hml, hown, hts⟩, hK⟩ := id C
  intro n
  induction n with
  | zero => intro uc us t x1_ x2_ x3_ hw; exact hw.elim
  | succ n ih =>
    intro uc us t x1_ x2_ x3_ hw hu H locs ls hH hl
    unfold wp_C_gatherCandidates_9 at hw
    refine lv_iload_n hx hb dX10_gatherCandidates_9 rfl (lv_at hl 3 rfl) ?_
    refine lv_aload_n hx hb dX10_gatherCandidates_10 rfl (lv_at hl 1 rfl) ?_
    obtain ⟨h2, hw⟩ := hw
    refine cg C hH 0 x1_ (by decide) h2 rfl rfl ixX0 1 (by decide) rfl wd_70 rfl dX10_gatherCandidates_11 ?_
    obtain ⟨h3, hw⟩ := hw
    refine lSize C hH (x1_ + 7) h3 wd_283 hl.1 (Nat.le_of_ble_eq_true rfl) dX10_gatherCandidates_14 hu ⟨Nat.le_of_ble_eq_true rfl, Nat.le_of_ble_eq_true rfl⟩ (fun H locs hH => ?_)
    refine lv_icmp_ge (tgt := 62) hx hb dX10_gatherCandidates_17 (by decide) (fun c4 => ?_) (fun c4 => ?_)
    · have hw := ifp c4 hw
      exact crv C hr hk hH hu.1 hu.2 hw dX10_gatherCandidates_62
    · have hw := ifn c4 hw
      refine lv_aload_n hx hb dX10_gatherCandidates_20 rfl (lv_at hl 1 rfl) ?_
      refine cg C hH 0 x1_ (by decide) h2 rfl rfl ixX0 1 (by decide) rfl wd_70 rfl dX10_gatherCandidates_21 ?_
      refine lv_iload_n hx hb dX10_gatherCandidates_24 rfl (lv_at hl 3 rfl) ?_
      obtain ⟨h5, hw⟩ := hw
      obtain ⟨h6, hw⟩ := hw
      refine lGet C hH (x1_ + 7) h3 h5 h6 wd_320 hl.1 (Nat.le_of_ble_eq_true rfl) dX10_gatherCandidates_25 hu ⟨Nat.le_of_ble_eq_true rfl, Nat.le_of_ble_eq_true rfl⟩ (fun H locs hH => ?_)
      obtain ⟨j7, ej7⟩ : ∃ x : Nat, x = ((tT t (x1_ + 7)).getD x3_.toNatClampNeg 0) := ⟨_, rfl⟩
      rw [← ej7]
      have hw := hw j7 ej7
      obtain ⟨h8, hw⟩ := hw
      refine cCast C hH 3 j7 (by decide) h8 rfl rfl wd_374 dX10_gatherCandidates_28 ?_
      refine lv_astore (lv' := [(4, .ref (ad 3 j7)), (0, .ref (ad 5 0)), (1, .ref (ad 0 x1_)), (2, .int x2_), (3, .int x3_)]) hx hb dX10_gatherCandidates_31 hl (by decide) rfl (fun ls hl => ?_)
      refine lv_aload hx hb dX10_gatherCandidates_33 (lv_at hl 0 rfl) ?_
      refine lv_aload_n hx hb dX10_gatherCandidates_35 rfl (lv_at hl 1 rfl) ?_
      refine cg C hH 5 0 (by decide) (Nat.le_of_ble_eq_true rfl) rfl rfl ixX10 11 (by decide) rfl wd_247 rfl dX10_gatherCandidates_36 ?_
      refine lv_iload_n hx hb dX10_gatherCandidates_39 rfl (lv_at hl 3 rfl) ?_
      refine ccVi0 C hH (crecv C hH 3 j7 (by decide) h8 rfl rfl (q := (RX3, TX3, 10))) [.int (tF t 171 0), .int x2_] (c_Man_mayGo l D Z E ad t j7 (tF t 171 0) x2_ _ hw) (cwTV 2 hts wd_888 wd_889 wd_890 wd_18 wd_891 rfl rfl (by decide +kernel) ⟨Nat.le_of_ble_eq_true rfl, Nat.le_of_ble_eq_true rfl⟩) rfl hl.1 rfl (Nat.le_of_ble_eq_true rfl) dX10_gatherCandidates_40 hu (fun r10 t9 H locs hw hH => ?_)
      refine lv_if_eq (tgt := 56) hx hb dX10_gatherCandidates_43 (by decide) (fun c11 => ?_) (fun c11 => ?_)
      · have hw := ifp c11 hw
        exact b_C_gatherCandidates_56 C hr hk ih uc us t9 x1_ x2_ x3_ hw hu _ _ _ hH (lv_sub hl [1, 2, 3, 4] rfl)
      · have hw := ifn c11 hw
        refine lv_aload_n hx hb dX10_gatherCandidates_46 rfl (lv_at hl 1 rfl) ?_
        refine cg C hH 5 0 (by decide) (Nat.le_of_ble_eq_true rfl) rfl rfl ixX10 10 (by decide) rfl wd_246 rfl dX10_gatherCandidates_47 ?_
        refine lv_aload hx hb dX10_gatherCandidates_50 (lv_at hl 0 rfl) ?_
        obtain ⟨h12, hw⟩ := hw
        obtain ⟨h13, hw⟩ := hw
        obtain ⟨h14, hw⟩ := hw
        obtain ⟨hu, hw⟩ := hw
        refine lAddR C hH 6 j7 (Nat.lt_of_lt_of_le (show 6 < 11 by decide) (Nat.le_add_left _ _)) h12 h13 h14 wd_103 hl.1 (Nat.le_of_ble_eq_true rfl) dX10_gatherCandidates_52 hu ⟨Nat.le_of_ble_eq_true rfl, Nat.le_of_ble_eq_true rfl⟩ (fun H locs hH => ?_)
        obtain ⟨c16, ec16⟩ : ∃ x : Nat, x = (uc + aC (tT t9 6).length (tK t9 6)) := ⟨_, rfl⟩
        obtain ⟨s17, es17⟩ : ∃ x : Nat, x = (us + aS (tT t9 6).length (tK t9 6)) := ⟨_, rfl⟩
        have hw := hw c16 s17 ec16 es17
        rw [← ec16, ← es17] at hu ⊢
        obtain ⟨t18, et18⟩ : ∃ x : CS, x = lAdd t9 6 j7 := ⟨_, rfl⟩
        rw [← et18] at hH
        have hw := hw t18 et18
        refine lv_pop hx hb dX10_gatherCandidates_55 rfl ?_
        exact b_C_gatherCandidates_56 C hr hk ih c16 s17 t18 x1_ x2_ x3_ hw hu _ _ _ hH (lv_sub hl [1, 2, 3, 4] rfl)
def wp_C_gatherCandidates (mc ms : Nat) (t : CS) (a1 : Nat) (a2 : Int32) (post : CS → Prop) : Prop := (tT t 6).length < 2 ^ 31 ∧ (∀ t20 : CS, t20 = sT t 6 [] → (∃ nn : Nat, wp_C_gatherCandidates_9 mc ms post nn 0 0 t20 a1 a2 (0 : Int32)))
set_option maxHeartbeats 4000000 in
set_option maxRecDepth 100000 in
theorem c_C_gatherCandidates (l : Launch) (D : va_G) (Z : Nat → ClassId) (E : Nat → Nat) (ad : Nat → Nat → Nat) (mc ms : Nat) (t : CS) (a1 : Nat) (a2 : Int32) (post : CS → Prop) (hw : wp_C_gatherCandidates mc ms t a1 a2 post) (L : List Nat) (sz : Nat) : Met l yX10_gatherCandidates (Wd yX10_gatherCandidates cX10_gatherCandidates 5 (none)) (rm_C_gatherCandidates mc ms) (va_Pc [.ref (ad 5 0), .ref (ad 0 a1), .int a2] (cPre D Z E ad L sz t)) (va_Qv post (cPost D Z E ad (cAs L sz)) (cAs L sz)) mc ms (cAs L sz) := by
  refine cMet (Qc := fun A => va_Qv post (cPost D Z E ad A) A) (by decide) rfl _ (Nat.le_of_ble_eq_true rfl) (fun p e s m args below meth c A C hr hk ls hl hH => ?_) L sz
  obtain ⟨⟨hx, hb, hml, hown, hts⟩, hK⟩ := id C
  have hl : lv_has ls 5 [(0, .ref (ad 5 0)), (1, .ref (ad 0 a1)), (2, .int a2)] := hl
  have hu : 0 ≤ mc ∧ 0 ≤ ms := ⟨Nat.zero_le _, Nat.zero_le _⟩
  unfold wp_C_gatherCandidates at hw
  refine lv_aload_n hx hb dX10_gatherCandidates_0 rfl (lv_at hl 0 rfl) ?_
  refine cg C hH 5 0 (by decide) (Nat.le_of_ble_eq_true rfl) rfl rfl ixX10 10 (by decide) rfl wd_246 rfl dX10_gatherCandidates_1 ?_
  obtain ⟨h19, hw⟩ := hw
  refine lClear C hH 6 (Nat.lt_of_lt_of_le (show 6 < 11 by decide) (Nat.le_add_left _ _)) h19 wd_884 hl.1 (Nat.le_of_ble_eq_true rfl) dX10_gatherCandidates_4 hu ⟨Nat.le_of_ble_eq_true rfl, Nat.le_of_ble_eq_true rfl⟩ (fun H locs hH => ?_)
  obtain ⟨t20, et20⟩ : ∃ x : CS, x = sT t 6 [] := ⟨_, rfl⟩
  rw [← et20] at hH
  have hw := hw t20 et20
  refine lv_iconst (v := 0) hx hb dX10_gatherCandidates_7 (by decide) ?_
  refine lv_istore_n (lv' := [(3, .int (0 : Int32)), (0, .ref (ad 5 0)), (1, .ref (ad 0 a1)), (2, .int a2)]) hx hb dX10_gatherCandidates_8 rfl hl (by decide) rfl (fun ls hl => ?_)
  obtain ⟨nn, hw⟩ := hw
  exact b_C_gatherCandidates_9 C hr hk  nn 0 0 t20 a1 a2 (0 : Int32) hw hu _ _ _ hH (lv_sub hl [1, 2, 3, 0] rfl)
/-! PorterTurns.chooseGang -/
abbrev rm_C_chooseGang (mc ms : Nat) : Room := { frames := 8, cells := mc, slots := ms, locals := 545 }
def wp_C_chooseGang_177 (mc ms : Nat) (k60 : Nat → Nat → CS → Nat → Int32 → Int32 → Int32 → Int32 → Prop) (post : Int32 → CS → Prop) (uc us : Nat) (t : CS) (x2_ : Nat) (x3_ : Int32) (x4_ : Int32) (x5_ : Int32) (x6_ : Int32) : Prop := ∀ x1 : Int32, x1 = x6_ + (1 : Int32) → (k60 uc us t x2_ x3_ x4_ x5_ x1)
set_option maxHeartbeats 4000000 in
set_option maxRecDepth 100000 in
theorem b_C_chooseGang_177 {p : Program} {l : Launch} {e : Env} {s : State} {m : MethodId} {args : Array Value} {below : List Frame} {meth : Method} {c : Code} {D : va_G} {Z : Nat → ClassId} {E : Nat → Nat} {ad : Nat → Nat → Nat} {A : Nat → Prop} (C : CC p s m args c cX10_chooseGang 10 RX10 D Z E A) (hr : meth.sig.returnType = some .boolean) (hk : meth.locks = false) {mc ms : Nat} {post : Int32 → CS → Prop} {k60 : Nat → Nat → CS → Nat → Int32 → Int32 → Int32 → Int32 → Prop} (hk60 : ∀ (uc us : Nat) (t : CS) (y2 : Nat) (y3 : Int32) (y4 : Int32) (y5 : Int32) (y6 : Int32), k60 uc us t y2 y3 y4 y5 y6 → (uc ≤ mc ∧ us ≤ ms) → ∀ (H : Heap) (locs : List Loc) (ls : Array Slot), CH D Z E ad A s.heap t H locs → lv_has ls 10 [(0, .ref (ad 5 0)), (2, .ref (ad 2 y2)), (3, .int y3), (4, .int y4), (5, .int y5), (6, .int y6)] → CWi p l e (rm_C_chooseGang mc ms) s m args below meth c D Z E ad A mc ms post H locs uc us (F0 m 60 ls [])) : ∀ (uc us : Nat) (t : CS) (x2_ : Nat) (x3_ : Int32) (x4_ : Int32) (x5_ : Int32) (x6_ : Int32), wp_C_chooseGang_177 mc ms k60 post uc us t x2_ x3_ x4_ x5_ x6_ → (uc ≤ mc ∧ us ≤ ms) → ∀ (H : Heap) (locs : List Loc) (ls : Array Slot), CH D Z E ad A s.heap t H locs → lv_has ls 10 [(0, .ref (ad 5 0)), (2, .ref (ad 2 x2_)), (3, .int x3_), (4, .int x4_), (5, .int x5_), (6, .int x6_)] → CWi p l e (rm_C_chooseGang mc ms) s m args below meth c D Z E ad A mc ms post H locs uc us (F0 m 177 ls []) := by
  obtain ⟨⟨hx, hb, hml, hown, hts⟩, hK⟩ := id C
  intro uc us t x2_ x3_ x4_ x5_ x6_ hw hu H locs ls hH hl
  unfold wp_C_chooseGang_177 at hw
  obtain ⟨x1, ex1⟩ : ∃ y : Int32, y = x6_ + (1 : Int32) := ⟨_, rfl⟩
  have hw := hw x1 ex1
  refine lv_iinc (v := x1) (lv' := [(6, .int x1), (0, .ref (ad 5 0)), (2, .ref (ad 2 x2_)), (3, .int x3_), (4, .int x4_), (5, .int x5_)]) hx hb dX10_chooseGang_177 hl (k := 5) rfl (by rw [ex1]; rfl) (by decide) rfl (fun ls hl => ?_)
  refine lv_goto (tgt := 60) hx hb dX10_chooseGang_180 (by decide) ?_
  exact hk60 uc us t x2_ x3_ x4_ x5_ x1 hw hu _ _ _ hH (lv_sub hl [1, 2, 3, 4, 5, 0] rfl)
def wp_C_chooseGang_118 (mc ms : Nat) (k60 : Nat → Nat → CS → Nat → Int32 → Int32 → Int32 → Int32 → Prop) (post : Int32 → CS → Prop) (uc us : Nat) (t : CS) (x2_ : Nat) (x3_ : Int32) (x4_ : Int32) (x5_ : Int32) (x6_ : Int32) (x8_ : Int32) : Prop := vp_in x8_ (tT t 6).length ∧ ((tT t 6).length < 2 ^ 31 ∧ (elOk t 6 ∧ (∀ j5 : Nat, j5 = ((tT t 6).getD x8_.toNatClampNeg 0) → (∀ t6 : CS, t6 = sT t 6 ((tT t 6).eraseIdx x8_.toNatClampNeg) → (j5 < tN t6 3 ∧ (tK t6 5 < 2 ^ 20 ∧ (elOk t6 5 ∧ (((uc + aC (tT t6 5).length (tK t6 5)) ≤ mc ∧ (us + aS (tT t6 5).length (tK t6 5)) ≤ ms) ∧ (∀ c11 s12 : Nat, c11 = (uc + aC (tT t6 5).length (tK t6 5)) → s12 = (us + aS (tT t6 5).length (tK t6 5)) → (∀ t13 : CS, t13 = lAdd t6 5 j5 → (j5 < tN t13 3 ∧ (∀ x15 : Int32, x15 = (x5_ + (tF t13 98 j5)) → (if x6_ < x4_ then (wp_C_chooseGang_177 mc ms (k60) post c11 s12 t13 x2_ x3_ x4_ x15 x6_) else (x2_ < tN t13 2 ∧ (if ((4 : Int32) * x15) < ((tF t13 66 x2_) + (tF t13 70 x2_)) then (wp_C_chooseGang_177 mc ms (k60) post c11 s12 t13 x2_ x3_ x4_ x15 x6_) else (post (1 : Int32) t13))))))))))))))))
set_option maxHeartbeats 4000000 in
set_option maxRecDepth 100000 in
theorem b_C_chooseGang_118 {p : Program} {l : Launch} {e : Env} {s : State} {m : MethodId} {args : Array Value} {below : List Frame} {meth : Method} {c : Code} {D : va_G} {Z : Nat → ClassId} {E : Nat → Nat} {ad : Nat → Nat → Nat} {A : Nat → Prop} (C : CC p s m args c cX10_chooseGang 10 RX10 D Z E A) (hr : meth.sig.returnType = some .boolean) (hk : meth.locks = false) {mc ms : Nat} {post : Int32 → CS → Prop} {k60 : Nat → Nat → CS → Nat → Int32 → Int32 → Int32 → Int32 → Prop} (hk60 : ∀ (uc us : Nat) (t : CS) (y2 : Nat) (y3 : Int32) (y4 : Int32) (y5 : Int32) (y6 : Int32), k60 uc us t y2 y3 y4 y5 y6 → (uc ≤ mc ∧ us ≤ ms) → ∀ (H : Heap) (locs : List Loc) (ls : Array Slot), CH D Z E ad A s.heap t H locs → lv_has ls 10 [(0, .ref (ad 5 0)), (2, .ref (ad 2 y2)), (3, .int y3), (4, .int y4), (5, .int y5), (6, .int y6)] → CWi p l e (rm_C_chooseGang mc ms) s m args below meth c D Z E ad A mc ms post H locs uc us (F0 m 60 ls [])) : ∀ (uc us : Nat) (t : CS) (x2_ : Nat) (x3_ : Int32) (x4_ : Int32) (x5_ : Int32) (x6_ : Int32) (x8_ : Int32), wp_C_chooseGang_118 mc ms k60 post uc us t x2_ x3_ x4_ x5_ x6_ x8_ → (uc ≤ mc ∧ us ≤ ms) → ∀ (H : Heap) (locs : List Loc) (ls : Array Slot), CH D Z E ad A s.heap t H locs → lv_has ls 10 [(0, .ref (ad 5 0)), (2, .ref (ad 2 x2_)), (3, .int x3_), (4, .int x4_), (5, .int x5_), (6, .int x6_), (8, .int x8_)] → CWi p l e (rm_C_chooseGang mc ms) s m args below meth c D Z E ad A mc ms post H locs uc us (F0 m 118 ls []) := by
  obtain ⟨⟨hx, hb, hml, hown, hts⟩, hK⟩ := id C
  intro uc us t x2_ x3_ x4_ x5_ x6_ x8_ hw hu H locs ls hH hl
  unfold wp_C_chooseGang_118 at hw
  refine lv_aload_n hx hb dX10_chooseGang_118 rfl (lv_at hl 0 rfl) ?_
  refine cg C hH 5 0 (by decide) (Nat.le_of_ble_eq_true rfl) rfl rfl ixX10 10 (by decide) rfl wd_246 rfl dX10_chooseGang_119 ?_
  refine lv_iload hx hb dX10_chooseGang_122 (lv_at hl 6 rfl) ?_
  obtain ⟨h2, hw⟩ := hw
  obtain ⟨h3, hw⟩ := hw
  obtain ⟨h4, hw⟩ := hw
  refine lRemove C hH 6 (Nat.lt_of_lt_of_le (show 6 < 11 by decide) (Nat.le_add_left _ _)) h2 h3 h4 wd_895 hl.1 (Nat.le_of_ble_eq_true rfl) dX10_chooseGang_124 hu ⟨Nat.le_of_ble_eq_true rfl, Nat.le_of_ble_eq_true rfl⟩ (fun H locs hH => ?_)
  obtain ⟨j5, ej5⟩ : ∃ x : Nat, x = ((tT t 6).getD x8_.toNatClampNeg 0) := ⟨_, rfl⟩
  rw [← ej5]
  have hw := hw j5 ej5
  obtain ⟨t6, et6⟩ : ∃ x : CS, x = sT t 6 ((tT t 6).eraseIdx x8_.toNatClampNeg) := ⟨_, rfl⟩
  rw [← et6] at hH
  have hw := hw t6 et6
  obtain ⟨h7, hw⟩ := hw
  refine cCast C hH 3 j5 (by decide) h7 rfl rfl wd_374 dX10_chooseGang_127 ?_
  refine lv_astore (lv' := [(9, .ref (ad 3 j5)), (0, .ref (ad 5 0)), (2, .ref (ad 2 x2_)), (3, .int x3_), (4, .int x4_), (5, .int x5_), (6, .int x6_), (8, .int x8_)]) hx hb dX10_chooseGang_130 hl (by decide) rfl (fun ls hl => ?_)
  refine lv_aload_n hx hb dX10_chooseGang_132 rfl (lv_at hl 1 rfl) ?_
  refine cg C hH 5 0 (by decide) (Nat.le_of_ble_eq_true rfl) rfl rfl ixX10 9 (by decide) rfl wd_245 rfl dX10_chooseGang_133 ?_
  refine lv_aload hx hb dX10_chooseGang_136 (lv_at hl 0 rfl) ?_
  obtain ⟨h8, hw⟩ := hw
  obtain ⟨h9, hw⟩ := hw
  obtain ⟨hu, hw⟩ := hw
  refine lAddR C hH 5 j5 (Nat.lt_of_lt_of_le (show 5 < 11 by decide) (Nat.le_add_left _ _)) h8 h9 h7 wd_103 hl.1 (Nat.le_of_ble_eq_true rfl) dX10_chooseGang_138 hu ⟨Nat.le_of_ble_eq_true rfl, Nat.le_of_ble_eq_true rfl⟩ (fun H locs hH => ?_)
  obtain ⟨c11, ec11⟩ : ∃ x : Nat, x = (uc + aC (tT t6 5).length (tK t6 5)) := ⟨_, rfl⟩
  obtain ⟨s12, es12⟩ : ∃ x : Nat, x = (us + aS (tT t6 5).length (tK t6 5)) := ⟨_, rfl⟩
  have hw := hw c11 s12 ec11 es12
  rw [← ec11, ← es12] at hu ⊢
  obtain ⟨t13, et13⟩ : ∃ x : CS, x = lAdd t6 5 j5 := ⟨_, rfl⟩
  rw [← et13] at hH
  have hw := hw t13 et13
  refine lv_pop hx hb dX10_chooseGang_141 rfl ?_
  refine lv_iload hx hb dX10_chooseGang_142 (lv_at hl 5 rfl) ?_
  refine lv_aload hx hb dX10_chooseGang_144 (lv_at hl 0 rfl) ?_
  obtain ⟨h14, hw⟩ := hw
  refine cg C hH 3 j5 (by decide) h14 rfl rfl ixX3 2 (by decide) rfl wd_388 rfl dX10_chooseGang_146 ?_
  refine lv_iadd hx hb dX10_chooseGang_149 ?_
  refine lv_topi (fun x15 ex15 => ?_)
  have hw := hw x15 ex15
  refine lv_istore (lv' := [(5, .int x15), (9, .ref (ad 3 j5)), (0, .ref (ad 5 0)), (2, .ref (ad 2 x2_)), (3, .int x3_), (4, .int x4_), (6, .int x6_), (8, .int x8_)]) hx hb dX10_chooseGang_150 hl (by decide) rfl (fun ls hl => ?_)
  refine lv_iload hx hb dX10_chooseGang_152 (lv_at hl 6 rfl) ?_
  refine lv_iload hx hb dX10_chooseGang_154 (lv_at hl 5 rfl) ?_
  refine lv_icmp_lt (tgt := 177) hx hb dX10_chooseGang_156 (by decide) (fun c16 => ?_) (fun c16 => ?_)
  · have hw := ifp c16 hw
    exact b_C_chooseGang_177 C hr hk hk60 c11 s12 t13 x2_ x3_ x4_ x15 x6_ hw hu _ _ _ hH (lv_sub hl [2, 3, 4, 5, 0, 6] rfl)
  · have hw := ifn c16 hw
    refine lv_iconst (v := 4) hx hb dX10_chooseGang_159 (by decide) ?_
    refine lv_iload hx hb dX10_chooseGang_160 (lv_at hl 0 rfl) ?_
    refine lv_imul hx hb dX10_chooseGang_162 ?_
    refine lv_aload_n hx hb dX10_chooseGang_163 rfl (lv_at hl 3 rfl) ?_
    obtain ⟨h17, hw⟩ := hw
    refine cg C hH 2 x2_ (by decide) h17 rfl rfl ixX2 2 (by decide) rfl wd_786 rfl dX10_chooseGang_164 ?_
    refine lv_aload_n hx hb dX10_chooseGang_167 rfl (lv_at hl 3 rfl) ?_
    refine cg C hH 2 x2_ (by decide) h17 rfl rfl ixX2 6 (by decide) rfl wd_795 rfl dX10_chooseGang_168 ?_
    refine lv_iadd hx hb dX10_chooseGang_171 ?_
    refine lv_icmp_lt (tgt := 177) hx hb dX10_chooseGang_172 (by decide) (fun c18 => ?_) (fun c18 => ?_)
    · have hw := ifp c18 hw
      exact b_C_chooseGang_177 C hr hk hk60 c11 s12 t13 x2_ x3_ x4_ x15 x6_ hw hu _ _ _ hH (lv_sub hl [2, 3, 4, 5, 0, 6] rfl)
    · have hw := ifn c18 hw
      refine lv_iconst (v := 1) hx hb dX10_chooseGang_175 (by decide) ?_
      exact crz C hr hk hH hu.1 hu.2 bz1 hw dX10_chooseGang_176
def wp_C_chooseGang_60 (mc ms : Nat) (post : Int32 → CS → Prop) : Nat → Nat → Nat → CS → Nat → Int32 → Int32 → Int32 → Int32 → Prop
  | 0 => fun _ _ _ _ _ _ _ _ => False
  | n + 1 => fun uc us t x2_ x3_ x4_ x5_ x6_ => if (8 : Int32) < x6_ then (post (0 : Int32) t) else (∀ x20 : Int32, x20 = (nI (tT t 6).length) → (if x20 = 0 then (post (0 : Int32) t) else (if x3_ = 0 then (wp_C_chooseGang_118 mc ms (wp_C_chooseGang_60 mc ms post n) post uc us t x2_ x3_ x4_ x5_ x6_ (0 : Int32)) else (∀ t23 : CS, t23 = sF t 172 0 (((tF t 172 0) * (1103515245 : Int32)) + (12345 : Int32)) → (¬ x20 = 0 ∧ (∀ x25 : Int32, x25 = ((((tF t23 172 0).toUInt32 >>> ((8 : Int32).toUInt32 &&& Int32.toUInt32 31)).toInt32) - (((tF t23 172 0).toUInt32 >>> ((8 : Int32).toUInt32 &&& Int32.toUInt32 31)).toInt32) / x20 * x20) → (wp_C_chooseGang_118 mc ms (wp_C_chooseGang_60 mc ms post n) post uc us t23 x2_ x3_ x4_ x5_ x6_ x25)))))))
set_option maxHeartbeats 4000000 in
set_option maxRecDepth 100000 in
theorem b_C_chooseGang_60 {p : Program} {l : Launch} {e : Env} {s : State} {m : MethodId} {args : Array Value} {below : List Frame} {meth : Method} {c : Code} {D : va_G} {Z : Nat → ClassId} {E : Nat → Nat} {ad : Nat → Nat → Nat} {A : Nat → Prop} (C : CC p s m args c cX10_chooseGang 10 RX10 D Z E A) (hr : meth.sig.returnType = some .boolean) (hk : meth.locks = false) {mc ms : Nat} {post : Int32 → CS → Prop} : ∀ (n : Nat) (uc us : Nat) (t : CS) (x2_ : Nat) (x3_ : Int32) (x4_ : Int32) (x5_ : Int32) (x6_ : Int32), wp_C_chooseGang_60 mc ms post n uc us t x2_ x3_ x4_ x5_ x6_ → (uc ≤ mc ∧ us ≤ ms) → ∀ (H : Heap) (locs : List Loc) (ls : Array Slot), CH D Z E ad A s.heap t H locs → lv_has ls 10 [(0, .ref (ad 5 0)), (2, .ref (ad 2 x2_)), (3, .int x3_), (4, .int x4_), (5, .int x5_), (6, .int x6_)] → CWi p l e (rm_C_chooseGang mc ms) s m args below meth c D Z E ad A mc ms post H locs uc us (F0 m 60 ls []) := by
  obtain ⟨⟨hx, hb, hml, hown, hts⟩, hK⟩ := id C
  intro n
  induction n with
  | zero => intro uc us t x2_ x3_ x4_ x5_ x6_ hw; exact hw.elim
  | succ n ih =>
    intro uc us t x2_ x3_ x4_ x5_ x6_ hw hu H locs ls hH hl
    unfold wp_C_chooseGang_60 at hw
    refine lv_iload hx hb dX10_chooseGang_60 (lv_at hl 5 rfl) ?_
    refine lv_bipush (v := 8) hx hb dX10_chooseGang_62 (by decide) ?_
    refine lv_icmp_gt (tgt := 183) hx hb dX10_chooseGang_64 (by decide) (fun c19 => ?_) (fun c19 => ?_)
    · have hw := ifp c19 hw
      refine lv_iconst (v := 0) hx hb dX10_chooseGang_183 (by decide) ?_
      exact crz C hr hk hH hu.1 hu.2 bz0 hw dX10_chooseGang_184
    · have hw := ifn c19 hw
      refine lv_aload_n hx hb dX10_chooseGang_67 rfl (lv_at hl 0 rfl) ?_
      refine cg C hH 5 0 (by decide) (Nat.le_of_ble_eq_true rfl) rfl rfl ixX10 10 (by decide) rfl wd_246 rfl dX10_chooseGang_68 ?_
      refine lSize C hH 6 (Nat.lt_of_lt_of_le (show 6 < 11 by decide) (Nat.le_add_left _ _)) wd_283 hl.1 (Nat.le_of_ble_eq_true rfl) dX10_chooseGang_71 hu ⟨Nat.le_of_ble_eq_true rfl, Nat.le_of_ble_eq_true rfl⟩ (fun H locs hH => ?_)
      refine lv_topi (fun x20 ex20 => ?_)
      have hw := hw x20 ex20
      refine lv_istore (lv' := [(7, .int x20), (0, .ref (ad 5 0)), (2, .ref (ad 2 x2_)), (3, .int x3_), (4, .int x4_), (5, .int x5_), (6, .int x6_)]) hx hb dX10_chooseGang_74 hl (by decide) rfl (fun ls hl => ?_)
      refine lv_iload hx hb dX10_chooseGang_76 (lv_at hl 0 rfl) ?_
      refine lv_if_ne (tgt := 83) hx hb dX10_chooseGang_78 (by decide) (fun c21 => ?_) (fun c21 => ?_)
      · have hw := ifn c21 hw
        refine lv_iconst (v := 0) hx hb dX10_chooseGang_83 (by decide) ?_
        refine lv_istore (lv' := [(8, .int (0 : Int32)), (7, .int x20), (0, .ref (ad 5 0)), (2, .ref (ad 2 x2_)), (3, .int x3_), (4, .int x4_), (5, .int x5_), (6, .int x6_)]) hx hb dX10_chooseGang_84 hl (by decide) rfl (fun ls hl => ?_)
        refine lv_iload_n hx hb dX10_chooseGang_86 rfl (lv_at hl 4 rfl) ?_
        refine lv_if_eq (tgt := 118) hx hb dX10_chooseGang_87 (by decide) (fun c22 => ?_) (fun c22 => ?_)
        · have hw := ifp c22 hw
          exact b_C_chooseGang_118 C hr hk ih uc us t x2_ x3_ x4_ x5_ x6_ (0 : Int32) hw hu _ _ _ hH (lv_sub hl [2, 3, 4, 5, 6, 7, 0] rfl)
        · have hw := ifn c22 hw
          refine lv_aload_n hx hb dX10_chooseGang_90 rfl (lv_at hl 2 rfl) ?_
          refine lv_aload_n hx hb dX10_chooseGang_91 rfl (lv_at hl 2 rfl) ?_
          refine cg C hH 5 0 (by decide) (Nat.le_of_ble_eq_true rfl) rfl rfl ixX10 12 (by decide) rfl wd_248 rfl dX10_chooseGang_92 ?_
          refine lv_ldcw (own := RX10) (index := 414) (v := 1103515245) hx hb hown (hts _ wd_894) dX10_chooseGang_95 ?_
          refine lv_imul hx hb dX10_chooseGang_98 ?_
          refine lv_sipush (v := 12345) hx hb dX10_chooseGang_99 (by decide) ?_
          refine lv_iadd hx hb dX10_chooseGang_102 ?_
          refine cp C hH 5 0 172 (by decide) (Nat.le_of_ble_eq_true rfl) rfl rfl ixX10 tyX10_ok nmX10 12 (by decide) (by decide) rfl rfl wd_248 pfI rfl rfl (Nat.le_of_ble_eq_true rfl) (hs_172_PorterTurns Z ad t _) dX10_chooseGang_103 (fun H locs hH => ?_)
          obtain ⟨t23, et23⟩ : ∃ x : CS, x = sF t 172 0 (((tF t 172 0) * (1103515245 : Int32)) + (12345 : Int32)) := ⟨_, rfl⟩
          rw [← et23] at hH
          have hw := hw t23 et23
          refine lv_aload_n hx hb dX10_chooseGang_106 rfl (lv_at hl 2 rfl) ?_
          refine cg C hH 5 0 (by decide) (Nat.le_of_ble_eq_true rfl) rfl rfl ixX10 12 (by decide) rfl wd_248 rfl dX10_chooseGang_107 ?_
          refine lv_bipush (v := 8) hx hb dX10_chooseGang_110 (by decide) ?_
          refine lv_iushr hx hb dX10_chooseGang_112 rfl ?_
          refine lv_iload hx hb dX10_chooseGang_113 (lv_at hl 1 rfl) ?_
          obtain ⟨h24, hw⟩ := hw
          refine lv_irem hx hb dX10_chooseGang_115 h24 ?_
          refine lv_topi (fun x25 ex25 => ?_)
          have hw := hw x25 ex25
          refine lv_istore (lv' := [(8, .int x25), (7, .int x20), (0, .ref (ad 5 0)), (2, .ref (ad 2 x2_)), (3, .int x3_), (4, .int x4_), (5, .int x5_), (6, .int x6_)]) hx hb dX10_chooseGang_116 hl (by decide) rfl (fun ls hl => ?_)
          exact b_C_chooseGang_118 C hr hk ih uc us t23 x2_ x3_ x4_ x5_ x6_ x25 hw hu _ _ _ hH (lv_sub hl [2, 3, 4, 5, 6, 7, 0] rfl)
      · have hw := ifp c21 hw
        refine lv_iconst (v := 0) hx hb dX10_chooseGang_81 (by decide) ?_
        exact crz C hr hk hH hu.1 hu.2 bz0 hw dX10_chooseGang_82
def wp_C_chooseGang (mc ms : Nat) (t : CS) (a1 : Nat) (a2 : Nat) (a3 : Int32) (post : Int32 → CS → Prop) : Prop := a1 < tN t 0 ∧ (wp_C_saying t (nI a1) (2 : Int32) (some a2) none (fun r28 t27 => ∀ x29 : Int32, x29 = (if (1 : Int32) < (if r28 < (8 : Int32) then r28 else (8 : Int32)) then (if r28 < (8 : Int32) then r28 else (8 : Int32)) else (1 : Int32)) → (a2 < tN t27 2 ∧ (wp_C_wayMinutes t27 (tG t27 0 a2) (tG t27 1 a2) (fun r32 t31 => ∃ c34 s35 : Nat, (0 + c34 ≤ mc ∧ 0 + s35 ≤ ms) ∧ (wp_C_gatherCandidates c34 s35 t31 a1 r32 (fun  t33 => (tT t33 5).length < 2 ^ 31 ∧ (∀ t37 : CS, t37 = sT t33 5 [] → (a1 < tN t37 0 ∧ (∀ t39 : CS, t39 = sF t37 172 0 (tF t37 3 a1) → (∃ nn : Nat, wp_C_chooseGang_60 mc ms post nn (0 + c34) (0 + s35) t39 a2 a3 x29 (0 : Int32) (1 : Int32))))))))))))
set_option maxHeartbeats 4000000 in
set_option maxRecDepth 100000 in
theorem c_C_chooseGang (l : Launch) (D : va_G) (Z : Nat → ClassId) (E : Nat → Nat) (ad : Nat → Nat → Nat) (mc ms : Nat) (t : CS) (a1 : Nat) (a2 : Nat) (a3 : Int32) (post : Int32 → CS → Prop) (hw : wp_C_chooseGang mc ms t a1 a2 a3 post) (L : List Nat) (sz : Nat) : Met l yX10_chooseGang (Wd yX10_chooseGang cX10_chooseGang 10 (some .boolean)) (rm_C_chooseGang mc ms) (va_Pc [.ref (ad 5 0), .ref (ad 0 a1), .ref (ad 2 a2), .int a3] (cPre D Z E ad L sz t)) (va_Qi post (cPost D Z E ad (cAs L sz)) (cAs L sz)) mc ms (cAs L sz) := by
  refine cMet (Qc := fun A => va_Qi post (cPost D Z E ad A) A) (by decide) rfl _ (Nat.le_of_ble_eq_true rfl) (fun p e s m args below meth c A C hr hk ls hl hH => ?_) L sz
  obtain ⟨⟨hx, hb, hml, hown, hts⟩, hK⟩ := id C
  have hl : lv_has ls 10 [(0, .ref (ad 5 0)), (1, .ref (ad 0 a1)), (2, .ref (ad 2 a2)), (3, .int a3)] := hl
  have hu : 0 ≤ mc ∧ 0 ≤ ms := ⟨Nat.zero_le _, Nat.zero_le _⟩
  unfold wp_C_chooseGang at hw
  refine lv_iconst (v := 1) hx hb dX10_chooseGang_0 (by decide) ?_
  refine lv_bipush (v := 8) hx hb dX10_chooseGang_1 (by decide) ?_
  refine lv_aload_n hx hb dX10_chooseGang_3 rfl (lv_at hl 0 rfl) ?_
  refine lv_aload_n hx hb dX10_chooseGang_4 rfl (lv_at hl 1 rfl) ?_
  obtain ⟨h26, hw⟩ := hw
  refine cg C hH 0 a1 (by decide) h26 rfl rfl ixX0 0 (by decide) rfl wd_68 rfl dX10_chooseGang_5 ?_
  refine lv_iconst (v := 2) hx hb dX10_chooseGang_8 (by decide) ?_
  refine lv_aload_n hx hb dX10_chooseGang_9 rfl (lv_at hl 2 rfl) ?_
  refine lv_null hx hb dX10_chooseGang_10 ?_
  refine ccVi0 C hH (crecv C hH 5 0 (by decide) (Nat.le_of_ble_eq_true rfl) rfl rfl (q := (RX10, TX10, 13))) [.int (nI a1), .int (2 : Int32), va_rf ((some a2).map (ad 2)), va_rf (none.map (ad 3))] (c_C_saying l D Z E ad t (nI a1) (2 : Int32) (some a2) none _ hw) (cwTV 4 hts wd_704 wd_706 ws_23 wd_1 wd_707 rfl rfl (by decide +kernel) ⟨Nat.le_of_ble_eq_true rfl, Nat.le_of_ble_eq_true rfl⟩) rfl hl.1 rfl (Nat.le_of_ble_eq_true rfl) dX10_chooseGang_11 hu (fun r28 t27 H locs hw hH => ?_)
  refine va_mmin hx hb (by rw [hml, hl.1]) hown (hts _ wd_879) (hts _ wd_155) (hts _ wd_7) (hts _ wd_156) (Nat.le_of_ble_eq_true rfl) (Nat.le_of_ble_eq_true rfl) hu.1 hu.2 dX10_chooseGang_14 ?_
  refine va_mmax hx hb (by rw [hml, hl.1]) hown (hts _ wd_730) (hts _ wd_123) (hts _ wd_7) (hts _ wd_124) (Nat.le_of_ble_eq_true rfl) (Nat.le_of_ble_eq_true rfl) hu.1 hu.2 dX10_chooseGang_17 ?_
  refine lv_topi (fun x29 ex29 => ?_)
  have hw := hw x29 ex29
  refine lv_istore (lv' := [(4, .int x29), (0, .ref (ad 5 0)), (1, .ref (ad 0 a1)), (2, .ref (ad 2 a2)), (3, .int a3)]) hx hb dX10_chooseGang_20 hl (by decide) rfl (fun ls hl => ?_)
  refine lv_aload_n hx hb dX10_chooseGang_22 rfl (lv_at hl 1 rfl) ?_
  refine lv_aload_n hx hb dX10_chooseGang_23 rfl (lv_at hl 2 rfl) ?_
  refine lv_aload_n hx hb dX10_chooseGang_24 rfl (lv_at hl 1 rfl) ?_
  refine lv_aload_n hx hb dX10_chooseGang_25 rfl (lv_at hl 3 rfl) ?_
  obtain ⟨h30, hw⟩ := hw
  refine cg C hH 2 a2 (by decide) h30 rfl rfl ixX2 3 (by decide) rfl wd_788 rfl dX10_chooseGang_26 ?_
  refine lv_aload_n hx hb dX10_chooseGang_29 rfl (lv_at hl 3 rfl) ?_
  refine cg C hH 2 a2 (by decide) h30 rfl rfl ixX2 4 (by decide) rfl wd_790 rfl dX10_chooseGang_30 ?_
  refine ccVi0 C hH (crecv C hH 5 0 (by decide) (Nat.le_of_ble_eq_true rfl) rfl rfl (q := (RX10, TX10, 13))) [.ref (ad 4 (tG t27 0 a2)), .ref (ad 4 (tG t27 1 a2))] (c_C_wayMinutes l D Z E ad t27 (tG t27 0 a2) (tG t27 1 a2) _ hw) (cwTV 2 hts wd_358 wd_360 ws_4 wd_1 wd_361 rfl rfl (by decide +kernel) ⟨Nat.le_of_ble_eq_true rfl, Nat.le_of_ble_eq_true rfl⟩) rfl hl.1 rfl (Nat.le_of_ble_eq_true rfl) dX10_chooseGang_33 hu (fun r32 t31 H locs hw hH => ?_)
  obtain ⟨c34, s35, hu, hw⟩ := hw
  refine ccVv C hH (crecv C hH 5 0 (by decide) (Nat.le_of_ble_eq_true rfl) rfl rfl (q := (RX10, TX10, 13))) [.ref (ad 0 a1), .int r32] (c_C_gatherCandidates l D Z E ad c34 s35 t31 a1 r32 _ hw) (cwTV 2 hts wd_880 wd_882 ws_31 wd_1 wd_883 rfl rfl (by decide +kernel) ⟨Nat.le_of_ble_eq_true rfl, Nat.le_of_ble_eq_true rfl⟩) rfl hl.1 rfl (Nat.le_of_ble_eq_true rfl) dX10_chooseGang_36 hu (fun  t33 H locs hw hH => ?_)
  refine lv_aload_n hx hb dX10_chooseGang_39 rfl (lv_at hl 1 rfl) ?_
  refine cg C hH 5 0 (by decide) (Nat.le_of_ble_eq_true rfl) rfl rfl ixX10 9 (by decide) rfl wd_245 rfl dX10_chooseGang_40 ?_
  obtain ⟨h36, hw⟩ := hw
  refine lClear C hH 5 (Nat.lt_of_lt_of_le (show 5 < 11 by decide) (Nat.le_add_left _ _)) h36 wd_884 hl.1 (Nat.le_of_ble_eq_true rfl) dX10_chooseGang_43 hu ⟨Nat.le_of_ble_eq_true rfl, Nat.le_of_ble_eq_true rfl⟩ (fun H locs hH => ?_)
  obtain ⟨t37, et37⟩ : ∃ x : CS, x = sT t33 5 [] := ⟨_, rfl⟩
  rw [← et37] at hH
  have hw := hw t37 et37
  refine lv_aload_n hx hb dX10_chooseGang_46 rfl (lv_at hl 1 rfl) ?_
  refine lv_aload_n hx hb dX10_chooseGang_47 rfl (lv_at hl 2 rfl) ?_
  obtain ⟨h38, hw⟩ := hw
  refine cg C hH 0 a1 (by decide) h38 rfl rfl ixX0 3 (by decide) rfl wd_72 rfl dX10_chooseGang_48 ?_
  refine cp C hH 5 0 172 (by decide) (Nat.le_of_ble_eq_true rfl) rfl rfl ixX10 tyX10_ok nmX10 12 (by decide) (by decide) rfl rfl wd_248 pfI rfl rfl (Nat.le_of_ble_eq_true rfl) (hs_172_PorterTurns Z ad t37 _) dX10_chooseGang_51 (fun H locs hH => ?_)
  obtain ⟨t39, et39⟩ : ∃ x : CS, x = sF t37 172 0 (tF t37 3 a1) := ⟨_, rfl⟩
  rw [← et39] at hH
  have hw := hw t39 et39
  refine lv_iconst (v := 0) hx hb dX10_chooseGang_54 (by decide) ?_
  refine lv_istore (lv' := [(5, .int (0 : Int32)), (4, .int x29), (0, .ref (ad 5 0)), (1, .ref (ad 0 a1)), (2, .ref (ad 2 a2)), (3, .int a3)]) hx hb dX10_chooseGang_55 hl (by decide) rfl (fun ls hl => ?_)
  refine lv_iconst (v := 1) hx hb dX10_chooseGang_57 (by decide) ?_
  refine lv_istore (lv' := [(6, .int (1 : Int32)), (5, .int (0 : Int32)), (4, .int x29), (0, .ref (ad 5 0)), (1, .ref (ad 0 a1)), (2, .ref (ad 2 a2)), (3, .int a3)]) hx hb dX10_chooseGang_58 hl (by decide) rfl (fun ls hl => ?_)
  obtain ⟨nn, hw⟩ := hw
  exact b_C_chooseGang_60 C hr hk  nn (0 + c34) (0 + s35) t39 a2 a3 x29 (0 : Int32) (1 : Int32) hw hu _ _ _ hH (lv_sub hl [3, 5, 6, 2, 1, 0] rfl)
/-! PorterTurns.why -/
abbrev rm_C_why (mc ms : Nat) : Room := { frames := 9, cells := mc, slots := ms, locals := 574 }
def wp_C_why (mc ms : Nat) (t : CS) (a1 : Int32) (a2 : Int32) (post : Int32 → CS → Prop) : Prop := wp_C_fellowshipAt t a1 (fun o2 t1 => wp_C_loadAt t1 a2 (fun o4 t3 => oM o2 (post (-1 : Int32) t3) (fun j5 => oM o4 (post (-1 : Int32) t3) (fun j6 => wp_C_hindrance t3 j5 j6 (fun r8 t7 => if r8 = 0 then (∃ c12 s13 : Nat, (0 + c12 ≤ mc ∧ 0 + s13 ≤ ms) ∧ (wp_C_chooseGang c12 s13 t7 j5 j6 (0 : Int32) (fun r11 t10 => if r11 = 0 then (post (6 : Int32) t10) else (post r8 t10)))) else (post r8 t7))))))
set_option maxHeartbeats 4000000 in
set_option maxRecDepth 100000 in
theorem c_C_why (l : Launch) (D : va_G) (Z : Nat → ClassId) (E : Nat → Nat) (ad : Nat → Nat → Nat) (mc ms : Nat) (t : CS) (a1 : Int32) (a2 : Int32) (post : Int32 → CS → Prop) (hw : wp_C_why mc ms t a1 a2 post) (L : List Nat) (sz : Nat) : Met l yX10_why (Wd yX10_why cX10_why 6 (some .int)) (rm_C_why mc ms) (va_Pc [.ref (ad 5 0), .int a1, .int a2] (cPre D Z E ad L sz t)) (va_Qi post (cPost D Z E ad (cAs L sz)) (cAs L sz)) mc ms (cAs L sz) := by
  refine cMet (Qc := fun A => va_Qi post (cPost D Z E ad A) A) (by decide) rfl _ (Nat.le_of_ble_eq_true rfl) (fun p e s m args below meth c A C hr hk ls hl hH => ?_) L sz
  obtain ⟨⟨hx, hb, hml, hown, hts⟩, hK⟩ := id C
  have hl : lv_has ls 6 [(0, .ref (ad 5 0)), (1, .int a1), (2, .int a2)] := hl
  have hu : 0 ≤ mc ∧ 0 ≤ ms := ⟨Nat.zero_le _, Nat.zero_le _⟩
  unfold wp_C_why at hw
  refine lv_aload_n hx hb dX10_why_0 rfl (lv_at hl 0 rfl) ?_
  refine lv_iload_n hx hb dX10_why_1 rfl (lv_at hl 1 rfl) ?_
  refine ccVq0 C hH (crecv C hH 5 0 (by decide) (Nat.le_of_ble_eq_true rfl) rfl rfl (q := (RX10, TX10, 13))) [.int a1] (c_C_fellowshipAt l D Z E ad t a1 _ hw) (cwTV 1 hts wd_370 wd_372 ws_5 wd_1 wd_373 rfl rfl (by decide +kernel) ⟨Nat.le_of_ble_eq_true rfl, Nat.le_of_ble_eq_true rfl⟩) rfl hl.1 rfl (Nat.le_of_ble_eq_true rfl) dX10_why_2 hu (fun o2 t1 H locs hw hH => ?_)
  refine lq_astore_n (lv' := [(3, va_rf (o2.map (ad 0))), (0, .ref (ad 5 0)), (1, .int a1), (2, .int a2)]) hx hb dX10_why_5 rfl hl (by decide) rfl (fun ls hl => ?_)
  refine lv_aload_n hx hb dX10_why_6 rfl (lv_at hl 1 rfl) ?_
  refine lv_iload_n hx hb dX10_why_7 rfl (lv_at hl 3 rfl) ?_
  refine ccVq0 C hH (crecv C hH 5 0 (by decide) (Nat.le_of_ble_eq_true rfl) rfl rfl (q := (RX10, TX10, 13))) [.int a2] (c_C_loadAt l D Z E ad t1 a2 _ hw) (cwTV 1 hts wd_698 wd_700 ws_22 wd_1 wd_701 rfl rfl (by decide +kernel) ⟨Nat.le_of_ble_eq_true rfl, Nat.le_of_ble_eq_true rfl⟩) rfl hl.1 rfl (Nat.le_of_ble_eq_true rfl) dX10_why_8 hu (fun o4 t3 H locs hw hH => ?_)
  refine lq_astore (i := 4) (lv' := [(4, va_rf (o4.map (ad 2))), (3, va_rf (o2.map (ad 0))), (0, .ref (ad 5 0)), (1, .int a1), (2, .int a2)]) hx hb dX10_why_11 hl (by decide) (by simp [lq_cat]) (fun ls hl => ?_)
  refine lq_aload_n hx hb dX10_why_13 rfl (lv_at hl 1 rfl) ?_
  cases o2 with
  | none =>
    have hw := oM_none hw
    have hl : lv_has ls 6 [(4, va_rf (o4.map (ad 2))), (3, va_rf (none.map (ad 0))), (0, .ref (ad 5 0)), (1, .int a1), (2, .int a2)] := hl
    refine lv_ifnullN (tgt := 22) hx hb dX10_why_14 (by decide) ?_
    refine lv_iconst (v := -1) hx hb dX10_why_22 (by decide) ?_
    exact cri C hr hk hH hu.1 hu.2 hw dX10_why_23
  | some j5 =>
    have hw := oM_some hw
    have hl : lv_has ls 6 [(4, va_rf (o4.map (ad 2))), (3, .ref (ad 0 j5)), (0, .ref (ad 5 0)), (1, .int a1), (2, .int a2)] := hl
    refine lv_ifnull hx hb dX10_why_14 ?_
    refine lq_aload hx hb dX10_why_17 (lv_at hl 0 rfl) ?_
    cases o4 with
    | none =>
      have hw := oM_none hw
      have hl : lv_has ls 6 [(4, va_rf (none.map (ad 2))), (3, .ref (ad 0 j5)), (0, .ref (ad 5 0)), (1, .int a1), (2, .int a2)] := hl
      refine lv_ifnonnullN hx hb dX10_why_19 ?_
      refine lv_iconst (v := -1) hx hb dX10_why_22 (by decide) ?_
      exact cri C hr hk hH hu.1 hu.2 hw dX10_why_23
    | some j6 =>
      have hw := oM_some hw
      have hl : lv_has ls 6 [(4, .ref (ad 2 j6)), (3, .ref (ad 0 j5)), (0, .ref (ad 5 0)), (1, .int a1), (2, .int a2)] := hl
      refine lv_ifnonnull (tgt := 24) hx hb dX10_why_19 (by decide) ?_
      refine lv_aload_n hx hb dX10_why_24 rfl (lv_at hl 2 rfl) ?_
      refine lv_aload_n hx hb dX10_why_25 rfl (lv_at hl 1 rfl) ?_
      refine lv_aload hx hb dX10_why_26 (lv_at hl 0 rfl) ?_
      refine ccVi0 C hH (crecv C hH 5 0 (by decide) (Nat.le_of_ble_eq_true rfl) rfl rfl (q := (RX10, TX10, 13))) [.ref (ad 0 j5), .ref (ad 2 j6)] (c_C_hindrance l D Z E ad t3 j5 j6 _ hw) (cwTV 2 hts wd_867 wd_869 ws_29 wd_1 wd_870 rfl rfl (by decide +kernel) ⟨Nat.le_of_ble_eq_true rfl, Nat.le_of_ble_eq_true rfl⟩) rfl hl.1 rfl (Nat.le_of_ble_eq_true rfl) dX10_why_28 hu (fun r8 t7 H locs hw hH => ?_)
      refine lv_istore (lv' := [(5, .int r8), (4, .ref (ad 2 j6)), (3, .ref (ad 0 j5)), (0, .ref (ad 5 0)), (1, .int a1), (2, .int a2)]) hx hb dX10_why_31 hl (by decide) rfl (fun ls hl => ?_)
      refine lv_iload hx hb dX10_why_33 (lv_at hl 0 rfl) ?_
      refine lv_if_ne (tgt := 53) hx hb dX10_why_35 (by decide) (fun c9 => ?_) (fun c9 => ?_)
      · have hw := ifn c9 hw
        refine lv_iload hx hb dX10_why_53 (lv_at hl 0 rfl) ?_
        exact cri C hr hk hH hu.1 hu.2 hw dX10_why_55
      · have hw := ifp c9 hw
        refine lv_aload_n hx hb dX10_why_38 rfl (lv_at hl 3 rfl) ?_
        refine lv_aload_n hx hb dX10_why_39 rfl (lv_at hl 2 rfl) ?_
        refine lv_aload hx hb dX10_why_40 (lv_at hl 1 rfl) ?_
        refine lv_iconst (v := 0) hx hb dX10_why_42 (by decide) ?_
        obtain ⟨c12, s13, hu, hw⟩ := hw
        refine ccVi C hH (crecv C hH 5 0 (by decide) (Nat.le_of_ble_eq_true rfl) rfl rfl (q := (RX10, TX10, 13))) [.ref (ad 0 j5), .ref (ad 2 j6), .int (0 : Int32)] (c_C_chooseGang l D Z E ad c12 s13 t7 j5 j6 (0 : Int32) _ hw) (cwTV 3 hts wd_875 wd_877 ws_30 wd_1 wd_878 rfl rfl (by decide +kernel) ⟨Nat.le_of_ble_eq_true rfl, Nat.le_of_ble_eq_true rfl⟩) rfl hl.1 rfl (Nat.le_of_ble_eq_true rfl) dX10_why_43 hu (fun r11 t10 H locs hw hH => ?_)
        refine lv_if_ne (tgt := 53) hx hb dX10_why_46 (by decide) (fun c14 => ?_) (fun c14 => ?_)
        · have hw := ifn c14 hw
          refine lv_iload hx hb dX10_why_53 (lv_at hl 0 rfl) ?_
          exact cri C hr hk hH hu.1 hu.2 hw dX10_why_55
        · have hw := ifp c14 hw
          refine lv_bipush (v := 6) hx hb dX10_why_49 (by decide) ?_
          refine lv_istore (lv' := [(5, .int (6 : Int32)), (4, .ref (ad 2 j6)), (3, .ref (ad 0 j5)), (0, .ref (ad 5 0)), (1, .int a1), (2, .int a2)]) hx hb dX10_why_51 hl (by decide) rfl (fun ls hl => ?_)
          refine lv_iload hx hb dX10_why_53 (lv_at hl 0 rfl) ?_
          exact cri C hr hk hH hu.1 hu.2 hw dX10_why_55
