/-! dice -/
abbrev rm_M_dice : Room := { frames := 2, cells := 0, slots := 0, locals := 42 }
def wp_M_dice_49 (post : Int32 → MS → Prop) (σ : MS) (x1_ : Int32) (x2_ : Int32) (x3_ : Int32) (x4_ : Int32) (t1_ : Int32) (t2_ : Int32) : Prop := vp_in t1_ 4 ∧ (∀ σ2 : MS, σ2 = up2 σ 22 t1_.toNatClampNeg (vp_nar .boolean t2_) → (if x2_ = (1 : Int32) then (vp_in x1_ 4 ∧ (∀ σ5 : MS, σ5 = up2 σ2 23 x1_.toNatClampNeg x3_ → (post x4_ σ5))) else (post x4_ σ2)))
set_option maxHeartbeats 4000000 in
set_option maxRecDepth 100000 in
theorem b_M_dice_49 {p : Program} {l : Launch} {e : Env} {s : State} {m : MethodId} {args : Array Value} {below : List Frame} {meth : Method} {c : Code} {D : va_G} {Z : Nat → ClassId} {b : Nat → Nat} (C : MC p s m args c cX11_dice 5 D Z) (hr : meth.sig.returnType = some .int) (hk : meth.locks = false) {post : Int32 → MS → Prop} : ∀ (σ : MS) (x1_ : Int32) (x2_ : Int32) (x3_ : Int32) (x4_ : Int32) (t1_ : Int32) (t2_ : Int32), wp_M_dice_49  post σ x1_ x2_ x3_ x4_ t1_ t2_ → ∀ (H : Heap) (locs : List Loc) (ls : Array Slot), MH D Z b s.heap σ H locs → lv_has ls 5 [(0, .ref (b 69)), (1, .int x1_), (2, .int x2_), (3, .int x3_), (4, .int x4_)] → MWi p l e rm_M_dice s m args below meth c D Z b post H locs (F0 m 49 ls [.int t2_, .int t1_, .ref (b 22)]) := by
  obtain ⟨⟨hx, hb, hml, hown, hts⟩, hK⟩ := id C
  intro σ x1_ x2_ x3_ x4_ t1_ t2_ hw H locs ls hH hl
  unfold wp_M_dice_49 at hw
  obtain ⟨h1, hw⟩ := hw
  refine msz C hH 18 22 rfl (mast_22 Z b σ _ _) h1 dX11_dice_49 (fun H locs hH => ?_)
  have hw := hw _ rfl
  generalize up2 σ 22 t1_.toNatClampNeg (vp_nar .boolean t2_) = σ2 at hw hH
  refine lv_iload_n hx hb dX11_dice_50 rfl (lv_at hl 2 rfl) ?_
  refine lv_iconst (v := 1) hx hb dX11_dice_51 (by decide) ?_
  refine lv_icmp_ne (tgt := 62) hx hb dX11_dice_52 (by decide) (fun c3 => ?_) (fun c3 => ?_)
  · have hw := ifn c3 hw
    refine lv_iload hx hb dX11_dice_62 (lv_at hl 4 rfl) ?_
    exact mri C hr hk hH hw dX11_dice_64
  · have hw := ifp c3 hw
    refine lv_aload_n hx hb dX11_dice_55 rfl (lv_at hl 0 rfl) ?_
    refine mg C hH 23 (by decide) rfl wd_1052 rfl dX11_dice_56 ?_
    refine lv_iload_n hx hb dX11_dice_59 rfl (lv_at hl 1 rfl) ?_
    refine lv_iload_n hx hb dX11_dice_60 rfl (lv_at hl 3 rfl) ?_
    obtain ⟨h4, hw⟩ := hw
    refine msi C hH 19 23 rfl (mast_23 Z b σ2 _ _) h4 dX11_dice_61 (fun H locs hH => ?_)
    have hw := hw _ rfl
    generalize up2 σ2 23 x1_.toNatClampNeg x3_ = σ5 at hw hH
    refine lv_iload hx hb dX11_dice_62 (lv_at hl 4 rfl) ?_
    exact mri C hr hk hH hw dX11_dice_64
def wp_M_dice_32 (post : Int32 → MS → Prop) (σ : MS) (x1_ : Int32) (x2_ : Int32) (x3_ : Int32) (t0_ : Int32) : Prop := if x2_ = (1 : Int32) then (wp_M_dice_49 post σ x1_ x2_ x3_ t0_ x1_ (1 : Int32)) else (wp_M_dice_49 post σ x1_ x2_ x3_ t0_ x1_ (0 : Int32))
set_option maxHeartbeats 4000000 in
set_option maxRecDepth 100000 in
theorem b_M_dice_32 {p : Program} {l : Launch} {e : Env} {s : State} {m : MethodId} {args : Array Value} {below : List Frame} {meth : Method} {c : Code} {D : va_G} {Z : Nat → ClassId} {b : Nat → Nat} (C : MC p s m args c cX11_dice 5 D Z) (hr : meth.sig.returnType = some .int) (hk : meth.locks = false) {post : Int32 → MS → Prop} : ∀ (σ : MS) (x1_ : Int32) (x2_ : Int32) (x3_ : Int32) (t0_ : Int32), wp_M_dice_32  post σ x1_ x2_ x3_ t0_ → ∀ (H : Heap) (locs : List Loc) (ls : Array Slot), MH D Z b s.heap σ H locs → lv_has ls 5 [(0, .ref (b 69)), (1, .int x1_), (2, .int x2_), (3, .int x3_)] → MWi p l e rm_M_dice s m args below meth c D Z b post H locs (F0 m 32 ls [.int t0_]) := by
  obtain ⟨⟨hx, hb, hml, hown, hts⟩, hK⟩ := id C
  intro σ x1_ x2_ x3_ t0_ hw H locs ls hH hl
  unfold wp_M_dice_32 at hw
  refine lv_istore (lv' := [(4, .int t0_), (0, .ref (b 69)), (1, .int x1_), (2, .int x2_), (3, .int x3_)]) hx hb dX11_dice_32 hl (by decide) rfl (fun ls hl => ?_)
  refine lv_aload_n hx hb dX11_dice_34 rfl (lv_at hl 1 rfl) ?_
  refine mg C hH 22 (by decide) rfl wd_1051 rfl dX11_dice_35 ?_
  refine lv_iload_n hx hb dX11_dice_38 rfl (lv_at hl 2 rfl) ?_
  refine lv_iload_n hx hb dX11_dice_39 rfl (lv_at hl 3 rfl) ?_
  refine lv_iconst (v := 1) hx hb dX11_dice_40 (by decide) ?_
  refine lv_icmp_ne (tgt := 48) hx hb dX11_dice_41 (by decide) (fun c6 => ?_) (fun c6 => ?_)
  · have hw := ifn c6 hw
    refine lv_iconst (v := 0) hx hb dX11_dice_48 (by decide) ?_
    exact b_M_dice_49 C hr hk  σ x1_ x2_ x3_ t0_ x1_ (0 : Int32) hw _ _ _ hH (lv_sub hl [1, 2, 3, 4, 0] rfl)
  · have hw := ifp c6 hw
    refine lv_iconst (v := 1) hx hb dX11_dice_44 (by decide) ?_
    refine lv_goto (tgt := 49) hx hb dX11_dice_45 (by decide) ?_
    exact b_M_dice_49 C hr hk  σ x1_ x2_ x3_ t0_ x1_ (1 : Int32) hw _ _ _ hH (lv_sub hl [1, 2, 3, 4, 0] rfl)
def wp_M_dice (σ : MS) (a1 : Int32) (a2 : Int32) (a3 : Int32) (post : Int32 → MS → Prop) : Prop := wp_M_isFellowship σ a1 (fun r8 σ7 => if r8 = 0 then (post (-1 : Int32) σ7) else (wp_M_in σ7 a2 (0 : Int32) (1 : Int32) (fun r11 σ10 => if r11 = 0 then (post (-1 : Int32) σ10) else (vp_in a1 4 ∧ (if (σ10 22 a1.toNatClampNeg) = 0 then (wp_M_dice_32 post σ10 a1 a2 a3 (0 : Int32)) else (wp_M_dice_32 post σ10 a1 a2 a3 (1 : Int32)))))))
set_option maxHeartbeats 4000000 in
set_option maxRecDepth 100000 in
theorem c_M_dice (l : Launch) (D : va_G) (Z : Nat → ClassId) (b : Nat → Nat) (σ : MS) (a1 : Int32) (a2 : Int32) (a3 : Int32) (post : Int32 → MS → Prop) (hw : wp_M_dice σ a1 a2 a3 post) (sz : Nat) : Met l yX11_dice (Wd yX11_dice cX11_dice 5 (some .int)) rm_M_dice (va_Pc [.ref (b 69), .int a1, .int a2, .int a3] (mPre D Z b sz σ)) (va_Qi post (mPost D Z b) (mA b sz)) 0 0 (mA b sz) := by
  refine mMi (by decide) rfl _ (Nat.le_of_ble_eq_true rfl) (fun p e s m args below meth c C hr hk ls hl hH => ?_) sz
  obtain ⟨⟨hx, hb, hml, hown, hts⟩, hK⟩ := id C
  have hl : lv_has ls 5 [(0, .ref (b 69)), (1, .int a1), (2, .int a2), (3, .int a3)] := hl
  unfold wp_M_dice at hw
  refine lv_iload_n hx hb dX11_dice_0 rfl (lv_at hl 1 rfl) ?_
  refine mcSi C hH [.int a1] (fun sz => c_M_isFellowship l D Z b σ a1 _ hw sz) (cwTS 1 hts wd_1283 wd_1284 wd_14 wd_1285 rfl rfl (by decide +kernel) ⟨Nat.le_of_ble_eq_true rfl, Nat.le_of_ble_eq_true rfl⟩) rfl hl.1 rfl (Nat.le_of_ble_eq_true rfl) dX11_dice_1 ⟨Nat.zero_le _, Nat.zero_le _⟩ (fun r8 σ7 H locs hw hH => ?_)
  refine lv_if_eq (tgt := 16) hx hb dX11_dice_4 (by decide) (fun c9 => ?_) (fun c9 => ?_)
  · have hw := ifp c9 hw
    refine lv_iconst (v := -1) hx hb dX11_dice_16 (by decide) ?_
    exact mri C hr hk hH hw dX11_dice_17
  · have hw := ifn c9 hw
    refine lv_iload_n hx hb dX11_dice_7 rfl (lv_at hl 2 rfl) ?_
    refine lv_iconst (v := 0) hx hb dX11_dice_8 (by decide) ?_
    refine lv_iconst (v := 1) hx hb dX11_dice_9 (by decide) ?_
    refine mcSi C hH [.int a2, .int (0 : Int32), .int (1 : Int32)] (fun sz => c_M_in l D Z b σ7 a2 (0 : Int32) (1 : Int32) _ hw sz) (cwTS 3 hts wd_1242 wd_1243 wd_14 wd_1244 rfl rfl (by decide +kernel) ⟨Nat.le_of_ble_eq_true rfl, Nat.le_of_ble_eq_true rfl⟩) rfl hl.1 rfl (Nat.le_of_ble_eq_true rfl) dX11_dice_10 ⟨Nat.zero_le _, Nat.zero_le _⟩ (fun r11 σ10 H locs hw hH => ?_)
    refine lv_if_ne (tgt := 18) hx hb dX11_dice_13 (by decide) (fun c12 => ?_) (fun c12 => ?_)
    · have hw := ifn c12 hw
      refine lv_aload_n hx hb dX11_dice_18 rfl (lv_at hl 0 rfl) ?_
      refine mg C hH 22 (by decide) rfl wd_1051 rfl dX11_dice_19 ?_
      refine lv_iload_n hx hb dX11_dice_22 rfl (lv_at hl 1 rfl) ?_
      obtain ⟨h13, hw⟩ := hw
      refine maz C hH 18 22 rfl h13 dX11_dice_23 ?_
      refine lv_if_eq (tgt := 31) hx hb dX11_dice_24 (by decide) (fun c14 => ?_) (fun c14 => ?_)
      · have hw := ifp c14 hw
        refine lv_iconst (v := 0) hx hb dX11_dice_31 (by decide) ?_
        exact b_M_dice_32 C hr hk  σ10 a1 a2 a3 (0 : Int32) hw _ _ _ hH (lv_sub hl [0, 1, 2, 3] rfl)
      · have hw := ifn c14 hw
        refine lv_iconst (v := 1) hx hb dX11_dice_27 (by decide) ?_
        refine lv_goto (tgt := 32) hx hb dX11_dice_28 (by decide) ?_
        exact b_M_dice_32 C hr hk  σ10 a1 a2 a3 (1 : Int32) hw _ _ _ hH (lv_sub hl [0, 1, 2, 3] rfl)
    · have hw := ifp c12 hw
      refine lv_iconst (v := -1) hx hb dX11_dice_16 (by decide) ?_
      exact mri C hr hk hH hw dX11_dice_17
/-! freeMen -/
abbrev rm_M_freeMen : Room := { frames := 0, cells := 0, slots := 0, locals := 0 }
def wp_M_freeMen_63 (k4 : MS → Int32 → Int32 → Int32 → Prop) (post : Int32 → MS → Prop) (σ : MS) (x1_ : Int32) (x3_ : Int32) (t0_ : Int32) (t1_ : Int32) : Prop := ∀ x1 : Int32, x1 = (t0_ + t1_) → (∀ x2 : Int32, x2 = x3_ + (1 : Int32) → (k4 σ x1_ x1 x2))
set_option maxHeartbeats 4000000 in
set_option maxRecDepth 100000 in
theorem b_M_freeMen_63 {p : Program} {l : Launch} {e : Env} {s : State} {m : MethodId} {args : Array Value} {below : List Frame} {meth : Method} {c : Code} {D : va_G} {Z : Nat → ClassId} {b : Nat → Nat} (C : MC p s m args c cX11_freeMen 4 D Z) (hr : meth.sig.returnType = some .int) (hk : meth.locks = false) {post : Int32 → MS → Prop} {k4 : MS → Int32 → Int32 → Int32 → Prop} (hk4 : ∀ (σ : MS) (y1 : Int32) (y2 : Int32) (y3 : Int32), k4 σ y1 y2 y3 → ∀ (H : Heap) (locs : List Loc) (ls : Array Slot), MH D Z b s.heap σ H locs → lv_has ls 4 [(0, .ref (b 69)), (1, .int y1), (2, .int y2), (3, .int y3)] → MWi p l e rm_M_freeMen s m args below meth c D Z b post H locs (F0 m 4 ls [])) : ∀ (σ : MS) (x1_ : Int32) (x3_ : Int32) (t0_ : Int32) (t1_ : Int32), wp_M_freeMen_63 k4 post σ x1_ x3_ t0_ t1_ → ∀ (H : Heap) (locs : List Loc) (ls : Array Slot), MH D Z b s.heap σ H locs → lv_has ls 4 [(0, .ref (b 69)), (1, .int x1_), (3, .int x3_)] → MWi p l e rm_M_freeMen s m args below meth c D Z b post H locs (F0 m 63 ls [.int t1_, .int t0_]) := by
  obtain ⟨⟨hx, hb, hml, hown, hts⟩, hK⟩ := id C
  intro σ x1_ x3_ t0_ t1_ hw H locs ls hH hl
  unfold wp_M_freeMen_63 at hw
  refine lv_iadd hx hb dX11_freeMen_63 ?_
  refine lv_topi (fun x1 ex1 => ?_)
  have hw := hw x1 ex1
  refine lv_istore_n (lv' := [(2, .int x1), (0, .ref (b 69)), (1, .int x1_), (3, .int x3_)]) hx hb dX11_freeMen_64 rfl hl (by decide) rfl (fun ls hl => ?_)
  obtain ⟨x2, ex2⟩ : ∃ y : Int32, y = x3_ + (1 : Int32) := ⟨_, rfl⟩
  have hw := hw x2 ex2
  refine lv_iinc (v := x2) (lv' := [(3, .int x2), (2, .int x1), (0, .ref (b 69)), (1, .int x1_)]) hx hb dX11_freeMen_65 hl (k := 3) rfl (by rw [ex2]; rfl) (by decide) rfl (fun ls hl => ?_)
  refine lv_goto (tgt := 4) hx hb dX11_freeMen_68 (by decide) ?_
  exact hk4 σ x1_ x1 x2 hw _ _ _ hH (lv_sub hl [2, 3, 1, 0] rfl)
def wp_M_freeMen_62 (k4 : MS → Int32 → Int32 → Int32 → Prop) (post : Int32 → MS → Prop) (σ : MS) (x1_ : Int32) (x3_ : Int32) (t0_ : Int32) : Prop := wp_M_freeMen_63 (k4) post σ x1_ x3_ t0_ (0 : Int32)
set_option maxHeartbeats 4000000 in
set_option maxRecDepth 100000 in
theorem b_M_freeMen_62 {p : Program} {l : Launch} {e : Env} {s : State} {m : MethodId} {args : Array Value} {below : List Frame} {meth : Method} {c : Code} {D : va_G} {Z : Nat → ClassId} {b : Nat → Nat} (C : MC p s m args c cX11_freeMen 4 D Z) (hr : meth.sig.returnType = some .int) (hk : meth.locks = false) {post : Int32 → MS → Prop} {k4 : MS → Int32 → Int32 → Int32 → Prop} (hk4 : ∀ (σ : MS) (y1 : Int32) (y2 : Int32) (y3 : Int32), k4 σ y1 y2 y3 → ∀ (H : Heap) (locs : List Loc) (ls : Array Slot), MH D Z b s.heap σ H locs → lv_has ls 4 [(0, .ref (b 69)), (1, .int y1), (2, .int y2), (3, .int y3)] → MWi p l e rm_M_freeMen s m args below meth c D Z b post H locs (F0 m 4 ls [])) : ∀ (σ : MS) (x1_ : Int32) (x3_ : Int32) (t0_ : Int32), wp_M_freeMen_62 k4 post σ x1_ x3_ t0_ → ∀ (H : Heap) (locs : List Loc) (ls : Array Slot), MH D Z b s.heap σ H locs → lv_has ls 4 [(0, .ref (b 69)), (1, .int x1_), (3, .int x3_)] → MWi p l e rm_M_freeMen s m args below meth c D Z b post H locs (F0 m 62 ls [.int t0_]) := by
  obtain ⟨⟨hx, hb, hml, hown, hts⟩, hK⟩ := id C
  intro σ x1_ x3_ t0_ hw H locs ls hH hl
  unfold wp_M_freeMen_62 at hw
  refine lv_iconst (v := 0) hx hb dX11_freeMen_62 (by decide) ?_
  exact b_M_freeMen_63 C hr hk hk4 σ x1_ x3_ t0_ (0 : Int32) hw _ _ _ hH (lv_sub hl [0, 1, 2] rfl)
def wp_M_freeMen_4 (post : Int32 → MS → Prop) : Nat → MS → Int32 → Int32 → Int32 → Prop
  | 0 => fun _ _ _ _ => False
  | n + 1 => fun σ x1_ x2_ x3_ => if (σ 10 0) ≤ x3_ then (post x2_ σ) else (vp_in x3_ 60 ∧ (if (σ 11 x3_.toNatClampNeg) = x1_ then (vp_in x3_ 60 ∧ (if (σ 1 0) < (σ 16 x3_.toNatClampNeg) then (wp_M_freeMen_62 (wp_M_freeMen_4 post n) post σ x1_ x3_ x2_) else (vp_in x3_ 60 ∧ (if (σ 1 0) < (σ 17 x3_.toNatClampNeg) then (wp_M_freeMen_62 (wp_M_freeMen_4 post n) post σ x1_ x3_ x2_) else (vp_in x3_ 60 ∧ (if (σ 19 x3_.toNatClampNeg) = 0 then (wp_M_freeMen_63 (wp_M_freeMen_4 post n) post σ x1_ x3_ x2_ (1 : Int32)) else (wp_M_freeMen_62 (wp_M_freeMen_4 post n) post σ x1_ x3_ x2_))))))) else (wp_M_freeMen_62 (wp_M_freeMen_4 post n) post σ x1_ x3_ x2_)))
set_option maxHeartbeats 4000000 in
set_option maxRecDepth 100000 in
theorem b_M_freeMen_4 {p : Program} {l : Launch} {e : Env} {s : State} {m : MethodId} {args : Array Value} {below : List Frame} {meth : Method} {c : Code} {D : va_G} {Z : Nat → ClassId} {b : Nat → Nat} (C : MC p s m args c cX11_freeMen 4 D Z) (hr : meth.sig.returnType = some .int) (hk : meth.locks = false) {post : Int32 → MS → Prop} : ∀ (n : Nat) (σ : MS) (x1_ : Int32) (x2_ : Int32) (x3_ : Int32), wp_M_freeMen_4  post n σ x1_ x2_ x3_ → ∀ (H : Heap) (locs : List Loc) (ls : Array Slot), MH D Z b s.heap σ H locs → lv_has ls 4 [(0, .ref (b 69)), (1, .int x1_), (2, .int x2_), (3, .int x3_)] → MWi p l e rm_M_freeMen s m args below meth c D Z b post H locs (F0 m 4 ls []) := by
  obtain ⟨⟨hx, hb, hml, hown, hts⟩, hK⟩ := id C
  intro n
  induction n with
  | zero => intro σ x1_ x2_ x3_ hw; exact hw.elim
  | succ n ih =>
    intro σ x1_ x2_ x3_ hw H locs ls hH hl
    unfold wp_M_freeMen_4 at hw
    refine lv_iload_n hx hb dX11_freeMen_4 rfl (lv_at hl 3 rfl) ?_
    refine lv_aload_n hx hb dX11_freeMen_5 rfl (lv_at hl 0 rfl) ?_
    refine mg C hH 10 (by decide) rfl wd_1039 rfl dX11_freeMen_6 ?_
    refine lv_icmp_ge (tgt := 71) hx hb dX11_freeMen_9 (by decide) (fun c3 => ?_) (fun c3 => ?_)
    · have hw := ifp c3 hw
      refine lv_iload_n hx hb dX11_freeMen_71 rfl (lv_at hl 2 rfl) ?_
      exact mri C hr hk hH hw dX11_freeMen_72
    · have hw := ifn c3 hw
      refine lv_iload_n hx hb dX11_freeMen_12 rfl (lv_at hl 2 rfl) ?_
      refine lv_aload_n hx hb dX11_freeMen_13 rfl (lv_at hl 0 rfl) ?_
      refine mg C hH 11 (by decide) rfl wd_1040 rfl dX11_freeMen_14 ?_
      refine lv_iload_n hx hb dX11_freeMen_17 rfl (lv_at hl 3 rfl) ?_
      obtain ⟨h4, hw⟩ := hw
      refine mai C hH 7 11 rfl h4 dX11_freeMen_18 ?_
      refine lv_iload_n hx hb dX11_freeMen_19 rfl (lv_at hl 1 rfl) ?_
      refine lv_icmp_ne (tgt := 62) hx hb dX11_freeMen_20 (by decide) (fun c5 => ?_) (fun c5 => ?_)
      · have hw := ifn c5 hw
        exact b_M_freeMen_62 C hr hk ih σ x1_ x3_ x2_ hw _ _ _ hH (lv_sub hl [0, 1, 3] rfl)
      · have hw := ifp c5 hw
        refine lv_aload_n hx hb dX11_freeMen_23 rfl (lv_at hl 0 rfl) ?_
        refine mg C hH 16 (by decide) rfl wd_1045 rfl dX11_freeMen_24 ?_
        refine lv_iload_n hx hb dX11_freeMen_27 rfl (lv_at hl 3 rfl) ?_
        obtain ⟨h6, hw⟩ := hw
        refine mai C hH 12 16 rfl h6 dX11_freeMen_28 ?_
        refine lv_aload_n hx hb dX11_freeMen_29 rfl (lv_at hl 0 rfl) ?_
        refine mg C hH 1 (by decide) rfl wd_1030 rfl dX11_freeMen_30 ?_
        refine lv_icmp_gt (tgt := 62) hx hb dX11_freeMen_33 (by decide) (fun c7 => ?_) (fun c7 => ?_)
        · have hw := ifp c7 hw
          exact b_M_freeMen_62 C hr hk ih σ x1_ x3_ x2_ hw _ _ _ hH (lv_sub hl [0, 1, 3] rfl)
        · have hw := ifn c7 hw
          refine lv_aload_n hx hb dX11_freeMen_36 rfl (lv_at hl 0 rfl) ?_
          refine mg C hH 17 (by decide) rfl wd_1046 rfl dX11_freeMen_37 ?_
          refine lv_iload_n hx hb dX11_freeMen_40 rfl (lv_at hl 3 rfl) ?_
          obtain ⟨h8, hw⟩ := hw
          refine mai C hH 13 17 rfl h8 dX11_freeMen_41 ?_
          refine lv_aload_n hx hb dX11_freeMen_42 rfl (lv_at hl 0 rfl) ?_
          refine mg C hH 1 (by decide) rfl wd_1030 rfl dX11_freeMen_43 ?_
          refine lv_icmp_gt (tgt := 62) hx hb dX11_freeMen_46 (by decide) (fun c9 => ?_) (fun c9 => ?_)
          · have hw := ifp c9 hw
            exact b_M_freeMen_62 C hr hk ih σ x1_ x3_ x2_ hw _ _ _ hH (lv_sub hl [0, 1, 3] rfl)
          · have hw := ifn c9 hw
            refine lv_aload_n hx hb dX11_freeMen_49 rfl (lv_at hl 0 rfl) ?_
            refine mg C hH 19 (by decide) rfl wd_1048 rfl dX11_freeMen_50 ?_
            refine lv_iload_n hx hb dX11_freeMen_53 rfl (lv_at hl 3 rfl) ?_
            obtain ⟨h10, hw⟩ := hw
            refine maz C hH 15 19 rfl h10 dX11_freeMen_54 ?_
            refine lv_if_ne (tgt := 62) hx hb dX11_freeMen_55 (by decide) (fun c11 => ?_) (fun c11 => ?_)
            · have hw := ifn c11 hw
              exact b_M_freeMen_62 C hr hk ih σ x1_ x3_ x2_ hw _ _ _ hH (lv_sub hl [0, 1, 3] rfl)
            · have hw := ifp c11 hw
              refine lv_iconst (v := 1) hx hb dX11_freeMen_58 (by decide) ?_
              refine lv_goto (tgt := 63) hx hb dX11_freeMen_59 (by decide) ?_
              exact b_M_freeMen_63 C hr hk ih σ x1_ x3_ x2_ (1 : Int32) hw _ _ _ hH (lv_sub hl [0, 1, 3] rfl)
def wp_M_freeMen (σ : MS) (a1 : Int32) (post : Int32 → MS → Prop) : Prop := ∃ nn : Nat, wp_M_freeMen_4  post nn σ a1 (0 : Int32) (0 : Int32)
set_option maxHeartbeats 4000000 in
set_option maxRecDepth 100000 in
theorem c_M_freeMen (l : Launch) (D : va_G) (Z : Nat → ClassId) (b : Nat → Nat) (σ : MS) (a1 : Int32) (post : Int32 → MS → Prop) (hw : wp_M_freeMen σ a1 post) (sz : Nat) : Met l yX11_freeMen (Wd yX11_freeMen cX11_freeMen 4 (some .int)) rm_M_freeMen (va_Pc [.ref (b 69), .int a1] (mPre D Z b sz σ)) (va_Qi post (mPost D Z b) (mA b sz)) 0 0 (mA b sz) := by
  refine mMi (by decide) rfl _ (Nat.le_of_ble_eq_true rfl) (fun p e s m args below meth c C hr hk ls hl hH => ?_) sz
  obtain ⟨⟨hx, hb, hml, hown, hts⟩, hK⟩ := id C
  have hl : lv_has ls 4 [(0, .ref (b 69)), (1, .int a1)] := hl
  unfold wp_M_freeMen at hw
  refine lv_iconst (v := 0) hx hb dX11_freeMen_0 (by decide) ?_
  refine lv_istore_n (lv' := [(2, .int (0 : Int32)), (0, .ref (b 69)), (1, .int a1)]) hx hb dX11_freeMen_1 rfl hl (by decide) rfl (fun ls hl => ?_)
  refine lv_iconst (v := 0) hx hb dX11_freeMen_2 (by decide) ?_
  refine lv_istore_n (lv' := [(3, .int (0 : Int32)), (2, .int (0 : Int32)), (0, .ref (b 69)), (1, .int a1)]) hx hb dX11_freeMen_3 rfl hl (by decide) rfl (fun ls hl => ?_)
  obtain ⟨nn, hw⟩ := hw
  exact b_M_freeMen_4 C hr hk  nn σ a1 (0 : Int32) (0 : Int32) hw _ _ _ hH (lv_sub hl [2, 3, 1, 0] rfl)
/-! four -/
abbrev rm_M_four : Room := { frames := 0, cells := 0, slots := 0, locals := 0 }
def wp_M_four_2 (post : MS → Prop) : Nat → MS → Int32 → Int32 → Prop
  | 0 => fun _ _ _ => False
  | n + 1 => fun σ x1_ x2_ => if x2_ < 0 then (post σ) else (vp_in (σ 25 0) 200 ∧ (∀ σ3 : MS, σ3 = up2 σ 24 (σ 25 0).toNatClampNeg (vp_nar .byte ((x1_ >>> (((8 : Int32) * x2_) &&& 31)).toInt8.toInt32)) → (∀ σ4 : MS, σ4 = up2 σ3 25 0 ((σ3 25 0) + (1 : Int32)) → (∀ x5 : Int32, x5 = x2_ + (-1 : Int32) → (wp_M_four_2  post n σ4 x1_ x5)))))
set_option maxHeartbeats 4000000 in
set_option maxRecDepth 100000 in
theorem b_M_four_2 {p : Program} {l : Launch} {e : Env} {s : State} {m : MethodId} {args : Array Value} {below : List Frame} {meth : Method} {c : Code} {D : va_G} {Z : Nat → ClassId} {b : Nat → Nat} (C : MC p s m args c cX11_four 3 D Z) (hr : meth.sig.returnType = none) (hk : meth.locks = false) {post : MS → Prop} : ∀ (n : Nat) (σ : MS) (x1_ : Int32) (x2_ : Int32), wp_M_four_2  post n σ x1_ x2_ → ∀ (H : Heap) (locs : List Loc) (ls : Array Slot), MH D Z b s.heap σ H locs → lv_has ls 3 [(0, .ref (b 69)), (1, .int x1_), (2, .int x2_)] → MWv p l e rm_M_four s m args below meth c D Z b post H locs (F0 m 2 ls []) := by
  obtain ⟨⟨hx, hb, hml, hown, hts⟩, hK⟩ := id C
  intro n
  induction n with
  | zero => intro σ x1_ x2_ hw; exact hw.elim
  | succ n ih =>
    intro σ x1_ x2_ hw H locs ls hH hl
    unfold wp_M_four_2 at hw
    refine lv_iload_n hx hb dX11_four_2 rfl (lv_at hl 2 rfl) ?_
    refine lv_if_lt (tgt := 38) hx hb dX11_four_3 (by decide) (fun c1 => ?_) (fun c1 => ?_)
    · have hw := ifp c1 hw
      exact mrv C hr hk hH hw dX11_four_38
    · have hw := ifn c1 hw
      refine lv_aload_n hx hb dX11_four_6 rfl (lv_at hl 0 rfl) ?_
      refine mg C hH 24 (by decide) rfl wd_1053 rfl dX11_four_7 ?_
      refine lv_aload_n hx hb dX11_four_10 rfl (lv_at hl 0 rfl) ?_
      refine mg C hH 25 (by decide) rfl wd_1054 rfl dX11_four_11 ?_
      refine lv_iload_n hx hb dX11_four_14 rfl (lv_at hl 1 rfl) ?_
      refine lv_bipush (v := 8) hx hb dX11_four_15 (by decide) ?_
      refine lv_iload_n hx hb dX11_four_17 rfl (lv_at hl 2 rfl) ?_
      refine lv_imul hx hb dX11_four_18 ?_
      refine lv_ishr hx hb dX11_four_19 ?_
      refine lv_i2b hx hb dX11_four_20 rfl ?_
      obtain ⟨h2, hw⟩ := hw
      refine msb C hH 20 24 rfl (mast_24 Z b σ _ _) h2 dX11_four_21 (fun H locs hH => ?_)
      have hw := hw _ rfl
      generalize up2 σ 24 (σ 25 0).toNatClampNeg (vp_nar .byte ((x1_ >>> (((8 : Int32) * x2_) &&& 31)).toInt8.toInt32)) = σ3 at hw hH
      refine lv_aload_n hx hb dX11_four_22 rfl (lv_at hl 0 rfl) ?_
      refine lv_dup hx hb dX11_four_23 rfl ?_
      refine mg C hH 25 (by decide) rfl wd_1054 rfl dX11_four_24 ?_
      refine lv_iconst (v := 1) hx hb dX11_four_27 (by decide) ?_
      refine lv_iadd hx hb dX11_four_28 ?_
      refine mp C hH 25 (by decide) rfl wd_1054 (mset_25 Z b σ3 _) dX11_four_29 (fun H locs hH => ?_)
      have hw := hw _ rfl
      generalize up2 σ3 25 0 ((σ3 25 0) + (1 : Int32)) = σ4 at hw hH
      obtain ⟨x5, ex5⟩ : ∃ y : Int32, y = x2_ + (-1 : Int32) := ⟨_, rfl⟩
      have hw := hw x5 ex5
      refine lv_iinc (v := x5) (lv' := [(2, .int x5), (0, .ref (b 69)), (1, .int x1_)]) hx hb dX11_four_32 hl (k := 2) rfl (by rw [ex5]; rfl) (by decide) rfl (fun ls hl => ?_)
      refine lv_goto (tgt := 2) hx hb dX11_four_35 (by decide) ?_
      exact ih σ4 x1_ x5 hw _ _ _ hH (lv_sub hl [1, 2, 0] rfl)
def wp_M_four (σ : MS) (a1 : Int32) (post : MS → Prop) : Prop := ∃ nn : Nat, wp_M_four_2  post nn σ a1 (3 : Int32)
set_option maxHeartbeats 4000000 in
set_option maxRecDepth 100000 in
theorem c_M_four (l : Launch) (D : va_G) (Z : Nat → ClassId) (b : Nat → Nat) (σ : MS) (a1 : Int32) (post : MS → Prop) (hw : wp_M_four σ a1 post) (sz : Nat) : Met l yX11_four (Wd yX11_four cX11_four 3 (none)) rm_M_four (va_Pc [.ref (b 69), .int a1] (mPre D Z b sz σ)) (va_Qv post (mPost D Z b) (mA b sz)) 0 0 (mA b sz) := by
  refine mMv (by decide) rfl _ (Nat.le_of_ble_eq_true rfl) (fun p e s m args below meth c C hr hk ls hl hH => ?_) sz
  obtain ⟨⟨hx, hb, hml, hown, hts⟩, hK⟩ := id C
  have hl : lv_has ls 3 [(0, .ref (b 69)), (1, .int a1)] := hl
  unfold wp_M_four at hw
  refine lv_iconst (v := 3) hx hb dX11_four_0 (by decide) ?_
  refine lv_istore_n (lv' := [(2, .int (3 : Int32)), (0, .ref (b 69)), (1, .int a1)]) hx hb dX11_four_1 rfl hl (by decide) rfl (fun ls hl => ?_)
  obtain ⟨nn, hw⟩ := hw
  exact b_M_four_2 C hr hk  nn σ a1 (3 : Int32) hw _ _ _ hH (lv_sub hl [1, 2, 0] rfl)
/-! feed -/
abbrev rm_M_feed : Room := { frames := 1, cells := 0, slots := 0, locals := 22 }
def wp_M_feed (σ : MS) (a1 : Int32) (a2 : Int32) (a3 : Int32) (a4 : Int32) (a5 : Int32) (post : Int32 → MS → Prop) : Prop := if ((σ 25 0) + (20 : Int32)) ≤ (200 : Int32) then (wp_M_four σ a1 (fun σ2 => wp_M_four σ2 a2 (fun σ3 => wp_M_four σ3 a3 (fun σ4 => wp_M_four σ4 a4 (fun σ5 => wp_M_four σ5 a5 (fun σ6 => post (σ6 25 0) σ6)))))) else (post (-3 : Int32) σ)
set_option maxHeartbeats 4000000 in
set_option maxRecDepth 100000 in
theorem c_M_feed (l : Launch) (D : va_G) (Z : Nat → ClassId) (b : Nat → Nat) (σ : MS) (a1 : Int32) (a2 : Int32) (a3 : Int32) (a4 : Int32) (a5 : Int32) (post : Int32 → MS → Prop) (hw : wp_M_feed σ a1 a2 a3 a4 a5 post) (sz : Nat) : Met l yX11_feed (Wd yX11_feed cX11_feed 6 (some .int)) rm_M_feed (va_Pc [.ref (b 69), .int a1, .int a2, .int a3, .int a4, .int a5] (mPre D Z b sz σ)) (va_Qi post (mPost D Z b) (mA b sz)) 0 0 (mA b sz) := by
  refine mMi (by decide) rfl _ (Nat.le_of_ble_eq_true rfl) (fun p e s m args below meth c C hr hk ls hl hH => ?_) sz
  obtain ⟨⟨hx, hb, hml, hown, hts⟩, hK⟩ := id C
  have hl : lv_has ls 6 [(0, .ref (b 69)), (1, .int a1), (2, .int a2), (3, .int a3), (4, .int a4), (5, .int a5)] := hl
  unfold wp_M_feed at hw
  refine lv_aload_n hx hb dX11_feed_0 rfl (lv_at hl 0 rfl) ?_
  refine mg C hH 25 (by decide) rfl wd_1054 rfl dX11_feed_1 ?_
  refine lv_bipush (v := 20) hx hb dX11_feed_4 (by decide) ?_
  refine lv_iadd hx hb dX11_feed_6 ?_
  refine lv_sipush (v := 200) hx hb dX11_feed_7 (by decide) ?_
  refine lv_icmp_le (tgt := 16) hx hb dX11_feed_10 (by decide) (fun c1 => ?_) (fun c1 => ?_)
  · have hw := ifp c1 hw
    refine lv_aload_n hx hb dX11_feed_16 rfl (lv_at hl 0 rfl) ?_
    refine lv_iload_n hx hb dX11_feed_17 rfl (lv_at hl 1 rfl) ?_
    refine mcVv C hH [.int a1] (fun sz => c_M_four l D Z b σ a1 _ hw sz) (cwTV 1 hts wd_1330 wd_1332 ws_55 wd_14 wd_1333 rfl rfl (by decide +kernel) ⟨Nat.le_of_ble_eq_true rfl, Nat.le_of_ble_eq_true rfl⟩) rfl hl.1 rfl (Nat.le_of_ble_eq_true rfl) dX11_feed_18 ⟨Nat.zero_le _, Nat.zero_le _⟩ (fun  σ2 H locs hw hH => ?_)
    refine lv_aload_n hx hb dX11_feed_21 rfl (lv_at hl 0 rfl) ?_
    refine lv_iload_n hx hb dX11_feed_22 rfl (lv_at hl 2 rfl) ?_
    refine mcVv C hH [.int a2] (fun sz => c_M_four l D Z b σ2 a2 _ hw sz) (cwTV 1 hts wd_1330 wd_1332 ws_55 wd_14 wd_1333 rfl rfl (by decide +kernel) ⟨Nat.le_of_ble_eq_true rfl, Nat.le_of_ble_eq_true rfl⟩) rfl hl.1 rfl (Nat.le_of_ble_eq_true rfl) dX11_feed_23 ⟨Nat.zero_le _, Nat.zero_le _⟩ (fun  σ3 H locs hw hH => ?_)
    refine lv_aload_n hx hb dX11_feed_26 rfl (lv_at hl 0 rfl) ?_
    refine lv_iload_n hx hb dX11_feed_27 rfl (lv_at hl 3 rfl) ?_
    refine mcVv C hH [.int a3] (fun sz => c_M_four l D Z b σ3 a3 _ hw sz) (cwTV 1 hts wd_1330 wd_1332 ws_55 wd_14 wd_1333 rfl rfl (by decide +kernel) ⟨Nat.le_of_ble_eq_true rfl, Nat.le_of_ble_eq_true rfl⟩) rfl hl.1 rfl (Nat.le_of_ble_eq_true rfl) dX11_feed_28 ⟨Nat.zero_le _, Nat.zero_le _⟩ (fun  σ4 H locs hw hH => ?_)
    refine lv_aload_n hx hb dX11_feed_31 rfl (lv_at hl 0 rfl) ?_
    refine lv_iload hx hb dX11_feed_32 (lv_at hl 4 rfl) ?_
    refine mcVv C hH [.int a4] (fun sz => c_M_four l D Z b σ4 a4 _ hw sz) (cwTV 1 hts wd_1330 wd_1332 ws_55 wd_14 wd_1333 rfl rfl (by decide +kernel) ⟨Nat.le_of_ble_eq_true rfl, Nat.le_of_ble_eq_true rfl⟩) rfl hl.1 rfl (Nat.le_of_ble_eq_true rfl) dX11_feed_34 ⟨Nat.zero_le _, Nat.zero_le _⟩ (fun  σ5 H locs hw hH => ?_)
    refine lv_aload_n hx hb dX11_feed_37 rfl (lv_at hl 0 rfl) ?_
    refine lv_iload hx hb dX11_feed_38 (lv_at hl 5 rfl) ?_
    refine mcVv C hH [.int a5] (fun sz => c_M_four l D Z b σ5 a5 _ hw sz) (cwTV 1 hts wd_1330 wd_1332 ws_55 wd_14 wd_1333 rfl rfl (by decide +kernel) ⟨Nat.le_of_ble_eq_true rfl, Nat.le_of_ble_eq_true rfl⟩) rfl hl.1 rfl (Nat.le_of_ble_eq_true rfl) dX11_feed_40 ⟨Nat.zero_le _, Nat.zero_le _⟩ (fun  σ6 H locs hw hH => ?_)
    refine lv_aload_n hx hb dX11_feed_43 rfl (lv_at hl 0 rfl) ?_
    refine mg C hH 25 (by decide) rfl wd_1054 rfl dX11_feed_44 ?_
    exact mri C hr hk hH hw dX11_feed_47
  · have hw := ifn c1 hw
    refine lv_bipush (v := -3) hx hb dX11_feed_13 (by decide) ?_
    exact mri C hr hk hH hw dX11_feed_15
/-! end -/
abbrev rm_M_end : Room := { frames := 1, cells := 0, slots := 0, locals := 22 }
def wp_M_end (σ : MS) (a1 : Int32) (post : Int32 → MS → Prop) : Prop := wp_M_in σ a1 (0 : Int32) (σ 25 0) (fun r2 σ1 => if r2 = 0 then (post (-1 : Int32) σ1) else (∀ σ4 : MS, σ4 = up2 σ1 25 0 a1 → (post a1 σ4)))
set_option maxHeartbeats 4000000 in
set_option maxRecDepth 100000 in
theorem c_M_end (l : Launch) (D : va_G) (Z : Nat → ClassId) (b : Nat → Nat) (σ : MS) (a1 : Int32) (post : Int32 → MS → Prop) (hw : wp_M_end σ a1 post) (sz : Nat) : Met l yX11_end (Wd yX11_end cX11_end 2 (some .int)) rm_M_end (va_Pc [.ref (b 69), .int a1] (mPre D Z b sz σ)) (va_Qi post (mPost D Z b) (mA b sz)) 0 0 (mA b sz) := by
  refine mMi (by decide) rfl _ (Nat.le_of_ble_eq_true rfl) (fun p e s m args below meth c C hr hk ls hl hH => ?_) sz
  obtain ⟨⟨hx, hb, hml, hown, hts⟩, hK⟩ := id C
  have hl : lv_has ls 2 [(0, .ref (b 69)), (1, .int a1)] := hl
  unfold wp_M_end at hw
  refine lv_iload_n hx hb dX11_end_0 rfl (lv_at hl 1 rfl) ?_
  refine lv_iconst (v := 0) hx hb dX11_end_1 (by decide) ?_
  refine lv_aload_n hx hb dX11_end_2 rfl (lv_at hl 0 rfl) ?_
  refine mg C hH 25 (by decide) rfl wd_1054 rfl dX11_end_3 ?_
  refine mcSi C hH [.int a1, .int (0 : Int32), .int (σ 25 0)] (fun sz => c_M_in l D Z b σ a1 (0 : Int32) (σ 25 0) _ hw sz) (cwTS 3 hts wd_1242 wd_1243 wd_14 wd_1244 rfl rfl (by decide +kernel) ⟨Nat.le_of_ble_eq_true rfl, Nat.le_of_ble_eq_true rfl⟩) rfl hl.1 rfl (Nat.le_of_ble_eq_true rfl) dX11_end_6 ⟨Nat.zero_le _, Nat.zero_le _⟩ (fun r2 σ1 H locs hw hH => ?_)
  refine lv_if_ne (tgt := 14) hx hb dX11_end_9 (by decide) (fun c3 => ?_) (fun c3 => ?_)
  · have hw := ifn c3 hw
    refine lv_aload_n hx hb dX11_end_14 rfl (lv_at hl 0 rfl) ?_
    refine lv_iload_n hx hb dX11_end_15 rfl (lv_at hl 1 rfl) ?_
    refine mp C hH 25 (by decide) rfl wd_1054 (mset_25 Z b σ1 _) dX11_end_16 (fun H locs hH => ?_)
    have hw := hw _ rfl
    generalize up2 σ1 25 0 a1 = σ4 at hw hH
    refine lv_iload_n hx hb dX11_end_19 rfl (lv_at hl 1 rfl) ?_
    exact mri C hr hk hH hw dX11_end_20
  · have hw := ifp c3 hw
    refine lv_iconst (v := -1) hx hb dX11_end_12 (by decide) ?_
    exact mri C hr hk hH hw dX11_end_13
/-! isLetter -/
abbrev rm_M_isLetter : Room := { frames := 0, cells := 0, slots := 0, locals := 0 }
def wp_M_isLetter (σ : MS) (a1 : Int32) (post : Int32 → MS → Prop) : Prop := if a1 < (97 : Int32) then (post (0 : Int32) σ) else (if (122 : Int32) < a1 then (post (0 : Int32) σ) else (post (1 : Int32) σ))
set_option maxHeartbeats 4000000 in
set_option maxRecDepth 100000 in
theorem c_M_isLetter (l : Launch) (D : va_G) (Z : Nat → ClassId) (b : Nat → Nat) (σ : MS) (a1 : Int32) (post : Int32 → MS → Prop) (hw : wp_M_isLetter σ a1 post) (sz : Nat) : Met l yX11_isLetter (Wd yX11_isLetter cX11_isLetter 1 (some .boolean)) rm_M_isLetter (va_Pc [.int a1] (mPre D Z b sz σ)) (va_Qi post (mPost D Z b) (mA b sz)) 0 0 (mA b sz) := by
  refine mMi (by decide) rfl _ (Nat.le_of_ble_eq_true rfl) (fun p e s m args below meth c C hr hk ls hl hH => ?_) sz
  obtain ⟨⟨hx, hb, hml, hown, hts⟩, hK⟩ := id C
  have hl : lv_has ls 1 [(0, .int a1)] := hl
  unfold wp_M_isLetter at hw
  refine lv_iload_n hx hb dX11_isLetter_0 rfl (lv_at hl 0 rfl) ?_
  refine lv_bipush (v := 97) hx hb dX11_isLetter_1 (by decide) ?_
  refine lv_icmp_lt (tgt := 16) hx hb dX11_isLetter_3 (by decide) (fun c1 => ?_) (fun c1 => ?_)
  · have hw := ifp c1 hw
    refine lv_iconst (v := 0) hx hb dX11_isLetter_16 (by decide) ?_
    exact mrz C hr hk hH bz0 hw dX11_isLetter_17
  · have hw := ifn c1 hw
    refine lv_iload_n hx hb dX11_isLetter_6 rfl (lv_at hl 0 rfl) ?_
    refine lv_bipush (v := 122) hx hb dX11_isLetter_7 (by decide) ?_
    refine lv_icmp_gt (tgt := 16) hx hb dX11_isLetter_9 (by decide) (fun c2 => ?_) (fun c2 => ?_)
    · have hw := ifp c2 hw
      refine lv_iconst (v := 0) hx hb dX11_isLetter_16 (by decide) ?_
      exact mrz C hr hk hH bz0 hw dX11_isLetter_17
    · have hw := ifn c2 hw
      refine lv_iconst (v := 1) hx hb dX11_isLetter_12 (by decide) ?_
      refine lv_goto (tgt := 17) hx hb dX11_isLetter_13 (by decide) ?_
      exact mrz C hr hk hH bz1 hw dX11_isLetter_17
/-! isDigit -/
abbrev rm_M_isDigit : Room := { frames := 0, cells := 0, slots := 0, locals := 0 }
def wp_M_isDigit (σ : MS) (a1 : Int32) (post : Int32 → MS → Prop) : Prop := if a1 < (48 : Int32) then (post (0 : Int32) σ) else (if (57 : Int32) < a1 then (post (0 : Int32) σ) else (post (1 : Int32) σ))
set_option maxHeartbeats 4000000 in
set_option maxRecDepth 100000 in
theorem c_M_isDigit (l : Launch) (D : va_G) (Z : Nat → ClassId) (b : Nat → Nat) (σ : MS) (a1 : Int32) (post : Int32 → MS → Prop) (hw : wp_M_isDigit σ a1 post) (sz : Nat) : Met l yX11_isDigit (Wd yX11_isDigit cX11_isDigit 1 (some .boolean)) rm_M_isDigit (va_Pc [.int a1] (mPre D Z b sz σ)) (va_Qi post (mPost D Z b) (mA b sz)) 0 0 (mA b sz) := by
  refine mMi (by decide) rfl _ (Nat.le_of_ble_eq_true rfl) (fun p e s m args below meth c C hr hk ls hl hH => ?_) sz
  obtain ⟨⟨hx, hb, hml, hown, hts⟩, hK⟩ := id C
  have hl : lv_has ls 1 [(0, .int a1)] := hl
  unfold wp_M_isDigit at hw
  refine lv_iload_n hx hb dX11_isDigit_0 rfl (lv_at hl 0 rfl) ?_
  refine lv_bipush (v := 48) hx hb dX11_isDigit_1 (by decide) ?_
  refine lv_icmp_lt (tgt := 16) hx hb dX11_isDigit_3 (by decide) (fun c1 => ?_) (fun c1 => ?_)
  · have hw := ifp c1 hw
    refine lv_iconst (v := 0) hx hb dX11_isDigit_16 (by decide) ?_
    exact mrz C hr hk hH bz0 hw dX11_isDigit_17
  · have hw := ifn c1 hw
    refine lv_iload_n hx hb dX11_isDigit_6 rfl (lv_at hl 0 rfl) ?_
    refine lv_bipush (v := 57) hx hb dX11_isDigit_7 (by decide) ?_
    refine lv_icmp_gt (tgt := 16) hx hb dX11_isDigit_9 (by decide) (fun c2 => ?_) (fun c2 => ?_)
    · have hw := ifp c2 hw
      refine lv_iconst (v := 0) hx hb dX11_isDigit_16 (by decide) ?_
      exact mrz C hr hk hH bz0 hw dX11_isDigit_17
    · have hw := ifn c2 hw
      refine lv_iconst (v := 1) hx hb dX11_isDigit_12 (by decide) ?_
      refine lv_goto (tgt := 17) hx hb dX11_isDigit_13 (by decide) ?_
      exact mrz C hr hk hH bz1 hw dX11_isDigit_17
/-! wordOf -/
abbrev rm_M_wordOf : Room := { frames := 0, cells := 0, slots := 0, locals := 0 }
def wp_M_wordOf (σ : MS) (a1 : Int64) (post : Int32 → MS → Prop) : Prop := if (lg_cmp a1 (249 : Int64)) = 0 then (post (7 : Int32) σ) else (if (lg_cmp a1 (423 : Int64)) = 0 then (post (10 : Int32) σ) else (if (lg_cmp a1 (1111 : Int64)) = 0 then (post (20 : Int32) σ) else (if (lg_cmp a1 (10631 : Int64)) = 0 then (post (30 : Int32) σ) else (if (lg_cmp a1 (9734 : Int64)) = 0 then (post (70 : Int32) σ) else (if (lg_cmp a1 (9528 : Int64)) = 0 then (post (71 : Int32) σ) else (if (lg_cmp a1 (223456 : Int64)) = 0 then (post (100 : Int32) σ) else (if (lg_cmp a1 (332864552 : Int64)) = 0 then (post (101 : Int32) σ) else (if (lg_cmp a1 (4419 : Int64)) = 0 then (post (102 : Int32) σ) else (if (lg_cmp a1 (583 : Int64)) = 0 then (post (103 : Int32) σ) else (if (lg_cmp a1 (11720705 : Int64)) = 0 then (post (104 : Int32) σ) else (if (lg_cmp a1 (168984 : Int64)) = 0 then (post (105 : Int32) σ) else (if (lg_cmp a1 (355280 : Int64)) = 0 then (post (106 : Int32) σ) else (if (lg_cmp a1 (237470 : Int64)) = 0 then (post (107 : Int32) σ) else (if (lg_cmp a1 (9626 : Int64)) = 0 then (post (108 : Int32) σ) else (if (lg_cmp a1 (2968 : Int64)) = 0 then (post (109 : Int32) σ) else (if (lg_cmp a1 (923 : Int64)) = 0 then (post (110 : Int32) σ) else (if (lg_cmp a1 (206756339381 : Int64)) = 0 then (post (111 : Int32) σ) else (if (lg_cmp a1 (338358928 : Int64)) = 0 then (post (112 : Int32) σ) else (post (2 : Int32) σ)))))))))))))))))))
set_option maxHeartbeats 4000000 in
set_option maxRecDepth 100000 in
theorem c_M_wordOf (l : Launch) (D : va_G) (Z : Nat → ClassId) (b : Nat → Nat) (σ : MS) (a1 : Int64) (post : Int32 → MS → Prop) (hw : wp_M_wordOf σ a1 post) (sz : Nat) : Met l yX11_wordOf (Wd yX11_wordOf cX11_wordOf 2 (some .int)) rm_M_wordOf (va_Pc [.long a1] (mPre D Z b sz σ)) (va_Qi post (mPost D Z b) (mA b sz)) 0 0 (mA b sz) := by
  refine mMi (by decide) rfl _ (Nat.le_of_ble_eq_true rfl) (fun p e s m args below meth c C hr hk ls hl hH => ?_) sz
  obtain ⟨⟨hx, hb, hml, hown, hts⟩, hK⟩ := id C
  have hl : lv_has ls 2 [(0, .long a1)] := hl
  unfold wp_M_wordOf at hw
  refine lv_lload_n hx hb dX11_wordOf_0 rfl (lv_at hl 0 rfl) ?_
  refine lv_ldc2 (own := RX11) (index := 265) (v := 249) hx hb hown (hts _ wd_1361) dX11_wordOf_1 ?_
  refine W.lcmp hx hb dX11_wordOf_4 ?_
  refine lv_if_ne (tgt := 11) hx hb dX11_wordOf_5 (by decide) (fun c1 => ?_) (fun c1 => ?_)
  · have hw := ifn c1 hw
    refine lv_lload_n hx hb dX11_wordOf_11 rfl (lv_at hl 0 rfl) ?_
    refine lv_ldc2 (own := RX11) (index := 267) (v := 423) hx hb hown (hts _ wd_1362) dX11_wordOf_12 ?_
    refine W.lcmp hx hb dX11_wordOf_15 ?_
    refine lv_if_ne (tgt := 22) hx hb dX11_wordOf_16 (by decide) (fun c2 => ?_) (fun c2 => ?_)
    · have hw := ifn c2 hw
      refine lv_lload_n hx hb dX11_wordOf_22 rfl (lv_at hl 0 rfl) ?_
      refine lv_ldc2 (own := RX11) (index := 269) (v := 1111) hx hb hown (hts _ wd_1363) dX11_wordOf_23 ?_
      refine W.lcmp hx hb dX11_wordOf_26 ?_
      refine lv_if_ne (tgt := 33) hx hb dX11_wordOf_27 (by decide) (fun c3 => ?_) (fun c3 => ?_)
      · have hw := ifn c3 hw
        refine lv_lload_n hx hb dX11_wordOf_33 rfl (lv_at hl 0 rfl) ?_
        refine lv_ldc2 (own := RX11) (index := 271) (v := 10631) hx hb hown (hts _ wd_1364) dX11_wordOf_34 ?_
        refine W.lcmp hx hb dX11_wordOf_37 ?_
        refine lv_if_ne (tgt := 44) hx hb dX11_wordOf_38 (by decide) (fun c4 => ?_) (fun c4 => ?_)
        · have hw := ifn c4 hw
          refine lv_lload_n hx hb dX11_wordOf_44 rfl (lv_at hl 0 rfl) ?_
          refine lv_ldc2 (own := RX11) (index := 273) (v := 9734) hx hb hown (hts _ wd_1365) dX11_wordOf_45 ?_
          refine W.lcmp hx hb dX11_wordOf_48 ?_
          refine lv_if_ne (tgt := 55) hx hb dX11_wordOf_49 (by decide) (fun c5 => ?_) (fun c5 => ?_)
          · have hw := ifn c5 hw
            refine lv_lload_n hx hb dX11_wordOf_55 rfl (lv_at hl 0 rfl) ?_
            refine lv_ldc2 (own := RX11) (index := 275) (v := 9528) hx hb hown (hts _ wd_1366) dX11_wordOf_56 ?_
            refine W.lcmp hx hb dX11_wordOf_59 ?_
            refine lv_if_ne (tgt := 66) hx hb dX11_wordOf_60 (by decide) (fun c6 => ?_) (fun c6 => ?_)
            · have hw := ifn c6 hw
              refine lv_lload_n hx hb dX11_wordOf_66 rfl (lv_at hl 0 rfl) ?_
              refine lv_ldc2 (own := RX11) (index := 277) (v := 223456) hx hb hown (hts _ wd_1367) dX11_wordOf_67 ?_
              refine W.lcmp hx hb dX11_wordOf_70 ?_
              refine lv_if_ne (tgt := 77) hx hb dX11_wordOf_71 (by decide) (fun c7 => ?_) (fun c7 => ?_)
              · have hw := ifn c7 hw
                refine lv_lload_n hx hb dX11_wordOf_77 rfl (lv_at hl 0 rfl) ?_
                refine lv_ldc2 (own := RX11) (index := 279) (v := 332864552) hx hb hown (hts _ wd_1368) dX11_wordOf_78 ?_
                refine W.lcmp hx hb dX11_wordOf_81 ?_
                refine lv_if_ne (tgt := 88) hx hb dX11_wordOf_82 (by decide) (fun c8 => ?_) (fun c8 => ?_)
                · have hw := ifn c8 hw
                  refine lv_lload_n hx hb dX11_wordOf_88 rfl (lv_at hl 0 rfl) ?_
                  refine lv_ldc2 (own := RX11) (index := 281) (v := 4419) hx hb hown (hts _ wd_1369) dX11_wordOf_89 ?_
                  refine W.lcmp hx hb dX11_wordOf_92 ?_
                  refine lv_if_ne (tgt := 99) hx hb dX11_wordOf_93 (by decide) (fun c9 => ?_) (fun c9 => ?_)
                  · have hw := ifn c9 hw
                    refine lv_lload_n hx hb dX11_wordOf_99 rfl (lv_at hl 0 rfl) ?_
                    refine lv_ldc2 (own := RX11) (index := 283) (v := 583) hx hb hown (hts _ wd_1370) dX11_wordOf_100 ?_
                    refine W.lcmp hx hb dX11_wordOf_103 ?_
                    refine lv_if_ne (tgt := 110) hx hb dX11_wordOf_104 (by decide) (fun c10 => ?_) (fun c10 => ?_)
                    · have hw := ifn c10 hw
                      refine lv_lload_n hx hb dX11_wordOf_110 rfl (lv_at hl 0 rfl) ?_
                      refine lv_ldc2 (own := RX11) (index := 285) (v := 11720705) hx hb hown (hts _ wd_1371) dX11_wordOf_111 ?_
                      refine W.lcmp hx hb dX11_wordOf_114 ?_
                      refine lv_if_ne (tgt := 121) hx hb dX11_wordOf_115 (by decide) (fun c11 => ?_) (fun c11 => ?_)
                      · have hw := ifn c11 hw
                        refine lv_lload_n hx hb dX11_wordOf_121 rfl (lv_at hl 0 rfl) ?_
                        refine lv_ldc2 (own := RX11) (index := 287) (v := 168984) hx hb hown (hts _ wd_1372) dX11_wordOf_122 ?_
                        refine W.lcmp hx hb dX11_wordOf_125 ?_
                        refine lv_if_ne (tgt := 132) hx hb dX11_wordOf_126 (by decide) (fun c12 => ?_) (fun c12 => ?_)
                        · have hw := ifn c12 hw
                          refine lv_lload_n hx hb dX11_wordOf_132 rfl (lv_at hl 0 rfl) ?_
                          refine lv_ldc2 (own := RX11) (index := 289) (v := 355280) hx hb hown (hts _ wd_1373) dX11_wordOf_133 ?_
                          refine W.lcmp hx hb dX11_wordOf_136 ?_
                          refine lv_if_ne (tgt := 143) hx hb dX11_wordOf_137 (by decide) (fun c13 => ?_) (fun c13 => ?_)
                          · have hw := ifn c13 hw
                            refine lv_lload_n hx hb dX11_wordOf_143 rfl (lv_at hl 0 rfl) ?_
                            refine lv_ldc2 (own := RX11) (index := 291) (v := 237470) hx hb hown (hts _ wd_1374) dX11_wordOf_144 ?_
                            refine W.lcmp hx hb dX11_wordOf_147 ?_
                            refine lv_if_ne (tgt := 154) hx hb dX11_wordOf_148 (by decide) (fun c14 => ?_) (fun c14 => ?_)
                            · have hw := ifn c14 hw
                              refine lv_lload_n hx hb dX11_wordOf_154 rfl (lv_at hl 0 rfl) ?_
                              refine lv_ldc2 (own := RX11) (index := 293) (v := 9626) hx hb hown (hts _ wd_1375) dX11_wordOf_155 ?_
                              refine W.lcmp hx hb dX11_wordOf_158 ?_
                              refine lv_if_ne (tgt := 165) hx hb dX11_wordOf_159 (by decide) (fun c15 => ?_) (fun c15 => ?_)
                              · have hw := ifn c15 hw
                                refine lv_lload_n hx hb dX11_wordOf_165 rfl (lv_at hl 0 rfl) ?_
                                refine lv_ldc2 (own := RX11) (index := 295) (v := 2968) hx hb hown (hts _ wd_1376) dX11_wordOf_166 ?_
                                refine W.lcmp hx hb dX11_wordOf_169 ?_
                                refine lv_if_ne (tgt := 176) hx hb dX11_wordOf_170 (by decide) (fun c16 => ?_) (fun c16 => ?_)
                                · have hw := ifn c16 hw
                                  refine lv_lload_n hx hb dX11_wordOf_176 rfl (lv_at hl 0 rfl) ?_
                                  refine lv_ldc2 (own := RX11) (index := 297) (v := 923) hx hb hown (hts _ wd_1377) dX11_wordOf_177 ?_
                                  refine W.lcmp hx hb dX11_wordOf_180 ?_
                                  refine lv_if_ne (tgt := 187) hx hb dX11_wordOf_181 (by decide) (fun c17 => ?_) (fun c17 => ?_)
                                  · have hw := ifn c17 hw
                                    refine lv_lload_n hx hb dX11_wordOf_187 rfl (lv_at hl 0 rfl) ?_
                                    refine lv_ldc2 (own := RX11) (index := 299) (v := 206756339381) hx hb hown (hts _ wd_1378) dX11_wordOf_188 ?_
                                    refine W.lcmp hx hb dX11_wordOf_191 ?_
                                    refine lv_if_ne (tgt := 198) hx hb dX11_wordOf_192 (by decide) (fun c18 => ?_) (fun c18 => ?_)
                                    · have hw := ifn c18 hw
                                      refine lv_lload_n hx hb dX11_wordOf_198 rfl (lv_at hl 0 rfl) ?_
                                      refine lv_ldc2 (own := RX11) (index := 301) (v := 338358928) hx hb hown (hts _ wd_1379) dX11_wordOf_199 ?_
                                      refine W.lcmp hx hb dX11_wordOf_202 ?_
                                      refine lv_if_ne (tgt := 211) hx hb dX11_wordOf_203 (by decide) (fun c19 => ?_) (fun c19 => ?_)
                                      · have hw := ifn c19 hw
                                        refine lv_iconst (v := 2) hx hb dX11_wordOf_211 (by decide) ?_
                                        exact mri C hr hk hH hw dX11_wordOf_212
                                      · have hw := ifp c19 hw
                                        refine lv_bipush (v := 112) hx hb dX11_wordOf_206 (by decide) ?_
                                        refine lv_goto (tgt := 212) hx hb dX11_wordOf_208 (by decide) ?_
                                        exact mri C hr hk hH hw dX11_wordOf_212
                                    · have hw := ifp c18 hw
                                      refine lv_bipush (v := 111) hx hb dX11_wordOf_195 (by decide) ?_
                                      exact mri C hr hk hH hw dX11_wordOf_197
                                  · have hw := ifp c17 hw
                                    refine lv_bipush (v := 110) hx hb dX11_wordOf_184 (by decide) ?_
                                    exact mri C hr hk hH hw dX11_wordOf_186
                                · have hw := ifp c16 hw
                                  refine lv_bipush (v := 109) hx hb dX11_wordOf_173 (by decide) ?_
                                  exact mri C hr hk hH hw dX11_wordOf_175
                              · have hw := ifp c15 hw
                                refine lv_bipush (v := 108) hx hb dX11_wordOf_162 (by decide) ?_
                                exact mri C hr hk hH hw dX11_wordOf_164
                            · have hw := ifp c14 hw
                              refine lv_bipush (v := 107) hx hb dX11_wordOf_151 (by decide) ?_
                              exact mri C hr hk hH hw dX11_wordOf_153
                          · have hw := ifp c13 hw
                            refine lv_bipush (v := 106) hx hb dX11_wordOf_140 (by decide) ?_
                            exact mri C hr hk hH hw dX11_wordOf_142
                        · have hw := ifp c12 hw
                          refine lv_bipush (v := 105) hx hb dX11_wordOf_129 (by decide) ?_
                          exact mri C hr hk hH hw dX11_wordOf_131
                      · have hw := ifp c11 hw
                        refine lv_bipush (v := 104) hx hb dX11_wordOf_118 (by decide) ?_
                        exact mri C hr hk hH hw dX11_wordOf_120
                    · have hw := ifp c10 hw
                      refine lv_bipush (v := 103) hx hb dX11_wordOf_107 (by decide) ?_
                      exact mri C hr hk hH hw dX11_wordOf_109
                  · have hw := ifp c9 hw
                    refine lv_bipush (v := 102) hx hb dX11_wordOf_96 (by decide) ?_
                    exact mri C hr hk hH hw dX11_wordOf_98
                · have hw := ifp c8 hw
                  refine lv_bipush (v := 101) hx hb dX11_wordOf_85 (by decide) ?_
                  exact mri C hr hk hH hw dX11_wordOf_87
              · have hw := ifp c7 hw
                refine lv_bipush (v := 100) hx hb dX11_wordOf_74 (by decide) ?_
                exact mri C hr hk hH hw dX11_wordOf_76
            · have hw := ifp c6 hw
              refine lv_bipush (v := 71) hx hb dX11_wordOf_63 (by decide) ?_
              exact mri C hr hk hH hw dX11_wordOf_65
          · have hw := ifp c5 hw
            refine lv_bipush (v := 70) hx hb dX11_wordOf_52 (by decide) ?_
            exact mri C hr hk hH hw dX11_wordOf_54
        · have hw := ifp c4 hw
          refine lv_bipush (v := 30) hx hb dX11_wordOf_41 (by decide) ?_
          exact mri C hr hk hH hw dX11_wordOf_43
      · have hw := ifp c3 hw
        refine lv_bipush (v := 20) hx hb dX11_wordOf_30 (by decide) ?_
        exact mri C hr hk hH hw dX11_wordOf_32
    · have hw := ifp c2 hw
      refine lv_bipush (v := 10) hx hb dX11_wordOf_19 (by decide) ?_
      exact mri C hr hk hH hw dX11_wordOf_21
  · have hw := ifp c1 hw
    refine lv_bipush (v := 7) hx hb dX11_wordOf_8 (by decide) ?_
    exact mri C hr hk hH hw dX11_wordOf_10
/-! signOf -/
abbrev rm_M_signOf : Room := { frames := 0, cells := 0, slots := 0, locals := 0 }
def wp_M_signOf (σ : MS) (a1 : Int32) (post : Int32 → MS → Prop) : Prop := if a1 = (40 : Int32) then (post (5 : Int32) σ) else (if a1 = (41 : Int32) then (post (6 : Int32) σ) else (if a1 = (42 : Int32) then (post (60 : Int32) σ) else (if a1 = (43 : Int32) then (post (50 : Int32) σ) else (if a1 = (44 : Int32) then (post (4 : Int32) σ) else (if a1 = (45 : Int32) then (post (51 : Int32) σ) else (if a1 = (46 : Int32) then (post (2 : Int32) σ) else (if a1 = (47 : Int32) then (post (61 : Int32) σ) else (if a1 = (48 : Int32) then (post (2 : Int32) σ) else (if a1 = (49 : Int32) then (post (2 : Int32) σ) else (if a1 = (50 : Int32) then (post (2 : Int32) σ) else (if a1 = (51 : Int32) then (post (2 : Int32) σ) else (if a1 = (52 : Int32) then (post (2 : Int32) σ) else (if a1 = (53 : Int32) then (post (2 : Int32) σ) else (if a1 = (54 : Int32) then (post (2 : Int32) σ) else (if a1 = (55 : Int32) then (post (2 : Int32) σ) else (if a1 = (56 : Int32) then (post (2 : Int32) σ) else (if a1 = (57 : Int32) then (post (2 : Int32) σ) else (if a1 = (58 : Int32) then (post (2 : Int32) σ) else (if a1 = (59 : Int32) then (post (3 : Int32) σ) else (if a1 = (60 : Int32) then (post (40 : Int32) σ) else (if a1 = (61 : Int32) then (post (41 : Int32) σ) else (if a1 = (62 : Int32) then (post (42 : Int32) σ) else (post (2 : Int32) σ)))))))))))))))))))))))
set_option maxHeartbeats 4000000 in
set_option maxRecDepth 100000 in
theorem c_M_signOf (l : Launch) (D : va_G) (Z : Nat → ClassId) (b : Nat → Nat) (σ : MS) (a1 : Int32) (post : Int32 → MS → Prop) (hw : wp_M_signOf σ a1 post) (sz : Nat) : Met l yX11_signOf (Wd yX11_signOf cX11_signOf 1 (some .int)) rm_M_signOf (va_Pc [.int a1] (mPre D Z b sz σ)) (va_Qi post (mPost D Z b) (mA b sz)) 0 0 (mA b sz) := by
  refine mMi (by decide) rfl _ (Nat.le_of_ble_eq_true rfl) (fun p e s m args below meth c C hr hk ls hl hH => ?_) sz
  obtain ⟨⟨hx, hb, hml, hown, hts⟩, hK⟩ := id C
  have hl : lv_has ls 1 [(0, .int a1)] := hl
  unfold wp_M_signOf at hw
  refine lv_iload_n hx hb dX11_signOf_0 rfl (lv_at hl 0 rfl) ?_
  by_cases c1 : a1 = (40 : Int32)
  · have hw := ifp c1 hw
    refine lv_tableIn (tgt := 108) hx hb dX11_signOf_1 (by rw [c1]; decide) (by rw [c1]; decide) (by rw [c1]; rfl) (by decide) ?_
    refine lv_iconst (v := 5) hx hb dX11_signOf_108 (by decide) ?_
    exact mri C hr hk hH hw dX11_signOf_109
  have hw := ifn c1 hw
  by_cases c2 : a1 = (41 : Int32)
  · have hw := ifp c2 hw
    refine lv_tableIn (tgt := 110) hx hb dX11_signOf_1 (by rw [c2]; decide) (by rw [c2]; decide) (by rw [c2]; rfl) (by decide) ?_
    refine lv_bipush (v := 6) hx hb dX11_signOf_110 (by decide) ?_
    exact mri C hr hk hH hw dX11_signOf_112
  have hw := ifn c2 hw
  by_cases c3 : a1 = (42 : Int32)
  · have hw := ifp c3 hw
    refine lv_tableIn (tgt := 113) hx hb dX11_signOf_1 (by rw [c3]; decide) (by rw [c3]; decide) (by rw [c3]; rfl) (by decide) ?_
    refine lv_bipush (v := 60) hx hb dX11_signOf_113 (by decide) ?_
    exact mri C hr hk hH hw dX11_signOf_115
  have hw := ifn c3 hw
  by_cases c4 : a1 = (43 : Int32)
  · have hw := ifp c4 hw
    refine lv_tableIn (tgt := 116) hx hb dX11_signOf_1 (by rw [c4]; decide) (by rw [c4]; decide) (by rw [c4]; rfl) (by decide) ?_
    refine lv_bipush (v := 50) hx hb dX11_signOf_116 (by decide) ?_
    exact mri C hr hk hH hw dX11_signOf_118
  have hw := ifn c4 hw
  by_cases c5 : a1 = (44 : Int32)
  · have hw := ifp c5 hw
    refine lv_tableIn (tgt := 119) hx hb dX11_signOf_1 (by rw [c5]; decide) (by rw [c5]; decide) (by rw [c5]; rfl) (by decide) ?_
    refine lv_iconst (v := 4) hx hb dX11_signOf_119 (by decide) ?_
    exact mri C hr hk hH hw dX11_signOf_120
  have hw := ifn c5 hw
  by_cases c6 : a1 = (45 : Int32)
  · have hw := ifp c6 hw
    refine lv_tableIn (tgt := 121) hx hb dX11_signOf_1 (by rw [c6]; decide) (by rw [c6]; decide) (by rw [c6]; rfl) (by decide) ?_
    refine lv_bipush (v := 51) hx hb dX11_signOf_121 (by decide) ?_
    exact mri C hr hk hH hw dX11_signOf_123
  have hw := ifn c6 hw
  by_cases c7 : a1 = (46 : Int32)
  · have hw := ifp c7 hw
    refine lv_tableIn (tgt := 138) hx hb dX11_signOf_1 (by rw [c7]; decide) (by rw [c7]; decide) (by rw [c7]; rfl) (by decide) ?_
    refine lv_iconst (v := 2) hx hb dX11_signOf_138 (by decide) ?_
    exact mri C hr hk hH hw dX11_signOf_139
  have hw := ifn c7 hw
  by_cases c8 : a1 = (47 : Int32)
  · have hw := ifp c8 hw
    refine lv_tableIn (tgt := 124) hx hb dX11_signOf_1 (by rw [c8]; decide) (by rw [c8]; decide) (by rw [c8]; rfl) (by decide) ?_
    refine lv_bipush (v := 61) hx hb dX11_signOf_124 (by decide) ?_
    exact mri C hr hk hH hw dX11_signOf_126
  have hw := ifn c8 hw
  by_cases c9 : a1 = (48 : Int32)
  · have hw := ifp c9 hw
    refine lv_tableIn (tgt := 138) hx hb dX11_signOf_1 (by rw [c9]; decide) (by rw [c9]; decide) (by rw [c9]; rfl) (by decide) ?_
    refine lv_iconst (v := 2) hx hb dX11_signOf_138 (by decide) ?_
    exact mri C hr hk hH hw dX11_signOf_139
  have hw := ifn c9 hw
  by_cases c10 : a1 = (49 : Int32)
  · have hw := ifp c10 hw
    refine lv_tableIn (tgt := 138) hx hb dX11_signOf_1 (by rw [c10]; decide) (by rw [c10]; decide) (by rw [c10]; rfl) (by decide) ?_
    refine lv_iconst (v := 2) hx hb dX11_signOf_138 (by decide) ?_
    exact mri C hr hk hH hw dX11_signOf_139
  have hw := ifn c10 hw
  by_cases c11 : a1 = (50 : Int32)
  · have hw := ifp c11 hw
    refine lv_tableIn (tgt := 138) hx hb dX11_signOf_1 (by rw [c11]; decide) (by rw [c11]; decide) (by rw [c11]; rfl) (by decide) ?_
    refine lv_iconst (v := 2) hx hb dX11_signOf_138 (by decide) ?_
    exact mri C hr hk hH hw dX11_signOf_139
  have hw := ifn c11 hw
  by_cases c12 : a1 = (51 : Int32)
  · have hw := ifp c12 hw
    refine lv_tableIn (tgt := 138) hx hb dX11_signOf_1 (by rw [c12]; decide) (by rw [c12]; decide) (by rw [c12]; rfl) (by decide) ?_
    refine lv_iconst (v := 2) hx hb dX11_signOf_138 (by decide) ?_
    exact mri C hr hk hH hw dX11_signOf_139
  have hw := ifn c12 hw
  by_cases c13 : a1 = (52 : Int32)
  · have hw := ifp c13 hw
    refine lv_tableIn (tgt := 138) hx hb dX11_signOf_1 (by rw [c13]; decide) (by rw [c13]; decide) (by rw [c13]; rfl) (by decide) ?_
    refine lv_iconst (v := 2) hx hb dX11_signOf_138 (by decide) ?_
    exact mri C hr hk hH hw dX11_signOf_139
  have hw := ifn c13 hw
  by_cases c14 : a1 = (53 : Int32)
  · have hw := ifp c14 hw
    refine lv_tableIn (tgt := 138) hx hb dX11_signOf_1 (by rw [c14]; decide) (by rw [c14]; decide) (by rw [c14]; rfl) (by decide) ?_
    refine lv_iconst (v := 2) hx hb dX11_signOf_138 (by decide) ?_
    exact mri C hr hk hH hw dX11_signOf_139
  have hw := ifn c14 hw
  by_cases c15 : a1 = (54 : Int32)
  · have hw := ifp c15 hw
    refine lv_tableIn (tgt := 138) hx hb dX11_signOf_1 (by rw [c15]; decide) (by rw [c15]; decide) (by rw [c15]; rfl) (by decide) ?_
    refine lv_iconst (v := 2) hx hb dX11_signOf_138 (by decide) ?_
    exact mri C hr hk hH hw dX11_signOf_139
  have hw := ifn c15 hw
  by_cases c16 : a1 = (55 : Int32)
  · have hw := ifp c16 hw
    refine lv_tableIn (tgt := 138) hx hb dX11_signOf_1 (by rw [c16]; decide) (by rw [c16]; decide) (by rw [c16]; rfl) (by decide) ?_
    refine lv_iconst (v := 2) hx hb dX11_signOf_138 (by decide) ?_
    exact mri C hr hk hH hw dX11_signOf_139
  have hw := ifn c16 hw
  by_cases c17 : a1 = (56 : Int32)
  · have hw := ifp c17 hw
    refine lv_tableIn (tgt := 138) hx hb dX11_signOf_1 (by rw [c17]; decide) (by rw [c17]; decide) (by rw [c17]; rfl) (by decide) ?_
    refine lv_iconst (v := 2) hx hb dX11_signOf_138 (by decide) ?_
    exact mri C hr hk hH hw dX11_signOf_139
  have hw := ifn c17 hw
  by_cases c18 : a1 = (57 : Int32)
  · have hw := ifp c18 hw
    refine lv_tableIn (tgt := 138) hx hb dX11_signOf_1 (by rw [c18]; decide) (by rw [c18]; decide) (by rw [c18]; rfl) (by decide) ?_
    refine lv_iconst (v := 2) hx hb dX11_signOf_138 (by decide) ?_
    exact mri C hr hk hH hw dX11_signOf_139
  have hw := ifn c18 hw
  by_cases c19 : a1 = (58 : Int32)
  · have hw := ifp c19 hw
    refine lv_tableIn (tgt := 138) hx hb dX11_signOf_1 (by rw [c19]; decide) (by rw [c19]; decide) (by rw [c19]; rfl) (by decide) ?_
    refine lv_iconst (v := 2) hx hb dX11_signOf_138 (by decide) ?_
    exact mri C hr hk hH hw dX11_signOf_139
  have hw := ifn c19 hw
  by_cases c20 : a1 = (59 : Int32)
  · have hw := ifp c20 hw
    refine lv_tableIn (tgt := 127) hx hb dX11_signOf_1 (by rw [c20]; decide) (by rw [c20]; decide) (by rw [c20]; rfl) (by decide) ?_
    refine lv_iconst (v := 3) hx hb dX11_signOf_127 (by decide) ?_
    exact mri C hr hk hH hw dX11_signOf_128
  have hw := ifn c20 hw
  by_cases c21 : a1 = (60 : Int32)
  · have hw := ifp c21 hw
    refine lv_tableIn (tgt := 129) hx hb dX11_signOf_1 (by rw [c21]; decide) (by rw [c21]; decide) (by rw [c21]; rfl) (by decide) ?_
    refine lv_bipush (v := 40) hx hb dX11_signOf_129 (by decide) ?_
    exact mri C hr hk hH hw dX11_signOf_131
  have hw := ifn c21 hw
  by_cases c22 : a1 = (61 : Int32)
  · have hw := ifp c22 hw
    refine lv_tableIn (tgt := 132) hx hb dX11_signOf_1 (by rw [c22]; decide) (by rw [c22]; decide) (by rw [c22]; rfl) (by decide) ?_
    refine lv_bipush (v := 41) hx hb dX11_signOf_132 (by decide) ?_
    exact mri C hr hk hH hw dX11_signOf_134
  have hw := ifn c22 hw
  by_cases c23 : a1 = (62 : Int32)
  · have hw := ifp c23 hw
    refine lv_tableIn (tgt := 135) hx hb dX11_signOf_1 (by rw [c23]; decide) (by rw [c23]; decide) (by rw [c23]; rfl) (by decide) ?_
    refine lv_bipush (v := 42) hx hb dX11_signOf_135 (by decide) ?_
    exact mri C hr hk hH hw dX11_signOf_137
  have hw := ifn c23 hw
  refine lv_tableOut (tgt := 138) hx hb dX11_signOf_1 (by have := sw_ne c1 40 (by decide); have := sw_ne c2 41 (by decide); have := sw_ne c3 42 (by decide); have := sw_ne c4 43 (by decide); have := sw_ne c5 44 (by decide); have := sw_ne c6 45 (by decide); have := sw_ne c7 46 (by decide); have := sw_ne c8 47 (by decide); have := sw_ne c9 48 (by decide); have := sw_ne c10 49 (by decide); have := sw_ne c11 50 (by decide); have := sw_ne c12 51 (by decide); have := sw_ne c13 52 (by decide); have := sw_ne c14 53 (by decide); have := sw_ne c15 54 (by decide); have := sw_ne c16 55 (by decide); have := sw_ne c17 56 (by decide); have := sw_ne c18 57 (by decide); have := sw_ne c19 58 (by decide); have := sw_ne c20 59 (by decide); have := sw_ne c21 60 (by decide); have := sw_ne c22 61 (by decide); have := sw_ne c23 62 (by decide); omega) (by decide) ?_
  refine lv_iconst (v := 2) hx hb dX11_signOf_138 (by decide) ?_
  exact mri C hr hk hH hw dX11_signOf_139
/-! advance -/
abbrev rm_M_advance : Room := { frames := 1, cells := 0, slots := 0, locals := 21 }
def wp_M_advance_282 (post : MS → Prop) (σ : MS) (t1_ : Int32) : Prop := ∀ σ1 : MS, σ1 = up2 σ 35 0 t1_ → (post σ1)
set_option maxHeartbeats 4000000 in
set_option maxRecDepth 100000 in
theorem b_M_advance_282 {p : Program} {l : Launch} {e : Env} {s : State} {m : MethodId} {args : Array Value} {below : List Frame} {meth : Method} {c : Code} {D : va_G} {Z : Nat → ClassId} {b : Nat → Nat} (C : MC p s m args c cX11_advance 5 D Z) (hr : meth.sig.returnType = none) (hk : meth.locks = false) {post : MS → Prop} : ∀ (σ : MS) (t1_ : Int32), wp_M_advance_282  post σ t1_ → ∀ (H : Heap) (locs : List Loc) (ls : Array Slot), MH D Z b s.heap σ H locs → lv_has ls 5 [] → MWv p l e rm_M_advance s m args below meth c D Z b post H locs (F0 m 282 ls [.int t1_, .ref (b 69)]) := by
  obtain ⟨⟨hx, hb, hml, hown, hts⟩, hK⟩ := id C
  intro σ t1_ hw H locs ls hH hl
  unfold wp_M_advance_282 at hw
  refine mp C hH 35 (by decide) rfl wd_1064 (mset_35 Z b σ _) dX11_advance_282 (fun H locs hH => ?_)
  have hw := hw _ rfl
  generalize up2 σ 35 0 t1_ = σ1 at hw hH
  exact mrv C hr hk hH hw dX11_advance_285
def wp_M_advance_271 (post : MS → Prop) (σ : MS) (x2_ : Int32) : Prop := if x2_ ≤ (5 : Int32) then (wp_M_advance_282 post σ (1 : Int32)) else (wp_M_advance_282 post σ (2 : Int32))
set_option maxHeartbeats 4000000 in
set_option maxRecDepth 100000 in
theorem b_M_advance_271 {p : Program} {l : Launch} {e : Env} {s : State} {m : MethodId} {args : Array Value} {below : List Frame} {meth : Method} {c : Code} {D : va_G} {Z : Nat → ClassId} {b : Nat → Nat} (C : MC p s m args c cX11_advance 5 D Z) (hr : meth.sig.returnType = none) (hk : meth.locks = false) {post : MS → Prop} : ∀ (σ : MS) (x2_ : Int32), wp_M_advance_271  post σ x2_ → ∀ (H : Heap) (locs : List Loc) (ls : Array Slot), MH D Z b s.heap σ H locs → lv_has ls 5 [(0, .ref (b 69)), (2, .int x2_)] → MWv p l e rm_M_advance s m args below meth c D Z b post H locs (F0 m 271 ls []) := by
  obtain ⟨⟨hx, hb, hml, hown, hts⟩, hK⟩ := id C
  intro σ x2_ hw H locs ls hH hl
  unfold wp_M_advance_271 at hw
  refine lv_aload_n hx hb dX11_advance_271 rfl (lv_at hl 0 rfl) ?_
  refine lv_iload_n hx hb dX11_advance_272 rfl (lv_at hl 1 rfl) ?_
  refine lv_iconst (v := 5) hx hb dX11_advance_273 (by decide) ?_
  refine lv_icmp_le (tgt := 281) hx hb dX11_advance_274 (by decide) (fun c2 => ?_) (fun c2 => ?_)
  · have hw := ifp c2 hw
    refine lv_iconst (v := 1) hx hb dX11_advance_281 (by decide) ?_
    exact b_M_advance_282 C hr hk  σ (1 : Int32) hw _ _ _ hH (lv_sub hl [] rfl)
  · have hw := ifn c2 hw
    refine lv_iconst (v := 2) hx hb dX11_advance_277 (by decide) ?_
    refine lv_goto (tgt := 282) hx hb dX11_advance_278 (by decide) ?_
    exact b_M_advance_282 C hr hk  σ (2 : Int32) hw _ _ _ hH (lv_sub hl [] rfl)
def wp_M_advance_252 (k193 : MS → Int32 → Prop) (post : MS → Prop) (σ : MS) (x2_ : Int32) (t1_ : Int32) : Prop := ∀ σ3 : MS, σ3 = up2 σ 37 0 t1_ → (∀ σ4 : MS, σ4 = up2 σ3 34 0 ((σ3 34 0) + (1 : Int32)) → (∀ x5 : Int32, x5 = x2_ + (1 : Int32) → (k193 σ4 x5)))
set_option maxHeartbeats 4000000 in
set_option maxRecDepth 100000 in
theorem b_M_advance_252 {p : Program} {l : Launch} {e : Env} {s : State} {m : MethodId} {args : Array Value} {below : List Frame} {meth : Method} {c : Code} {D : va_G} {Z : Nat → ClassId} {b : Nat → Nat} (C : MC p s m args c cX11_advance 5 D Z) (hr : meth.sig.returnType = none) (hk : meth.locks = false) {post : MS → Prop} {k193 : MS → Int32 → Prop} (hk193 : ∀ (σ : MS) (y2 : Int32), k193 σ y2 → ∀ (H : Heap) (locs : List Loc) (ls : Array Slot), MH D Z b s.heap σ H locs → lv_has ls 5 [(0, .ref (b 69)), (2, .int y2)] → MWv p l e rm_M_advance s m args below meth c D Z b post H locs (F0 m 193 ls [])) : ∀ (σ : MS) (x2_ : Int32) (t1_ : Int32), wp_M_advance_252 k193 post σ x2_ t1_ → ∀ (H : Heap) (locs : List Loc) (ls : Array Slot), MH D Z b s.heap σ H locs → lv_has ls 5 [(0, .ref (b 69)), (2, .int x2_)] → MWv p l e rm_M_advance s m args below meth c D Z b post H locs (F0 m 252 ls [.int t1_, .ref (b 69)]) := by
  obtain ⟨⟨hx, hb, hml, hown, hts⟩, hK⟩ := id C
  intro σ x2_ t1_ hw H locs ls hH hl
  unfold wp_M_advance_252 at hw
  refine mp C hH 37 (by decide) rfl wd_1066 (mset_37 Z b σ _) dX11_advance_252 (fun H locs hH => ?_)
  have hw := hw _ rfl
  generalize up2 σ 37 0 t1_ = σ3 at hw hH
  refine lv_aload_n hx hb dX11_advance_255 rfl (lv_at hl 0 rfl) ?_
  refine lv_dup hx hb dX11_advance_256 rfl ?_
  refine mg C hH 34 (by decide) rfl wd_1063 rfl dX11_advance_257 ?_
  refine lv_iconst (v := 1) hx hb dX11_advance_260 (by decide) ?_
  refine lv_iadd hx hb dX11_advance_261 ?_
  refine mp C hH 34 (by decide) rfl wd_1063 (mset_34 Z b σ3 _) dX11_advance_262 (fun H locs hH => ?_)
  have hw := hw _ rfl
  generalize up2 σ3 34 0 ((σ3 34 0) + (1 : Int32)) = σ4 at hw hH
  obtain ⟨x5, ex5⟩ : ∃ y : Int32, y = x2_ + (1 : Int32) := ⟨_, rfl⟩
  have hw := hw x5 ex5
  refine lv_iinc (v := x5) (lv' := [(2, .int x5), (0, .ref (b 69))]) hx hb dX11_advance_265 hl (k := 1) rfl (by rw [ex5]; rfl) (by decide) rfl (fun ls hl => ?_)
  refine lv_goto (tgt := 193) hx hb dX11_advance_268 (by decide) ?_
  exact hk193 σ4 x5 hw _ _ _ hH (lv_sub hl [1, 0] rfl)
def wp_M_advance_193 (post : MS → Prop) : Nat → MS → Int32 → Prop
  | 0 => fun _ _ => False
  | n + 1 => fun σ x2_ => if (σ 25 0) ≤ (σ 34 0) then (wp_M_advance_271 post σ x2_) else (vp_in (σ 34 0) 200 ∧ (wp_M_isDigit σ (σ 24 (σ 34 0).toNatClampNeg) (fun r9 σ8 => if r9 = 0 then (wp_M_advance_271 post σ8 x2_) else (if (5 : Int32) ≤ x2_ then (wp_M_advance_252 (wp_M_advance_193 post n) post σ8 x2_ (σ8 37 0)) else (vp_in (σ8 34 0) 200 ∧ (wp_M_advance_252 (wp_M_advance_193 post n) post σ8 x2_ ((((10 : Int32) * (σ8 37 0)) + (σ8 24 (σ8 34 0).toNatClampNeg)) - (48 : Int32))))))))
set_option maxHeartbeats 4000000 in
set_option maxRecDepth 100000 in
theorem b_M_advance_193 {p : Program} {l : Launch} {e : Env} {s : State} {m : MethodId} {args : Array Value} {below : List Frame} {meth : Method} {c : Code} {D : va_G} {Z : Nat → ClassId} {b : Nat → Nat} (C : MC p s m args c cX11_advance 5 D Z) (hr : meth.sig.returnType = none) (hk : meth.locks = false) {post : MS → Prop} : ∀ (n : Nat) (σ : MS) (x2_ : Int32), wp_M_advance_193  post n σ x2_ → ∀ (H : Heap) (locs : List Loc) (ls : Array Slot), MH D Z b s.heap σ H locs → lv_has ls 5 [(0, .ref (b 69)), (2, .int x2_)] → MWv p l e rm_M_advance s m args below meth c D Z b post H locs (F0 m 193 ls []) := by
  obtain ⟨⟨hx, hb, hml, hown, hts⟩, hK⟩ := id C
  intro n
  induction n with
  | zero => intro σ x2_ hw; exact hw.elim
  | succ n ih =>
    intro σ x2_ hw H locs ls hH hl
    unfold wp_M_advance_193 at hw
    refine lv_aload_n hx hb dX11_advance_193 rfl (lv_at hl 0 rfl) ?_
    refine mg C hH 34 (by decide) rfl wd_1063 rfl dX11_advance_194 ?_
    refine lv_aload_n hx hb dX11_advance_197 rfl (lv_at hl 0 rfl) ?_
    refine mg C hH 25 (by decide) rfl wd_1054 rfl dX11_advance_198 ?_
    refine lv_icmp_ge (tgt := 271) hx hb dX11_advance_201 (by decide) (fun c6 => ?_) (fun c6 => ?_)
    · have hw := ifp c6 hw
      exact b_M_advance_271 C hr hk  σ x2_ hw _ _ _ hH (lv_sub hl [0, 1] rfl)
    · have hw := ifn c6 hw
      refine lv_aload_n hx hb dX11_advance_204 rfl (lv_at hl 0 rfl) ?_
      refine mg C hH 24 (by decide) rfl wd_1053 rfl dX11_advance_205 ?_
      refine lv_aload_n hx hb dX11_advance_208 rfl (lv_at hl 0 rfl) ?_
      refine mg C hH 34 (by decide) rfl wd_1063 rfl dX11_advance_209 ?_
      obtain ⟨h7, hw⟩ := hw
      refine mab C hH 20 24 rfl h7 dX11_advance_212 ?_
      refine mcSi C hH [.int (σ 24 (σ 34 0).toNatClampNeg)] (fun sz => c_M_isDigit l D Z b σ (σ 24 (σ 34 0).toNatClampNeg) _ hw sz) (cwTS 1 hts wd_1380 wd_1381 wd_14 wd_1382 rfl rfl (by decide +kernel) ⟨Nat.le_of_ble_eq_true rfl, Nat.le_of_ble_eq_true rfl⟩) rfl hl.1 rfl (Nat.le_of_ble_eq_true rfl) dX11_advance_213 ⟨Nat.zero_le _, Nat.zero_le _⟩ (fun r9 σ8 H locs hw hH => ?_)
      refine lv_if_eq (tgt := 271) hx hb dX11_advance_216 (by decide) (fun c10 => ?_) (fun c10 => ?_)
      · have hw := ifp c10 hw
        exact b_M_advance_271 C hr hk  σ8 x2_ hw _ _ _ hH (lv_sub hl [0, 1] rfl)
      · have hw := ifn c10 hw
        refine lv_aload_n hx hb dX11_advance_219 rfl (lv_at hl 0 rfl) ?_
        refine lv_iload_n hx hb dX11_advance_220 rfl (lv_at hl 1 rfl) ?_
        refine lv_iconst (v := 5) hx hb dX11_advance_221 (by decide) ?_
        refine lv_icmp_ge (tgt := 248) hx hb dX11_advance_222 (by decide) (fun c11 => ?_) (fun c11 => ?_)
        · have hw := ifp c11 hw
          refine lv_aload_n hx hb dX11_advance_248 rfl (lv_at hl 0 rfl) ?_
          refine mg C hH 37 (by decide) rfl wd_1066 rfl dX11_advance_249 ?_
          exact b_M_advance_252 C hr hk ih σ8 x2_ (σ8 37 0) hw _ _ _ hH (lv_sub hl [0, 1] rfl)
        · have hw := ifn c11 hw
          refine lv_bipush (v := 10) hx hb dX11_advance_225 (by decide) ?_
          refine lv_aload_n hx hb dX11_advance_227 rfl (lv_at hl 0 rfl) ?_
          refine mg C hH 37 (by decide) rfl wd_1066 rfl dX11_advance_228 ?_
          refine lv_imul hx hb dX11_advance_231 ?_
          refine lv_aload_n hx hb dX11_advance_232 rfl (lv_at hl 0 rfl) ?_
          refine mg C hH 24 (by decide) rfl wd_1053 rfl dX11_advance_233 ?_
          refine lv_aload_n hx hb dX11_advance_236 rfl (lv_at hl 0 rfl) ?_
          refine mg C hH 34 (by decide) rfl wd_1063 rfl dX11_advance_237 ?_
          obtain ⟨h12, hw⟩ := hw
          refine mab C hH 20 24 rfl h12 dX11_advance_240 ?_
          refine lv_iadd hx hb dX11_advance_241 ?_
          refine lv_bipush (v := 48) hx hb dX11_advance_242 (by decide) ?_
          refine lv_isub hx hb dX11_advance_244 ?_
          refine lv_goto (tgt := 252) hx hb dX11_advance_245 (by decide) ?_
          exact b_M_advance_252 C hr hk ih σ8 x2_ ((((10 : Int32) * (σ8 37 0)) + (σ8 24 (σ8 34 0).toNatClampNeg)) - (48 : Int32)) hw _ _ _ hH (lv_sub hl [0, 1] rfl)
def wp_M_advance_175 (post : MS → Prop) (σ : MS) (t1_ : Int32) : Prop := ∀ σ13 : MS, σ13 = up2 σ 35 0 t1_ → (post σ13)
set_option maxHeartbeats 4000000 in
set_option maxRecDepth 100000 in
theorem b_M_advance_175 {p : Program} {l : Launch} {e : Env} {s : State} {m : MethodId} {args : Array Value} {below : List Frame} {meth : Method} {c : Code} {D : va_G} {Z : Nat → ClassId} {b : Nat → Nat} (C : MC p s m args c cX11_advance 5 D Z) (hr : meth.sig.returnType = none) (hk : meth.locks = false) {post : MS → Prop} : ∀ (σ : MS) (t1_ : Int32), wp_M_advance_175  post σ t1_ → ∀ (H : Heap) (locs : List Loc) (ls : Array Slot), MH D Z b s.heap σ H locs → lv_has ls 5 [] → MWv p l e rm_M_advance s m args below meth c D Z b post H locs (F0 m 175 ls [.int t1_, .ref (b 69)]) := by
  obtain ⟨⟨hx, hb, hml, hown, hts⟩, hK⟩ := id C
  intro σ t1_ hw H locs ls hH hl
  unfold wp_M_advance_175 at hw
  refine mp C hH 35 (by decide) rfl wd_1064 (mset_35 Z b σ _) dX11_advance_175 (fun H locs hH => ?_)
  have hw := hw _ rfl
  generalize up2 σ 35 0 t1_ = σ13 at hw hH
  exact mrv C hr hk hH hw dX11_advance_178
def wp_M_advance_159 (post : MS → Prop) (σ : MS) (x2_ : Int64) (x4_ : Int32) : Prop := if x4_ ≤ (8 : Int32) then (wp_M_wordOf σ x2_ (fun r16 σ15 => wp_M_advance_175 post σ15 r16)) else (wp_M_advance_175 post σ (2 : Int32))
set_option maxHeartbeats 4000000 in
set_option maxRecDepth 100000 in
theorem b_M_advance_159 {p : Program} {l : Launch} {e : Env} {s : State} {m : MethodId} {args : Array Value} {below : List Frame} {meth : Method} {c : Code} {D : va_G} {Z : Nat → ClassId} {b : Nat → Nat} (C : MC p s m args c cX11_advance 5 D Z) (hr : meth.sig.returnType = none) (hk : meth.locks = false) {post : MS → Prop} : ∀ (σ : MS) (x2_ : Int64) (x4_ : Int32), wp_M_advance_159  post σ x2_ x4_ → ∀ (H : Heap) (locs : List Loc) (ls : Array Slot), MH D Z b s.heap σ H locs → lv_has ls 5 [(0, .ref (b 69)), (2, .long x2_), (4, .int x4_)] → MWv p l e rm_M_advance s m args below meth c D Z b post H locs (F0 m 159 ls []) := by
  obtain ⟨⟨hx, hb, hml, hown, hts⟩, hK⟩ := id C
  intro σ x2_ x4_ hw H locs ls hH hl
  unfold wp_M_advance_159 at hw
  refine lv_aload_n hx hb dX11_advance_159 rfl (lv_at hl 0 rfl) ?_
  refine lv_iload hx hb dX11_advance_160 (lv_at hl 2 rfl) ?_
  refine lv_bipush (v := 8) hx hb dX11_advance_162 (by decide) ?_
  refine lv_icmp_le (tgt := 171) hx hb dX11_advance_164 (by decide) (fun c14 => ?_) (fun c14 => ?_)
  · have hw := ifp c14 hw
    refine lv_lload_n hx hb dX11_advance_171 rfl (lv_at hl 1 rfl) ?_
    refine mcSi C hH [.long x2_] (fun sz => c_M_wordOf l D Z b σ x2_ _ hw sz) (cwTS 1 hts wd_1358 wd_1359 wd_14 wd_1360 rfl rfl (by decide +kernel) ⟨Nat.le_of_ble_eq_true rfl, Nat.le_of_ble_eq_true rfl⟩) rfl hl.1 rfl (Nat.le_of_ble_eq_true rfl) dX11_advance_172 ⟨Nat.zero_le _, Nat.zero_le _⟩ (fun r16 σ15 H locs hw hH => ?_)
    exact b_M_advance_175 C hr hk  σ15 r16 hw _ _ _ hH (lv_sub hl [] rfl)
  · have hw := ifn c14 hw
    refine lv_iconst (v := 2) hx hb dX11_advance_167 (by decide) ?_
    refine lv_goto (tgt := 175) hx hb dX11_advance_168 (by decide) ?_
    exact b_M_advance_175 C hr hk  σ (2 : Int32) hw _ _ _ hH (lv_sub hl [] rfl)
def wp_M_advance_142 (k85 : MS → Int64 → Int32 → Prop) (post : MS → Prop) (σ : MS) (x4_ : Int32) (t0_ : Int64) : Prop := ∀ σ17 : MS, σ17 = up2 σ 34 0 ((σ 34 0) + (1 : Int32)) → (∀ x18 : Int32, x18 = x4_ + (1 : Int32) → (k85 σ17 t0_ x18))
set_option maxHeartbeats 4000000 in
set_option maxRecDepth 100000 in
theorem b_M_advance_142 {p : Program} {l : Launch} {e : Env} {s : State} {m : MethodId} {args : Array Value} {below : List Frame} {meth : Method} {c : Code} {D : va_G} {Z : Nat → ClassId} {b : Nat → Nat} (C : MC p s m args c cX11_advance 5 D Z) (hr : meth.sig.returnType = none) (hk : meth.locks = false) {post : MS → Prop} {k85 : MS → Int64 → Int32 → Prop} (hk85 : ∀ (σ : MS) (y2 : Int64) (y4 : Int32), k85 σ y2 y4 → ∀ (H : Heap) (locs : List Loc) (ls : Array Slot), MH D Z b s.heap σ H locs → lv_has ls 5 [(0, .ref (b 69)), (2, .long y2), (4, .int y4)] → MWv p l e rm_M_advance s m args below meth c D Z b post H locs (F0 m 85 ls [])) : ∀ (σ : MS) (x4_ : Int32) (t0_ : Int64), wp_M_advance_142 k85 post σ x4_ t0_ → ∀ (H : Heap) (locs : List Loc) (ls : Array Slot), MH D Z b s.heap σ H locs → lv_has ls 5 [(0, .ref (b 69)), (4, .int x4_)] → MWv p l e rm_M_advance s m args below meth c D Z b post H locs (F0 m 142 ls [.long t0_]) := by
  obtain ⟨⟨hx, hb, hml, hown, hts⟩, hK⟩ := id C
  intro σ x4_ t0_ hw H locs ls hH hl
  unfold wp_M_advance_142 at hw
  refine lv_lstore_n (lv' := [(2, .long t0_), (0, .ref (b 69)), (4, .int x4_)]) hx hb dX11_advance_142 rfl hl (by decide) rfl (fun ls hl => ?_)
  refine lv_aload_n hx hb dX11_advance_143 rfl (lv_at hl 1 rfl) ?_
  refine lv_dup hx hb dX11_advance_144 rfl ?_
  refine mg C hH 34 (by decide) rfl wd_1063 rfl dX11_advance_145 ?_
  refine lv_iconst (v := 1) hx hb dX11_advance_148 (by decide) ?_
  refine lv_iadd hx hb dX11_advance_149 ?_
  refine mp C hH 34 (by decide) rfl wd_1063 (mset_34 Z b σ _) dX11_advance_150 (fun H locs hH => ?_)
  have hw := hw _ rfl
  generalize up2 σ 34 0 ((σ 34 0) + (1 : Int32)) = σ17 at hw hH
  obtain ⟨x18, ex18⟩ : ∃ y : Int32, y = x4_ + (1 : Int32) := ⟨_, rfl⟩
  have hw := hw x18 ex18
  refine lv_iinc (v := x18) (lv' := [(4, .int x18), (2, .long t0_), (0, .ref (b 69))]) hx hb dX11_advance_153 hl (k := 2) rfl (by rw [ex18]; rfl) (by decide) rfl (fun ls hl => ?_)
  refine lv_goto (tgt := 85) hx hb dX11_advance_156 (by decide) ?_
  exact hk85 σ17 t0_ x18 hw _ _ _ hH (lv_sub hl [2, 1, 0] rfl)
def wp_M_advance_85 (post : MS → Prop) : Nat → MS → Int64 → Int32 → Prop
  | 0 => fun _ _ _ => False
  | n + 1 => fun σ x2_ x4_ => if (σ 25 0) ≤ (σ 34 0) then (wp_M_advance_159 post σ x2_ x4_) else (vp_in (σ 34 0) 200 ∧ (wp_M_isLetter σ (σ 24 (σ 34 0).toNatClampNeg) (fun r22 σ21 => if r22 = 0 then (wp_M_advance_159 post σ21 x2_ x4_) else (if (9 : Int32) ≤ x4_ then (wp_M_advance_142 (wp_M_advance_85 post n) post σ21 x4_ x2_) else (vp_in (σ21 34 0) 200 ∧ (wp_M_advance_142 (wp_M_advance_85 post n) post σ21 x4_ (((x2_ * (27 : Int64)) + ((σ21 24 (σ21 34 0).toNatClampNeg).toInt64)) - (96 : Int64))))))))
set_option maxHeartbeats 4000000 in
set_option maxRecDepth 100000 in
theorem b_M_advance_85 {p : Program} {l : Launch} {e : Env} {s : State} {m : MethodId} {args : Array Value} {below : List Frame} {meth : Method} {c : Code} {D : va_G} {Z : Nat → ClassId} {b : Nat → Nat} (C : MC p s m args c cX11_advance 5 D Z) (hr : meth.sig.returnType = none) (hk : meth.locks = false) {post : MS → Prop} : ∀ (n : Nat) (σ : MS) (x2_ : Int64) (x4_ : Int32), wp_M_advance_85  post n σ x2_ x4_ → ∀ (H : Heap) (locs : List Loc) (ls : Array Slot), MH D Z b s.heap σ H locs → lv_has ls 5 [(0, .ref (b 69)), (2, .long x2_), (4, .int x4_)] → MWv p l e rm_M_advance s m args below meth c D Z b post H locs (F0 m 85 ls []) := by
  obtain ⟨⟨hx, hb, hml, hown, hts⟩, hK⟩ := id C
  intro n
  induction n with
  | zero => intro σ x2_ x4_ hw; exact hw.elim
  | succ n ih =>
    intro σ x2_ x4_ hw H locs ls hH hl
    unfold wp_M_advance_85 at hw
    refine lv_aload_n hx hb dX11_advance_85 rfl (lv_at hl 0 rfl) ?_
    refine mg C hH 34 (by decide) rfl wd_1063 rfl dX11_advance_86 ?_
    refine lv_aload_n hx hb dX11_advance_89 rfl (lv_at hl 0 rfl) ?_
    refine mg C hH 25 (by decide) rfl wd_1054 rfl dX11_advance_90 ?_
    refine lv_icmp_ge (tgt := 159) hx hb dX11_advance_93 (by decide) (fun c19 => ?_) (fun c19 => ?_)
    · have hw := ifp c19 hw
      exact b_M_advance_159 C hr hk  σ x2_ x4_ hw _ _ _ hH (lv_sub hl [0, 1, 2] rfl)
    · have hw := ifn c19 hw
      refine lv_aload_n hx hb dX11_advance_96 rfl (lv_at hl 0 rfl) ?_
      refine mg C hH 24 (by decide) rfl wd_1053 rfl dX11_advance_97 ?_
      refine lv_aload_n hx hb dX11_advance_100 rfl (lv_at hl 0 rfl) ?_
      refine mg C hH 34 (by decide) rfl wd_1063 rfl dX11_advance_101 ?_
      obtain ⟨h20, hw⟩ := hw
      refine mab C hH 20 24 rfl h20 dX11_advance_104 ?_
      refine mcSi C hH [.int (σ 24 (σ 34 0).toNatClampNeg)] (fun sz => c_M_isLetter l D Z b σ (σ 24 (σ 34 0).toNatClampNeg) _ hw sz) (cwTS 1 hts wd_1353 wd_1354 wd_14 wd_1355 rfl rfl (by decide +kernel) ⟨Nat.le_of_ble_eq_true rfl, Nat.le_of_ble_eq_true rfl⟩) rfl hl.1 rfl (Nat.le_of_ble_eq_true rfl) dX11_advance_105 ⟨Nat.zero_le _, Nat.zero_le _⟩ (fun r22 σ21 H locs hw hH => ?_)
      refine lv_if_eq (tgt := 159) hx hb dX11_advance_108 (by decide) (fun c23 => ?_) (fun c23 => ?_)
      · have hw := ifp c23 hw
        exact b_M_advance_159 C hr hk  σ21 x2_ x4_ hw _ _ _ hH (lv_sub hl [0, 1, 2] rfl)
      · have hw := ifn c23 hw
        refine lv_iload hx hb dX11_advance_111 (lv_at hl 2 rfl) ?_
        refine lv_bipush (v := 9) hx hb dX11_advance_113 (by decide) ?_
        refine lv_icmp_ge (tgt := 141) hx hb dX11_advance_115 (by decide) (fun c24 => ?_) (fun c24 => ?_)
        · have hw := ifp c24 hw
          refine lv_lload_n hx hb dX11_advance_141 rfl (lv_at hl 1 rfl) ?_
          exact b_M_advance_142 C hr hk ih σ21 x4_ x2_ hw _ _ _ hH (lv_sub hl [0, 2] rfl)
        · have hw := ifn c24 hw
          refine lv_lload_n hx hb dX11_advance_118 rfl (lv_at hl 1 rfl) ?_
          refine lv_ldc2 (own := RX11) (index := 248) (v := 27) hx hb hown (hts _ wd_1356) dX11_advance_119 ?_
          refine lv_lmul hx hb dX11_advance_122 ?_
          refine lv_aload_n hx hb dX11_advance_123 rfl (lv_at hl 0 rfl) ?_
          refine mg C hH 24 (by decide) rfl wd_1053 rfl dX11_advance_124 ?_
          refine lv_aload_n hx hb dX11_advance_127 rfl (lv_at hl 0 rfl) ?_
          refine mg C hH 34 (by decide) rfl wd_1063 rfl dX11_advance_128 ?_
          obtain ⟨h25, hw⟩ := hw
          refine mab C hH 20 24 rfl h25 dX11_advance_131 ?_
          refine lv_i2l hx hb dX11_advance_132 rfl ?_
          refine lv_ladd hx hb dX11_advance_133 ?_
          refine lv_ldc2 (own := RX11) (index := 250) (v := 96) hx hb hown (hts _ wd_1357) dX11_advance_134 ?_
          refine lv_lsub hx hb dX11_advance_137 ?_
          refine lv_goto (tgt := 142) hx hb dX11_advance_138 (by decide) ?_
          exact b_M_advance_142 C hr hk ih σ21 x4_ (((x2_ * (27 : Int64)) + ((σ21 24 (σ21 34 0).toNatClampNeg).toInt64)) - (96 : Int64)) hw _ _ _ hH (lv_sub hl [0, 2] rfl)
def wp_M_advance_38 (post : MS → Prop) (σ : MS) : Prop := ∀ σ26 : MS, σ26 = up2 σ 36 0 (σ 34 0) → (if (σ26 34 0) = (σ26 25 0) then (∀ σ41 : MS, σ41 = up2 σ26 35 0 (0 : Int32) → (post σ41)) else (vp_in (σ26 34 0) 200 ∧ (∀ x29 : Int32, x29 = (σ26 24 (σ26 34 0).toNatClampNeg) → (wp_M_isLetter σ26 x29 (fun r31 σ30 => if r31 = 0 then (wp_M_isDigit σ30 x29 (fun r34 σ33 => if r34 = 0 then (∀ σ36 : MS, σ36 = up2 σ33 34 0 ((σ33 34 0) + (1 : Int32)) → (wp_M_signOf σ36 x29 (fun r38 σ37 => ∀ σ39 : MS, σ39 = up2 σ37 35 0 r38 → (post σ39)))) else (∀ σ40 : MS, σ40 = up2 σ33 37 0 (0 : Int32) → (∃ nn : Nat, wp_M_advance_193  post nn σ40 (0 : Int32))))) else (∃ nn : Nat, wp_M_advance_85  post nn σ30 (0 : Int64) (0 : Int32)))))))
set_option maxHeartbeats 4000000 in
set_option maxRecDepth 100000 in
theorem b_M_advance_38 {p : Program} {l : Launch} {e : Env} {s : State} {m : MethodId} {args : Array Value} {below : List Frame} {meth : Method} {c : Code} {D : va_G} {Z : Nat → ClassId} {b : Nat → Nat} (C : MC p s m args c cX11_advance 5 D Z) (hr : meth.sig.returnType = none) (hk : meth.locks = false) {post : MS → Prop} : ∀ (σ : MS) , wp_M_advance_38  post σ  → ∀ (H : Heap) (locs : List Loc) (ls : Array Slot), MH D Z b s.heap σ H locs → lv_has ls 5 [(0, .ref (b 69))] → MWv p l e rm_M_advance s m args below meth c D Z b post H locs (F0 m 38 ls []) := by
  obtain ⟨⟨hx, hb, hml, hown, hts⟩, hK⟩ := id C
  intro σ  hw H locs ls hH hl
  unfold wp_M_advance_38 at hw
  refine lv_aload_n hx hb dX11_advance_38 rfl (lv_at hl 0 rfl) ?_
  refine lv_aload_n hx hb dX11_advance_39 rfl (lv_at hl 0 rfl) ?_
  refine mg C hH 34 (by decide) rfl wd_1063 rfl dX11_advance_40 ?_
  refine mp C hH 36 (by decide) rfl wd_1065 (mset_36 Z b σ _) dX11_advance_43 (fun H locs hH => ?_)
  have hw := hw _ rfl
  generalize up2 σ 36 0 (σ 34 0) = σ26 at hw hH
  refine lv_aload_n hx hb dX11_advance_46 rfl (lv_at hl 0 rfl) ?_
  refine mg C hH 34 (by decide) rfl wd_1063 rfl dX11_advance_47 ?_
  refine lv_aload_n hx hb dX11_advance_50 rfl (lv_at hl 0 rfl) ?_
  refine mg C hH 25 (by decide) rfl wd_1054 rfl dX11_advance_51 ?_
  refine lv_icmp_ne (tgt := 63) hx hb dX11_advance_54 (by decide) (fun c27 => ?_) (fun c27 => ?_)
  · have hw := ifn c27 hw
    refine lv_aload_n hx hb dX11_advance_63 rfl (lv_at hl 0 rfl) ?_
    refine mg C hH 24 (by decide) rfl wd_1053 rfl dX11_advance_64 ?_
    refine lv_aload_n hx hb dX11_advance_67 rfl (lv_at hl 0 rfl) ?_
    refine mg C hH 34 (by decide) rfl wd_1063 rfl dX11_advance_68 ?_
    obtain ⟨h28, hw⟩ := hw
    refine mab C hH 20 24 rfl h28 dX11_advance_71 ?_
    refine lv_topi (fun x29 ex29 => ?_)
    have hw := hw x29 ex29
    refine lv_istore_n (lv' := [(1, .int x29), (0, .ref (b 69))]) hx hb dX11_advance_72 rfl hl (by decide) rfl (fun ls hl => ?_)
    refine lv_iload_n hx hb dX11_advance_73 rfl (lv_at hl 0 rfl) ?_
    refine mcSi C hH [.int x29] (fun sz => c_M_isLetter l D Z b σ26 x29 _ hw sz) (cwTS 1 hts wd_1353 wd_1354 wd_14 wd_1355 rfl rfl (by decide +kernel) ⟨Nat.le_of_ble_eq_true rfl, Nat.le_of_ble_eq_true rfl⟩) rfl hl.1 rfl (Nat.le_of_ble_eq_true rfl) dX11_advance_74 ⟨Nat.zero_le _, Nat.zero_le _⟩ (fun r31 σ30 H locs hw hH => ?_)
    refine lv_if_eq (tgt := 179) hx hb dX11_advance_77 (by decide) (fun c32 => ?_) (fun c32 => ?_)
    · have hw := ifp c32 hw
      refine lv_iload_n hx hb dX11_advance_179 rfl (lv_at hl 0 rfl) ?_
      refine mcSi C hH [.int x29] (fun sz => c_M_isDigit l D Z b σ30 x29 _ hw sz) (cwTS 1 hts wd_1380 wd_1381 wd_14 wd_1382 rfl rfl (by decide +kernel) ⟨Nat.le_of_ble_eq_true rfl, Nat.le_of_ble_eq_true rfl⟩) rfl hl.1 rfl (Nat.le_of_ble_eq_true rfl) dX11_advance_180 ⟨Nat.zero_le _, Nat.zero_le _⟩ (fun r34 σ33 H locs hw hH => ?_)
      refine lv_if_eq (tgt := 286) hx hb dX11_advance_183 (by decide) (fun c35 => ?_) (fun c35 => ?_)
      · have hw := ifp c35 hw
        refine lv_aload_n hx hb dX11_advance_286 rfl (lv_at hl 1 rfl) ?_
        refine lv_dup hx hb dX11_advance_287 rfl ?_
        refine mg C hH 34 (by decide) rfl wd_1063 rfl dX11_advance_288 ?_
        refine lv_iconst (v := 1) hx hb dX11_advance_291 (by decide) ?_
        refine lv_iadd hx hb dX11_advance_292 ?_
        refine mp C hH 34 (by decide) rfl wd_1063 (mset_34 Z b σ33 _) dX11_advance_293 (fun H locs hH => ?_)
        have hw := hw _ rfl
        generalize up2 σ33 34 0 ((σ33 34 0) + (1 : Int32)) = σ36 at hw hH
        refine lv_aload_n hx hb dX11_advance_296 rfl (lv_at hl 1 rfl) ?_
        refine lv_iload_n hx hb dX11_advance_297 rfl (lv_at hl 0 rfl) ?_
        refine mcSi C hH [.int x29] (fun sz => c_M_signOf l D Z b σ36 x29 _ hw sz) (cwTS 1 hts wd_1383 wd_1384 wd_14 wd_1385 rfl rfl (by decide +kernel) ⟨Nat.le_of_ble_eq_true rfl, Nat.le_of_ble_eq_true rfl⟩) rfl hl.1 rfl (Nat.le_of_ble_eq_true rfl) dX11_advance_298 ⟨Nat.zero_le _, Nat.zero_le _⟩ (fun r38 σ37 H locs hw hH => ?_)
        refine mp C hH 35 (by decide) rfl wd_1064 (mset_35 Z b σ37 _) dX11_advance_301 (fun H locs hH => ?_)
        have hw := hw _ rfl
        generalize up2 σ37 35 0 r38 = σ39 at hw hH
        exact mrv C hr hk hH hw dX11_advance_304
      · have hw := ifn c35 hw
        refine lv_iconst (v := 0) hx hb dX11_advance_186 (by decide) ?_
        refine lv_istore_n (lv' := [(2, .int (0 : Int32)), (1, .int x29), (0, .ref (b 69))]) hx hb dX11_advance_187 rfl hl (by decide) rfl (fun ls hl => ?_)
        refine lv_aload_n hx hb dX11_advance_188 rfl (lv_at hl 2 rfl) ?_
        refine lv_iconst (v := 0) hx hb dX11_advance_189 (by decide) ?_
        refine mp C hH 37 (by decide) rfl wd_1066 (mset_37 Z b σ33 _) dX11_advance_190 (fun H locs hH => ?_)
        have hw := hw _ rfl
        generalize up2 σ33 37 0 (0 : Int32) = σ40 at hw hH
        obtain ⟨nn, hw⟩ := hw
        exact b_M_advance_193 C hr hk  nn σ40 (0 : Int32) hw _ _ _ hH (lv_sub hl [2, 0] rfl)
    · have hw := ifn c32 hw
      refine lv_lconst (v := 0) hx hb dX11_advance_80 (by decide) ?_
      refine lv_lstore_n (lv' := [(2, .long (0 : Int64)), (1, .int x29), (0, .ref (b 69))]) hx hb dX11_advance_81 rfl hl (by decide) rfl (fun ls hl => ?_)
      refine lv_iconst (v := 0) hx hb dX11_advance_82 (by decide) ?_
      refine lv_istore (lv' := [(4, .int (0 : Int32)), (2, .long (0 : Int64)), (1, .int x29), (0, .ref (b 69))]) hx hb dX11_advance_83 hl (by decide) rfl (fun ls hl => ?_)
      obtain ⟨nn, hw⟩ := hw
      exact b_M_advance_85 C hr hk  nn σ30 (0 : Int64) (0 : Int32) hw _ _ _ hH (lv_sub hl [3, 1, 0] rfl)
  · have hw := ifp c27 hw
    refine lv_aload_n hx hb dX11_advance_57 rfl (lv_at hl 0 rfl) ?_
    refine lv_iconst (v := 0) hx hb dX11_advance_58 (by decide) ?_
    refine mp C hH 35 (by decide) rfl wd_1064 (mset_35 Z b σ26 _) dX11_advance_59 (fun H locs hH => ?_)
    have hw := hw _ rfl
    generalize up2 σ26 35 0 (0 : Int32) = σ41 at hw hH
    exact mrv C hr hk hH hw dX11_advance_62
def wp_M_advance_0 (post : MS → Prop) : Nat → MS → Prop
  | 0 => fun _ => False
  | n + 1 => fun σ => if (σ 25 0) ≤ (σ 34 0) then (wp_M_advance_38 post σ) else (vp_in (σ 34 0) 200 ∧ (if (σ 24 (σ 34 0).toNatClampNeg) = (32 : Int32) then (∀ σ45 : MS, σ45 = up2 σ 34 0 ((σ 34 0) + (1 : Int32)) → (wp_M_advance_0  post n σ45)) else (wp_M_advance_38 post σ)))
set_option maxHeartbeats 4000000 in
set_option maxRecDepth 100000 in
theorem b_M_advance_0 {p : Program} {l : Launch} {e : Env} {s : State} {m : MethodId} {args : Array Value} {below : List Frame} {meth : Method} {c : Code} {D : va_G} {Z : Nat → ClassId} {b : Nat → Nat} (C : MC p s m args c cX11_advance 5 D Z) (hr : meth.sig.returnType = none) (hk : meth.locks = false) {post : MS → Prop} : ∀ (n : Nat) (σ : MS) , wp_M_advance_0  post n σ  → ∀ (H : Heap) (locs : List Loc) (ls : Array Slot), MH D Z b s.heap σ H locs → lv_has ls 5 [(0, .ref (b 69))] → MWv p l e rm_M_advance s m args below meth c D Z b post H locs (F0 m 0 ls []) := by
  obtain ⟨⟨hx, hb, hml, hown, hts⟩, hK⟩ := id C
  intro n
  induction n with
  | zero => intro σ  hw; exact hw.elim
  | succ n ih =>
    intro σ  hw H locs ls hH hl
    unfold wp_M_advance_0 at hw
    refine lv_aload_n hx hb dX11_advance_0 rfl (lv_at hl 0 rfl) ?_
    refine mg C hH 34 (by decide) rfl wd_1063 rfl dX11_advance_1 ?_
    refine lv_aload_n hx hb dX11_advance_4 rfl (lv_at hl 0 rfl) ?_
    refine mg C hH 25 (by decide) rfl wd_1054 rfl dX11_advance_5 ?_
    refine lv_icmp_ge (tgt := 38) hx hb dX11_advance_8 (by decide) (fun c42 => ?_) (fun c42 => ?_)
    · have hw := ifp c42 hw
      exact b_M_advance_38 C hr hk  σ  hw _ _ _ hH (lv_sub hl [0] rfl)
    · have hw := ifn c42 hw
      refine lv_aload_n hx hb dX11_advance_11 rfl (lv_at hl 0 rfl) ?_
      refine mg C hH 24 (by decide) rfl wd_1053 rfl dX11_advance_12 ?_
      refine lv_aload_n hx hb dX11_advance_15 rfl (lv_at hl 0 rfl) ?_
      refine mg C hH 34 (by decide) rfl wd_1063 rfl dX11_advance_16 ?_
      obtain ⟨h43, hw⟩ := hw
      refine mab C hH 20 24 rfl h43 dX11_advance_19 ?_
      refine lv_bipush (v := 32) hx hb dX11_advance_20 (by decide) ?_
      refine lv_icmp_ne (tgt := 38) hx hb dX11_advance_22 (by decide) (fun c44 => ?_) (fun c44 => ?_)
      · have hw := ifn c44 hw
        exact b_M_advance_38 C hr hk  σ  hw _ _ _ hH (lv_sub hl [0] rfl)
      · have hw := ifp c44 hw
        refine lv_aload_n hx hb dX11_advance_25 rfl (lv_at hl 0 rfl) ?_
        refine lv_dup hx hb dX11_advance_26 rfl ?_
        refine mg C hH 34 (by decide) rfl wd_1063 rfl dX11_advance_27 ?_
        refine lv_iconst (v := 1) hx hb dX11_advance_30 (by decide) ?_
        refine lv_iadd hx hb dX11_advance_31 ?_
        refine mp C hH 34 (by decide) rfl wd_1063 (mset_34 Z b σ _) dX11_advance_32 (fun H locs hH => ?_)
        have hw := hw _ rfl
        generalize up2 σ 34 0 ((σ 34 0) + (1 : Int32)) = σ45 at hw hH
        refine lv_goto (tgt := 0) hx hb dX11_advance_35 (by decide) ?_
        exact ih σ45  hw _ _ _ hH (lv_sub hl [0] rfl)
def wp_M_advance (σ : MS) (post : MS → Prop) : Prop := ∃ nn : Nat, wp_M_advance_0  post nn σ
set_option maxHeartbeats 4000000 in
set_option maxRecDepth 100000 in
theorem c_M_advance (l : Launch) (D : va_G) (Z : Nat → ClassId) (b : Nat → Nat) (σ : MS) (post : MS → Prop) (hw : wp_M_advance σ  post) (sz : Nat) : Met l yX11_advance (Wd yX11_advance cX11_advance 5 (none)) rm_M_advance (va_Pc [.ref (b 69)] (mPre D Z b sz σ)) (va_Qv post (mPost D Z b) (mA b sz)) 0 0 (mA b sz) := by
  refine mMv (by decide) rfl _ (Nat.le_of_ble_eq_true rfl) (fun p e s m args below meth c C hr hk ls hl hH => ?_) sz
  obtain ⟨⟨hx, hb, hml, hown, hts⟩, hK⟩ := id C
  have hl : lv_has ls 5 [(0, .ref (b 69))] := hl
  unfold wp_M_advance at hw
  obtain ⟨nn, hw⟩ := hw
  exact b_M_advance_0 C hr hk  nn σ  hw _ _ _ hH (lv_sub hl [0] rfl)
/-! tight -/
abbrev rm_M_tight : Room := { frames := 0, cells := 0, slots := 0, locals := 0 }
def wp_M_tight (σ : MS) (a1 : Int32) (post : Int32 → MS → Prop) : Prop := if a1 = (5 : Int32) then (post (0 : Int32) σ) else (if a1 < (1000 : Int32) then (post (a1 / (10 : Int32)) σ) else (post (0 : Int32) σ))
set_option maxHeartbeats 4000000 in
set_option maxRecDepth 100000 in
theorem c_M_tight (l : Launch) (D : va_G) (Z : Nat → ClassId) (b : Nat → Nat) (σ : MS) (a1 : Int32) (post : Int32 → MS → Prop) (hw : wp_M_tight σ a1 post) (sz : Nat) : Met l yX11_tight (Wd yX11_tight cX11_tight 1 (some .int)) rm_M_tight (va_Pc [.int a1] (mPre D Z b sz σ)) (va_Qi post (mPost D Z b) (mA b sz)) 0 0 (mA b sz) := by
  refine mMi (by decide) rfl _ (Nat.le_of_ble_eq_true rfl) (fun p e s m args below meth c C hr hk ls hl hH => ?_) sz
  obtain ⟨⟨hx, hb, hml, hown, hts⟩, hK⟩ := id C
  have hl : lv_has ls 1 [(0, .int a1)] := hl
  unfold wp_M_tight at hw
  refine lv_iload_n hx hb dX11_tight_0 rfl (lv_at hl 0 rfl) ?_
  refine lv_iconst (v := 5) hx hb dX11_tight_1 (by decide) ?_
  refine lv_icmp_eq (tgt := 12) hx hb dX11_tight_2 (by decide) (fun c1 => ?_) (fun c1 => ?_)
  · have hw := ifp c1 hw
    refine lv_iconst (v := 0) hx hb dX11_tight_12 (by decide) ?_
    refine lv_goto (tgt := 20) hx hb dX11_tight_13 (by decide) ?_
    exact mri C hr hk hH hw dX11_tight_20
  · have hw := ifn c1 hw
    refine lv_iload_n hx hb dX11_tight_5 rfl (lv_at hl 0 rfl) ?_
    refine lv_sipush (v := 1000) hx hb dX11_tight_6 (by decide) ?_
    refine lv_icmp_lt (tgt := 16) hx hb dX11_tight_9 (by decide) (fun c2 => ?_) (fun c2 => ?_)
    · have hw := ifp c2 hw
      refine lv_iload_n hx hb dX11_tight_16 rfl (lv_at hl 0 rfl) ?_
      refine lv_bipush (v := 10) hx hb dX11_tight_17 (by decide) ?_
      refine lv_idiv hx hb dX11_tight_19 (by decide) ?_
      exact mri C hr hk hH hw dX11_tight_20
    · have hw := ifn c2 hw
      refine lv_iconst (v := 0) hx hb dX11_tight_12 (by decide) ?_
      refine lv_goto (tgt := 20) hx hb dX11_tight_13 (by decide) ?_
      exact mri C hr hk hH hw dX11_tight_20
/-! lay -/
abbrev rm_M_lay : Room := { frames := 0, cells := 0, slots := 0, locals := 0 }
def wp_M_lay (σ : MS) (a1 : Int32) (a2 : Int32) (a3 : Int32) (post : MS → Prop) : Prop := vp_in (((220 : Int32) * a1) + (σ 40 0)) 8800 ∧ (∀ σ2 : MS, σ2 = up2 σ 32 (((220 : Int32) * a1) + (σ 40 0)).toNatClampNeg a2 → (vp_in (((220 : Int32) * a1) + (σ2 40 0)) 8800 ∧ (∀ σ4 : MS, σ4 = up2 σ2 33 (((220 : Int32) * a1) + (σ2 40 0)).toNatClampNeg a3 → (∀ σ5 : MS, σ5 = up2 σ4 40 0 ((σ4 40 0) + (1 : Int32)) → (post σ5)))))
set_option maxHeartbeats 4000000 in
set_option maxRecDepth 100000 in
theorem c_M_lay (l : Launch) (D : va_G) (Z : Nat → ClassId) (b : Nat → Nat) (σ : MS) (a1 : Int32) (a2 : Int32) (a3 : Int32) (post : MS → Prop) (hw : wp_M_lay σ a1 a2 a3 post) (sz : Nat) : Met l yX11_lay (Wd yX11_lay cX11_lay 4 (none)) rm_M_lay (va_Pc [.ref (b 69), .int a1, .int a2, .int a3] (mPre D Z b sz σ)) (va_Qv post (mPost D Z b) (mA b sz)) 0 0 (mA b sz) := by
  refine mMv (by decide) rfl _ (Nat.le_of_ble_eq_true rfl) (fun p e s m args below meth c C hr hk ls hl hH => ?_) sz
  obtain ⟨⟨hx, hb, hml, hown, hts⟩, hK⟩ := id C
  have hl : lv_has ls 4 [(0, .ref (b 69)), (1, .int a1), (2, .int a2), (3, .int a3)] := hl
  unfold wp_M_lay at hw
  refine lv_aload_n hx hb dX11_lay_0 rfl (lv_at hl 0 rfl) ?_
  refine mg C hH 32 (by decide) rfl wd_1061 rfl dX11_lay_1 ?_
  refine lv_sipush (v := 220) hx hb dX11_lay_4 (by decide) ?_
  refine lv_iload_n hx hb dX11_lay_7 rfl (lv_at hl 1 rfl) ?_
  refine lv_imul hx hb dX11_lay_8 ?_
  refine lv_aload_n hx hb dX11_lay_9 rfl (lv_at hl 0 rfl) ?_
  refine mg C hH 40 (by decide) rfl wd_1069 rfl dX11_lay_10 ?_
  refine lv_iadd hx hb dX11_lay_13 ?_
  refine lv_iload_n hx hb dX11_lay_14 rfl (lv_at hl 2 rfl) ?_
  obtain ⟨h1, hw⟩ := hw
  refine msi C hH 26 32 rfl (mast_32 Z b σ _ _) h1 dX11_lay_15 (fun H locs hH => ?_)
  have hw := hw _ rfl
  generalize up2 σ 32 (((220 : Int32) * a1) + (σ 40 0)).toNatClampNeg a2 = σ2 at hw hH
  refine lv_aload_n hx hb dX11_lay_16 rfl (lv_at hl 0 rfl) ?_
  refine mg C hH 33 (by decide) rfl wd_1062 rfl dX11_lay_17 ?_
  refine lv_sipush (v := 220) hx hb dX11_lay_20 (by decide) ?_
  refine lv_iload_n hx hb dX11_lay_23 rfl (lv_at hl 1 rfl) ?_
  refine lv_imul hx hb dX11_lay_24 ?_
  refine lv_aload_n hx hb dX11_lay_25 rfl (lv_at hl 0 rfl) ?_
  refine mg C hH 40 (by decide) rfl wd_1069 rfl dX11_lay_26 ?_
  refine lv_iadd hx hb dX11_lay_29 ?_
  refine lv_iload_n hx hb dX11_lay_30 rfl (lv_at hl 3 rfl) ?_
  obtain ⟨h3, hw⟩ := hw
  refine msi C hH 27 33 rfl (mast_33 Z b σ2 _ _) h3 dX11_lay_31 (fun H locs hH => ?_)
  have hw := hw _ rfl
  generalize up2 σ2 33 (((220 : Int32) * a1) + (σ2 40 0)).toNatClampNeg a3 = σ4 at hw hH
  refine lv_aload_n hx hb dX11_lay_32 rfl (lv_at hl 0 rfl) ?_
  refine lv_dup hx hb dX11_lay_33 rfl ?_
  refine mg C hH 40 (by decide) rfl wd_1069 rfl dX11_lay_34 ?_
  refine lv_iconst (v := 1) hx hb dX11_lay_37 (by decide) ?_
  refine lv_iadd hx hb dX11_lay_38 ?_
  refine mp C hH 40 (by decide) rfl wd_1069 (mset_40 Z b σ4 _) dX11_lay_39 (fun H locs hH => ?_)
  have hw := hw _ rfl
  generalize up2 σ4 40 0 ((σ4 40 0) + (1 : Int32)) = σ5 at hw hH
  exact mrv C hr hk hH hw dX11_lay_42
/-! done -/
abbrev rm_M_done : Room := { frames := 1, cells := 0, slots := 0, locals := 23 }
def wp_M_done_0 (post : MS → Prop) : Nat → MS → Int32 → Int32 → Prop
  | 0 => fun _ _ _ => False
  | n + 1 => fun σ x1_ x2_ => if (σ 39 0) ≤ 0 then (post σ) else (vp_in ((σ 39 0) - (1 : Int32)) 220 ∧ (wp_M_tight σ (σ 38 ((σ 39 0) - (1 : Int32)).toNatClampNeg) (fun r4 σ3 => if r4 < x2_ then (post σ3) else (∀ σ6 : MS, σ6 = up2 σ3 39 0 ((σ3 39 0) - (1 : Int32)) → (vp_in (σ6 39 0) 220 ∧ (wp_M_lay σ6 x1_ (σ6 38 (σ6 39 0).toNatClampNeg) (0 : Int32) (fun σ8 => wp_M_done_0  post n σ8 x1_ x2_)))))))
set_option maxHeartbeats 4000000 in
set_option maxRecDepth 100000 in
theorem b_M_done_0 {p : Program} {l : Launch} {e : Env} {s : State} {m : MethodId} {args : Array Value} {below : List Frame} {meth : Method} {c : Code} {D : va_G} {Z : Nat → ClassId} {b : Nat → Nat} (C : MC p s m args c cX11_done 3 D Z) (hr : meth.sig.returnType = none) (hk : meth.locks = false) {post : MS → Prop} : ∀ (n : Nat) (σ : MS) (x1_ : Int32) (x2_ : Int32), wp_M_done_0  post n σ x1_ x2_ → ∀ (H : Heap) (locs : List Loc) (ls : Array Slot), MH D Z b s.heap σ H locs → lv_has ls 3 [(0, .ref (b 69)), (1, .int x1_), (2, .int x2_)] → MWv p l e rm_M_done s m args below meth c D Z b post H locs (F0 m 0 ls []) := by
  obtain ⟨⟨hx, hb, hml, hown, hts⟩, hK⟩ := id C
  intro n
  induction n with
  | zero => intro σ x1_ x2_ hw; exact hw.elim
  | succ n ih =>
    intro σ x1_ x2_ hw H locs ls hH hl
    unfold wp_M_done_0 at hw
    refine lv_aload_n hx hb dX11_done_0 rfl (lv_at hl 0 rfl) ?_
    refine mg C hH 39 (by decide) rfl wd_1068 rfl dX11_done_1 ?_
    refine lv_if_le (tgt := 53) hx hb dX11_done_4 (by decide) (fun c1 => ?_) (fun c1 => ?_)
    · have hw := ifp c1 hw
      exact mrv C hr hk hH hw dX11_done_53
    · have hw := ifn c1 hw
      refine lv_aload_n hx hb dX11_done_7 rfl (lv_at hl 0 rfl) ?_
      refine mg C hH 38 (by decide) rfl wd_1067 rfl dX11_done_8 ?_
      refine lv_aload_n hx hb dX11_done_11 rfl (lv_at hl 0 rfl) ?_
      refine mg C hH 39 (by decide) rfl wd_1068 rfl dX11_done_12 ?_
      refine lv_iconst (v := 1) hx hb dX11_done_15 (by decide) ?_
      refine lv_isub hx hb dX11_done_16 ?_
      obtain ⟨h2, hw⟩ := hw
      refine mai C hH 28 38 rfl h2 dX11_done_17 ?_
      refine mcSi C hH [.int (σ 38 ((σ 39 0) - (1 : Int32)).toNatClampNeg)] (fun sz => c_M_tight l D Z b σ (σ 38 ((σ 39 0) - (1 : Int32)).toNatClampNeg) _ hw sz) (cwTS 1 hts wd_1398 wd_1399 wd_14 wd_1400 rfl rfl (by decide +kernel) ⟨Nat.le_of_ble_eq_true rfl, Nat.le_of_ble_eq_true rfl⟩) rfl hl.1 rfl (Nat.le_of_ble_eq_true rfl) dX11_done_18 ⟨Nat.zero_le _, Nat.zero_le _⟩ (fun r4 σ3 H locs hw hH => ?_)
      refine lv_iload_n hx hb dX11_done_21 rfl (lv_at hl 2 rfl) ?_
      refine lv_icmp_lt (tgt := 53) hx hb dX11_done_22 (by decide) (fun c5 => ?_) (fun c5 => ?_)
      · have hw := ifp c5 hw
        exact mrv C hr hk hH hw dX11_done_53
      · have hw := ifn c5 hw
        refine lv_aload_n hx hb dX11_done_25 rfl (lv_at hl 0 rfl) ?_
        refine lv_dup hx hb dX11_done_26 rfl ?_
        refine mg C hH 39 (by decide) rfl wd_1068 rfl dX11_done_27 ?_
        refine lv_iconst (v := 1) hx hb dX11_done_30 (by decide) ?_
        refine lv_isub hx hb dX11_done_31 ?_
        refine mp C hH 39 (by decide) rfl wd_1068 (mset_39 Z b σ3 _) dX11_done_32 (fun H locs hH => ?_)
        have hw := hw _ rfl
        generalize up2 σ3 39 0 ((σ3 39 0) - (1 : Int32)) = σ6 at hw hH
        refine lv_aload_n hx hb dX11_done_35 rfl (lv_at hl 0 rfl) ?_
        refine lv_iload_n hx hb dX11_done_36 rfl (lv_at hl 1 rfl) ?_
        refine lv_aload_n hx hb dX11_done_37 rfl (lv_at hl 0 rfl) ?_
        refine mg C hH 38 (by decide) rfl wd_1067 rfl dX11_done_38 ?_
        refine lv_aload_n hx hb dX11_done_41 rfl (lv_at hl 0 rfl) ?_
        refine mg C hH 39 (by decide) rfl wd_1068 rfl dX11_done_42 ?_
        obtain ⟨h7, hw⟩ := hw
        refine mai C hH 28 38 rfl h7 dX11_done_45 ?_
        refine lv_iconst (v := 0) hx hb dX11_done_46 (by decide) ?_
        refine mcVv C hH [.int x1_, .int (σ6 38 (σ6 39 0).toNatClampNeg), .int (0 : Int32)] (fun sz => c_M_lay l D Z b σ6 x1_ (σ6 38 (σ6 39 0).toNatClampNeg) (0 : Int32) _ hw sz) (cwTV 3 hts wd_1390 wd_1392 ws_59 wd_14 wd_1393 rfl rfl (by decide +kernel) ⟨Nat.le_of_ble_eq_true rfl, Nat.le_of_ble_eq_true rfl⟩) rfl hl.1 rfl (Nat.le_of_ble_eq_true rfl) dX11_done_47 ⟨Nat.zero_le _, Nat.zero_le _⟩ (fun  σ8 H locs hw hH => ?_)
        refine lv_goto (tgt := 0) hx hb dX11_done_50 (by decide) ?_
        exact ih σ8 x1_ x2_ hw _ _ _ hH (lv_sub hl [0, 1, 2] rfl)
def wp_M_done (σ : MS) (a1 : Int32) (a2 : Int32) (post : MS → Prop) : Prop := ∃ nn : Nat, wp_M_done_0  post nn σ a1 a2
set_option maxHeartbeats 4000000 in
set_option maxRecDepth 100000 in
theorem c_M_done (l : Launch) (D : va_G) (Z : Nat → ClassId) (b : Nat → Nat) (σ : MS) (a1 : Int32) (a2 : Int32) (post : MS → Prop) (hw : wp_M_done σ a1 a2 post) (sz : Nat) : Met l yX11_done (Wd yX11_done cX11_done 3 (none)) rm_M_done (va_Pc [.ref (b 69), .int a1, .int a2] (mPre D Z b sz σ)) (va_Qv post (mPost D Z b) (mA b sz)) 0 0 (mA b sz) := by
  refine mMv (by decide) rfl _ (Nat.le_of_ble_eq_true rfl) (fun p e s m args below meth c C hr hk ls hl hH => ?_) sz
  obtain ⟨⟨hx, hb, hml, hown, hts⟩, hK⟩ := id C
  have hl : lv_has ls 3 [(0, .ref (b 69)), (1, .int a1), (2, .int a2)] := hl
  unfold wp_M_done at hw
  obtain ⟨nn, hw⟩ := hw
  exact b_M_done_0 C hr hk  nn σ a1 a2 hw _ _ _ hH (lv_sub hl [0, 1, 2] rfl)
/-! opened -/
abbrev rm_M_opened : Room := { frames := 0, cells := 0, slots := 0, locals := 0 }
def wp_M_opened_51 (k4 : MS → Int32 → Int32 → Prop) (post : Int32 → MS → Prop) (σ : MS) (x2_ : Int32) (t0_ : Int32) (t1_ : Int32) : Prop := ∀ x1 : Int32, x1 = (t0_ + t1_) → (∀ x2 : Int32, x2 = x2_ + (1 : Int32) → (k4 σ x1 x2))
set_option maxHeartbeats 4000000 in
set_option maxRecDepth 100000 in
theorem b_M_opened_51 {p : Program} {l : Launch} {e : Env} {s : State} {m : MethodId} {args : Array Value} {below : List Frame} {meth : Method} {c : Code} {D : va_G} {Z : Nat → ClassId} {b : Nat → Nat} (C : MC p s m args c cX11_opened 3 D Z) (hr : meth.sig.returnType = some .int) (hk : meth.locks = false) {post : Int32 → MS → Prop} {k4 : MS → Int32 → Int32 → Prop} (hk4 : ∀ (σ : MS) (y1 : Int32) (y2 : Int32), k4 σ y1 y2 → ∀ (H : Heap) (locs : List Loc) (ls : Array Slot), MH D Z b s.heap σ H locs → lv_has ls 3 [(0, .ref (b 69)), (1, .int y1), (2, .int y2)] → MWi p l e rm_M_opened s m args below meth c D Z b post H locs (F0 m 4 ls [])) : ∀ (σ : MS) (x2_ : Int32) (t0_ : Int32) (t1_ : Int32), wp_M_opened_51 k4 post σ x2_ t0_ t1_ → ∀ (H : Heap) (locs : List Loc) (ls : Array Slot), MH D Z b s.heap σ H locs → lv_has ls 3 [(0, .ref (b 69)), (2, .int x2_)] → MWi p l e rm_M_opened s m args below meth c D Z b post H locs (F0 m 51 ls [.int t1_, .int t0_]) := by
  obtain ⟨⟨hx, hb, hml, hown, hts⟩, hK⟩ := id C
  intro σ x2_ t0_ t1_ hw H locs ls hH hl
  unfold wp_M_opened_51 at hw
  refine lv_iadd hx hb dX11_opened_51 ?_
  refine lv_topi (fun x1 ex1 => ?_)
  have hw := hw x1 ex1
  refine lv_istore_n (lv' := [(1, .int x1), (0, .ref (b 69)), (2, .int x2_)]) hx hb dX11_opened_52 rfl hl (by decide) rfl (fun ls hl => ?_)
  obtain ⟨x2, ex2⟩ : ∃ y : Int32, y = x2_ + (1 : Int32) := ⟨_, rfl⟩
  have hw := hw x2 ex2
  refine lv_iinc (v := x2) (lv' := [(2, .int x2), (1, .int x1), (0, .ref (b 69))]) hx hb dX11_opened_53 hl (k := 2) rfl (by rw [ex2]; rfl) (by decide) rfl (fun ls hl => ?_)
  refine lv_goto (tgt := 4) hx hb dX11_opened_56 (by decide) ?_
  exact hk4 σ x1 x2 hw _ _ _ hH (lv_sub hl [2, 1, 0] rfl)
def wp_M_opened_46 (k4 : MS → Int32 → Int32 → Prop) (post : Int32 → MS → Prop) (σ : MS) (x2_ : Int32) (t0_ : Int32) : Prop := wp_M_opened_51 (k4) post σ x2_ t0_ (1 : Int32)
set_option maxHeartbeats 4000000 in
set_option maxRecDepth 100000 in
theorem b_M_opened_46 {p : Program} {l : Launch} {e : Env} {s : State} {m : MethodId} {args : Array Value} {below : List Frame} {meth : Method} {c : Code} {D : va_G} {Z : Nat → ClassId} {b : Nat → Nat} (C : MC p s m args c cX11_opened 3 D Z) (hr : meth.sig.returnType = some .int) (hk : meth.locks = false) {post : Int32 → MS → Prop} {k4 : MS → Int32 → Int32 → Prop} (hk4 : ∀ (σ : MS) (y1 : Int32) (y2 : Int32), k4 σ y1 y2 → ∀ (H : Heap) (locs : List Loc) (ls : Array Slot), MH D Z b s.heap σ H locs → lv_has ls 3 [(0, .ref (b 69)), (1, .int y1), (2, .int y2)] → MWi p l e rm_M_opened s m args below meth c D Z b post H locs (F0 m 4 ls [])) : ∀ (σ : MS) (x2_ : Int32) (t0_ : Int32), wp_M_opened_46 k4 post σ x2_ t0_ → ∀ (H : Heap) (locs : List Loc) (ls : Array Slot), MH D Z b s.heap σ H locs → lv_has ls 3 [(0, .ref (b 69)), (2, .int x2_)] → MWi p l e rm_M_opened s m args below meth c D Z b post H locs (F0 m 46 ls [.int t0_]) := by
  obtain ⟨⟨hx, hb, hml, hown, hts⟩, hK⟩ := id C
  intro σ x2_ t0_ hw H locs ls hH hl
  unfold wp_M_opened_46 at hw
  refine lv_iconst (v := 1) hx hb dX11_opened_46 (by decide) ?_
  refine lv_goto (tgt := 51) hx hb dX11_opened_47 (by decide) ?_
  exact b_M_opened_51 C hr hk hk4 σ x2_ t0_ (1 : Int32) hw _ _ _ hH (lv_sub hl [0, 1] rfl)
def wp_M_opened_4 (post : Int32 → MS → Prop) : Nat → MS → Int32 → Int32 → Prop
  | 0 => fun _ _ _ => False
  | n + 1 => fun σ x1_ x2_ => if (σ 39 0) ≤ x2_ then (post x1_ σ) else (vp_in x2_ 220 ∧ (if (σ 38 x2_.toNatClampNeg) = (5 : Int32) then (wp_M_opened_46 (wp_M_opened_4 post n) post σ x2_ x1_) else (vp_in x2_ 220 ∧ (if (σ 38 x2_.toNatClampNeg) = (30 : Int32) then (wp_M_opened_46 (wp_M_opened_4 post n) post σ x2_ x1_) else (vp_in x2_ 220 ∧ (if (σ 38 x2_.toNatClampNeg) < (1000 : Int32) then (wp_M_opened_51 (wp_M_opened_4 post n) post σ x2_ x1_ (0 : Int32)) else (wp_M_opened_46 (wp_M_opened_4 post n) post σ x2_ x1_)))))))
set_option maxHeartbeats 4000000 in
set_option maxRecDepth 100000 in
theorem b_M_opened_4 {p : Program} {l : Launch} {e : Env} {s : State} {m : MethodId} {args : Array Value} {below : List Frame} {meth : Method} {c : Code} {D : va_G} {Z : Nat → ClassId} {b : Nat → Nat} (C : MC p s m args c cX11_opened 3 D Z) (hr : meth.sig.returnType = some .int) (hk : meth.locks = false) {post : Int32 → MS → Prop} : ∀ (n : Nat) (σ : MS) (x1_ : Int32) (x2_ : Int32), wp_M_opened_4  post n σ x1_ x2_ → ∀ (H : Heap) (locs : List Loc) (ls : Array Slot), MH D Z b s.heap σ H locs → lv_has ls 3 [(0, .ref (b 69)), (1, .int x1_), (2, .int x2_)] → MWi p l e rm_M_opened s m args below meth c D Z b post H locs (F0 m 4 ls []) := by
  obtain ⟨⟨hx, hb, hml, hown, hts⟩, hK⟩ := id C
  intro n
  induction n with
  | zero => intro σ x1_ x2_ hw; exact hw.elim
  | succ n ih =>
    intro σ x1_ x2_ hw H locs ls hH hl
    unfold wp_M_opened_4 at hw
    refine lv_iload_n hx hb dX11_opened_4 rfl (lv_at hl 2 rfl) ?_
    refine lv_aload_n hx hb dX11_opened_5 rfl (lv_at hl 0 rfl) ?_
    refine mg C hH 39 (by decide) rfl wd_1068 rfl dX11_opened_6 ?_
    refine lv_icmp_ge (tgt := 59) hx hb dX11_opened_9 (by decide) (fun c3 => ?_) (fun c3 => ?_)
    · have hw := ifp c3 hw
      refine lv_iload_n hx hb dX11_opened_59 rfl (lv_at hl 1 rfl) ?_
      exact mri C hr hk hH hw dX11_opened_60
    · have hw := ifn c3 hw
      refine lv_iload_n hx hb dX11_opened_12 rfl (lv_at hl 1 rfl) ?_
      refine lv_aload_n hx hb dX11_opened_13 rfl (lv_at hl 0 rfl) ?_
      refine mg C hH 38 (by decide) rfl wd_1067 rfl dX11_opened_14 ?_
      refine lv_iload_n hx hb dX11_opened_17 rfl (lv_at hl 2 rfl) ?_
      obtain ⟨h4, hw⟩ := hw
      refine mai C hH 28 38 rfl h4 dX11_opened_18 ?_
      refine lv_iconst (v := 5) hx hb dX11_opened_19 (by decide) ?_
      refine lv_icmp_eq (tgt := 46) hx hb dX11_opened_20 (by decide) (fun c5 => ?_) (fun c5 => ?_)
      · have hw := ifp c5 hw
        exact b_M_opened_46 C hr hk ih σ x2_ x1_ hw _ _ _ hH (lv_sub hl [0, 2] rfl)
      · have hw := ifn c5 hw
        refine lv_aload_n hx hb dX11_opened_23 rfl (lv_at hl 0 rfl) ?_
        refine mg C hH 38 (by decide) rfl wd_1067 rfl dX11_opened_24 ?_
        refine lv_iload_n hx hb dX11_opened_27 rfl (lv_at hl 2 rfl) ?_
        obtain ⟨h6, hw⟩ := hw
        refine mai C hH 28 38 rfl h6 dX11_opened_28 ?_
        refine lv_bipush (v := 30) hx hb dX11_opened_29 (by decide) ?_
        refine lv_icmp_eq (tgt := 46) hx hb dX11_opened_31 (by decide) (fun c7 => ?_) (fun c7 => ?_)
        · have hw := ifp c7 hw
          exact b_M_opened_46 C hr hk ih σ x2_ x1_ hw _ _ _ hH (lv_sub hl [0, 2] rfl)
        · have hw := ifn c7 hw
          refine lv_aload_n hx hb dX11_opened_34 rfl (lv_at hl 0 rfl) ?_
          refine mg C hH 38 (by decide) rfl wd_1067 rfl dX11_opened_35 ?_
          refine lv_iload_n hx hb dX11_opened_38 rfl (lv_at hl 2 rfl) ?_
          obtain ⟨h8, hw⟩ := hw
          refine mai C hH 28 38 rfl h8 dX11_opened_39 ?_
          refine lv_sipush (v := 1000) hx hb dX11_opened_40 (by decide) ?_
          refine lv_icmp_lt (tgt := 50) hx hb dX11_opened_43 (by decide) (fun c9 => ?_) (fun c9 => ?_)
          · have hw := ifp c9 hw
            refine lv_iconst (v := 0) hx hb dX11_opened_50 (by decide) ?_
            exact b_M_opened_51 C hr hk ih σ x2_ x1_ (0 : Int32) hw _ _ _ hH (lv_sub hl [0, 2] rfl)
          · have hw := ifn c9 hw
            exact b_M_opened_46 C hr hk ih σ x2_ x1_ hw _ _ _ hH (lv_sub hl [0, 2] rfl)
def wp_M_opened (σ : MS) (post : Int32 → MS → Prop) : Prop := ∃ nn : Nat, wp_M_opened_4  post nn σ (0 : Int32) (0 : Int32)
set_option maxHeartbeats 4000000 in
set_option maxRecDepth 100000 in
theorem c_M_opened (l : Launch) (D : va_G) (Z : Nat → ClassId) (b : Nat → Nat) (σ : MS) (post : Int32 → MS → Prop) (hw : wp_M_opened σ  post) (sz : Nat) : Met l yX11_opened (Wd yX11_opened cX11_opened 3 (some .int)) rm_M_opened (va_Pc [.ref (b 69)] (mPre D Z b sz σ)) (va_Qi post (mPost D Z b) (mA b sz)) 0 0 (mA b sz) := by
  refine mMi (by decide) rfl _ (Nat.le_of_ble_eq_true rfl) (fun p e s m args below meth c C hr hk ls hl hH => ?_) sz
  obtain ⟨⟨hx, hb, hml, hown, hts⟩, hK⟩ := id C
  have hl : lv_has ls 3 [(0, .ref (b 69))] := hl
  unfold wp_M_opened at hw
  refine lv_iconst (v := 0) hx hb dX11_opened_0 (by decide) ?_
  refine lv_istore_n (lv' := [(1, .int (0 : Int32)), (0, .ref (b 69))]) hx hb dX11_opened_1 rfl hl (by decide) rfl (fun ls hl => ?_)
  refine lv_iconst (v := 0) hx hb dX11_opened_2 (by decide) ?_
  refine lv_istore_n (lv' := [(2, .int (0 : Int32)), (1, .int (0 : Int32)), (0, .ref (b 69))]) hx hb dX11_opened_3 rfl hl (by decide) rfl (fun ls hl => ?_)
  obtain ⟨nn, hw⟩ := hw
  exact b_M_opened_4 C hr hk  nn σ (0 : Int32) (0 : Int32) hw _ _ _ hH (lv_sub hl [2, 1, 0] rfl)
/-! mayLogic -/
abbrev rm_M_mayLogic : Room := { frames := 0, cells := 0, slots := 0, locals := 0 }
def wp_M_mayLogic_7 (post : Int32 → MS → Prop) : Nat → MS → Int32 → Int32 → Prop
  | 0 => fun _ _ _ => False
  | n + 1 => fun σ x1_ x2_ => if x2_ < 0 then (bz x1_ ∧ post x1_ σ) else (vp_in x2_ 220 ∧ (if (σ 38 x2_.toNatClampNeg) = (5 : Int32) then (post (1 : Int32) σ) else (vp_in x2_ 220 ∧ (if (σ 38 x2_.toNatClampNeg) < (1000 : Int32) then (∀ x6 : Int32, x6 = x2_ + (-1 : Int32) → (wp_M_mayLogic_7  post n σ x1_ x6)) else (post (0 : Int32) σ)))))
set_option maxHeartbeats 4000000 in
set_option maxRecDepth 100000 in
theorem b_M_mayLogic_7 {p : Program} {l : Launch} {e : Env} {s : State} {m : MethodId} {args : Array Value} {below : List Frame} {meth : Method} {c : Code} {D : va_G} {Z : Nat → ClassId} {b : Nat → Nat} (C : MC p s m args c cX11_mayLogic 3 D Z) (hr : meth.sig.returnType = some .boolean) (hk : meth.locks = false) {post : Int32 → MS → Prop} : ∀ (n : Nat) (σ : MS) (x1_ : Int32) (x2_ : Int32), wp_M_mayLogic_7  post n σ x1_ x2_ → ∀ (H : Heap) (locs : List Loc) (ls : Array Slot), MH D Z b s.heap σ H locs → lv_has ls 3 [(0, .ref (b 69)), (1, .int x1_), (2, .int x2_)] → MWi p l e rm_M_mayLogic s m args below meth c D Z b post H locs (F0 m 7 ls []) := by
  obtain ⟨⟨hx, hb, hml, hown, hts⟩, hK⟩ := id C
  intro n
  induction n with
  | zero => intro σ x1_ x2_ hw; exact hw.elim
  | succ n ih =>
    intro σ x1_ x2_ hw H locs ls hH hl
    unfold wp_M_mayLogic_7 at hw
    refine lv_iload_n hx hb dX11_mayLogic_7 rfl (lv_at hl 2 rfl) ?_
    refine lv_if_lt (tgt := 43) hx hb dX11_mayLogic_8 (by decide) (fun c1 => ?_) (fun c1 => ?_)
    · have hw := ifp c1 hw
      refine lv_iload_n hx hb dX11_mayLogic_43 rfl (lv_at hl 1 rfl) ?_
      exact mrz C hr hk hH hw.1 hw.2 dX11_mayLogic_44
    · have hw := ifn c1 hw
      refine lv_aload_n hx hb dX11_mayLogic_11 rfl (lv_at hl 0 rfl) ?_
      refine mg C hH 38 (by decide) rfl wd_1067 rfl dX11_mayLogic_12 ?_
      refine lv_iload_n hx hb dX11_mayLogic_15 rfl (lv_at hl 2 rfl) ?_
      obtain ⟨h2, hw⟩ := hw
      refine mai C hH 28 38 rfl h2 dX11_mayLogic_16 ?_
      refine lv_iconst (v := 5) hx hb dX11_mayLogic_17 (by decide) ?_
      refine lv_icmp_ne (tgt := 23) hx hb dX11_mayLogic_18 (by decide) (fun c3 => ?_) (fun c3 => ?_)
      · have hw := ifn c3 hw
        refine lv_aload_n hx hb dX11_mayLogic_23 rfl (lv_at hl 0 rfl) ?_
        refine mg C hH 38 (by decide) rfl wd_1067 rfl dX11_mayLogic_24 ?_
        refine lv_iload_n hx hb dX11_mayLogic_27 rfl (lv_at hl 2 rfl) ?_
        obtain ⟨h4, hw⟩ := hw
        refine mai C hH 28 38 rfl h4 dX11_mayLogic_28 ?_
        refine lv_sipush (v := 1000) hx hb dX11_mayLogic_29 (by decide) ?_
        refine lv_icmp_lt (tgt := 37) hx hb dX11_mayLogic_32 (by decide) (fun c5 => ?_) (fun c5 => ?_)
        · have hw := ifp c5 hw
          obtain ⟨x6, ex6⟩ : ∃ y : Int32, y = x2_ + (-1 : Int32) := ⟨_, rfl⟩
          have hw := hw x6 ex6
          refine lv_iinc (v := x6) (lv' := [(2, .int x6), (0, .ref (b 69)), (1, .int x1_)]) hx hb dX11_mayLogic_37 hl (k := 2) rfl (by rw [ex6]; rfl) (by decide) rfl (fun ls hl => ?_)
          refine lv_goto (tgt := 7) hx hb dX11_mayLogic_40 (by decide) ?_
          exact ih σ x1_ x6 hw _ _ _ hH (lv_sub hl [1, 2, 0] rfl)
        · have hw := ifn c5 hw
          refine lv_iconst (v := 0) hx hb dX11_mayLogic_35 (by decide) ?_
          exact mrz C hr hk hH bz0 hw dX11_mayLogic_36
      · have hw := ifp c3 hw
        refine lv_iconst (v := 1) hx hb dX11_mayLogic_21 (by decide) ?_
        exact mrz C hr hk hH bz1 hw dX11_mayLogic_22
def wp_M_mayLogic (σ : MS) (a1 : Int32) (post : Int32 → MS → Prop) : Prop := ∀ x7 : Int32, x7 = ((σ 39 0) - (1 : Int32)) → (∃ nn : Nat, wp_M_mayLogic_7  post nn σ a1 x7)
set_option maxHeartbeats 4000000 in
set_option maxRecDepth 100000 in
theorem c_M_mayLogic (l : Launch) (D : va_G) (Z : Nat → ClassId) (b : Nat → Nat) (σ : MS) (a1 : Int32) (post : Int32 → MS → Prop) (hw : wp_M_mayLogic σ a1 post) (sz : Nat) : Met l yX11_mayLogic (Wd yX11_mayLogic cX11_mayLogic 3 (some .boolean)) rm_M_mayLogic (va_Pc [.ref (b 69), .int a1] (mPre D Z b sz σ)) (va_Qi post (mPost D Z b) (mA b sz)) 0 0 (mA b sz) := by
  refine mMi (by decide) rfl _ (Nat.le_of_ble_eq_true rfl) (fun p e s m args below meth c C hr hk ls hl hH => ?_) sz
  obtain ⟨⟨hx, hb, hml, hown, hts⟩, hK⟩ := id C
  have hl : lv_has ls 3 [(0, .ref (b 69)), (1, .int a1)] := hl
  unfold wp_M_mayLogic at hw
  refine lv_aload_n hx hb dX11_mayLogic_0 rfl (lv_at hl 0 rfl) ?_
  refine mg C hH 39 (by decide) rfl wd_1068 rfl dX11_mayLogic_1 ?_
  refine lv_iconst (v := 1) hx hb dX11_mayLogic_4 (by decide) ?_
  refine lv_isub hx hb dX11_mayLogic_5 ?_
  refine lv_topi (fun x7 ex7 => ?_)
  have hw := hw x7 ex7
  refine lv_istore_n (lv' := [(2, .int x7), (0, .ref (b 69)), (1, .int a1)]) hx hb dX11_mayLogic_6 rfl hl (by decide) rfl (fun ls hl => ?_)
  obtain ⟨nn, hw⟩ := hw
  exact b_M_mayLogic_7 C hr hk  nn σ a1 x7 hw _ _ _ hH (lv_sub hl [1, 2, 0] rfl)
