/-! in -/
abbrev rm_M_in : Room := { frames := 0, cells := 0, slots := 0, locals := 0 }
def wp_M_in (σ : MS) (a1 : Int32) (a2 : Int32) (a3 : Int32) (post : Int32 → MS → Prop) : Prop := if a1 < a2 then (post (0 : Int32) σ) else (if a3 < a1 then (post (0 : Int32) σ) else (post (1 : Int32) σ))
set_option maxHeartbeats 4000000 in
set_option maxRecDepth 100000 in
theorem c_M_in (l : Launch) (D : va_G) (Z : Nat → ClassId) (b : Nat → Nat) (σ : MS) (a1 : Int32) (a2 : Int32) (a3 : Int32) (post : Int32 → MS → Prop) (hw : wp_M_in σ a1 a2 a3 post) (sz : Nat) : Met l yX11_in (Wd yX11_in cX11_in 3 (some .boolean)) rm_M_in (va_Pc [.int a1, .int a2, .int a3] (mPre D Z b sz σ)) (va_Qi post (mPost D Z b) (mA b sz)) 0 0 (mA b sz) := by
  refine mMi (by decide) rfl _ (Nat.le_of_ble_eq_true rfl) (fun p e s m args below meth c C hr hk ls hl hH => ?_) sz
  obtain ⟨⟨hx, hb, hml, hown, hts⟩, hK⟩ := id C
  have hl : lv_has ls 3 [(0, .int a1), (1, .int a2), (2, .int a3)] := hl
  unfold wp_M_in at hw
  refine lv_iload_n hx hb dX11_in_0 rfl (lv_at hl 0 rfl) ?_
  refine lv_iload_n hx hb dX11_in_1 rfl (lv_at hl 1 rfl) ?_
  refine lv_icmp_lt (tgt := 14) hx hb dX11_in_2 (by decide) (fun c1 => ?_) (fun c1 => ?_)
  · have hw := ifp c1 hw
    refine lv_iconst (v := 0) hx hb dX11_in_14 (by decide) ?_
    exact mrz C hr hk hH bz0 hw dX11_in_15
  · have hw := ifn c1 hw
    refine lv_iload_n hx hb dX11_in_5 rfl (lv_at hl 0 rfl) ?_
    refine lv_iload_n hx hb dX11_in_6 rfl (lv_at hl 2 rfl) ?_
    refine lv_icmp_gt (tgt := 14) hx hb dX11_in_7 (by decide) (fun c2 => ?_) (fun c2 => ?_)
    · have hw := ifp c2 hw
      refine lv_iconst (v := 0) hx hb dX11_in_14 (by decide) ?_
      exact mrz C hr hk hH bz0 hw dX11_in_15
    · have hw := ifn c2 hw
      refine lv_iconst (v := 1) hx hb dX11_in_10 (by decide) ?_
      refine lv_goto (tgt := 15) hx hb dX11_in_11 (by decide) ?_
      exact mrz C hr hk hH bz1 hw dX11_in_15
/-! today -/
abbrev rm_M_today : Room := { frames := 0, cells := 0, slots := 0, locals := 0 }
def wp_M_today (σ : MS) (post : Int32 → MS → Prop) : Prop := post ((σ 1 0) / (600 : Int32)) σ
set_option maxHeartbeats 4000000 in
set_option maxRecDepth 100000 in
theorem c_M_today (l : Launch) (D : va_G) (Z : Nat → ClassId) (b : Nat → Nat) (σ : MS) (post : Int32 → MS → Prop) (hw : wp_M_today σ  post) (sz : Nat) : Met l yX11_today (Wd yX11_today cX11_today 1 (some .int)) rm_M_today (va_Pc [.ref (b 69)] (mPre D Z b sz σ)) (va_Qi post (mPost D Z b) (mA b sz)) 0 0 (mA b sz) := by
  refine mMi (by decide) rfl _ (Nat.le_of_ble_eq_true rfl) (fun p e s m args below meth c C hr hk ls hl hH => ?_) sz
  obtain ⟨⟨hx, hb, hml, hown, hts⟩, hK⟩ := id C
  have hl : lv_has ls 1 [(0, .ref (b 69))] := hl
  unfold wp_M_today at hw
  refine lv_aload_n hx hb dX11_today_0 rfl (lv_at hl 0 rfl) ?_
  refine mg C hH 1 (by decide) rfl wd_1030 rfl dX11_today_1 ?_
  refine lv_sipush (v := 600) hx hb dX11_today_4 (by decide) ?_
  refine lv_idiv hx hb dX11_today_7 (by decide) ?_
  exact mri C hr hk hH hw dX11_today_8
/-! isPlace -/
abbrev rm_M_isPlace : Room := { frames := 1, cells := 0, slots := 0, locals := 22 }
def wp_M_isPlace (σ : MS) (a1 : Int32) (post : Int32 → MS → Prop) : Prop := wp_M_in σ a1 (0 : Int32) ((σ 5 0) - (1 : Int32)) (fun r2 σ1 => bz r2 ∧ post r2 σ1)
set_option maxHeartbeats 4000000 in
set_option maxRecDepth 100000 in
theorem c_M_isPlace (l : Launch) (D : va_G) (Z : Nat → ClassId) (b : Nat → Nat) (σ : MS) (a1 : Int32) (post : Int32 → MS → Prop) (hw : wp_M_isPlace σ a1 post) (sz : Nat) : Met l yX11_isPlace (Wd yX11_isPlace cX11_isPlace 2 (some .boolean)) rm_M_isPlace (va_Pc [.ref (b 69), .int a1] (mPre D Z b sz σ)) (va_Qi post (mPost D Z b) (mA b sz)) 0 0 (mA b sz) := by
  refine mMi (by decide) rfl _ (Nat.le_of_ble_eq_true rfl) (fun p e s m args below meth c C hr hk ls hl hH => ?_) sz
  obtain ⟨⟨hx, hb, hml, hown, hts⟩, hK⟩ := id C
  have hl : lv_has ls 2 [(0, .ref (b 69)), (1, .int a1)] := hl
  unfold wp_M_isPlace at hw
  refine lv_iload_n hx hb dX11_isPlace_0 rfl (lv_at hl 1 rfl) ?_
  refine lv_iconst (v := 0) hx hb dX11_isPlace_1 (by decide) ?_
  refine lv_aload_n hx hb dX11_isPlace_2 rfl (lv_at hl 0 rfl) ?_
  refine mg C hH 5 (by decide) rfl wd_1034 rfl dX11_isPlace_3 ?_
  refine lv_iconst (v := 1) hx hb dX11_isPlace_6 (by decide) ?_
  refine lv_isub hx hb dX11_isPlace_7 ?_
  refine mcSi C hH [.int a1, .int (0 : Int32), .int ((σ 5 0) - (1 : Int32))] (fun sz => c_M_in l D Z b σ a1 (0 : Int32) ((σ 5 0) - (1 : Int32)) _ hw sz) (cwTS 3 hts wd_1242 wd_1243 wd_14 wd_1244 rfl rfl (by decide +kernel) ⟨Nat.le_of_ble_eq_true rfl, Nat.le_of_ble_eq_true rfl⟩) rfl hl.1 rfl (Nat.le_of_ble_eq_true rfl) dX11_isPlace_8 ⟨Nat.zero_le _, Nat.zero_le _⟩ (fun r2 σ1 H locs hw hH => ?_)
  exact mrz C hr hk hH hw.1 hw.2 dX11_isPlace_11
/-! rainsAt -/
abbrev rm_M_rainsAt : Room := { frames := 0, cells := 0, slots := 0, locals := 0 }
def wp_M_rainsAt_32 (k2 : MS → Int32 → Int32 → Prop) (post : Int32 → MS → Prop) (σ : MS) (x1_ : Int32) (x2_ : Int32) : Prop := ∀ x1 : Int32, x1 = x2_ + (1 : Int32) → (k2 σ x1_ x1)
set_option maxHeartbeats 4000000 in
set_option maxRecDepth 100000 in
theorem b_M_rainsAt_32 {p : Program} {l : Launch} {e : Env} {s : State} {m : MethodId} {args : Array Value} {below : List Frame} {meth : Method} {c : Code} {D : va_G} {Z : Nat → ClassId} {b : Nat → Nat} (C : MC p s m args c cX11_rainsAt 3 D Z) (hr : meth.sig.returnType = some .boolean) (hk : meth.locks = false) {post : Int32 → MS → Prop} {k2 : MS → Int32 → Int32 → Prop} (hk2 : ∀ (σ : MS) (y1 : Int32) (y2 : Int32), k2 σ y1 y2 → ∀ (H : Heap) (locs : List Loc) (ls : Array Slot), MH D Z b s.heap σ H locs → lv_has ls 3 [(0, .ref (b 69)), (1, .int y1), (2, .int y2)] → MWi p l e rm_M_rainsAt s m args below meth c D Z b post H locs (F0 m 2 ls [])) : ∀ (σ : MS) (x1_ : Int32) (x2_ : Int32), wp_M_rainsAt_32 k2 post σ x1_ x2_ → ∀ (H : Heap) (locs : List Loc) (ls : Array Slot), MH D Z b s.heap σ H locs → lv_has ls 3 [(0, .ref (b 69)), (1, .int x1_), (2, .int x2_)] → MWi p l e rm_M_rainsAt s m args below meth c D Z b post H locs (F0 m 32 ls []) := by
  obtain ⟨⟨hx, hb, hml, hown, hts⟩, hK⟩ := id C
  intro σ x1_ x2_ hw H locs ls hH hl
  unfold wp_M_rainsAt_32 at hw
  obtain ⟨x1, ex1⟩ : ∃ y : Int32, y = x2_ + (1 : Int32) := ⟨_, rfl⟩
  have hw := hw x1 ex1
  refine lv_iinc (v := x1) (lv' := [(2, .int x1), (0, .ref (b 69)), (1, .int x1_)]) hx hb dX11_rainsAt_32 hl (k := 2) rfl (by rw [ex1]; rfl) (by decide) rfl (fun ls hl => ?_)
  refine lv_goto (tgt := 2) hx hb dX11_rainsAt_35 (by decide) ?_
  exact hk2 σ x1_ x1 hw _ _ _ hH (lv_sub hl [1, 2, 0] rfl)
def wp_M_rainsAt_2 (post : Int32 → MS → Prop) : Nat → MS → Int32 → Int32 → Prop
  | 0 => fun _ _ _ => False
  | n + 1 => fun σ x1_ x2_ => if (σ 2 0) ≤ x2_ then (post (0 : Int32) σ) else (vp_in x2_ 20 ∧ (if x1_ < (σ 3 x2_.toNatClampNeg) then (wp_M_rainsAt_32 (wp_M_rainsAt_2 post n) post σ x1_ x2_) else (vp_in x2_ 20 ∧ (if (σ 4 x2_.toNatClampNeg) ≤ x1_ then (wp_M_rainsAt_32 (wp_M_rainsAt_2 post n) post σ x1_ x2_) else (post (1 : Int32) σ)))))
set_option maxHeartbeats 4000000 in
set_option maxRecDepth 100000 in
theorem b_M_rainsAt_2 {p : Program} {l : Launch} {e : Env} {s : State} {m : MethodId} {args : Array Value} {below : List Frame} {meth : Method} {c : Code} {D : va_G} {Z : Nat → ClassId} {b : Nat → Nat} (C : MC p s m args c cX11_rainsAt 3 D Z) (hr : meth.sig.returnType = some .boolean) (hk : meth.locks = false) {post : Int32 → MS → Prop} : ∀ (n : Nat) (σ : MS) (x1_ : Int32) (x2_ : Int32), wp_M_rainsAt_2  post n σ x1_ x2_ → ∀ (H : Heap) (locs : List Loc) (ls : Array Slot), MH D Z b s.heap σ H locs → lv_has ls 3 [(0, .ref (b 69)), (1, .int x1_), (2, .int x2_)] → MWi p l e rm_M_rainsAt s m args below meth c D Z b post H locs (F0 m 2 ls []) := by
  obtain ⟨⟨hx, hb, hml, hown, hts⟩, hK⟩ := id C
  intro n
  induction n with
  | zero => intro σ x1_ x2_ hw; exact hw.elim
  | succ n ih =>
    intro σ x1_ x2_ hw H locs ls hH hl
    unfold wp_M_rainsAt_2 at hw
    refine lv_iload_n hx hb dX11_rainsAt_2 rfl (lv_at hl 2 rfl) ?_
    refine lv_aload_n hx hb dX11_rainsAt_3 rfl (lv_at hl 0 rfl) ?_
    refine mg C hH 2 (by decide) rfl wd_1031 rfl dX11_rainsAt_4 ?_
    refine lv_icmp_ge (tgt := 38) hx hb dX11_rainsAt_7 (by decide) (fun c2 => ?_) (fun c2 => ?_)
    · have hw := ifp c2 hw
      refine lv_iconst (v := 0) hx hb dX11_rainsAt_38 (by decide) ?_
      exact mrz C hr hk hH bz0 hw dX11_rainsAt_39
    · have hw := ifn c2 hw
      refine lv_iload_n hx hb dX11_rainsAt_10 rfl (lv_at hl 1 rfl) ?_
      refine lv_aload_n hx hb dX11_rainsAt_11 rfl (lv_at hl 0 rfl) ?_
      refine mg C hH 3 (by decide) rfl wd_1032 rfl dX11_rainsAt_12 ?_
      refine lv_iload_n hx hb dX11_rainsAt_15 rfl (lv_at hl 2 rfl) ?_
      obtain ⟨h3, hw⟩ := hw
      refine mai C hH 1 3 rfl h3 dX11_rainsAt_16 ?_
      refine lv_icmp_lt (tgt := 32) hx hb dX11_rainsAt_17 (by decide) (fun c4 => ?_) (fun c4 => ?_)
      · have hw := ifp c4 hw
        exact b_M_rainsAt_32 C hr hk ih σ x1_ x2_ hw _ _ _ hH (lv_sub hl [0, 1, 2] rfl)
      · have hw := ifn c4 hw
        refine lv_iload_n hx hb dX11_rainsAt_20 rfl (lv_at hl 1 rfl) ?_
        refine lv_aload_n hx hb dX11_rainsAt_21 rfl (lv_at hl 0 rfl) ?_
        refine mg C hH 4 (by decide) rfl wd_1033 rfl dX11_rainsAt_22 ?_
        refine lv_iload_n hx hb dX11_rainsAt_25 rfl (lv_at hl 2 rfl) ?_
        obtain ⟨h5, hw⟩ := hw
        refine mai C hH 2 4 rfl h5 dX11_rainsAt_26 ?_
        refine lv_icmp_ge (tgt := 32) hx hb dX11_rainsAt_27 (by decide) (fun c6 => ?_) (fun c6 => ?_)
        · have hw := ifp c6 hw
          exact b_M_rainsAt_32 C hr hk ih σ x1_ x2_ hw _ _ _ hH (lv_sub hl [0, 1, 2] rfl)
        · have hw := ifn c6 hw
          refine lv_iconst (v := 1) hx hb dX11_rainsAt_30 (by decide) ?_
          exact mrz C hr hk hH bz1 hw dX11_rainsAt_31
def wp_M_rainsAt (σ : MS) (a1 : Int32) (post : Int32 → MS → Prop) : Prop := ∃ nn : Nat, wp_M_rainsAt_2  post nn σ a1 (0 : Int32)
set_option maxHeartbeats 4000000 in
set_option maxRecDepth 100000 in
theorem c_M_rainsAt (l : Launch) (D : va_G) (Z : Nat → ClassId) (b : Nat → Nat) (σ : MS) (a1 : Int32) (post : Int32 → MS → Prop) (hw : wp_M_rainsAt σ a1 post) (sz : Nat) : Met l yX11_rainsAt (Wd yX11_rainsAt cX11_rainsAt 3 (some .boolean)) rm_M_rainsAt (va_Pc [.ref (b 69), .int a1] (mPre D Z b sz σ)) (va_Qi post (mPost D Z b) (mA b sz)) 0 0 (mA b sz) := by
  refine mMi (by decide) rfl _ (Nat.le_of_ble_eq_true rfl) (fun p e s m args below meth c C hr hk ls hl hH => ?_) sz
  obtain ⟨⟨hx, hb, hml, hown, hts⟩, hK⟩ := id C
  have hl : lv_has ls 3 [(0, .ref (b 69)), (1, .int a1)] := hl
  unfold wp_M_rainsAt at hw
  refine lv_iconst (v := 0) hx hb dX11_rainsAt_0 (by decide) ?_
  refine lv_istore_n (lv' := [(2, .int (0 : Int32)), (0, .ref (b 69)), (1, .int a1)]) hx hb dX11_rainsAt_1 rfl hl (by decide) rfl (fun ls hl => ?_)
  obtain ⟨nn, hw⟩ := hw
  exact b_M_rainsAt_2 C hr hk  nn σ a1 (0 : Int32) hw _ _ _ hH (lv_sub hl [1, 2, 0] rfl)
/-! place -/
abbrev rm_M_place : Room := { frames := 1, cells := 0, slots := 0, locals := 22 }
def wp_M_place (σ : MS) (a1 : Int32) (a2 : Int32) (post : Int32 → MS → Prop) : Prop := wp_M_in σ a1 (0 : Int32) (99 : Int32) (fun r2 σ1 => if r2 = 0 then (post (-1 : Int32) σ1) else (wp_M_in σ1 a2 (0 : Int32) (99 : Int32) (fun r5 σ4 => if r5 = 0 then (post (-1 : Int32) σ4) else (if (σ4 5 0) = (20 : Int32) then (post (-3 : Int32) σ4) else (vp_in (σ4 5 0) 20 ∧ (∀ σ9 : MS, σ9 = up2 σ4 6 (σ4 5 0).toNatClampNeg a1 → (vp_in (σ9 5 0) 20 ∧ (∀ σ11 : MS, σ11 = up2 σ9 7 (σ9 5 0).toNatClampNeg a2 → (∀ σ12 : MS, σ12 = up2 σ11 5 0 ((σ11 5 0) + (1 : Int32)) → (post ((σ12 5 0) - (1 : Int32)) σ12))))))))))
set_option maxHeartbeats 4000000 in
set_option maxRecDepth 100000 in
theorem c_M_place (l : Launch) (D : va_G) (Z : Nat → ClassId) (b : Nat → Nat) (σ : MS) (a1 : Int32) (a2 : Int32) (post : Int32 → MS → Prop) (hw : wp_M_place σ a1 a2 post) (sz : Nat) : Met l yX11_place (Wd yX11_place cX11_place 3 (some .int)) rm_M_place (va_Pc [.ref (b 69), .int a1, .int a2] (mPre D Z b sz σ)) (va_Qi post (mPost D Z b) (mA b sz)) 0 0 (mA b sz) := by
  refine mMi (by decide) rfl _ (Nat.le_of_ble_eq_true rfl) (fun p e s m args below meth c C hr hk ls hl hH => ?_) sz
  obtain ⟨⟨hx, hb, hml, hown, hts⟩, hK⟩ := id C
  have hl : lv_has ls 3 [(0, .ref (b 69)), (1, .int a1), (2, .int a2)] := hl
  unfold wp_M_place at hw
  refine lv_iload_n hx hb dX11_place_0 rfl (lv_at hl 1 rfl) ?_
  refine lv_iconst (v := 0) hx hb dX11_place_1 (by decide) ?_
  refine lv_bipush (v := 99) hx hb dX11_place_2 (by decide) ?_
  refine mcSi C hH [.int a1, .int (0 : Int32), .int (99 : Int32)] (fun sz => c_M_in l D Z b σ a1 (0 : Int32) (99 : Int32) _ hw sz) (cwTS 3 hts wd_1242 wd_1243 wd_14 wd_1244 rfl rfl (by decide +kernel) ⟨Nat.le_of_ble_eq_true rfl, Nat.le_of_ble_eq_true rfl⟩) rfl hl.1 rfl (Nat.le_of_ble_eq_true rfl) dX11_place_4 ⟨Nat.zero_le _, Nat.zero_le _⟩ (fun r2 σ1 H locs hw hH => ?_)
  refine lv_if_eq (tgt := 20) hx hb dX11_place_7 (by decide) (fun c3 => ?_) (fun c3 => ?_)
  · have hw := ifp c3 hw
    refine lv_iconst (v := -1) hx hb dX11_place_20 (by decide) ?_
    exact mri C hr hk hH hw dX11_place_21
  · have hw := ifn c3 hw
    refine lv_iload_n hx hb dX11_place_10 rfl (lv_at hl 2 rfl) ?_
    refine lv_iconst (v := 0) hx hb dX11_place_11 (by decide) ?_
    refine lv_bipush (v := 99) hx hb dX11_place_12 (by decide) ?_
    refine mcSi C hH [.int a2, .int (0 : Int32), .int (99 : Int32)] (fun sz => c_M_in l D Z b σ1 a2 (0 : Int32) (99 : Int32) _ hw sz) (cwTS 3 hts wd_1242 wd_1243 wd_14 wd_1244 rfl rfl (by decide +kernel) ⟨Nat.le_of_ble_eq_true rfl, Nat.le_of_ble_eq_true rfl⟩) rfl hl.1 rfl (Nat.le_of_ble_eq_true rfl) dX11_place_14 ⟨Nat.zero_le _, Nat.zero_le _⟩ (fun r5 σ4 H locs hw hH => ?_)
    refine lv_if_ne (tgt := 22) hx hb dX11_place_17 (by decide) (fun c6 => ?_) (fun c6 => ?_)
    · have hw := ifn c6 hw
      refine lv_aload_n hx hb dX11_place_22 rfl (lv_at hl 0 rfl) ?_
      refine mg C hH 5 (by decide) rfl wd_1034 rfl dX11_place_23 ?_
      refine lv_bipush (v := 20) hx hb dX11_place_26 (by decide) ?_
      refine lv_icmp_ne (tgt := 34) hx hb dX11_place_28 (by decide) (fun c7 => ?_) (fun c7 => ?_)
      · have hw := ifn c7 hw
        refine lv_aload_n hx hb dX11_place_34 rfl (lv_at hl 0 rfl) ?_
        refine mg C hH 6 (by decide) rfl wd_1035 rfl dX11_place_35 ?_
        refine lv_aload_n hx hb dX11_place_38 rfl (lv_at hl 0 rfl) ?_
        refine mg C hH 5 (by decide) rfl wd_1034 rfl dX11_place_39 ?_
        refine lv_iload_n hx hb dX11_place_42 rfl (lv_at hl 1 rfl) ?_
        obtain ⟨h8, hw⟩ := hw
        refine msi C hH 3 6 rfl (mast_6 Z b σ4 _ _) h8 dX11_place_43 (fun H locs hH => ?_)
        have hw := hw _ rfl
        generalize up2 σ4 6 (σ4 5 0).toNatClampNeg a1 = σ9 at hw hH
        refine lv_aload_n hx hb dX11_place_44 rfl (lv_at hl 0 rfl) ?_
        refine mg C hH 7 (by decide) rfl wd_1036 rfl dX11_place_45 ?_
        refine lv_aload_n hx hb dX11_place_48 rfl (lv_at hl 0 rfl) ?_
        refine mg C hH 5 (by decide) rfl wd_1034 rfl dX11_place_49 ?_
        refine lv_iload_n hx hb dX11_place_52 rfl (lv_at hl 2 rfl) ?_
        obtain ⟨h10, hw⟩ := hw
        refine msi C hH 4 7 rfl (mast_7 Z b σ9 _ _) h10 dX11_place_53 (fun H locs hH => ?_)
        have hw := hw _ rfl
        generalize up2 σ9 7 (σ9 5 0).toNatClampNeg a2 = σ11 at hw hH
        refine lv_aload_n hx hb dX11_place_54 rfl (lv_at hl 0 rfl) ?_
        refine lv_dup hx hb dX11_place_55 rfl ?_
        refine mg C hH 5 (by decide) rfl wd_1034 rfl dX11_place_56 ?_
        refine lv_iconst (v := 1) hx hb dX11_place_59 (by decide) ?_
        refine lv_iadd hx hb dX11_place_60 ?_
        refine mp C hH 5 (by decide) rfl wd_1034 (mset_5 Z b σ11 _) dX11_place_61 (fun H locs hH => ?_)
        have hw := hw _ rfl
        generalize up2 σ11 5 0 ((σ11 5 0) + (1 : Int32)) = σ12 at hw hH
        refine lv_aload_n hx hb dX11_place_64 rfl (lv_at hl 0 rfl) ?_
        refine mg C hH 5 (by decide) rfl wd_1034 rfl dX11_place_65 ?_
        refine lv_iconst (v := 1) hx hb dX11_place_68 (by decide) ?_
        refine lv_isub hx hb dX11_place_69 ?_
        exact mri C hr hk hH hw dX11_place_70
      · have hw := ifp c7 hw
        refine lv_bipush (v := -3) hx hb dX11_place_31 (by decide) ?_
        exact mri C hr hk hH hw dX11_place_33
    · have hw := ifp c6 hw
      refine lv_iconst (v := -1) hx hb dX11_place_20 (by decide) ?_
      exact mri C hr hk hH hw dX11_place_21
/-! tide -/
abbrev rm_M_tide : Room := { frames := 2, cells := 0, slots := 0, locals := 43 }
def wp_M_tide (σ : MS) (a1 : Int32) (a2 : Int32) (a3 : Int32) (post : Int32 → MS → Prop) : Prop := wp_M_isPlace σ a1 (fun r2 σ1 => if r2 = 0 then (post (-1 : Int32) σ1) else (if a2 < 0 then (post (-1 : Int32) σ1) else (if a3 < a2 then (post (-1 : Int32) σ1) else (if a3 ≤ (600 : Int32) then (vp_in a1 20 ∧ (∀ σ8 : MS, σ8 = up2 σ1 8 a1.toNatClampNeg a2 → (vp_in a1 20 ∧ (∀ σ10 : MS, σ10 = up2 σ8 9 a1.toNatClampNeg a3 → (post (1 : Int32) σ10))))) else (post (-1 : Int32) σ1)))))
set_option maxHeartbeats 4000000 in
set_option maxRecDepth 100000 in
theorem c_M_tide (l : Launch) (D : va_G) (Z : Nat → ClassId) (b : Nat → Nat) (σ : MS) (a1 : Int32) (a2 : Int32) (a3 : Int32) (post : Int32 → MS → Prop) (hw : wp_M_tide σ a1 a2 a3 post) (sz : Nat) : Met l yX11_tide (Wd yX11_tide cX11_tide 4 (some .int)) rm_M_tide (va_Pc [.ref (b 69), .int a1, .int a2, .int a3] (mPre D Z b sz σ)) (va_Qi post (mPost D Z b) (mA b sz)) 0 0 (mA b sz) := by
  refine mMi (by decide) rfl _ (Nat.le_of_ble_eq_true rfl) (fun p e s m args below meth c C hr hk ls hl hH => ?_) sz
  obtain ⟨⟨hx, hb, hml, hown, hts⟩, hK⟩ := id C
  have hl : lv_has ls 4 [(0, .ref (b 69)), (1, .int a1), (2, .int a2), (3, .int a3)] := hl
  unfold wp_M_tide at hw
  refine lv_aload_n hx hb dX11_tide_0 rfl (lv_at hl 0 rfl) ?_
  refine lv_iload_n hx hb dX11_tide_1 rfl (lv_at hl 1 rfl) ?_
  refine mcVi C hH [.int a1] (fun sz => c_M_isPlace l D Z b σ a1 _ hw sz) (cwTV 1 hts wd_1249 wd_1251 ws_46 wd_14 wd_1252 rfl rfl (by decide +kernel) ⟨Nat.le_of_ble_eq_true rfl, Nat.le_of_ble_eq_true rfl⟩) rfl hl.1 rfl (Nat.le_of_ble_eq_true rfl) dX11_tide_2 ⟨Nat.zero_le _, Nat.zero_le _⟩ (fun r2 σ1 H locs hw hH => ?_)
  refine lv_if_eq (tgt := 24) hx hb dX11_tide_5 (by decide) (fun c3 => ?_) (fun c3 => ?_)
  · have hw := ifp c3 hw
    refine lv_iconst (v := -1) hx hb dX11_tide_24 (by decide) ?_
    exact mri C hr hk hH hw dX11_tide_25
  · have hw := ifn c3 hw
    refine lv_iload_n hx hb dX11_tide_8 rfl (lv_at hl 2 rfl) ?_
    refine lv_if_lt (tgt := 24) hx hb dX11_tide_9 (by decide) (fun c4 => ?_) (fun c4 => ?_)
    · have hw := ifp c4 hw
      refine lv_iconst (v := -1) hx hb dX11_tide_24 (by decide) ?_
      exact mri C hr hk hH hw dX11_tide_25
    · have hw := ifn c4 hw
      refine lv_iload_n hx hb dX11_tide_12 rfl (lv_at hl 3 rfl) ?_
      refine lv_iload_n hx hb dX11_tide_13 rfl (lv_at hl 2 rfl) ?_
      refine lv_icmp_lt (tgt := 24) hx hb dX11_tide_14 (by decide) (fun c5 => ?_) (fun c5 => ?_)
      · have hw := ifp c5 hw
        refine lv_iconst (v := -1) hx hb dX11_tide_24 (by decide) ?_
        exact mri C hr hk hH hw dX11_tide_25
      · have hw := ifn c5 hw
        refine lv_iload_n hx hb dX11_tide_17 rfl (lv_at hl 3 rfl) ?_
        refine lv_sipush (v := 600) hx hb dX11_tide_18 (by decide) ?_
        refine lv_icmp_le (tgt := 26) hx hb dX11_tide_21 (by decide) (fun c6 => ?_) (fun c6 => ?_)
        · have hw := ifp c6 hw
          refine lv_aload_n hx hb dX11_tide_26 rfl (lv_at hl 0 rfl) ?_
          refine mg C hH 8 (by decide) rfl wd_1037 rfl dX11_tide_27 ?_
          refine lv_iload_n hx hb dX11_tide_30 rfl (lv_at hl 1 rfl) ?_
          refine lv_iload_n hx hb dX11_tide_31 rfl (lv_at hl 2 rfl) ?_
          obtain ⟨h7, hw⟩ := hw
          refine msi C hH 5 8 rfl (mast_8 Z b σ1 _ _) h7 dX11_tide_32 (fun H locs hH => ?_)
          have hw := hw _ rfl
          generalize up2 σ1 8 a1.toNatClampNeg a2 = σ8 at hw hH
          refine lv_aload_n hx hb dX11_tide_33 rfl (lv_at hl 0 rfl) ?_
          refine mg C hH 9 (by decide) rfl wd_1038 rfl dX11_tide_34 ?_
          refine lv_iload_n hx hb dX11_tide_37 rfl (lv_at hl 1 rfl) ?_
          refine lv_iload_n hx hb dX11_tide_38 rfl (lv_at hl 3 rfl) ?_
          obtain ⟨h9, hw⟩ := hw
          refine msi C hH 6 9 rfl (mast_9 Z b σ8 _ _) h9 dX11_tide_39 (fun H locs hH => ?_)
          have hw := hw _ rfl
          generalize up2 σ8 9 a1.toNatClampNeg a3 = σ10 at hw hH
          refine lv_iconst (v := 1) hx hb dX11_tide_40 (by decide) ?_
          exact mri C hr hk hH hw dX11_tide_41
        · have hw := ifn c6 hw
          refine lv_iconst (v := -1) hx hb dX11_tide_24 (by decide) ?_
          exact mri C hr hk hH hw dX11_tide_25
/-! rain -/
abbrev rm_M_rain : Room := { frames := 1, cells := 0, slots := 0, locals := 22 }
def wp_M_rain (σ : MS) (a1 : Int32) (a2 : Int32) (post : Int32 → MS → Prop) : Prop := wp_M_in σ a1 (σ 1 0) (99999 : Int32) (fun r2 σ1 => if r2 = 0 then (post (-1 : Int32) σ1) else (if a2 ≤ a1 then (post (-1 : Int32) σ1) else (if a2 ≤ (100000 : Int32) then (if (σ1 2 0) = (20 : Int32) then (post (-3 : Int32) σ1) else (vp_in (σ1 2 0) 20 ∧ (∀ σ8 : MS, σ8 = up2 σ1 3 (σ1 2 0).toNatClampNeg a1 → (vp_in (σ8 2 0) 20 ∧ (∀ σ10 : MS, σ10 = up2 σ8 4 (σ8 2 0).toNatClampNeg a2 → (∀ σ11 : MS, σ11 = up2 σ10 2 0 ((σ10 2 0) + (1 : Int32)) → (post (σ11 2 0) σ11))))))) else (post (-1 : Int32) σ1))))
set_option maxHeartbeats 4000000 in
set_option maxRecDepth 100000 in
theorem c_M_rain (l : Launch) (D : va_G) (Z : Nat → ClassId) (b : Nat → Nat) (σ : MS) (a1 : Int32) (a2 : Int32) (post : Int32 → MS → Prop) (hw : wp_M_rain σ a1 a2 post) (sz : Nat) : Met l yX11_rain (Wd yX11_rain cX11_rain 3 (some .int)) rm_M_rain (va_Pc [.ref (b 69), .int a1, .int a2] (mPre D Z b sz σ)) (va_Qi post (mPost D Z b) (mA b sz)) 0 0 (mA b sz) := by
  refine mMi (by decide) rfl _ (Nat.le_of_ble_eq_true rfl) (fun p e s m args below meth c C hr hk ls hl hH => ?_) sz
  obtain ⟨⟨hx, hb, hml, hown, hts⟩, hK⟩ := id C
  have hl : lv_has ls 3 [(0, .ref (b 69)), (1, .int a1), (2, .int a2)] := hl
  unfold wp_M_rain at hw
  refine lv_iload_n hx hb dX11_rain_0 rfl (lv_at hl 1 rfl) ?_
  refine lv_aload_n hx hb dX11_rain_1 rfl (lv_at hl 0 rfl) ?_
  refine mg C hH 1 (by decide) rfl wd_1030 rfl dX11_rain_2 ?_
  refine lv_ldc (own := RX11) (index := 195) (v := 99999) hx hb hown (hts _ wd_1257) dX11_rain_5 ?_
  refine mcSi C hH [.int a1, .int (σ 1 0), .int (99999 : Int32)] (fun sz => c_M_in l D Z b σ a1 (σ 1 0) (99999 : Int32) _ hw sz) (cwTS 3 hts wd_1242 wd_1243 wd_14 wd_1244 rfl rfl (by decide +kernel) ⟨Nat.le_of_ble_eq_true rfl, Nat.le_of_ble_eq_true rfl⟩) rfl hl.1 rfl (Nat.le_of_ble_eq_true rfl) dX11_rain_7 ⟨Nat.zero_le _, Nat.zero_le _⟩ (fun r2 σ1 H locs hw hH => ?_)
  refine lv_if_eq (tgt := 24) hx hb dX11_rain_10 (by decide) (fun c3 => ?_) (fun c3 => ?_)
  · have hw := ifp c3 hw
    refine lv_iconst (v := -1) hx hb dX11_rain_24 (by decide) ?_
    exact mri C hr hk hH hw dX11_rain_25
  · have hw := ifn c3 hw
    refine lv_iload_n hx hb dX11_rain_13 rfl (lv_at hl 2 rfl) ?_
    refine lv_iload_n hx hb dX11_rain_14 rfl (lv_at hl 1 rfl) ?_
    refine lv_icmp_le (tgt := 24) hx hb dX11_rain_15 (by decide) (fun c4 => ?_) (fun c4 => ?_)
    · have hw := ifp c4 hw
      refine lv_iconst (v := -1) hx hb dX11_rain_24 (by decide) ?_
      exact mri C hr hk hH hw dX11_rain_25
    · have hw := ifn c4 hw
      refine lv_iload_n hx hb dX11_rain_18 rfl (lv_at hl 2 rfl) ?_
      refine lv_ldc (own := RX11) (index := 196) (v := 100000) hx hb hown (hts _ wd_1258) dX11_rain_19 ?_
      refine lv_icmp_le (tgt := 26) hx hb dX11_rain_21 (by decide) (fun c5 => ?_) (fun c5 => ?_)
      · have hw := ifp c5 hw
        refine lv_aload_n hx hb dX11_rain_26 rfl (lv_at hl 0 rfl) ?_
        refine mg C hH 2 (by decide) rfl wd_1031 rfl dX11_rain_27 ?_
        refine lv_bipush (v := 20) hx hb dX11_rain_30 (by decide) ?_
        refine lv_icmp_ne (tgt := 38) hx hb dX11_rain_32 (by decide) (fun c6 => ?_) (fun c6 => ?_)
        · have hw := ifn c6 hw
          refine lv_aload_n hx hb dX11_rain_38 rfl (lv_at hl 0 rfl) ?_
          refine mg C hH 3 (by decide) rfl wd_1032 rfl dX11_rain_39 ?_
          refine lv_aload_n hx hb dX11_rain_42 rfl (lv_at hl 0 rfl) ?_
          refine mg C hH 2 (by decide) rfl wd_1031 rfl dX11_rain_43 ?_
          refine lv_iload_n hx hb dX11_rain_46 rfl (lv_at hl 1 rfl) ?_
          obtain ⟨h7, hw⟩ := hw
          refine msi C hH 1 3 rfl (mast_3 Z b σ1 _ _) h7 dX11_rain_47 (fun H locs hH => ?_)
          have hw := hw _ rfl
          generalize up2 σ1 3 (σ1 2 0).toNatClampNeg a1 = σ8 at hw hH
          refine lv_aload_n hx hb dX11_rain_48 rfl (lv_at hl 0 rfl) ?_
          refine mg C hH 4 (by decide) rfl wd_1033 rfl dX11_rain_49 ?_
          refine lv_aload_n hx hb dX11_rain_52 rfl (lv_at hl 0 rfl) ?_
          refine mg C hH 2 (by decide) rfl wd_1031 rfl dX11_rain_53 ?_
          refine lv_iload_n hx hb dX11_rain_56 rfl (lv_at hl 2 rfl) ?_
          obtain ⟨h9, hw⟩ := hw
          refine msi C hH 2 4 rfl (mast_4 Z b σ8 _ _) h9 dX11_rain_57 (fun H locs hH => ?_)
          have hw := hw _ rfl
          generalize up2 σ8 4 (σ8 2 0).toNatClampNeg a2 = σ10 at hw hH
          refine lv_aload_n hx hb dX11_rain_58 rfl (lv_at hl 0 rfl) ?_
          refine lv_dup hx hb dX11_rain_59 rfl ?_
          refine mg C hH 2 (by decide) rfl wd_1031 rfl dX11_rain_60 ?_
          refine lv_iconst (v := 1) hx hb dX11_rain_63 (by decide) ?_
          refine lv_iadd hx hb dX11_rain_64 ?_
          refine mp C hH 2 (by decide) rfl wd_1031 (mset_2 Z b σ10 _) dX11_rain_65 (fun H locs hH => ?_)
          have hw := hw _ rfl
          generalize up2 σ10 2 0 ((σ10 2 0) + (1 : Int32)) = σ11 at hw hH
          refine lv_aload_n hx hb dX11_rain_68 rfl (lv_at hl 0 rfl) ?_
          refine mg C hH 2 (by decide) rfl wd_1031 rfl dX11_rain_69 ?_
          exact mri C hr hk hH hw dX11_rain_72
        · have hw := ifp c6 hw
          refine lv_bipush (v := -3) hx hb dX11_rain_35 (by decide) ?_
          exact mri C hr hk hH hw dX11_rain_37
      · have hw := ifn c5 hw
        refine lv_iconst (v := -1) hx hb dX11_rain_24 (by decide) ?_
        exact mri C hr hk hH hw dX11_rain_25
/-! far -/
abbrev rm_M_far : Room := { frames := 0, cells := 0, slots := 0, locals := 0 }
def wp_M_far (σ : MS) (a1 : Int32) (a2 : Int32) (post : Int32 → MS → Prop) : Prop := vp_in a1 20 ∧ (vp_in a2 20 ∧ (if (σ 6 a2.toNatClampNeg) ≤ (σ 6 a1.toNatClampNeg) then (vp_in a1 20 ∧ (vp_in a2 20 ∧ (post ((σ 6 a1.toNatClampNeg) - (σ 6 a2.toNatClampNeg)) σ))) else (vp_in a2 20 ∧ (vp_in a1 20 ∧ (post ((σ 6 a2.toNatClampNeg) - (σ 6 a1.toNatClampNeg)) σ)))))
set_option maxHeartbeats 4000000 in
set_option maxRecDepth 100000 in
theorem c_M_far (l : Launch) (D : va_G) (Z : Nat → ClassId) (b : Nat → Nat) (σ : MS) (a1 : Int32) (a2 : Int32) (post : Int32 → MS → Prop) (hw : wp_M_far σ a1 a2 post) (sz : Nat) : Met l yX11_far (Wd yX11_far cX11_far 3 (some .int)) rm_M_far (va_Pc [.ref (b 69), .int a1, .int a2] (mPre D Z b sz σ)) (va_Qi post (mPost D Z b) (mA b sz)) 0 0 (mA b sz) := by
  refine mMi (by decide) rfl _ (Nat.le_of_ble_eq_true rfl) (fun p e s m args below meth c C hr hk ls hl hH => ?_) sz
  obtain ⟨⟨hx, hb, hml, hown, hts⟩, hK⟩ := id C
  have hl : lv_has ls 3 [(0, .ref (b 69)), (1, .int a1), (2, .int a2)] := hl
  unfold wp_M_far at hw
  refine lv_aload_n hx hb dX11_far_0 rfl (lv_at hl 0 rfl) ?_
  refine mg C hH 6 (by decide) rfl wd_1035 rfl dX11_far_1 ?_
  refine lv_iload_n hx hb dX11_far_4 rfl (lv_at hl 1 rfl) ?_
  obtain ⟨h1, hw⟩ := hw
  refine mai C hH 3 6 rfl h1 dX11_far_5 ?_
  refine lv_aload_n hx hb dX11_far_6 rfl (lv_at hl 0 rfl) ?_
  refine mg C hH 6 (by decide) rfl wd_1035 rfl dX11_far_7 ?_
  refine lv_iload_n hx hb dX11_far_10 rfl (lv_at hl 2 rfl) ?_
  obtain ⟨h2, hw⟩ := hw
  refine mai C hH 3 6 rfl h2 dX11_far_11 ?_
  refine lv_icmp_ge (tgt := 31) hx hb dX11_far_12 (by decide) (fun c3 => ?_) (fun c3 => ?_)
  · have hw := ifp c3 hw
    refine lv_aload_n hx hb dX11_far_31 rfl (lv_at hl 0 rfl) ?_
    refine mg C hH 6 (by decide) rfl wd_1035 rfl dX11_far_32 ?_
    refine lv_iload_n hx hb dX11_far_35 rfl (lv_at hl 1 rfl) ?_
    obtain ⟨h4, hw⟩ := hw
    refine mai C hH 3 6 rfl h4 dX11_far_36 ?_
    refine lv_aload_n hx hb dX11_far_37 rfl (lv_at hl 0 rfl) ?_
    refine mg C hH 6 (by decide) rfl wd_1035 rfl dX11_far_38 ?_
    refine lv_iload_n hx hb dX11_far_41 rfl (lv_at hl 2 rfl) ?_
    obtain ⟨h5, hw⟩ := hw
    refine mai C hH 3 6 rfl h5 dX11_far_42 ?_
    refine lv_isub hx hb dX11_far_43 ?_
    exact mri C hr hk hH hw dX11_far_44
  · have hw := ifn c3 hw
    refine lv_aload_n hx hb dX11_far_15 rfl (lv_at hl 0 rfl) ?_
    refine mg C hH 6 (by decide) rfl wd_1035 rfl dX11_far_16 ?_
    refine lv_iload_n hx hb dX11_far_19 rfl (lv_at hl 2 rfl) ?_
    obtain ⟨h6, hw⟩ := hw
    refine mai C hH 3 6 rfl h6 dX11_far_20 ?_
    refine lv_aload_n hx hb dX11_far_21 rfl (lv_at hl 0 rfl) ?_
    refine mg C hH 6 (by decide) rfl wd_1035 rfl dX11_far_22 ?_
    refine lv_iload_n hx hb dX11_far_25 rfl (lv_at hl 1 rfl) ?_
    obtain ⟨h7, hw⟩ := hw
    refine mai C hH 3 6 rfl h7 dX11_far_26 ?_
    refine lv_isub hx hb dX11_far_27 ?_
    refine lv_goto (tgt := 44) hx hb dX11_far_28 (by decide) ?_
    exact mri C hr hk hH hw dX11_far_44
/-! up -/
abbrev rm_M_up : Room := { frames := 0, cells := 0, slots := 0, locals := 0 }
def wp_M_up (σ : MS) (a1 : Int32) (a2 : Int32) (post : Int32 → MS → Prop) : Prop := vp_in a2 20 ∧ (vp_in a1 20 ∧ (if (σ 7 a2.toNatClampNeg) < (σ 7 a1.toNatClampNeg) then (vp_in a1 20 ∧ (vp_in a2 20 ∧ (post (((σ 7 a1.toNatClampNeg) - (σ 7 a2.toNatClampNeg)) / (2 : Int32)) σ))) else (vp_in a2 20 ∧ (vp_in a1 20 ∧ (post ((σ 7 a2.toNatClampNeg) - (σ 7 a1.toNatClampNeg)) σ)))))
set_option maxHeartbeats 4000000 in
set_option maxRecDepth 100000 in
theorem c_M_up (l : Launch) (D : va_G) (Z : Nat → ClassId) (b : Nat → Nat) (σ : MS) (a1 : Int32) (a2 : Int32) (post : Int32 → MS → Prop) (hw : wp_M_up σ a1 a2 post) (sz : Nat) : Met l yX11_up (Wd yX11_up cX11_up 3 (some .int)) rm_M_up (va_Pc [.ref (b 69), .int a1, .int a2] (mPre D Z b sz σ)) (va_Qi post (mPost D Z b) (mA b sz)) 0 0 (mA b sz) := by
  refine mMi (by decide) rfl _ (Nat.le_of_ble_eq_true rfl) (fun p e s m args below meth c C hr hk ls hl hH => ?_) sz
  obtain ⟨⟨hx, hb, hml, hown, hts⟩, hK⟩ := id C
  have hl : lv_has ls 3 [(0, .ref (b 69)), (1, .int a1), (2, .int a2)] := hl
  unfold wp_M_up at hw
  refine lv_aload_n hx hb dX11_up_0 rfl (lv_at hl 0 rfl) ?_
  refine mg C hH 7 (by decide) rfl wd_1036 rfl dX11_up_1 ?_
  refine lv_iload_n hx hb dX11_up_4 rfl (lv_at hl 2 rfl) ?_
  obtain ⟨h1, hw⟩ := hw
  refine mai C hH 4 7 rfl h1 dX11_up_5 ?_
  refine lv_aload_n hx hb dX11_up_6 rfl (lv_at hl 0 rfl) ?_
  refine mg C hH 7 (by decide) rfl wd_1036 rfl dX11_up_7 ?_
  refine lv_iload_n hx hb dX11_up_10 rfl (lv_at hl 1 rfl) ?_
  obtain ⟨h2, hw⟩ := hw
  refine mai C hH 4 7 rfl h2 dX11_up_11 ?_
  refine lv_icmp_lt (tgt := 31) hx hb dX11_up_12 (by decide) (fun c3 => ?_) (fun c3 => ?_)
  · have hw := ifp c3 hw
    refine lv_aload_n hx hb dX11_up_31 rfl (lv_at hl 0 rfl) ?_
    refine mg C hH 7 (by decide) rfl wd_1036 rfl dX11_up_32 ?_
    refine lv_iload_n hx hb dX11_up_35 rfl (lv_at hl 1 rfl) ?_
    obtain ⟨h4, hw⟩ := hw
    refine mai C hH 4 7 rfl h4 dX11_up_36 ?_
    refine lv_aload_n hx hb dX11_up_37 rfl (lv_at hl 0 rfl) ?_
    refine mg C hH 7 (by decide) rfl wd_1036 rfl dX11_up_38 ?_
    refine lv_iload_n hx hb dX11_up_41 rfl (lv_at hl 2 rfl) ?_
    obtain ⟨h5, hw⟩ := hw
    refine mai C hH 4 7 rfl h5 dX11_up_42 ?_
    refine lv_isub hx hb dX11_up_43 ?_
    refine lv_iconst (v := 2) hx hb dX11_up_44 (by decide) ?_
    refine lv_idiv hx hb dX11_up_45 (by decide) ?_
    exact mri C hr hk hH hw dX11_up_46
  · have hw := ifn c3 hw
    refine lv_aload_n hx hb dX11_up_15 rfl (lv_at hl 0 rfl) ?_
    refine mg C hH 7 (by decide) rfl wd_1036 rfl dX11_up_16 ?_
    refine lv_iload_n hx hb dX11_up_19 rfl (lv_at hl 2 rfl) ?_
    obtain ⟨h6, hw⟩ := hw
    refine mai C hH 4 7 rfl h6 dX11_up_20 ?_
    refine lv_aload_n hx hb dX11_up_21 rfl (lv_at hl 0 rfl) ?_
    refine mg C hH 7 (by decide) rfl wd_1036 rfl dX11_up_22 ?_
    refine lv_iload_n hx hb dX11_up_25 rfl (lv_at hl 1 rfl) ?_
    obtain ⟨h7, hw⟩ := hw
    refine mai C hH 4 7 rfl h7 dX11_up_26 ?_
    refine lv_isub hx hb dX11_up_27 ?_
    refine lv_goto (tgt := 46) hx hb dX11_up_28 (by decide) ?_
    exact mri C hr hk hH hw dX11_up_46
/-! wayNow -/
abbrev rm_M_wayNow : Room := { frames := 1, cells := 0, slots := 0, locals := 22 }
def wp_M_wayNow (σ : MS) (a1 : Int32) (a2 : Int32) (post : Int32 → MS → Prop) : Prop := wp_M_far σ a1 a2 (fun r2 σ1 => wp_M_up σ1 a1 a2 (fun r4 σ3 => ∀ x5 : Int32, x5 = ((r2 + ((2 : Int32) * r4)) + (5 : Int32)) → (wp_M_rainsAt σ3 (σ3 1 0) (fun r7 σ6 => if r7 = 0 then (post x5 σ6) else (post (x5 + (x5 / (2 : Int32))) σ6)))))
set_option maxHeartbeats 4000000 in
set_option maxRecDepth 100000 in
theorem c_M_wayNow (l : Launch) (D : va_G) (Z : Nat → ClassId) (b : Nat → Nat) (σ : MS) (a1 : Int32) (a2 : Int32) (post : Int32 → MS → Prop) (hw : wp_M_wayNow σ a1 a2 post) (sz : Nat) : Met l yX11_wayNow (Wd yX11_wayNow cX11_wayNow 4 (some .int)) rm_M_wayNow (va_Pc [.ref (b 69), .int a1, .int a2] (mPre D Z b sz σ)) (va_Qi post (mPost D Z b) (mA b sz)) 0 0 (mA b sz) := by
  refine mMi (by decide) rfl _ (Nat.le_of_ble_eq_true rfl) (fun p e s m args below meth c C hr hk ls hl hH => ?_) sz
  obtain ⟨⟨hx, hb, hml, hown, hts⟩, hK⟩ := id C
  have hl : lv_has ls 4 [(0, .ref (b 69)), (1, .int a1), (2, .int a2)] := hl
  unfold wp_M_wayNow at hw
  refine lv_aload_n hx hb dX11_wayNow_0 rfl (lv_at hl 0 rfl) ?_
  refine lv_iload_n hx hb dX11_wayNow_1 rfl (lv_at hl 1 rfl) ?_
  refine lv_iload_n hx hb dX11_wayNow_2 rfl (lv_at hl 2 rfl) ?_
  refine mcVi C hH [.int a1, .int a2] (fun sz => c_M_far l D Z b σ a1 a2 _ hw sz) (cwTV 2 hts wd_1263 wd_1265 ws_47 wd_14 wd_1266 rfl rfl (by decide +kernel) ⟨Nat.le_of_ble_eq_true rfl, Nat.le_of_ble_eq_true rfl⟩) rfl hl.1 rfl (Nat.le_of_ble_eq_true rfl) dX11_wayNow_3 ⟨Nat.zero_le _, Nat.zero_le _⟩ (fun r2 σ1 H locs hw hH => ?_)
  refine lv_iconst (v := 2) hx hb dX11_wayNow_6 (by decide) ?_
  refine lv_aload_n hx hb dX11_wayNow_7 rfl (lv_at hl 0 rfl) ?_
  refine lv_iload_n hx hb dX11_wayNow_8 rfl (lv_at hl 1 rfl) ?_
  refine lv_iload_n hx hb dX11_wayNow_9 rfl (lv_at hl 2 rfl) ?_
  refine mcVi C hH [.int a1, .int a2] (fun sz => c_M_up l D Z b σ1 a1 a2 _ hw sz) (cwTV 2 hts wd_1267 wd_1269 ws_48 wd_14 wd_1270 rfl rfl (by decide +kernel) ⟨Nat.le_of_ble_eq_true rfl, Nat.le_of_ble_eq_true rfl⟩) rfl hl.1 rfl (Nat.le_of_ble_eq_true rfl) dX11_wayNow_10 ⟨Nat.zero_le _, Nat.zero_le _⟩ (fun r4 σ3 H locs hw hH => ?_)
  refine lv_imul hx hb dX11_wayNow_13 ?_
  refine lv_iadd hx hb dX11_wayNow_14 ?_
  refine lv_iconst (v := 5) hx hb dX11_wayNow_15 (by decide) ?_
  refine lv_iadd hx hb dX11_wayNow_16 ?_
  refine lv_topi (fun x5 ex5 => ?_)
  have hw := hw x5 ex5
  refine lv_istore_n (lv' := [(3, .int x5), (0, .ref (b 69)), (1, .int a1), (2, .int a2)]) hx hb dX11_wayNow_17 rfl hl (by decide) rfl (fun ls hl => ?_)
  refine lv_aload_n hx hb dX11_wayNow_18 rfl (lv_at hl 1 rfl) ?_
  refine lv_aload_n hx hb dX11_wayNow_19 rfl (lv_at hl 1 rfl) ?_
  refine mg C hH 1 (by decide) rfl wd_1030 rfl dX11_wayNow_20 ?_
  refine mcVi C hH [.int (σ3 1 0)] (fun sz => c_M_rainsAt l D Z b σ3 (σ3 1 0) _ hw sz) (cwTV 1 hts wd_1275 wd_1277 ws_50 wd_14 wd_1278 rfl rfl (by decide +kernel) ⟨Nat.le_of_ble_eq_true rfl, Nat.le_of_ble_eq_true rfl⟩) rfl hl.1 rfl (Nat.le_of_ble_eq_true rfl) dX11_wayNow_23 ⟨Nat.zero_le _, Nat.zero_le _⟩ (fun r7 σ6 H locs hw hH => ?_)
  refine lv_if_eq (tgt := 37) hx hb dX11_wayNow_26 (by decide) (fun c8 => ?_) (fun c8 => ?_)
  · have hw := ifp c8 hw
    refine lv_iload_n hx hb dX11_wayNow_37 rfl (lv_at hl 0 rfl) ?_
    exact mri C hr hk hH hw dX11_wayNow_38
  · have hw := ifn c8 hw
    refine lv_iload_n hx hb dX11_wayNow_29 rfl (lv_at hl 0 rfl) ?_
    refine lv_iload_n hx hb dX11_wayNow_30 rfl (lv_at hl 0 rfl) ?_
    refine lv_iconst (v := 2) hx hb dX11_wayNow_31 (by decide) ?_
    refine lv_idiv hx hb dX11_wayNow_32 (by decide) ?_
    refine lv_iadd hx hb dX11_wayNow_33 ?_
    refine lv_goto (tgt := 38) hx hb dX11_wayNow_34 (by decide) ?_
    exact mri C hr hk hH hw dX11_wayNow_38
/-! way -/
abbrev rm_M_way : Room := { frames := 2, cells := 0, slots := 0, locals := 45 }
def wp_M_way (σ : MS) (a1 : Int32) (a2 : Int32) (a3 : Int32) (post : Int32 → MS → Prop) : Prop := wp_M_isPlace σ a1 (fun r2 σ1 => if r2 = 0 then (post (-1 : Int32) σ1) else (wp_M_isPlace σ1 a2 (fun r5 σ4 => if r5 = 0 then (post (-1 : Int32) σ4) else (if a1 = a2 then (post (-1 : Int32) σ4) else (if a3 = (0 : Int32) then (wp_M_far σ4 a1 a2 (fun r10 σ9 => post r10 σ9)) else (if a3 = (1 : Int32) then (wp_M_up σ4 a1 a2 (fun r13 σ12 => post r13 σ12)) else (if a3 = (2 : Int32) then (wp_M_wayNow σ4 a1 a2 (fun r16 σ15 => post r16 σ15)) else (post (-1 : Int32) σ4))))))))
set_option maxHeartbeats 4000000 in
set_option maxRecDepth 100000 in
theorem c_M_way (l : Launch) (D : va_G) (Z : Nat → ClassId) (b : Nat → Nat) (σ : MS) (a1 : Int32) (a2 : Int32) (a3 : Int32) (post : Int32 → MS → Prop) (hw : wp_M_way σ a1 a2 a3 post) (sz : Nat) : Met l yX11_way (Wd yX11_way cX11_way 4 (some .int)) rm_M_way (va_Pc [.ref (b 69), .int a1, .int a2, .int a3] (mPre D Z b sz σ)) (va_Qi post (mPost D Z b) (mA b sz)) 0 0 (mA b sz) := by
  refine mMi (by decide) rfl _ (Nat.le_of_ble_eq_true rfl) (fun p e s m args below meth c C hr hk ls hl hH => ?_) sz
  obtain ⟨⟨hx, hb, hml, hown, hts⟩, hK⟩ := id C
  have hl : lv_has ls 4 [(0, .ref (b 69)), (1, .int a1), (2, .int a2), (3, .int a3)] := hl
  unfold wp_M_way at hw
  refine lv_aload_n hx hb dX11_way_0 rfl (lv_at hl 0 rfl) ?_
  refine lv_iload_n hx hb dX11_way_1 rfl (lv_at hl 1 rfl) ?_
  refine mcVi C hH [.int a1] (fun sz => c_M_isPlace l D Z b σ a1 _ hw sz) (cwTV 1 hts wd_1249 wd_1251 ws_46 wd_14 wd_1252 rfl rfl (by decide +kernel) ⟨Nat.le_of_ble_eq_true rfl, Nat.le_of_ble_eq_true rfl⟩) rfl hl.1 rfl (Nat.le_of_ble_eq_true rfl) dX11_way_2 ⟨Nat.zero_le _, Nat.zero_le _⟩ (fun r2 σ1 H locs hw hH => ?_)
  refine lv_if_eq (tgt := 21) hx hb dX11_way_5 (by decide) (fun c3 => ?_) (fun c3 => ?_)
  · have hw := ifp c3 hw
    refine lv_iconst (v := -1) hx hb dX11_way_21 (by decide) ?_
    exact mri C hr hk hH hw dX11_way_22
  · have hw := ifn c3 hw
    refine lv_aload_n hx hb dX11_way_8 rfl (lv_at hl 0 rfl) ?_
    refine lv_iload_n hx hb dX11_way_9 rfl (lv_at hl 2 rfl) ?_
    refine mcVi C hH [.int a2] (fun sz => c_M_isPlace l D Z b σ1 a2 _ hw sz) (cwTV 1 hts wd_1249 wd_1251 ws_46 wd_14 wd_1252 rfl rfl (by decide +kernel) ⟨Nat.le_of_ble_eq_true rfl, Nat.le_of_ble_eq_true rfl⟩) rfl hl.1 rfl (Nat.le_of_ble_eq_true rfl) dX11_way_10 ⟨Nat.zero_le _, Nat.zero_le _⟩ (fun r5 σ4 H locs hw hH => ?_)
    refine lv_if_eq (tgt := 21) hx hb dX11_way_13 (by decide) (fun c6 => ?_) (fun c6 => ?_)
    · have hw := ifp c6 hw
      refine lv_iconst (v := -1) hx hb dX11_way_21 (by decide) ?_
      exact mri C hr hk hH hw dX11_way_22
    · have hw := ifn c6 hw
      refine lv_iload_n hx hb dX11_way_16 rfl (lv_at hl 1 rfl) ?_
      refine lv_iload_n hx hb dX11_way_17 rfl (lv_at hl 2 rfl) ?_
      refine lv_icmp_ne (tgt := 23) hx hb dX11_way_18 (by decide) (fun c7 => ?_) (fun c7 => ?_)
      · have hw := ifn c7 hw
        refine lv_iload_n hx hb dX11_way_23 rfl (lv_at hl 3 rfl) ?_
        by_cases c8 : a3 = (0 : Int32)
        · have hw := ifp c8 hw
          refine lv_tableIn (tgt := 52) hx hb dX11_way_24 (by rw [c8]; decide) (by rw [c8]; decide) (by rw [c8]; rfl) (by decide) ?_
          refine lv_aload_n hx hb dX11_way_52 rfl (lv_at hl 0 rfl) ?_
          refine lv_iload_n hx hb dX11_way_53 rfl (lv_at hl 1 rfl) ?_
          refine lv_iload_n hx hb dX11_way_54 rfl (lv_at hl 2 rfl) ?_
          refine mcVi C hH [.int a1, .int a2] (fun sz => c_M_far l D Z b σ4 a1 a2 _ hw sz) (cwTV 2 hts wd_1263 wd_1265 ws_47 wd_14 wd_1266 rfl rfl (by decide +kernel) ⟨Nat.le_of_ble_eq_true rfl, Nat.le_of_ble_eq_true rfl⟩) rfl hl.1 rfl (Nat.le_of_ble_eq_true rfl) dX11_way_55 ⟨Nat.zero_le _, Nat.zero_le _⟩ (fun r10 σ9 H locs hw hH => ?_)
          exact mri C hr hk hH hw dX11_way_58
        have hw := ifn c8 hw
        by_cases c11 : a3 = (1 : Int32)
        · have hw := ifp c11 hw
          refine lv_tableIn (tgt := 59) hx hb dX11_way_24 (by rw [c11]; decide) (by rw [c11]; decide) (by rw [c11]; rfl) (by decide) ?_
          refine lv_aload_n hx hb dX11_way_59 rfl (lv_at hl 0 rfl) ?_
          refine lv_iload_n hx hb dX11_way_60 rfl (lv_at hl 1 rfl) ?_
          refine lv_iload_n hx hb dX11_way_61 rfl (lv_at hl 2 rfl) ?_
          refine mcVi C hH [.int a1, .int a2] (fun sz => c_M_up l D Z b σ4 a1 a2 _ hw sz) (cwTV 2 hts wd_1267 wd_1269 ws_48 wd_14 wd_1270 rfl rfl (by decide +kernel) ⟨Nat.le_of_ble_eq_true rfl, Nat.le_of_ble_eq_true rfl⟩) rfl hl.1 rfl (Nat.le_of_ble_eq_true rfl) dX11_way_62 ⟨Nat.zero_le _, Nat.zero_le _⟩ (fun r13 σ12 H locs hw hH => ?_)
          exact mri C hr hk hH hw dX11_way_65
        have hw := ifn c11 hw
        by_cases c14 : a3 = (2 : Int32)
        · have hw := ifp c14 hw
          refine lv_tableIn (tgt := 66) hx hb dX11_way_24 (by rw [c14]; decide) (by rw [c14]; decide) (by rw [c14]; rfl) (by decide) ?_
          refine lv_aload_n hx hb dX11_way_66 rfl (lv_at hl 0 rfl) ?_
          refine lv_iload_n hx hb dX11_way_67 rfl (lv_at hl 1 rfl) ?_
          refine lv_iload_n hx hb dX11_way_68 rfl (lv_at hl 2 rfl) ?_
          refine mcVi C hH [.int a1, .int a2] (fun sz => c_M_wayNow l D Z b σ4 a1 a2 _ hw sz) (cwTV 2 hts wd_1271 wd_1273 ws_49 wd_14 wd_1274 rfl rfl (by decide +kernel) ⟨Nat.le_of_ble_eq_true rfl, Nat.le_of_ble_eq_true rfl⟩) rfl hl.1 rfl (Nat.le_of_ble_eq_true rfl) dX11_way_69 ⟨Nat.zero_le _, Nat.zero_le _⟩ (fun r16 σ15 H locs hw hH => ?_)
          exact mri C hr hk hH hw dX11_way_72
        have hw := ifn c14 hw
        refine lv_tableOut (tgt := 73) hx hb dX11_way_24 (by have := sw_ne c8 0 (by decide); have := sw_ne c11 1 (by decide); have := sw_ne c14 2 (by decide); omega) (by decide) ?_
        refine lv_iconst (v := -1) hx hb dX11_way_73 (by decide) ?_
        exact mri C hr hk hH hw dX11_way_74
      · have hw := ifp c7 hw
        refine lv_iconst (v := -1) hx hb dX11_way_21 (by decide) ?_
        exact mri C hr hk hH hw dX11_way_22
/-! isMan -/
abbrev rm_M_isMan : Room := { frames := 1, cells := 0, slots := 0, locals := 22 }
def wp_M_isMan (σ : MS) (a1 : Int32) (post : Int32 → MS → Prop) : Prop := wp_M_in σ a1 (0 : Int32) ((σ 10 0) - (1 : Int32)) (fun r2 σ1 => bz r2 ∧ post r2 σ1)
set_option maxHeartbeats 4000000 in
set_option maxRecDepth 100000 in
theorem c_M_isMan (l : Launch) (D : va_G) (Z : Nat → ClassId) (b : Nat → Nat) (σ : MS) (a1 : Int32) (post : Int32 → MS → Prop) (hw : wp_M_isMan σ a1 post) (sz : Nat) : Met l yX11_isMan (Wd yX11_isMan cX11_isMan 2 (some .boolean)) rm_M_isMan (va_Pc [.ref (b 69), .int a1] (mPre D Z b sz σ)) (va_Qi post (mPost D Z b) (mA b sz)) 0 0 (mA b sz) := by
  refine mMi (by decide) rfl _ (Nat.le_of_ble_eq_true rfl) (fun p e s m args below meth c C hr hk ls hl hH => ?_) sz
  obtain ⟨⟨hx, hb, hml, hown, hts⟩, hK⟩ := id C
  have hl : lv_has ls 2 [(0, .ref (b 69)), (1, .int a1)] := hl
  unfold wp_M_isMan at hw
  refine lv_iload_n hx hb dX11_isMan_0 rfl (lv_at hl 1 rfl) ?_
  refine lv_iconst (v := 0) hx hb dX11_isMan_1 (by decide) ?_
  refine lv_aload_n hx hb dX11_isMan_2 rfl (lv_at hl 0 rfl) ?_
  refine mg C hH 10 (by decide) rfl wd_1039 rfl dX11_isMan_3 ?_
  refine lv_iconst (v := 1) hx hb dX11_isMan_6 (by decide) ?_
  refine lv_isub hx hb dX11_isMan_7 ?_
  refine mcSi C hH [.int a1, .int (0 : Int32), .int ((σ 10 0) - (1 : Int32))] (fun sz => c_M_in l D Z b σ a1 (0 : Int32) ((σ 10 0) - (1 : Int32)) _ hw sz) (cwTS 3 hts wd_1242 wd_1243 wd_14 wd_1244 rfl rfl (by decide +kernel) ⟨Nat.le_of_ble_eq_true rfl, Nat.le_of_ble_eq_true rfl⟩) rfl hl.1 rfl (Nat.le_of_ble_eq_true rfl) dX11_isMan_8 ⟨Nat.zero_le _, Nat.zero_le _⟩ (fun r2 σ1 H locs hw hH => ?_)
  exact mrz C hr hk hH hw.1 hw.2 dX11_isMan_11
/-! isFellowship -/
abbrev rm_M_isFellowship : Room := { frames := 1, cells := 0, slots := 0, locals := 22 }
def wp_M_isFellowship (σ : MS) (a1 : Int32) (post : Int32 → MS → Prop) : Prop := wp_M_in σ a1 (0 : Int32) (3 : Int32) (fun r2 σ1 => bz r2 ∧ post r2 σ1)
set_option maxHeartbeats 4000000 in
set_option maxRecDepth 100000 in
theorem c_M_isFellowship (l : Launch) (D : va_G) (Z : Nat → ClassId) (b : Nat → Nat) (σ : MS) (a1 : Int32) (post : Int32 → MS → Prop) (hw : wp_M_isFellowship σ a1 post) (sz : Nat) : Met l yX11_isFellowship (Wd yX11_isFellowship cX11_isFellowship 1 (some .boolean)) rm_M_isFellowship (va_Pc [.int a1] (mPre D Z b sz σ)) (va_Qi post (mPost D Z b) (mA b sz)) 0 0 (mA b sz) := by
  refine mMi (by decide) rfl _ (Nat.le_of_ble_eq_true rfl) (fun p e s m args below meth c C hr hk ls hl hH => ?_) sz
  obtain ⟨⟨hx, hb, hml, hown, hts⟩, hK⟩ := id C
  have hl : lv_has ls 1 [(0, .int a1)] := hl
  unfold wp_M_isFellowship at hw
  refine lv_iload_n hx hb dX11_isFellowship_0 rfl (lv_at hl 0 rfl) ?_
  refine lv_iconst (v := 0) hx hb dX11_isFellowship_1 (by decide) ?_
  refine lv_iconst (v := 3) hx hb dX11_isFellowship_2 (by decide) ?_
  refine mcSi C hH [.int a1, .int (0 : Int32), .int (3 : Int32)] (fun sz => c_M_in l D Z b σ a1 (0 : Int32) (3 : Int32) _ hw sz) (cwTS 3 hts wd_1242 wd_1243 wd_14 wd_1244 rfl rfl (by decide +kernel) ⟨Nat.le_of_ble_eq_true rfl, Nat.le_of_ble_eq_true rfl⟩) rfl hl.1 rfl (Nat.le_of_ble_eq_true rfl) dX11_isFellowship_3 ⟨Nat.zero_le _, Nat.zero_le _⟩ (fun r2 σ1 H locs hw hH => ?_)
  exact mrz C hr hk hH hw.1 hw.2 dX11_isFellowship_6
/-! man -/
abbrev rm_M_man : Room := { frames := 2, cells := 0, slots := 0, locals := 43 }
def wp_M_man (σ : MS) (a1 : Int32) (a2 : Int32) (a3 : Int32) (a4 : Int32) (post : Int32 → MS → Prop) : Prop := wp_M_isFellowship σ a1 (fun r2 σ1 => if r2 = 0 then (post (-1 : Int32) σ1) else (wp_M_in σ1 a2 (1 : Int32) (99 : Int32) (fun r5 σ4 => if r5 = 0 then (post (-1 : Int32) σ4) else (wp_M_in σ4 a3 (16 : Int32) (90 : Int32) (fun r8 σ7 => if r8 = 0 then (post (-1 : Int32) σ7) else (wp_M_isPlace σ7 a4 (fun r11 σ10 => if r11 = 0 then (post (-1 : Int32) σ10) else (if (σ10 10 0) = (60 : Int32) then (post (-3 : Int32) σ10) else (vp_in (σ10 10 0) 60 ∧ (∀ σ15 : MS, σ15 = up2 σ10 11 (σ10 10 0).toNatClampNeg a1 → (vp_in (σ15 10 0) 60 ∧ (∀ σ17 : MS, σ17 = up2 σ15 12 (σ15 10 0).toNatClampNeg a2 → (vp_in (σ17 10 0) 60 ∧ (∀ σ19 : MS, σ19 = up2 σ17 13 (σ17 10 0).toNatClampNeg a3 → (vp_in (σ19 10 0) 60 ∧ (∀ σ21 : MS, σ21 = up2 σ19 18 (σ19 10 0).toNatClampNeg (-1 : Int32) → (∀ σ22 : MS, σ22 = up2 σ21 10 0 ((σ21 10 0) + (1 : Int32)) → (post ((σ22 10 0) - (1 : Int32)) σ22))))))))))))))))))
set_option maxHeartbeats 4000000 in
set_option maxRecDepth 100000 in
theorem c_M_man (l : Launch) (D : va_G) (Z : Nat → ClassId) (b : Nat → Nat) (σ : MS) (a1 : Int32) (a2 : Int32) (a3 : Int32) (a4 : Int32) (post : Int32 → MS → Prop) (hw : wp_M_man σ a1 a2 a3 a4 post) (sz : Nat) : Met l yX11_man (Wd yX11_man cX11_man 5 (some .int)) rm_M_man (va_Pc [.ref (b 69), .int a1, .int a2, .int a3, .int a4] (mPre D Z b sz σ)) (va_Qi post (mPost D Z b) (mA b sz)) 0 0 (mA b sz) := by
  refine mMi (by decide) rfl _ (Nat.le_of_ble_eq_true rfl) (fun p e s m args below meth c C hr hk ls hl hH => ?_) sz
  obtain ⟨⟨hx, hb, hml, hown, hts⟩, hK⟩ := id C
  have hl : lv_has ls 5 [(0, .ref (b 69)), (1, .int a1), (2, .int a2), (3, .int a3), (4, .int a4)] := hl
  unfold wp_M_man at hw
  refine lv_iload_n hx hb dX11_man_0 rfl (lv_at hl 1 rfl) ?_
  refine mcSi C hH [.int a1] (fun sz => c_M_isFellowship l D Z b σ a1 _ hw sz) (cwTS 1 hts wd_1283 wd_1284 wd_14 wd_1285 rfl rfl (by decide +kernel) ⟨Nat.le_of_ble_eq_true rfl, Nat.le_of_ble_eq_true rfl⟩) rfl hl.1 rfl (Nat.le_of_ble_eq_true rfl) dX11_man_1 ⟨Nat.zero_le _, Nat.zero_le _⟩ (fun r2 σ1 H locs hw hH => ?_)
  refine lv_if_eq (tgt := 37) hx hb dX11_man_4 (by decide) (fun c3 => ?_) (fun c3 => ?_)
  · have hw := ifp c3 hw
    refine lv_iconst (v := -1) hx hb dX11_man_37 (by decide) ?_
    exact mri C hr hk hH hw dX11_man_38
  · have hw := ifn c3 hw
    refine lv_iload_n hx hb dX11_man_7 rfl (lv_at hl 2 rfl) ?_
    refine lv_iconst (v := 1) hx hb dX11_man_8 (by decide) ?_
    refine lv_bipush (v := 99) hx hb dX11_man_9 (by decide) ?_
    refine mcSi C hH [.int a2, .int (1 : Int32), .int (99 : Int32)] (fun sz => c_M_in l D Z b σ1 a2 (1 : Int32) (99 : Int32) _ hw sz) (cwTS 3 hts wd_1242 wd_1243 wd_14 wd_1244 rfl rfl (by decide +kernel) ⟨Nat.le_of_ble_eq_true rfl, Nat.le_of_ble_eq_true rfl⟩) rfl hl.1 rfl (Nat.le_of_ble_eq_true rfl) dX11_man_11 ⟨Nat.zero_le _, Nat.zero_le _⟩ (fun r5 σ4 H locs hw hH => ?_)
    refine lv_if_eq (tgt := 37) hx hb dX11_man_14 (by decide) (fun c6 => ?_) (fun c6 => ?_)
    · have hw := ifp c6 hw
      refine lv_iconst (v := -1) hx hb dX11_man_37 (by decide) ?_
      exact mri C hr hk hH hw dX11_man_38
    · have hw := ifn c6 hw
      refine lv_iload_n hx hb dX11_man_17 rfl (lv_at hl 3 rfl) ?_
      refine lv_bipush (v := 16) hx hb dX11_man_18 (by decide) ?_
      refine lv_bipush (v := 90) hx hb dX11_man_20 (by decide) ?_
      refine mcSi C hH [.int a3, .int (16 : Int32), .int (90 : Int32)] (fun sz => c_M_in l D Z b σ4 a3 (16 : Int32) (90 : Int32) _ hw sz) (cwTS 3 hts wd_1242 wd_1243 wd_14 wd_1244 rfl rfl (by decide +kernel) ⟨Nat.le_of_ble_eq_true rfl, Nat.le_of_ble_eq_true rfl⟩) rfl hl.1 rfl (Nat.le_of_ble_eq_true rfl) dX11_man_22 ⟨Nat.zero_le _, Nat.zero_le _⟩ (fun r8 σ7 H locs hw hH => ?_)
      refine lv_if_eq (tgt := 37) hx hb dX11_man_25 (by decide) (fun c9 => ?_) (fun c9 => ?_)
      · have hw := ifp c9 hw
        refine lv_iconst (v := -1) hx hb dX11_man_37 (by decide) ?_
        exact mri C hr hk hH hw dX11_man_38
      · have hw := ifn c9 hw
        refine lv_aload_n hx hb dX11_man_28 rfl (lv_at hl 0 rfl) ?_
        refine lv_iload hx hb dX11_man_29 (lv_at hl 4 rfl) ?_
        refine mcVi C hH [.int a4] (fun sz => c_M_isPlace l D Z b σ7 a4 _ hw sz) (cwTV 1 hts wd_1249 wd_1251 ws_46 wd_14 wd_1252 rfl rfl (by decide +kernel) ⟨Nat.le_of_ble_eq_true rfl, Nat.le_of_ble_eq_true rfl⟩) rfl hl.1 rfl (Nat.le_of_ble_eq_true rfl) dX11_man_31 ⟨Nat.zero_le _, Nat.zero_le _⟩ (fun r11 σ10 H locs hw hH => ?_)
        refine lv_if_ne (tgt := 39) hx hb dX11_man_34 (by decide) (fun c12 => ?_) (fun c12 => ?_)
        · have hw := ifn c12 hw
          refine lv_aload_n hx hb dX11_man_39 rfl (lv_at hl 0 rfl) ?_
          refine mg C hH 10 (by decide) rfl wd_1039 rfl dX11_man_40 ?_
          refine lv_bipush (v := 60) hx hb dX11_man_43 (by decide) ?_
          refine lv_icmp_ne (tgt := 51) hx hb dX11_man_45 (by decide) (fun c13 => ?_) (fun c13 => ?_)
          · have hw := ifn c13 hw
            refine lv_aload_n hx hb dX11_man_51 rfl (lv_at hl 0 rfl) ?_
            refine mg C hH 11 (by decide) rfl wd_1040 rfl dX11_man_52 ?_
            refine lv_aload_n hx hb dX11_man_55 rfl (lv_at hl 0 rfl) ?_
            refine mg C hH 10 (by decide) rfl wd_1039 rfl dX11_man_56 ?_
            refine lv_iload_n hx hb dX11_man_59 rfl (lv_at hl 1 rfl) ?_
            obtain ⟨h14, hw⟩ := hw
            refine msi C hH 7 11 rfl (mast_11 Z b σ10 _ _) h14 dX11_man_60 (fun H locs hH => ?_)
            have hw := hw _ rfl
            generalize up2 σ10 11 (σ10 10 0).toNatClampNeg a1 = σ15 at hw hH
            refine lv_aload_n hx hb dX11_man_61 rfl (lv_at hl 0 rfl) ?_
            refine mg C hH 12 (by decide) rfl wd_1041 rfl dX11_man_62 ?_
            refine lv_aload_n hx hb dX11_man_65 rfl (lv_at hl 0 rfl) ?_
            refine mg C hH 10 (by decide) rfl wd_1039 rfl dX11_man_66 ?_
            refine lv_iload_n hx hb dX11_man_69 rfl (lv_at hl 2 rfl) ?_
            obtain ⟨h16, hw⟩ := hw
            refine msi C hH 8 12 rfl (mast_12 Z b σ15 _ _) h16 dX11_man_70 (fun H locs hH => ?_)
            have hw := hw _ rfl
            generalize up2 σ15 12 (σ15 10 0).toNatClampNeg a2 = σ17 at hw hH
            refine lv_aload_n hx hb dX11_man_71 rfl (lv_at hl 0 rfl) ?_
            refine mg C hH 13 (by decide) rfl wd_1042 rfl dX11_man_72 ?_
            refine lv_aload_n hx hb dX11_man_75 rfl (lv_at hl 0 rfl) ?_
            refine mg C hH 10 (by decide) rfl wd_1039 rfl dX11_man_76 ?_
            refine lv_iload_n hx hb dX11_man_79 rfl (lv_at hl 3 rfl) ?_
            obtain ⟨h18, hw⟩ := hw
            refine msi C hH 9 13 rfl (mast_13 Z b σ17 _ _) h18 dX11_man_80 (fun H locs hH => ?_)
            have hw := hw _ rfl
            generalize up2 σ17 13 (σ17 10 0).toNatClampNeg a3 = σ19 at hw hH
            refine lv_aload_n hx hb dX11_man_81 rfl (lv_at hl 0 rfl) ?_
            refine mg C hH 18 (by decide) rfl wd_1047 rfl dX11_man_82 ?_
            refine lv_aload_n hx hb dX11_man_85 rfl (lv_at hl 0 rfl) ?_
            refine mg C hH 10 (by decide) rfl wd_1039 rfl dX11_man_86 ?_
            refine lv_iconst (v := -1) hx hb dX11_man_89 (by decide) ?_
            obtain ⟨h20, hw⟩ := hw
            refine msi C hH 14 18 rfl (mast_18 Z b σ19 _ _) h20 dX11_man_90 (fun H locs hH => ?_)
            have hw := hw _ rfl
            generalize up2 σ19 18 (σ19 10 0).toNatClampNeg (-1 : Int32) = σ21 at hw hH
            refine lv_aload_n hx hb dX11_man_91 rfl (lv_at hl 0 rfl) ?_
            refine lv_dup hx hb dX11_man_92 rfl ?_
            refine mg C hH 10 (by decide) rfl wd_1039 rfl dX11_man_93 ?_
            refine lv_iconst (v := 1) hx hb dX11_man_96 (by decide) ?_
            refine lv_iadd hx hb dX11_man_97 ?_
            refine mp C hH 10 (by decide) rfl wd_1039 (mset_10 Z b σ21 _) dX11_man_98 (fun H locs hH => ?_)
            have hw := hw _ rfl
            generalize up2 σ21 10 0 ((σ21 10 0) + (1 : Int32)) = σ22 at hw hH
            refine lv_aload_n hx hb dX11_man_101 rfl (lv_at hl 0 rfl) ?_
            refine mg C hH 10 (by decide) rfl wd_1039 rfl dX11_man_102 ?_
            refine lv_iconst (v := 1) hx hb dX11_man_105 (by decide) ?_
            refine lv_isub hx hb dX11_man_106 ?_
            exact mri C hr hk hH hw dX11_man_107
          · have hw := ifp c13 hw
            refine lv_bipush (v := -3) hx hb dX11_man_48 (by decide) ?_
            exact mri C hr hk hH hw dX11_man_50
        · have hw := ifp c12 hw
          refine lv_iconst (v := -1) hx hb dX11_man_37 (by decide) ?_
          exact mri C hr hk hH hw dX11_man_38
/-! placeIn -/
abbrev rm_M_placeIn : Room := { frames := 0, cells := 0, slots := 0, locals := 0 }
def wp_M_placeIn_9 (post : Int32 → MS → Prop) : Nat → MS → Int32 → Int32 → Int32 → Prop
  | 0 => fun _ _ _ _ => False
  | n + 1 => fun σ x1_ x2_ x3_ => vp_in x2_ 4 ∧ (if (σ 20 x2_.toNatClampNeg) ≤ x3_ then (post (-1 : Int32) σ) else (vp_in (((60 : Int32) * x2_) + x3_) 240 ∧ (if (σ 21 (((60 : Int32) * x2_) + x3_).toNatClampNeg) = x1_ then (post x3_ σ) else (∀ x5 : Int32, x5 = x3_ + (1 : Int32) → (wp_M_placeIn_9  post n σ x1_ x2_ x5)))))
set_option maxHeartbeats 4000000 in
set_option maxRecDepth 100000 in
theorem b_M_placeIn_9 {p : Program} {l : Launch} {e : Env} {s : State} {m : MethodId} {args : Array Value} {below : List Frame} {meth : Method} {c : Code} {D : va_G} {Z : Nat → ClassId} {b : Nat → Nat} (C : MC p s m args c cX11_placeIn 4 D Z) (hr : meth.sig.returnType = some .int) (hk : meth.locks = false) {post : Int32 → MS → Prop} : ∀ (n : Nat) (σ : MS) (x1_ : Int32) (x2_ : Int32) (x3_ : Int32), wp_M_placeIn_9  post n σ x1_ x2_ x3_ → ∀ (H : Heap) (locs : List Loc) (ls : Array Slot), MH D Z b s.heap σ H locs → lv_has ls 4 [(0, .ref (b 69)), (1, .int x1_), (2, .int x2_), (3, .int x3_)] → MWi p l e rm_M_placeIn s m args below meth c D Z b post H locs (F0 m 9 ls []) := by
  obtain ⟨⟨hx, hb, hml, hown, hts⟩, hK⟩ := id C
  intro n
  induction n with
  | zero => intro σ x1_ x2_ x3_ hw; exact hw.elim
  | succ n ih =>
    intro σ x1_ x2_ x3_ hw H locs ls hH hl
    unfold wp_M_placeIn_9 at hw
    refine lv_iload_n hx hb dX11_placeIn_9 rfl (lv_at hl 3 rfl) ?_
    refine lv_aload_n hx hb dX11_placeIn_10 rfl (lv_at hl 0 rfl) ?_
    refine mg C hH 20 (by decide) rfl wd_1049 rfl dX11_placeIn_11 ?_
    refine lv_iload_n hx hb dX11_placeIn_14 rfl (lv_at hl 2 rfl) ?_
    obtain ⟨h1, hw⟩ := hw
    refine mai C hH 16 20 rfl h1 dX11_placeIn_15 ?_
    refine lv_icmp_ge (tgt := 42) hx hb dX11_placeIn_16 (by decide) (fun c2 => ?_) (fun c2 => ?_)
    · have hw := ifp c2 hw
      refine lv_iconst (v := -1) hx hb dX11_placeIn_42 (by decide) ?_
      exact mri C hr hk hH hw dX11_placeIn_43
    · have hw := ifn c2 hw
      refine lv_aload_n hx hb dX11_placeIn_19 rfl (lv_at hl 0 rfl) ?_
      refine mg C hH 21 (by decide) rfl wd_1050 rfl dX11_placeIn_20 ?_
      refine lv_bipush (v := 60) hx hb dX11_placeIn_23 (by decide) ?_
      refine lv_iload_n hx hb dX11_placeIn_25 rfl (lv_at hl 2 rfl) ?_
      refine lv_imul hx hb dX11_placeIn_26 ?_
      refine lv_iload_n hx hb dX11_placeIn_27 rfl (lv_at hl 3 rfl) ?_
      refine lv_iadd hx hb dX11_placeIn_28 ?_
      obtain ⟨h3, hw⟩ := hw
      refine mai C hH 17 21 rfl h3 dX11_placeIn_29 ?_
      refine lv_iload_n hx hb dX11_placeIn_30 rfl (lv_at hl 1 rfl) ?_
      refine lv_icmp_ne (tgt := 36) hx hb dX11_placeIn_31 (by decide) (fun c4 => ?_) (fun c4 => ?_)
      · have hw := ifn c4 hw
        obtain ⟨x5, ex5⟩ : ∃ y : Int32, y = x3_ + (1 : Int32) := ⟨_, rfl⟩
        have hw := hw x5 ex5
        refine lv_iinc (v := x5) (lv' := [(3, .int x5), (0, .ref (b 69)), (1, .int x1_), (2, .int x2_)]) hx hb dX11_placeIn_36 hl (k := 3) rfl (by rw [ex5]; rfl) (by decide) rfl (fun ls hl => ?_)
        refine lv_goto (tgt := 9) hx hb dX11_placeIn_39 (by decide) ?_
        exact ih σ x1_ x2_ x5 hw _ _ _ hH (lv_sub hl [1, 2, 3, 0] rfl)
      · have hw := ifp c4 hw
        refine lv_iload_n hx hb dX11_placeIn_34 rfl (lv_at hl 3 rfl) ?_
        exact mri C hr hk hH hw dX11_placeIn_35
def wp_M_placeIn (σ : MS) (a1 : Int32) (post : Int32 → MS → Prop) : Prop := vp_in a1 60 ∧ (∀ x7 : Int32, x7 = (σ 11 a1.toNatClampNeg) → (∃ nn : Nat, wp_M_placeIn_9  post nn σ a1 x7 (0 : Int32)))
set_option maxHeartbeats 4000000 in
set_option maxRecDepth 100000 in
theorem c_M_placeIn (l : Launch) (D : va_G) (Z : Nat → ClassId) (b : Nat → Nat) (σ : MS) (a1 : Int32) (post : Int32 → MS → Prop) (hw : wp_M_placeIn σ a1 post) (sz : Nat) : Met l yX11_placeIn (Wd yX11_placeIn cX11_placeIn 4 (some .int)) rm_M_placeIn (va_Pc [.ref (b 69), .int a1] (mPre D Z b sz σ)) (va_Qi post (mPost D Z b) (mA b sz)) 0 0 (mA b sz) := by
  refine mMi (by decide) rfl _ (Nat.le_of_ble_eq_true rfl) (fun p e s m args below meth c C hr hk ls hl hH => ?_) sz
  obtain ⟨⟨hx, hb, hml, hown, hts⟩, hK⟩ := id C
  have hl : lv_has ls 4 [(0, .ref (b 69)), (1, .int a1)] := hl
  unfold wp_M_placeIn at hw
  refine lv_aload_n hx hb dX11_placeIn_0 rfl (lv_at hl 0 rfl) ?_
  refine mg C hH 11 (by decide) rfl wd_1040 rfl dX11_placeIn_1 ?_
  refine lv_iload_n hx hb dX11_placeIn_4 rfl (lv_at hl 1 rfl) ?_
  obtain ⟨h6, hw⟩ := hw
  refine mai C hH 7 11 rfl h6 dX11_placeIn_5 ?_
  refine lv_topi (fun x7 ex7 => ?_)
  have hw := hw x7 ex7
  refine lv_istore_n (lv' := [(2, .int x7), (0, .ref (b 69)), (1, .int a1)]) hx hb dX11_placeIn_6 rfl hl (by decide) rfl (fun ls hl => ?_)
  refine lv_iconst (v := 0) hx hb dX11_placeIn_7 (by decide) ?_
  refine lv_istore_n (lv' := [(3, .int (0 : Int32)), (2, .int x7), (0, .ref (b 69)), (1, .int a1)]) hx hb dX11_placeIn_8 rfl hl (by decide) rfl (fun ls hl => ?_)
  obtain ⟨nn, hw⟩ := hw
  exact b_M_placeIn_9 C hr hk  nn σ a1 x7 (0 : Int32) hw _ _ _ hH (lv_sub hl [2, 3, 1, 0] rfl)
/-! comesIn -/
abbrev rm_M_comesIn : Room := { frames := 0, cells := 0, slots := 0, locals := 0 }
def wp_M_comesIn (σ : MS) (a1 : Int32) (post : MS → Prop) : Prop := vp_in a1 60 ∧ (∀ x2 : Int32, x2 = (σ 11 a1.toNatClampNeg) → (vp_in x2 4 ∧ (vp_in (((60 : Int32) * x2) + (σ 20 x2.toNatClampNeg)) 240 ∧ (∀ σ5 : MS, σ5 = up2 σ 21 (((60 : Int32) * x2) + (σ 20 x2.toNatClampNeg)).toNatClampNeg a1 → (vp_in x2 4 ∧ (vp_in x2 4 ∧ (∀ σ8 : MS, σ8 = up2 σ5 20 x2.toNatClampNeg ((σ5 20 x2.toNatClampNeg) + (1 : Int32)) → (post σ8))))))))
set_option maxHeartbeats 4000000 in
set_option maxRecDepth 100000 in
theorem c_M_comesIn (l : Launch) (D : va_G) (Z : Nat → ClassId) (b : Nat → Nat) (σ : MS) (a1 : Int32) (post : MS → Prop) (hw : wp_M_comesIn σ a1 post) (sz : Nat) : Met l yX11_comesIn (Wd yX11_comesIn cX11_comesIn 3 (none)) rm_M_comesIn (va_Pc [.ref (b 69), .int a1] (mPre D Z b sz σ)) (va_Qv post (mPost D Z b) (mA b sz)) 0 0 (mA b sz) := by
  refine mMv (by decide) rfl _ (Nat.le_of_ble_eq_true rfl) (fun p e s m args below meth c C hr hk ls hl hH => ?_) sz
  obtain ⟨⟨hx, hb, hml, hown, hts⟩, hK⟩ := id C
  have hl : lv_has ls 3 [(0, .ref (b 69)), (1, .int a1)] := hl
  unfold wp_M_comesIn at hw
  refine lv_aload_n hx hb dX11_comesIn_0 rfl (lv_at hl 0 rfl) ?_
  refine mg C hH 11 (by decide) rfl wd_1040 rfl dX11_comesIn_1 ?_
  refine lv_iload_n hx hb dX11_comesIn_4 rfl (lv_at hl 1 rfl) ?_
  obtain ⟨h1, hw⟩ := hw
  refine mai C hH 7 11 rfl h1 dX11_comesIn_5 ?_
  refine lv_topi (fun x2 ex2 => ?_)
  have hw := hw x2 ex2
  refine lv_istore_n (lv' := [(2, .int x2), (0, .ref (b 69)), (1, .int a1)]) hx hb dX11_comesIn_6 rfl hl (by decide) rfl (fun ls hl => ?_)
  refine lv_aload_n hx hb dX11_comesIn_7 rfl (lv_at hl 1 rfl) ?_
  refine mg C hH 21 (by decide) rfl wd_1050 rfl dX11_comesIn_8 ?_
  refine lv_bipush (v := 60) hx hb dX11_comesIn_11 (by decide) ?_
  refine lv_iload_n hx hb dX11_comesIn_13 rfl (lv_at hl 0 rfl) ?_
  refine lv_imul hx hb dX11_comesIn_14 ?_
  refine lv_aload_n hx hb dX11_comesIn_15 rfl (lv_at hl 1 rfl) ?_
  refine mg C hH 20 (by decide) rfl wd_1049 rfl dX11_comesIn_16 ?_
  refine lv_iload_n hx hb dX11_comesIn_19 rfl (lv_at hl 0 rfl) ?_
  obtain ⟨h3, hw⟩ := hw
  refine mai C hH 16 20 rfl h3 dX11_comesIn_20 ?_
  refine lv_iadd hx hb dX11_comesIn_21 ?_
  refine lv_iload_n hx hb dX11_comesIn_22 rfl (lv_at hl 2 rfl) ?_
  obtain ⟨h4, hw⟩ := hw
  refine msi C hH 17 21 rfl (mast_21 Z b σ _ _) h4 dX11_comesIn_23 (fun H locs hH => ?_)
  have hw := hw _ rfl
  generalize up2 σ 21 (((60 : Int32) * x2) + (σ 20 x2.toNatClampNeg)).toNatClampNeg a1 = σ5 at hw hH
  refine lv_aload_n hx hb dX11_comesIn_24 rfl (lv_at hl 1 rfl) ?_
  refine mg C hH 20 (by decide) rfl wd_1049 rfl dX11_comesIn_25 ?_
  refine lv_iload_n hx hb dX11_comesIn_28 rfl (lv_at hl 0 rfl) ?_
  refine lv_dup2_11 hx hb dX11_comesIn_29 rfl rfl ?_
  obtain ⟨h6, hw⟩ := hw
  refine mai C hH 16 20 rfl h6 dX11_comesIn_30 ?_
  refine lv_iconst (v := 1) hx hb dX11_comesIn_31 (by decide) ?_
  refine lv_iadd hx hb dX11_comesIn_32 ?_
  obtain ⟨h7, hw⟩ := hw
  refine msi C hH 16 20 rfl (mast_20 Z b σ5 _ _) h7 dX11_comesIn_33 (fun H locs hH => ?_)
  have hw := hw _ rfl
  generalize up2 σ5 20 x2.toNatClampNeg ((σ5 20 x2.toNatClampNeg) + (1 : Int32)) = σ8 at hw hH
  exact mrv C hr hk hH hw dX11_comesIn_34
/-! goesOut -/
abbrev rm_M_goesOut : Room := { frames := 1, cells := 0, slots := 0, locals := 23 }
def wp_M_goesOut_31 (post : MS → Prop) : Nat → MS → Int32 → Int32 → Prop
  | 0 => fun _ _ _ => False
  | n + 1 => fun σ x2_ x4_ => vp_in x2_ 4 ∧ (if (σ 20 x2_.toNatClampNeg) ≤ x4_ then (post σ) else (vp_in ((((60 : Int32) * x2_) + x4_) + (1 : Int32)) 240 ∧ (vp_in (((60 : Int32) * x2_) + x4_) 240 ∧ (∀ σ5 : MS, σ5 = up2 σ 21 (((60 : Int32) * x2_) + x4_).toNatClampNeg (σ 21 ((((60 : Int32) * x2_) + x4_) + (1 : Int32)).toNatClampNeg) → (∀ x6 : Int32, x6 = x4_ + (1 : Int32) → (wp_M_goesOut_31  post n σ5 x2_ x6))))))
set_option maxHeartbeats 4000000 in
set_option maxRecDepth 100000 in
theorem b_M_goesOut_31 {p : Program} {l : Launch} {e : Env} {s : State} {m : MethodId} {args : Array Value} {below : List Frame} {meth : Method} {c : Code} {D : va_G} {Z : Nat → ClassId} {b : Nat → Nat} (C : MC p s m args c cX11_goesOut 5 D Z) (hr : meth.sig.returnType = none) (hk : meth.locks = false) {post : MS → Prop} : ∀ (n : Nat) (σ : MS) (x2_ : Int32) (x4_ : Int32), wp_M_goesOut_31  post n σ x2_ x4_ → ∀ (H : Heap) (locs : List Loc) (ls : Array Slot), MH D Z b s.heap σ H locs → lv_has ls 5 [(0, .ref (b 69)), (2, .int x2_), (4, .int x4_)] → MWv p l e rm_M_goesOut s m args below meth c D Z b post H locs (F0 m 31 ls []) := by
  obtain ⟨⟨hx, hb, hml, hown, hts⟩, hK⟩ := id C
  intro n
  induction n with
  | zero => intro σ x2_ x4_ hw; exact hw.elim
  | succ n ih =>
    intro σ x2_ x4_ hw H locs ls hH hl
    unfold wp_M_goesOut_31 at hw
    refine lv_iload hx hb dX11_goesOut_31 (lv_at hl 2 rfl) ?_
    refine lv_aload_n hx hb dX11_goesOut_33 rfl (lv_at hl 0 rfl) ?_
    refine mg C hH 20 (by decide) rfl wd_1049 rfl dX11_goesOut_34 ?_
    refine lv_iload_n hx hb dX11_goesOut_37 rfl (lv_at hl 1 rfl) ?_
    obtain ⟨h1, hw⟩ := hw
    refine mai C hH 16 20 rfl h1 dX11_goesOut_38 ?_
    refine lv_icmp_ge (tgt := 74) hx hb dX11_goesOut_39 (by decide) (fun c2 => ?_) (fun c2 => ?_)
    · have hw := ifp c2 hw
      exact mrv C hr hk hH hw dX11_goesOut_74
    · have hw := ifn c2 hw
      refine lv_aload_n hx hb dX11_goesOut_42 rfl (lv_at hl 0 rfl) ?_
      refine mg C hH 21 (by decide) rfl wd_1050 rfl dX11_goesOut_43 ?_
      refine lv_bipush (v := 60) hx hb dX11_goesOut_46 (by decide) ?_
      refine lv_iload_n hx hb dX11_goesOut_48 rfl (lv_at hl 1 rfl) ?_
      refine lv_imul hx hb dX11_goesOut_49 ?_
      refine lv_iload hx hb dX11_goesOut_50 (lv_at hl 2 rfl) ?_
      refine lv_iadd hx hb dX11_goesOut_52 ?_
      refine lv_aload_n hx hb dX11_goesOut_53 rfl (lv_at hl 0 rfl) ?_
      refine mg C hH 21 (by decide) rfl wd_1050 rfl dX11_goesOut_54 ?_
      refine lv_bipush (v := 60) hx hb dX11_goesOut_57 (by decide) ?_
      refine lv_iload_n hx hb dX11_goesOut_59 rfl (lv_at hl 1 rfl) ?_
      refine lv_imul hx hb dX11_goesOut_60 ?_
      refine lv_iload hx hb dX11_goesOut_61 (lv_at hl 2 rfl) ?_
      refine lv_iadd hx hb dX11_goesOut_63 ?_
      refine lv_iconst (v := 1) hx hb dX11_goesOut_64 (by decide) ?_
      refine lv_iadd hx hb dX11_goesOut_65 ?_
      obtain ⟨h3, hw⟩ := hw
      refine mai C hH 17 21 rfl h3 dX11_goesOut_66 ?_
      obtain ⟨h4, hw⟩ := hw
      refine msi C hH 17 21 rfl (mast_21 Z b σ _ _) h4 dX11_goesOut_67 (fun H locs hH => ?_)
      have hw := hw _ rfl
      generalize up2 σ 21 (((60 : Int32) * x2_) + x4_).toNatClampNeg (σ 21 ((((60 : Int32) * x2_) + x4_) + (1 : Int32)).toNatClampNeg) = σ5 at hw hH
      obtain ⟨x6, ex6⟩ : ∃ y : Int32, y = x4_ + (1 : Int32) := ⟨_, rfl⟩
      have hw := hw x6 ex6
      refine lv_iinc (v := x6) (lv' := [(4, .int x6), (0, .ref (b 69)), (2, .int x2_)]) hx hb dX11_goesOut_68 hl (k := 2) rfl (by rw [ex6]; rfl) (by decide) rfl (fun ls hl => ?_)
      refine lv_goto (tgt := 31) hx hb dX11_goesOut_71 (by decide) ?_
      exact ih σ5 x2_ x6 hw _ _ _ hH (lv_sub hl [1, 2, 0] rfl)
def wp_M_goesOut (σ : MS) (a1 : Int32) (post : MS → Prop) : Prop := vp_in a1 60 ∧ (∀ x8 : Int32, x8 = (σ 11 a1.toNatClampNeg) → (wp_M_placeIn σ a1 (fun r10 σ9 => if 0 ≤ r10 then (vp_in x8 4 ∧ (vp_in x8 4 ∧ (∀ σ14 : MS, σ14 = up2 σ9 20 x8.toNatClampNeg ((σ9 20 x8.toNatClampNeg) - (1 : Int32)) → (∃ nn : Nat, wp_M_goesOut_31  post nn σ14 x8 r10)))) else (post σ9))))
set_option maxHeartbeats 4000000 in
set_option maxRecDepth 100000 in
theorem c_M_goesOut (l : Launch) (D : va_G) (Z : Nat → ClassId) (b : Nat → Nat) (σ : MS) (a1 : Int32) (post : MS → Prop) (hw : wp_M_goesOut σ a1 post) (sz : Nat) : Met l yX11_goesOut (Wd yX11_goesOut cX11_goesOut 5 (none)) rm_M_goesOut (va_Pc [.ref (b 69), .int a1] (mPre D Z b sz σ)) (va_Qv post (mPost D Z b) (mA b sz)) 0 0 (mA b sz) := by
  refine mMv (by decide) rfl _ (Nat.le_of_ble_eq_true rfl) (fun p e s m args below meth c C hr hk ls hl hH => ?_) sz
  obtain ⟨⟨hx, hb, hml, hown, hts⟩, hK⟩ := id C
  have hl : lv_has ls 5 [(0, .ref (b 69)), (1, .int a1)] := hl
  unfold wp_M_goesOut at hw
  refine lv_aload_n hx hb dX11_goesOut_0 rfl (lv_at hl 0 rfl) ?_
  refine mg C hH 11 (by decide) rfl wd_1040 rfl dX11_goesOut_1 ?_
  refine lv_iload_n hx hb dX11_goesOut_4 rfl (lv_at hl 1 rfl) ?_
  obtain ⟨h7, hw⟩ := hw
  refine mai C hH 7 11 rfl h7 dX11_goesOut_5 ?_
  refine lv_topi (fun x8 ex8 => ?_)
  have hw := hw x8 ex8
  refine lv_istore_n (lv' := [(2, .int x8), (0, .ref (b 69)), (1, .int a1)]) hx hb dX11_goesOut_6 rfl hl (by decide) rfl (fun ls hl => ?_)
  refine lv_aload_n hx hb dX11_goesOut_7 rfl (lv_at hl 1 rfl) ?_
  refine lv_iload_n hx hb dX11_goesOut_8 rfl (lv_at hl 2 rfl) ?_
  refine mcVi C hH [.int a1] (fun sz => c_M_placeIn l D Z b σ a1 _ hw sz) (cwTV 1 hts wd_1294 wd_1296 ws_52 wd_14 wd_1297 rfl rfl (by decide +kernel) ⟨Nat.le_of_ble_eq_true rfl, Nat.le_of_ble_eq_true rfl⟩) rfl hl.1 rfl (Nat.le_of_ble_eq_true rfl) dX11_goesOut_9 ⟨Nat.zero_le _, Nat.zero_le _⟩ (fun r10 σ9 H locs hw hH => ?_)
  refine lv_istore_n (lv' := [(3, .int r10), (2, .int x8), (0, .ref (b 69)), (1, .int a1)]) hx hb dX11_goesOut_12 rfl hl (by decide) rfl (fun ls hl => ?_)
  refine lv_iload_n hx hb dX11_goesOut_13 rfl (lv_at hl 0 rfl) ?_
  refine lv_if_ge (tgt := 18) hx hb dX11_goesOut_14 (by decide) (fun c11 => ?_) (fun c11 => ?_)
  · have hw := ifp c11 hw
    refine lv_aload_n hx hb dX11_goesOut_18 rfl (lv_at hl 2 rfl) ?_
    refine mg C hH 20 (by decide) rfl wd_1049 rfl dX11_goesOut_19 ?_
    refine lv_iload_n hx hb dX11_goesOut_22 rfl (lv_at hl 1 rfl) ?_
    refine lv_dup2_11 hx hb dX11_goesOut_23 rfl rfl ?_
    obtain ⟨h12, hw⟩ := hw
    refine mai C hH 16 20 rfl h12 dX11_goesOut_24 ?_
    refine lv_iconst (v := 1) hx hb dX11_goesOut_25 (by decide) ?_
    refine lv_isub hx hb dX11_goesOut_26 ?_
    obtain ⟨h13, hw⟩ := hw
    refine msi C hH 16 20 rfl (mast_20 Z b σ9 _ _) h13 dX11_goesOut_27 (fun H locs hH => ?_)
    have hw := hw _ rfl
    generalize up2 σ9 20 x8.toNatClampNeg ((σ9 20 x8.toNatClampNeg) - (1 : Int32)) = σ14 at hw hH
    refine lv_iload_n hx hb dX11_goesOut_28 rfl (lv_at hl 0 rfl) ?_
    refine lv_istore (lv' := [(4, .int r10), (3, .int r10), (2, .int x8), (0, .ref (b 69)), (1, .int a1)]) hx hb dX11_goesOut_29 hl (by decide) rfl (fun ls hl => ?_)
    obtain ⟨nn, hw⟩ := hw
    exact b_M_goesOut_31 C hr hk  nn σ14 x8 r10 hw _ _ _ hH (lv_sub hl [3, 2, 0] rfl)
  · have hw := ifn c11 hw
    exact mrv C hr hk hH hw dX11_goesOut_17
/-! join -/
abbrev rm_M_join : Room := { frames := 2, cells := 0, slots := 0, locals := 43 }
def wp_M_join (σ : MS) (a1 : Int32) (post : Int32 → MS → Prop) : Prop := wp_M_isMan σ a1 (fun r2 σ1 => if r2 = 0 then (post (-1 : Int32) σ1) else (wp_M_placeIn σ1 a1 (fun r5 σ4 => if 0 ≤ r5 then (post (-2 : Int32) σ4) else (vp_in a1 60 ∧ (if (σ4 1 0) < (σ4 16 a1.toNatClampNeg) then (post (-2 : Int32) σ4) else (vp_in a1 60 ∧ (if (σ4 19 a1.toNatClampNeg) = 0 then (wp_M_comesIn σ4 a1 (fun σ11 => vp_in a1 60 ∧ (vp_in (σ11 11 a1.toNatClampNeg) 4 ∧ (post (σ11 20 (σ11 11 a1.toNatClampNeg).toNatClampNeg) σ11)))) else (post (-2 : Int32) σ4))))))))
set_option maxHeartbeats 4000000 in
set_option maxRecDepth 100000 in
theorem c_M_join (l : Launch) (D : va_G) (Z : Nat → ClassId) (b : Nat → Nat) (σ : MS) (a1 : Int32) (post : Int32 → MS → Prop) (hw : wp_M_join σ a1 post) (sz : Nat) : Met l yX11_join (Wd yX11_join cX11_join 2 (some .int)) rm_M_join (va_Pc [.ref (b 69), .int a1] (mPre D Z b sz σ)) (va_Qi post (mPost D Z b) (mA b sz)) 0 0 (mA b sz) := by
  refine mMi (by decide) rfl _ (Nat.le_of_ble_eq_true rfl) (fun p e s m args below meth c C hr hk ls hl hH => ?_) sz
  obtain ⟨⟨hx, hb, hml, hown, hts⟩, hK⟩ := id C
  have hl : lv_has ls 2 [(0, .ref (b 69)), (1, .int a1)] := hl
  unfold wp_M_join at hw
  refine lv_aload_n hx hb dX11_join_0 rfl (lv_at hl 0 rfl) ?_
  refine lv_iload_n hx hb dX11_join_1 rfl (lv_at hl 1 rfl) ?_
  refine mcVi C hH [.int a1] (fun sz => c_M_isMan l D Z b σ a1 _ hw sz) (cwTV 1 hts wd_1290 wd_1292 ws_51 wd_14 wd_1293 rfl rfl (by decide +kernel) ⟨Nat.le_of_ble_eq_true rfl, Nat.le_of_ble_eq_true rfl⟩) rfl hl.1 rfl (Nat.le_of_ble_eq_true rfl) dX11_join_2 ⟨Nat.zero_le _, Nat.zero_le _⟩ (fun r2 σ1 H locs hw hH => ?_)
  refine lv_if_ne (tgt := 10) hx hb dX11_join_5 (by decide) (fun c3 => ?_) (fun c3 => ?_)
  · have hw := ifn c3 hw
    refine lv_aload_n hx hb dX11_join_10 rfl (lv_at hl 0 rfl) ?_
    refine lv_iload_n hx hb dX11_join_11 rfl (lv_at hl 1 rfl) ?_
    refine mcVi C hH [.int a1] (fun sz => c_M_placeIn l D Z b σ1 a1 _ hw sz) (cwTV 1 hts wd_1294 wd_1296 ws_52 wd_14 wd_1297 rfl rfl (by decide +kernel) ⟨Nat.le_of_ble_eq_true rfl, Nat.le_of_ble_eq_true rfl⟩) rfl hl.1 rfl (Nat.le_of_ble_eq_true rfl) dX11_join_12 ⟨Nat.zero_le _, Nat.zero_le _⟩ (fun r5 σ4 H locs hw hH => ?_)
    refine lv_if_ge (tgt := 40) hx hb dX11_join_15 (by decide) (fun c6 => ?_) (fun c6 => ?_)
    · have hw := ifp c6 hw
      refine lv_bipush (v := -2) hx hb dX11_join_40 (by decide) ?_
      exact mri C hr hk hH hw dX11_join_42
    · have hw := ifn c6 hw
      refine lv_aload_n hx hb dX11_join_18 rfl (lv_at hl 0 rfl) ?_
      refine mg C hH 16 (by decide) rfl wd_1045 rfl dX11_join_19 ?_
      refine lv_iload_n hx hb dX11_join_22 rfl (lv_at hl 1 rfl) ?_
      obtain ⟨h7, hw⟩ := hw
      refine mai C hH 12 16 rfl h7 dX11_join_23 ?_
      refine lv_aload_n hx hb dX11_join_24 rfl (lv_at hl 0 rfl) ?_
      refine mg C hH 1 (by decide) rfl wd_1030 rfl dX11_join_25 ?_
      refine lv_icmp_gt (tgt := 40) hx hb dX11_join_28 (by decide) (fun c8 => ?_) (fun c8 => ?_)
      · have hw := ifp c8 hw
        refine lv_bipush (v := -2) hx hb dX11_join_40 (by decide) ?_
        exact mri C hr hk hH hw dX11_join_42
      · have hw := ifn c8 hw
        refine lv_aload_n hx hb dX11_join_31 rfl (lv_at hl 0 rfl) ?_
        refine mg C hH 19 (by decide) rfl wd_1048 rfl dX11_join_32 ?_
        refine lv_iload_n hx hb dX11_join_35 rfl (lv_at hl 1 rfl) ?_
        obtain ⟨h9, hw⟩ := hw
        refine maz C hH 15 19 rfl h9 dX11_join_36 ?_
        refine lv_if_eq (tgt := 43) hx hb dX11_join_37 (by decide) (fun c10 => ?_) (fun c10 => ?_)
        · have hw := ifp c10 hw
          refine lv_aload_n hx hb dX11_join_43 rfl (lv_at hl 0 rfl) ?_
          refine lv_iload_n hx hb dX11_join_44 rfl (lv_at hl 1 rfl) ?_
          refine mcVv C hH [.int a1] (fun sz => c_M_comesIn l D Z b σ4 a1 _ hw sz) (cwTV 1 hts wd_1298 wd_1300 ws_53 wd_14 wd_1301 rfl rfl (by decide +kernel) ⟨Nat.le_of_ble_eq_true rfl, Nat.le_of_ble_eq_true rfl⟩) rfl hl.1 rfl (Nat.le_of_ble_eq_true rfl) dX11_join_45 ⟨Nat.zero_le _, Nat.zero_le _⟩ (fun  σ11 H locs hw hH => ?_)
          refine lv_aload_n hx hb dX11_join_48 rfl (lv_at hl 0 rfl) ?_
          refine mg C hH 20 (by decide) rfl wd_1049 rfl dX11_join_49 ?_
          refine lv_aload_n hx hb dX11_join_52 rfl (lv_at hl 0 rfl) ?_
          refine mg C hH 11 (by decide) rfl wd_1040 rfl dX11_join_53 ?_
          refine lv_iload_n hx hb dX11_join_56 rfl (lv_at hl 1 rfl) ?_
          obtain ⟨h12, hw⟩ := hw
          refine mai C hH 7 11 rfl h12 dX11_join_57 ?_
          obtain ⟨h13, hw⟩ := hw
          refine mai C hH 16 20 rfl h13 dX11_join_58 ?_
          exact mri C hr hk hH hw dX11_join_59
        · have hw := ifn c10 hw
          refine lv_bipush (v := -2) hx hb dX11_join_40 (by decide) ?_
          exact mri C hr hk hH hw dX11_join_42
  · have hw := ifp c3 hw
    refine lv_iconst (v := -1) hx hb dX11_join_8 (by decide) ?_
    exact mri C hr hk hH hw dX11_join_9
/-! leave -/
abbrev rm_M_leave : Room := { frames := 2, cells := 0, slots := 0, locals := 47 }
def wp_M_leave (σ : MS) (a1 : Int32) (post : Int32 → MS → Prop) : Prop := wp_M_isMan σ a1 (fun r2 σ1 => if r2 = 0 then (post (-1 : Int32) σ1) else (wp_M_placeIn σ1 a1 (fun r5 σ4 => if 0 ≤ r5 then (wp_M_goesOut σ4 a1 (fun σ7 => post (1 : Int32) σ7)) else (post (-2 : Int32) σ4))))
set_option maxHeartbeats 4000000 in
set_option maxRecDepth 100000 in
theorem c_M_leave (l : Launch) (D : va_G) (Z : Nat → ClassId) (b : Nat → Nat) (σ : MS) (a1 : Int32) (post : Int32 → MS → Prop) (hw : wp_M_leave σ a1 post) (sz : Nat) : Met l yX11_leave (Wd yX11_leave cX11_leave 2 (some .int)) rm_M_leave (va_Pc [.ref (b 69), .int a1] (mPre D Z b sz σ)) (va_Qi post (mPost D Z b) (mA b sz)) 0 0 (mA b sz) := by
  refine mMi (by decide) rfl _ (Nat.le_of_ble_eq_true rfl) (fun p e s m args below meth c C hr hk ls hl hH => ?_) sz
  obtain ⟨⟨hx, hb, hml, hown, hts⟩, hK⟩ := id C
  have hl : lv_has ls 2 [(0, .ref (b 69)), (1, .int a1)] := hl
  unfold wp_M_leave at hw
  refine lv_aload_n hx hb dX11_leave_0 rfl (lv_at hl 0 rfl) ?_
  refine lv_iload_n hx hb dX11_leave_1 rfl (lv_at hl 1 rfl) ?_
  refine mcVi C hH [.int a1] (fun sz => c_M_isMan l D Z b σ a1 _ hw sz) (cwTV 1 hts wd_1290 wd_1292 ws_51 wd_14 wd_1293 rfl rfl (by decide +kernel) ⟨Nat.le_of_ble_eq_true rfl, Nat.le_of_ble_eq_true rfl⟩) rfl hl.1 rfl (Nat.le_of_ble_eq_true rfl) dX11_leave_2 ⟨Nat.zero_le _, Nat.zero_le _⟩ (fun r2 σ1 H locs hw hH => ?_)
  refine lv_if_ne (tgt := 10) hx hb dX11_leave_5 (by decide) (fun c3 => ?_) (fun c3 => ?_)
  · have hw := ifn c3 hw
    refine lv_aload_n hx hb dX11_leave_10 rfl (lv_at hl 0 rfl) ?_
    refine lv_iload_n hx hb dX11_leave_11 rfl (lv_at hl 1 rfl) ?_
    refine mcVi C hH [.int a1] (fun sz => c_M_placeIn l D Z b σ1 a1 _ hw sz) (cwTV 1 hts wd_1294 wd_1296 ws_52 wd_14 wd_1297 rfl rfl (by decide +kernel) ⟨Nat.le_of_ble_eq_true rfl, Nat.le_of_ble_eq_true rfl⟩) rfl hl.1 rfl (Nat.le_of_ble_eq_true rfl) dX11_leave_12 ⟨Nat.zero_le _, Nat.zero_le _⟩ (fun r5 σ4 H locs hw hH => ?_)
    refine lv_if_ge (tgt := 21) hx hb dX11_leave_15 (by decide) (fun c6 => ?_) (fun c6 => ?_)
    · have hw := ifp c6 hw
      refine lv_aload_n hx hb dX11_leave_21 rfl (lv_at hl 0 rfl) ?_
      refine lv_iload_n hx hb dX11_leave_22 rfl (lv_at hl 1 rfl) ?_
      refine mcVv C hH [.int a1] (fun sz => c_M_goesOut l D Z b σ4 a1 _ hw sz) (cwTV 1 hts wd_1306 wd_1308 ws_54 wd_14 wd_1309 rfl rfl (by decide +kernel) ⟨Nat.le_of_ble_eq_true rfl, Nat.le_of_ble_eq_true rfl⟩) rfl hl.1 rfl (Nat.le_of_ble_eq_true rfl) dX11_leave_23 ⟨Nat.zero_le _, Nat.zero_le _⟩ (fun  σ7 H locs hw hH => ?_)
      refine lv_iconst (v := 1) hx hb dX11_leave_26 (by decide) ?_
      exact mri C hr hk hH hw dX11_leave_27
    · have hw := ifn c6 hw
      refine lv_bipush (v := -2) hx hb dX11_leave_18 (by decide) ?_
      exact mri C hr hk hH hw dX11_leave_20
  · have hw := ifp c3 hw
    refine lv_iconst (v := -1) hx hb dX11_leave_8 (by decide) ?_
    exact mri C hr hk hH hw dX11_leave_9
/-! gone -/
abbrev rm_M_gone : Room := { frames := 2, cells := 0, slots := 0, locals := 47 }
def wp_M_gone (σ : MS) (a1 : Int32) (post : Int32 → MS → Prop) : Prop := wp_M_isMan σ a1 (fun r2 σ1 => if r2 = 0 then (post (-1 : Int32) σ1) else (vp_in a1 60 ∧ (if (σ1 19 a1.toNatClampNeg) = 0 then (vp_in a1 60 ∧ (if (σ1 16 a1.toNatClampNeg) ≤ (σ1 1 0) then (vp_in a1 60 ∧ (∀ σ9 : MS, σ9 = up2 σ1 19 a1.toNatClampNeg (vp_nar .boolean (1 : Int32)) → (wp_M_goesOut σ9 a1 (fun σ10 => post (1 : Int32) σ10)))) else (post (-2 : Int32) σ1))) else (post (-2 : Int32) σ1))))
set_option maxHeartbeats 4000000 in
set_option maxRecDepth 100000 in
theorem c_M_gone (l : Launch) (D : va_G) (Z : Nat → ClassId) (b : Nat → Nat) (σ : MS) (a1 : Int32) (post : Int32 → MS → Prop) (hw : wp_M_gone σ a1 post) (sz : Nat) : Met l yX11_gone (Wd yX11_gone cX11_gone 2 (some .int)) rm_M_gone (va_Pc [.ref (b 69), .int a1] (mPre D Z b sz σ)) (va_Qi post (mPost D Z b) (mA b sz)) 0 0 (mA b sz) := by
  refine mMi (by decide) rfl _ (Nat.le_of_ble_eq_true rfl) (fun p e s m args below meth c C hr hk ls hl hH => ?_) sz
  obtain ⟨⟨hx, hb, hml, hown, hts⟩, hK⟩ := id C
  have hl : lv_has ls 2 [(0, .ref (b 69)), (1, .int a1)] := hl
  unfold wp_M_gone at hw
  refine lv_aload_n hx hb dX11_gone_0 rfl (lv_at hl 0 rfl) ?_
  refine lv_iload_n hx hb dX11_gone_1 rfl (lv_at hl 1 rfl) ?_
  refine mcVi C hH [.int a1] (fun sz => c_M_isMan l D Z b σ a1 _ hw sz) (cwTV 1 hts wd_1290 wd_1292 ws_51 wd_14 wd_1293 rfl rfl (by decide +kernel) ⟨Nat.le_of_ble_eq_true rfl, Nat.le_of_ble_eq_true rfl⟩) rfl hl.1 rfl (Nat.le_of_ble_eq_true rfl) dX11_gone_2 ⟨Nat.zero_le _, Nat.zero_le _⟩ (fun r2 σ1 H locs hw hH => ?_)
  refine lv_if_ne (tgt := 10) hx hb dX11_gone_5 (by decide) (fun c3 => ?_) (fun c3 => ?_)
  · have hw := ifn c3 hw
    refine lv_aload_n hx hb dX11_gone_10 rfl (lv_at hl 0 rfl) ?_
    refine mg C hH 19 (by decide) rfl wd_1048 rfl dX11_gone_11 ?_
    refine lv_iload_n hx hb dX11_gone_14 rfl (lv_at hl 1 rfl) ?_
    obtain ⟨h4, hw⟩ := hw
    refine maz C hH 15 19 rfl h4 dX11_gone_15 ?_
    refine lv_if_ne (tgt := 32) hx hb dX11_gone_16 (by decide) (fun c5 => ?_) (fun c5 => ?_)
    · have hw := ifn c5 hw
      refine lv_bipush (v := -2) hx hb dX11_gone_32 (by decide) ?_
      exact mri C hr hk hH hw dX11_gone_34
    · have hw := ifp c5 hw
      refine lv_aload_n hx hb dX11_gone_19 rfl (lv_at hl 0 rfl) ?_
      refine mg C hH 16 (by decide) rfl wd_1045 rfl dX11_gone_20 ?_
      refine lv_iload_n hx hb dX11_gone_23 rfl (lv_at hl 1 rfl) ?_
      obtain ⟨h6, hw⟩ := hw
      refine mai C hH 12 16 rfl h6 dX11_gone_24 ?_
      refine lv_aload_n hx hb dX11_gone_25 rfl (lv_at hl 0 rfl) ?_
      refine mg C hH 1 (by decide) rfl wd_1030 rfl dX11_gone_26 ?_
      refine lv_icmp_le (tgt := 35) hx hb dX11_gone_29 (by decide) (fun c7 => ?_) (fun c7 => ?_)
      · have hw := ifp c7 hw
        refine lv_aload_n hx hb dX11_gone_35 rfl (lv_at hl 0 rfl) ?_
        refine mg C hH 19 (by decide) rfl wd_1048 rfl dX11_gone_36 ?_
        refine lv_iload_n hx hb dX11_gone_39 rfl (lv_at hl 1 rfl) ?_
        refine lv_iconst (v := 1) hx hb dX11_gone_40 (by decide) ?_
        obtain ⟨h8, hw⟩ := hw
        refine msz C hH 15 19 rfl (mast_19 Z b σ1 _ _) h8 dX11_gone_41 (fun H locs hH => ?_)
        have hw := hw _ rfl
        generalize up2 σ1 19 a1.toNatClampNeg (vp_nar .boolean (1 : Int32)) = σ9 at hw hH
        refine lv_aload_n hx hb dX11_gone_42 rfl (lv_at hl 0 rfl) ?_
        refine lv_iload_n hx hb dX11_gone_43 rfl (lv_at hl 1 rfl) ?_
        refine mcVv C hH [.int a1] (fun sz => c_M_goesOut l D Z b σ9 a1 _ hw sz) (cwTV 1 hts wd_1306 wd_1308 ws_54 wd_14 wd_1309 rfl rfl (by decide +kernel) ⟨Nat.le_of_ble_eq_true rfl, Nat.le_of_ble_eq_true rfl⟩) rfl hl.1 rfl (Nat.le_of_ble_eq_true rfl) dX11_gone_44 ⟨Nat.zero_le _, Nat.zero_le _⟩ (fun  σ10 H locs hw hH => ?_)
        refine lv_iconst (v := 1) hx hb dX11_gone_47 (by decide) ?_
        exact mri C hr hk hH hw dX11_gone_48
      · have hw := ifn c7 hw
        refine lv_bipush (v := -2) hx hb dX11_gone_32 (by decide) ?_
        exact mri C hr hk hH hw dX11_gone_34
  · have hw := ifp c3 hw
    refine lv_iconst (v := -1) hx hb dX11_gone_8 (by decide) ?_
    exact mri C hr hk hH hw dX11_gone_9
/-! about -/
abbrev rm_M_about : Room := { frames := 2, cells := 0, slots := 0, locals := 43 }
def wp_M_about (σ : MS) (a1 : Int32) (a2 : Int32) (post : Int32 → MS → Prop) : Prop := wp_M_isMan σ a1 (fun r2 σ1 => if r2 = 0 then (post (-2 : Int32) σ1) else (if a2 = (0 : Int32) then (vp_in a1 60 ∧ (post (σ1 11 a1.toNatClampNeg) σ1)) else (if a2 = (1 : Int32) then (vp_in a1 60 ∧ (post (σ1 12 a1.toNatClampNeg) σ1)) else (if a2 = (2 : Int32) then (vp_in a1 60 ∧ (post (σ1 13 a1.toNatClampNeg) σ1)) else (if a2 = (3 : Int32) then (vp_in a1 60 ∧ (post (σ1 14 a1.toNatClampNeg) σ1)) else (if a2 = (4 : Int32) then (vp_in a1 60 ∧ (post (σ1 15 a1.toNatClampNeg) σ1)) else (if a2 = (5 : Int32) then (vp_in a1 60 ∧ (post (σ1 16 a1.toNatClampNeg) σ1)) else (if a2 = (6 : Int32) then (vp_in a1 60 ∧ (post (σ1 17 a1.toNatClampNeg) σ1)) else (if a2 = (7 : Int32) then (wp_M_placeIn σ1 a1 (fun r20 σ19 => post r20 σ19)) else (if a2 = (8 : Int32) then (vp_in a1 60 ∧ (if (σ1 19 a1.toNatClampNeg) = 0 then (post (0 : Int32) σ1) else (post (1 : Int32) σ1))) else (if a2 = (9 : Int32) then (vp_in a1 60 ∧ (post (σ1 18 a1.toNatClampNeg) σ1)) else (post (-2 : Int32) σ1))))))))))))
set_option maxHeartbeats 4000000 in
set_option maxRecDepth 100000 in
theorem c_M_about (l : Launch) (D : va_G) (Z : Nat → ClassId) (b : Nat → Nat) (σ : MS) (a1 : Int32) (a2 : Int32) (post : Int32 → MS → Prop) (hw : wp_M_about σ a1 a2 post) (sz : Nat) : Met l yX11_about (Wd yX11_about cX11_about 3 (some .int)) rm_M_about (va_Pc [.ref (b 69), .int a1, .int a2] (mPre D Z b sz σ)) (va_Qi post (mPost D Z b) (mA b sz)) 0 0 (mA b sz) := by
  refine mMi (by decide) rfl _ (Nat.le_of_ble_eq_true rfl) (fun p e s m args below meth c C hr hk ls hl hH => ?_) sz
  obtain ⟨⟨hx, hb, hml, hown, hts⟩, hK⟩ := id C
  have hl : lv_has ls 3 [(0, .ref (b 69)), (1, .int a1), (2, .int a2)] := hl
  unfold wp_M_about at hw
  refine lv_aload_n hx hb dX11_about_0 rfl (lv_at hl 0 rfl) ?_
  refine lv_iload_n hx hb dX11_about_1 rfl (lv_at hl 1 rfl) ?_
  refine mcVi C hH [.int a1] (fun sz => c_M_isMan l D Z b σ a1 _ hw sz) (cwTV 1 hts wd_1290 wd_1292 ws_51 wd_14 wd_1293 rfl rfl (by decide +kernel) ⟨Nat.le_of_ble_eq_true rfl, Nat.le_of_ble_eq_true rfl⟩) rfl hl.1 rfl (Nat.le_of_ble_eq_true rfl) dX11_about_2 ⟨Nat.zero_le _, Nat.zero_le _⟩ (fun r2 σ1 H locs hw hH => ?_)
  refine lv_if_ne (tgt := 11) hx hb dX11_about_5 (by decide) (fun c3 => ?_) (fun c3 => ?_)
  · have hw := ifn c3 hw
    refine lv_iload_n hx hb dX11_about_11 rfl (lv_at hl 2 rfl) ?_
    by_cases c4 : a2 = (0 : Int32)
    · have hw := ifp c4 hw
      refine lv_tableIn (tgt := 68) hx hb dX11_about_12 (by rw [c4]; decide) (by rw [c4]; decide) (by rw [c4]; rfl) (by decide) ?_
      refine lv_aload_n hx hb dX11_about_68 rfl (lv_at hl 0 rfl) ?_
      refine mg C hH 11 (by decide) rfl wd_1040 rfl dX11_about_69 ?_
      refine lv_iload_n hx hb dX11_about_72 rfl (lv_at hl 1 rfl) ?_
      obtain ⟨h5, hw⟩ := hw
      refine mai C hH 7 11 rfl h5 dX11_about_73 ?_
      exact mri C hr hk hH hw dX11_about_74
    have hw := ifn c4 hw
    by_cases c6 : a2 = (1 : Int32)
    · have hw := ifp c6 hw
      refine lv_tableIn (tgt := 75) hx hb dX11_about_12 (by rw [c6]; decide) (by rw [c6]; decide) (by rw [c6]; rfl) (by decide) ?_
      refine lv_aload_n hx hb dX11_about_75 rfl (lv_at hl 0 rfl) ?_
      refine mg C hH 12 (by decide) rfl wd_1041 rfl dX11_about_76 ?_
      refine lv_iload_n hx hb dX11_about_79 rfl (lv_at hl 1 rfl) ?_
      obtain ⟨h7, hw⟩ := hw
      refine mai C hH 8 12 rfl h7 dX11_about_80 ?_
      exact mri C hr hk hH hw dX11_about_81
    have hw := ifn c6 hw
    by_cases c8 : a2 = (2 : Int32)
    · have hw := ifp c8 hw
      refine lv_tableIn (tgt := 82) hx hb dX11_about_12 (by rw [c8]; decide) (by rw [c8]; decide) (by rw [c8]; rfl) (by decide) ?_
      refine lv_aload_n hx hb dX11_about_82 rfl (lv_at hl 0 rfl) ?_
      refine mg C hH 13 (by decide) rfl wd_1042 rfl dX11_about_83 ?_
      refine lv_iload_n hx hb dX11_about_86 rfl (lv_at hl 1 rfl) ?_
      obtain ⟨h9, hw⟩ := hw
      refine mai C hH 9 13 rfl h9 dX11_about_87 ?_
      exact mri C hr hk hH hw dX11_about_88
    have hw := ifn c8 hw
    by_cases c10 : a2 = (3 : Int32)
    · have hw := ifp c10 hw
      refine lv_tableIn (tgt := 89) hx hb dX11_about_12 (by rw [c10]; decide) (by rw [c10]; decide) (by rw [c10]; rfl) (by decide) ?_
      refine lv_aload_n hx hb dX11_about_89 rfl (lv_at hl 0 rfl) ?_
      refine mg C hH 14 (by decide) rfl wd_1043 rfl dX11_about_90 ?_
      refine lv_iload_n hx hb dX11_about_93 rfl (lv_at hl 1 rfl) ?_
      obtain ⟨h11, hw⟩ := hw
      refine mai C hH 10 14 rfl h11 dX11_about_94 ?_
      exact mri C hr hk hH hw dX11_about_95
    have hw := ifn c10 hw
    by_cases c12 : a2 = (4 : Int32)
    · have hw := ifp c12 hw
      refine lv_tableIn (tgt := 96) hx hb dX11_about_12 (by rw [c12]; decide) (by rw [c12]; decide) (by rw [c12]; rfl) (by decide) ?_
      refine lv_aload_n hx hb dX11_about_96 rfl (lv_at hl 0 rfl) ?_
      refine mg C hH 15 (by decide) rfl wd_1044 rfl dX11_about_97 ?_
      refine lv_iload_n hx hb dX11_about_100 rfl (lv_at hl 1 rfl) ?_
      obtain ⟨h13, hw⟩ := hw
      refine mai C hH 11 15 rfl h13 dX11_about_101 ?_
      exact mri C hr hk hH hw dX11_about_102
    have hw := ifn c12 hw
    by_cases c14 : a2 = (5 : Int32)
    · have hw := ifp c14 hw
      refine lv_tableIn (tgt := 103) hx hb dX11_about_12 (by rw [c14]; decide) (by rw [c14]; decide) (by rw [c14]; rfl) (by decide) ?_
      refine lv_aload_n hx hb dX11_about_103 rfl (lv_at hl 0 rfl) ?_
      refine mg C hH 16 (by decide) rfl wd_1045 rfl dX11_about_104 ?_
      refine lv_iload_n hx hb dX11_about_107 rfl (lv_at hl 1 rfl) ?_
      obtain ⟨h15, hw⟩ := hw
      refine mai C hH 12 16 rfl h15 dX11_about_108 ?_
      exact mri C hr hk hH hw dX11_about_109
    have hw := ifn c14 hw
    by_cases c16 : a2 = (6 : Int32)
    · have hw := ifp c16 hw
      refine lv_tableIn (tgt := 110) hx hb dX11_about_12 (by rw [c16]; decide) (by rw [c16]; decide) (by rw [c16]; rfl) (by decide) ?_
      refine lv_aload_n hx hb dX11_about_110 rfl (lv_at hl 0 rfl) ?_
      refine mg C hH 17 (by decide) rfl wd_1046 rfl dX11_about_111 ?_
      refine lv_iload_n hx hb dX11_about_114 rfl (lv_at hl 1 rfl) ?_
      obtain ⟨h17, hw⟩ := hw
      refine mai C hH 13 17 rfl h17 dX11_about_115 ?_
      exact mri C hr hk hH hw dX11_about_116
    have hw := ifn c16 hw
    by_cases c18 : a2 = (7 : Int32)
    · have hw := ifp c18 hw
      refine lv_tableIn (tgt := 117) hx hb dX11_about_12 (by rw [c18]; decide) (by rw [c18]; decide) (by rw [c18]; rfl) (by decide) ?_
      refine lv_aload_n hx hb dX11_about_117 rfl (lv_at hl 0 rfl) ?_
      refine lv_iload_n hx hb dX11_about_118 rfl (lv_at hl 1 rfl) ?_
      refine mcVi C hH [.int a1] (fun sz => c_M_placeIn l D Z b σ1 a1 _ hw sz) (cwTV 1 hts wd_1294 wd_1296 ws_52 wd_14 wd_1297 rfl rfl (by decide +kernel) ⟨Nat.le_of_ble_eq_true rfl, Nat.le_of_ble_eq_true rfl⟩) rfl hl.1 rfl (Nat.le_of_ble_eq_true rfl) dX11_about_119 ⟨Nat.zero_le _, Nat.zero_le _⟩ (fun r20 σ19 H locs hw hH => ?_)
      exact mri C hr hk hH hw dX11_about_122
    have hw := ifn c18 hw
    by_cases c21 : a2 = (8 : Int32)
    · have hw := ifp c21 hw
      refine lv_tableIn (tgt := 123) hx hb dX11_about_12 (by rw [c21]; decide) (by rw [c21]; decide) (by rw [c21]; rfl) (by decide) ?_
      refine lv_aload_n hx hb dX11_about_123 rfl (lv_at hl 0 rfl) ?_
      refine mg C hH 19 (by decide) rfl wd_1048 rfl dX11_about_124 ?_
      refine lv_iload_n hx hb dX11_about_127 rfl (lv_at hl 1 rfl) ?_
      obtain ⟨h22, hw⟩ := hw
      refine maz C hH 15 19 rfl h22 dX11_about_128 ?_
      refine lv_if_eq (tgt := 136) hx hb dX11_about_129 (by decide) (fun c23 => ?_) (fun c23 => ?_)
      · have hw := ifp c23 hw
        refine lv_iconst (v := 0) hx hb dX11_about_136 (by decide) ?_
        exact mri C hr hk hH hw dX11_about_137
      · have hw := ifn c23 hw
        refine lv_iconst (v := 1) hx hb dX11_about_132 (by decide) ?_
        refine lv_goto (tgt := 137) hx hb dX11_about_133 (by decide) ?_
        exact mri C hr hk hH hw dX11_about_137
    have hw := ifn c21 hw
    by_cases c24 : a2 = (9 : Int32)
    · have hw := ifp c24 hw
      refine lv_tableIn (tgt := 138) hx hb dX11_about_12 (by rw [c24]; decide) (by rw [c24]; decide) (by rw [c24]; rfl) (by decide) ?_
      refine lv_aload_n hx hb dX11_about_138 rfl (lv_at hl 0 rfl) ?_
      refine mg C hH 18 (by decide) rfl wd_1047 rfl dX11_about_139 ?_
      refine lv_iload_n hx hb dX11_about_142 rfl (lv_at hl 1 rfl) ?_
      obtain ⟨h25, hw⟩ := hw
      refine mai C hH 14 18 rfl h25 dX11_about_143 ?_
      exact mri C hr hk hH hw dX11_about_144
    have hw := ifn c24 hw
    refine lv_tableOut (tgt := 145) hx hb dX11_about_12 (by have := sw_ne c4 0 (by decide); have := sw_ne c6 1 (by decide); have := sw_ne c8 2 (by decide); have := sw_ne c10 3 (by decide); have := sw_ne c12 4 (by decide); have := sw_ne c14 5 (by decide); have := sw_ne c16 6 (by decide); have := sw_ne c18 7 (by decide); have := sw_ne c21 8 (by decide); have := sw_ne c24 9 (by decide); omega) (by decide) ?_
    refine lv_bipush (v := -2) hx hb dX11_about_145 (by decide) ?_
    exact mri C hr hk hH hw dX11_about_147
  · have hw := ifp c3 hw
    refine lv_bipush (v := -2) hx hb dX11_about_8 (by decide) ?_
    exact mri C hr hk hH hw dX11_about_10
/-! turn -/
abbrev rm_M_turn : Room := { frames := 2, cells := 0, slots := 0, locals := 42 }
def wp_M_turn (σ : MS) (a1 : Int32) (a2 : Int32) (post : Int32 → MS → Prop) : Prop := wp_M_isFellowship σ a1 (fun r2 σ1 => if r2 = 0 then (post (-1 : Int32) σ1) else (vp_in a1 4 ∧ (wp_M_in σ1 a2 (0 : Int32) ((σ1 20 a1.toNatClampNeg) - (1 : Int32)) (fun r6 σ5 => if r6 = 0 then (post (-1 : Int32) σ5) else (vp_in (((60 : Int32) * a1) + a2) 240 ∧ (post (σ5 21 (((60 : Int32) * a1) + a2).toNatClampNeg) σ5))))))
set_option maxHeartbeats 4000000 in
set_option maxRecDepth 100000 in
theorem c_M_turn (l : Launch) (D : va_G) (Z : Nat → ClassId) (b : Nat → Nat) (σ : MS) (a1 : Int32) (a2 : Int32) (post : Int32 → MS → Prop) (hw : wp_M_turn σ a1 a2 post) (sz : Nat) : Met l yX11_turn (Wd yX11_turn cX11_turn 3 (some .int)) rm_M_turn (va_Pc [.ref (b 69), .int a1, .int a2] (mPre D Z b sz σ)) (va_Qi post (mPost D Z b) (mA b sz)) 0 0 (mA b sz) := by
  refine mMi (by decide) rfl _ (Nat.le_of_ble_eq_true rfl) (fun p e s m args below meth c C hr hk ls hl hH => ?_) sz
  obtain ⟨⟨hx, hb, hml, hown, hts⟩, hK⟩ := id C
  have hl : lv_has ls 3 [(0, .ref (b 69)), (1, .int a1), (2, .int a2)] := hl
  unfold wp_M_turn at hw
  refine lv_iload_n hx hb dX11_turn_0 rfl (lv_at hl 1 rfl) ?_
  refine mcSi C hH [.int a1] (fun sz => c_M_isFellowship l D Z b σ a1 _ hw sz) (cwTS 1 hts wd_1283 wd_1284 wd_14 wd_1285 rfl rfl (by decide +kernel) ⟨Nat.le_of_ble_eq_true rfl, Nat.le_of_ble_eq_true rfl⟩) rfl hl.1 rfl (Nat.le_of_ble_eq_true rfl) dX11_turn_1 ⟨Nat.zero_le _, Nat.zero_le _⟩ (fun r2 σ1 H locs hw hH => ?_)
  refine lv_if_eq (tgt := 37) hx hb dX11_turn_4 (by decide) (fun c3 => ?_) (fun c3 => ?_)
  · have hw := ifp c3 hw
    refine lv_iconst (v := -1) hx hb dX11_turn_37 (by decide) ?_
    exact mri C hr hk hH hw dX11_turn_38
  · have hw := ifn c3 hw
    refine lv_iload_n hx hb dX11_turn_7 rfl (lv_at hl 2 rfl) ?_
    refine lv_iconst (v := 0) hx hb dX11_turn_8 (by decide) ?_
    refine lv_aload_n hx hb dX11_turn_9 rfl (lv_at hl 0 rfl) ?_
    refine mg C hH 20 (by decide) rfl wd_1049 rfl dX11_turn_10 ?_
    refine lv_iload_n hx hb dX11_turn_13 rfl (lv_at hl 1 rfl) ?_
    obtain ⟨h4, hw⟩ := hw
    refine mai C hH 16 20 rfl h4 dX11_turn_14 ?_
    refine lv_iconst (v := 1) hx hb dX11_turn_15 (by decide) ?_
    refine lv_isub hx hb dX11_turn_16 ?_
    refine mcSi C hH [.int a2, .int (0 : Int32), .int ((σ1 20 a1.toNatClampNeg) - (1 : Int32))] (fun sz => c_M_in l D Z b σ1 a2 (0 : Int32) ((σ1 20 a1.toNatClampNeg) - (1 : Int32)) _ hw sz) (cwTS 3 hts wd_1242 wd_1243 wd_14 wd_1244 rfl rfl (by decide +kernel) ⟨Nat.le_of_ble_eq_true rfl, Nat.le_of_ble_eq_true rfl⟩) rfl hl.1 rfl (Nat.le_of_ble_eq_true rfl) dX11_turn_17 ⟨Nat.zero_le _, Nat.zero_le _⟩ (fun r6 σ5 H locs hw hH => ?_)
    refine lv_if_eq (tgt := 37) hx hb dX11_turn_20 (by decide) (fun c7 => ?_) (fun c7 => ?_)
    · have hw := ifp c7 hw
      refine lv_iconst (v := -1) hx hb dX11_turn_37 (by decide) ?_
      exact mri C hr hk hH hw dX11_turn_38
    · have hw := ifn c7 hw
      refine lv_aload_n hx hb dX11_turn_23 rfl (lv_at hl 0 rfl) ?_
      refine mg C hH 21 (by decide) rfl wd_1050 rfl dX11_turn_24 ?_
      refine lv_bipush (v := 60) hx hb dX11_turn_27 (by decide) ?_
      refine lv_iload_n hx hb dX11_turn_29 rfl (lv_at hl 1 rfl) ?_
      refine lv_imul hx hb dX11_turn_30 ?_
      refine lv_iload_n hx hb dX11_turn_31 rfl (lv_at hl 2 rfl) ?_
      refine lv_iadd hx hb dX11_turn_32 ?_
      obtain ⟨h8, hw⟩ := hw
      refine mai C hH 17 21 rfl h8 dX11_turn_33 ?_
      refine lv_goto (tgt := 38) hx hb dX11_turn_34 (by decide) ?_
      exact mri C hr hk hH hw dX11_turn_38
