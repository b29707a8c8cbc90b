/-! claimThen -/
abbrev rm_M_claimThen : Room := { frames := 2, cells := 0, slots := 0, locals := 46 }
def wp_M_claimThen_108 (post : Int32 → MS → Prop) : Nat → MS → Int32 → Int32 → Prop
  | 0 => fun _ _ _ => False
  | n + 1 => fun σ x5_ x6_ => if (13 : Int32) ≤ x6_ then (wp_M_works σ x5_ (fun r3 σ2 => post r3 σ2)) else (vp_in x6_ 13 ∧ (∀ σ5 : MS, σ5 = up2 σ 41 x6_.toNatClampNeg (0 : Int32) → (∀ x6 : Int32, x6 = x6_ + (1 : Int32) → (wp_M_claimThen_108  post n σ5 x5_ x6))))
set_option maxHeartbeats 4000000 in
set_option maxRecDepth 100000 in
theorem b_M_claimThen_108 {p : Program} {l : Launch} {e : Env} {s : State} {m : MethodId} {args : Array Value} {below : List Frame} {meth : Method} {c : Code} {D : va_G} {Z : Nat → ClassId} {b : Nat → Nat} (C : MC p s m args c cX11_claimThen 7 D Z) (hr : meth.sig.returnType = some .int) (hk : meth.locks = false) {post : Int32 → MS → Prop} : ∀ (n : Nat) (σ : MS) (x5_ : Int32) (x6_ : Int32), wp_M_claimThen_108  post n σ x5_ x6_ → ∀ (H : Heap) (locs : List Loc) (ls : Array Slot), MH D Z b s.heap σ H locs → lv_has ls 7 [(0, .ref (b 69)), (5, .int x5_), (6, .int x6_)] → MWi p l e rm_M_claimThen s m args below meth c D Z b post H locs (F0 m 108 ls []) := by
  obtain ⟨⟨hx, hb, hml, hown, hts⟩, hK⟩ := id C
  intro n
  induction n with
  | zero => intro σ x5_ x6_ hw; exact hw.elim
  | succ n ih =>
    intro σ x5_ x6_ hw H locs ls hH hl
    unfold wp_M_claimThen_108 at hw
    refine lv_iload hx hb dX11_claimThen_108 (lv_at hl 2 rfl) ?_
    refine lv_bipush (v := 13) hx hb dX11_claimThen_110 (by decide) ?_
    refine lv_icmp_ge (tgt := 129) hx hb dX11_claimThen_112 (by decide) (fun c1 => ?_) (fun c1 => ?_)
    · have hw := ifp c1 hw
      refine lv_aload_n hx hb dX11_claimThen_129 rfl (lv_at hl 0 rfl) ?_
      refine lv_iload hx hb dX11_claimThen_130 (lv_at hl 1 rfl) ?_
      refine mcVi C hH [.int x5_] (fun sz => c_M_works l D Z b σ x5_ _ hw sz) (cwTV 1 hts wd_1438 wd_1440 ws_68 wd_14 wd_1441 rfl rfl (by decide +kernel) ⟨Nat.le_of_ble_eq_true rfl, Nat.le_of_ble_eq_true rfl⟩) rfl hl.1 rfl (Nat.le_of_ble_eq_true rfl) dX11_claimThen_132 ⟨Nat.zero_le _, Nat.zero_le _⟩ (fun r3 σ2 H locs hw hH => ?_)
      exact mri C hr hk hH hw dX11_claimThen_135
    · have hw := ifn c1 hw
      refine lv_aload_n hx hb dX11_claimThen_115 rfl (lv_at hl 0 rfl) ?_
      refine mg C hH 41 (by decide) rfl wd_1070 rfl dX11_claimThen_116 ?_
      refine lv_iload hx hb dX11_claimThen_119 (lv_at hl 2 rfl) ?_
      refine lv_iconst (v := 0) hx hb dX11_claimThen_121 (by decide) ?_
      obtain ⟨h4, hw⟩ := hw
      refine msi C hH 29 41 rfl (mast_41 Z b σ _ _) h4 dX11_claimThen_122 (fun H locs hH => ?_)
      have hw := hw _ rfl
      generalize up2 σ 41 x6_.toNatClampNeg (0 : Int32) = σ5 at hw hH
      obtain ⟨x6, ex6⟩ : ∃ y : Int32, y = x6_ + (1 : Int32) := ⟨_, rfl⟩
      have hw := hw x6 ex6
      refine lv_iinc (v := x6) (lv' := [(6, .int x6), (0, .ref (b 69)), (5, .int x5_)]) hx hb dX11_claimThen_123 hl (k := 2) rfl (by rw [ex6]; rfl) (by decide) rfl (fun ls hl => ?_)
      refine lv_goto (tgt := 108) hx hb dX11_claimThen_126 (by decide) ?_
      exact ih σ5 x5_ x6 hw _ _ _ hH (lv_sub hl [1, 2, 0] rfl)
def wp_M_claimThen_78 (post : Int32 → MS → Prop) (σ : MS) (x4_ : Int32) (x5_ : Int32) (t1_ : Int32) (t2_ : Int32) : Prop := vp_in t1_ 13 ∧ (∀ σ8 : MS, σ8 = up2 σ 41 t1_.toNatClampNeg t2_ → (vp_in (7 : Int32) 13 ∧ (∀ σ10 : MS, σ10 = up2 σ8 41 (7 : Int32).toNatClampNeg (0 : Int32) → (vp_in (8 : Int32) 13 ∧ (∀ σ12 : MS, σ12 = up2 σ10 41 (8 : Int32).toNatClampNeg (0 : Int32) → (vp_in (9 : Int32) 13 ∧ (∀ σ14 : MS, σ14 = up2 σ12 41 (9 : Int32).toNatClampNeg x4_ → (∃ nn : Nat, wp_M_claimThen_108  post nn σ14 x5_ (10 : Int32)))))))))
set_option maxHeartbeats 4000000 in
set_option maxRecDepth 100000 in
theorem b_M_claimThen_78 {p : Program} {l : Launch} {e : Env} {s : State} {m : MethodId} {args : Array Value} {below : List Frame} {meth : Method} {c : Code} {D : va_G} {Z : Nat → ClassId} {b : Nat → Nat} (C : MC p s m args c cX11_claimThen 7 D Z) (hr : meth.sig.returnType = some .int) (hk : meth.locks = false) {post : Int32 → MS → Prop} : ∀ (σ : MS) (x4_ : Int32) (x5_ : Int32) (t1_ : Int32) (t2_ : Int32), wp_M_claimThen_78  post σ x4_ x5_ t1_ t2_ → ∀ (H : Heap) (locs : List Loc) (ls : Array Slot), MH D Z b s.heap σ H locs → lv_has ls 7 [(0, .ref (b 69)), (4, .int x4_), (5, .int x5_)] → MWi p l e rm_M_claimThen s m args below meth c D Z b post H locs (F0 m 78 ls [.int t2_, .int t1_, .ref (b 41)]) := by
  obtain ⟨⟨hx, hb, hml, hown, hts⟩, hK⟩ := id C
  intro σ x4_ x5_ t1_ t2_ hw H locs ls hH hl
  unfold wp_M_claimThen_78 at hw
  obtain ⟨h7, hw⟩ := hw
  refine msi C hH 29 41 rfl (mast_41 Z b σ _ _) h7 dX11_claimThen_78 (fun H locs hH => ?_)
  have hw := hw _ rfl
  generalize up2 σ 41 t1_.toNatClampNeg t2_ = σ8 at hw hH
  refine lv_aload_n hx hb dX11_claimThen_79 rfl (lv_at hl 0 rfl) ?_
  refine mg C hH 41 (by decide) rfl wd_1070 rfl dX11_claimThen_80 ?_
  refine lv_bipush (v := 7) hx hb dX11_claimThen_83 (by decide) ?_
  refine lv_iconst (v := 0) hx hb dX11_claimThen_85 (by decide) ?_
  obtain ⟨h9, hw⟩ := hw
  refine msi C hH 29 41 rfl (mast_41 Z b σ8 _ _) h9 dX11_claimThen_86 (fun H locs hH => ?_)
  have hw := hw _ rfl
  generalize up2 σ8 41 (7 : Int32).toNatClampNeg (0 : Int32) = σ10 at hw hH
  refine lv_aload_n hx hb dX11_claimThen_87 rfl (lv_at hl 0 rfl) ?_
  refine mg C hH 41 (by decide) rfl wd_1070 rfl dX11_claimThen_88 ?_
  refine lv_bipush (v := 8) hx hb dX11_claimThen_91 (by decide) ?_
  refine lv_iconst (v := 0) hx hb dX11_claimThen_93 (by decide) ?_
  obtain ⟨h11, hw⟩ := hw
  refine msi C hH 29 41 rfl (mast_41 Z b σ10 _ _) h11 dX11_claimThen_94 (fun H locs hH => ?_)
  have hw := hw _ rfl
  generalize up2 σ10 41 (8 : Int32).toNatClampNeg (0 : Int32) = σ12 at hw hH
  refine lv_aload_n hx hb dX11_claimThen_95 rfl (lv_at hl 0 rfl) ?_
  refine mg C hH 41 (by decide) rfl wd_1070 rfl dX11_claimThen_96 ?_
  refine lv_bipush (v := 9) hx hb dX11_claimThen_99 (by decide) ?_
  refine lv_iload hx hb dX11_claimThen_101 (lv_at hl 1 rfl) ?_
  obtain ⟨h13, hw⟩ := hw
  refine msi C hH 29 41 rfl (mast_41 Z b σ12 _ _) h13 dX11_claimThen_103 (fun H locs hH => ?_)
  have hw := hw _ rfl
  generalize up2 σ12 41 (9 : Int32).toNatClampNeg x4_ = σ14 at hw hH
  refine lv_bipush (v := 10) hx hb dX11_claimThen_104 (by decide) ?_
  refine lv_istore (lv' := [(6, .int (10 : Int32)), (0, .ref (b 69)), (4, .int x4_), (5, .int x5_)]) hx hb dX11_claimThen_106 hl (by decide) rfl (fun ls hl => ?_)
  obtain ⟨nn, hw⟩ := hw
  exact b_M_claimThen_108 C hr hk  nn σ14 x5_ (10 : Int32) hw _ _ _ hH (lv_sub hl [1, 3, 0] rfl)
def wp_M_claimThen (σ : MS) (a1 : Int32) (a2 : Int32) (a3 : Int32) (post : Int32 → MS → Prop) : Prop := vp_in a2 200 ∧ (∀ x16 : Int32, x16 = ((σ 51 a2.toNatClampNeg) / (600 : Int32)) → (wp_M_forceOn σ a1 (0 : Int32) x16 a3 (fun r18 σ17 => if 0 ≤ r18 then (wp_M_nameLoad σ17 a2 (fun σ20 => vp_in a2 200 ∧ (vp_in (5 : Int32) 13 ∧ (∀ σ23 : MS, σ23 = up2 σ20 41 (5 : Int32).toNatClampNeg (((σ20 51 a2.toNatClampNeg) - (σ20 51 a2.toNatClampNeg) / (600 : Int32) * (600 : Int32)) / (60 : Int32)) → (vp_in a2 200 ∧ (wp_M_rainsAt σ23 (σ23 51 a2.toNatClampNeg) (fun r26 σ25 => if r26 = 0 then (wp_M_claimThen_78 post σ25 x16 r18 (6 : Int32) (0 : Int32)) else (wp_M_claimThen_78 post σ25 x16 r18 (6 : Int32) (1 : Int32))))))))) else (post (0 : Int32) σ17))))
set_option maxHeartbeats 4000000 in
set_option maxRecDepth 100000 in
theorem c_M_claimThen (l : Launch) (D : va_G) (Z : Nat → ClassId) (b : Nat → Nat) (σ : MS) (a1 : Int32) (a2 : Int32) (a3 : Int32) (post : Int32 → MS → Prop) (hw : wp_M_claimThen σ a1 a2 a3 post) (sz : Nat) : Met l yX11_claimThen (Wd yX11_claimThen cX11_claimThen 7 (some .int)) rm_M_claimThen (va_Pc [.ref (b 69), .int a1, .int a2, .int a3] (mPre D Z b sz σ)) (va_Qi post (mPost D Z b) (mA b sz)) 0 0 (mA b sz) := by
  refine mMi (by decide) rfl _ (Nat.le_of_ble_eq_true rfl) (fun p e s m args below meth c C hr hk ls hl hH => ?_) sz
  obtain ⟨⟨hx, hb, hml, hown, hts⟩, hK⟩ := id C
  have hl : lv_has ls 7 [(0, .ref (b 69)), (1, .int a1), (2, .int a2), (3, .int a3)] := hl
  unfold wp_M_claimThen at hw
  refine lv_aload_n hx hb dX11_claimThen_0 rfl (lv_at hl 0 rfl) ?_
  refine mg C hH 51 (by decide) rfl wd_1080 rfl dX11_claimThen_1 ?_
  refine lv_iload_n hx hb dX11_claimThen_4 rfl (lv_at hl 2 rfl) ?_
  obtain ⟨h15, hw⟩ := hw
  refine mai C hH 38 51 rfl h15 dX11_claimThen_5 ?_
  refine lv_sipush (v := 600) hx hb dX11_claimThen_6 (by decide) ?_
  refine lv_idiv hx hb dX11_claimThen_9 (by decide) ?_
  refine lv_topi (fun x16 ex16 => ?_)
  have hw := hw x16 ex16
  refine lv_istore (lv' := [(4, .int x16), (0, .ref (b 69)), (1, .int a1), (2, .int a2), (3, .int a3)]) hx hb dX11_claimThen_10 hl (by decide) rfl (fun ls hl => ?_)
  refine lv_aload_n hx hb dX11_claimThen_12 rfl (lv_at hl 1 rfl) ?_
  refine lv_iload_n hx hb dX11_claimThen_13 rfl (lv_at hl 2 rfl) ?_
  refine lv_iconst (v := 0) hx hb dX11_claimThen_14 (by decide) ?_
  refine lv_iload hx hb dX11_claimThen_15 (lv_at hl 0 rfl) ?_
  refine lv_iload_n hx hb dX11_claimThen_17 rfl (lv_at hl 4 rfl) ?_
  refine mcVi C hH [.int a1, .int (0 : Int32), .int x16, .int a3] (fun sz => c_M_forceOn l D Z b σ a1 (0 : Int32) x16 a3 _ hw sz) (cwTV 4 hts wd_1413 wd_1415 ws_63 wd_14 wd_1416 rfl rfl (by decide +kernel) ⟨Nat.le_of_ble_eq_true rfl, Nat.le_of_ble_eq_true rfl⟩) rfl hl.1 rfl (Nat.le_of_ble_eq_true rfl) dX11_claimThen_18 ⟨Nat.zero_le _, Nat.zero_le _⟩ (fun r18 σ17 H locs hw hH => ?_)
  refine lv_istore (lv' := [(5, .int r18), (4, .int x16), (0, .ref (b 69)), (1, .int a1), (2, .int a2), (3, .int a3)]) hx hb dX11_claimThen_21 hl (by decide) rfl (fun ls hl => ?_)
  refine lv_iload hx hb dX11_claimThen_23 (lv_at hl 0 rfl) ?_
  refine lv_if_ge (tgt := 30) hx hb dX11_claimThen_25 (by decide) (fun c19 => ?_) (fun c19 => ?_)
  · have hw := ifp c19 hw
    refine lv_aload_n hx hb dX11_claimThen_30 rfl (lv_at hl 2 rfl) ?_
    refine lv_iload_n hx hb dX11_claimThen_31 rfl (lv_at hl 4 rfl) ?_
    refine mcVv C hH [.int a2] (fun sz => c_M_nameLoad l D Z b σ17 a2 _ hw sz) (cwTV 1 hts wd_1430 wd_1432 ws_66 wd_14 wd_1433 rfl rfl (by decide +kernel) ⟨Nat.le_of_ble_eq_true rfl, Nat.le_of_ble_eq_true rfl⟩) rfl hl.1 rfl (Nat.le_of_ble_eq_true rfl) dX11_claimThen_32 ⟨Nat.zero_le _, Nat.zero_le _⟩ (fun  σ20 H locs hw hH => ?_)
    refine lv_aload_n hx hb dX11_claimThen_35 rfl (lv_at hl 2 rfl) ?_
    refine mg C hH 41 (by decide) rfl wd_1070 rfl dX11_claimThen_36 ?_
    refine lv_iconst (v := 5) hx hb dX11_claimThen_39 (by decide) ?_
    refine lv_aload_n hx hb dX11_claimThen_40 rfl (lv_at hl 2 rfl) ?_
    refine mg C hH 51 (by decide) rfl wd_1080 rfl dX11_claimThen_41 ?_
    refine lv_iload_n hx hb dX11_claimThen_44 rfl (lv_at hl 4 rfl) ?_
    obtain ⟨h21, hw⟩ := hw
    refine mai C hH 38 51 rfl h21 dX11_claimThen_45 ?_
    refine lv_sipush (v := 600) hx hb dX11_claimThen_46 (by decide) ?_
    refine lv_irem hx hb dX11_claimThen_49 (by decide) ?_
    refine lv_bipush (v := 60) hx hb dX11_claimThen_50 (by decide) ?_
    refine lv_idiv hx hb dX11_claimThen_52 (by decide) ?_
    obtain ⟨h22, hw⟩ := hw
    refine msi C hH 29 41 rfl (mast_41 Z b σ20 _ _) h22 dX11_claimThen_53 (fun H locs hH => ?_)
    have hw := hw _ rfl
    generalize up2 σ20 41 (5 : Int32).toNatClampNeg (((σ20 51 a2.toNatClampNeg) - (σ20 51 a2.toNatClampNeg) / (600 : Int32) * (600 : Int32)) / (60 : Int32)) = σ23 at hw hH
    refine lv_aload_n hx hb dX11_claimThen_54 rfl (lv_at hl 2 rfl) ?_
    refine mg C hH 41 (by decide) rfl wd_1070 rfl dX11_claimThen_55 ?_
    refine lv_bipush (v := 6) hx hb dX11_claimThen_58 (by decide) ?_
    refine lv_aload_n hx hb dX11_claimThen_60 rfl (lv_at hl 2 rfl) ?_
    refine lv_aload_n hx hb dX11_claimThen_61 rfl (lv_at hl 2 rfl) ?_
    refine mg C hH 51 (by decide) rfl wd_1080 rfl dX11_claimThen_62 ?_
    refine lv_iload_n hx hb dX11_claimThen_65 rfl (lv_at hl 4 rfl) ?_
    obtain ⟨h24, hw⟩ := hw
    refine mai C hH 38 51 rfl h24 dX11_claimThen_66 ?_
    refine mcVi C hH [.int (σ23 51 a2.toNatClampNeg)] (fun sz => c_M_rainsAt l D Z b σ23 (σ23 51 a2.toNatClampNeg) _ hw sz) (cwTV 1 hts wd_1275 wd_1277 ws_50 wd_14 wd_1278 rfl rfl (by decide +kernel) ⟨Nat.le_of_ble_eq_true rfl, Nat.le_of_ble_eq_true rfl⟩) rfl hl.1 rfl (Nat.le_of_ble_eq_true rfl) dX11_claimThen_67 ⟨Nat.zero_le _, Nat.zero_le _⟩ (fun r26 σ25 H locs hw hH => ?_)
    refine lv_if_eq (tgt := 77) hx hb dX11_claimThen_70 (by decide) (fun c27 => ?_) (fun c27 => ?_)
    · have hw := ifp c27 hw
      refine lv_iconst (v := 0) hx hb dX11_claimThen_77 (by decide) ?_
      exact b_M_claimThen_78 C hr hk  σ25 x16 r18 (6 : Int32) (0 : Int32) hw _ _ _ hH (lv_sub hl [2, 1, 0] rfl)
    · have hw := ifn c27 hw
      refine lv_iconst (v := 1) hx hb dX11_claimThen_73 (by decide) ?_
      refine lv_goto (tgt := 78) hx hb dX11_claimThen_74 (by decide) ?_
      exact b_M_claimThen_78 C hr hk  σ25 x16 r18 (6 : Int32) (1 : Int32) hw _ _ _ hH (lv_sub hl [2, 1, 0] rfl)
  · have hw := ifn c19 hw
    refine lv_iconst (v := 0) hx hb dX11_claimThen_28 (by decide) ?_
    exact mri C hr hk hH hw dX11_claimThen_29
/-! judged -/
abbrev rm_M_judged : Room := { frames := 3, cells := 0, slots := 0, locals := 72 }
def wp_M_judged (σ : MS) (a1 : Int32) (a2 : Int32) (a3 : Int32) (a4 : Int32) (post : Int32 → MS → Prop) : Prop := wp_M_isLoad σ a1 (fun r2 σ1 => if r2 = 0 then (post (-1 : Int32) σ1) else (wp_M_isFellowship σ1 a2 (fun r5 σ4 => if r5 = 0 then (post (-1 : Int32) σ4) else (wp_M_isFellowship σ4 a3 (fun r8 σ7 => if r8 = 0 then (post (-1 : Int32) σ7) else (if a2 = a3 then (post (-1 : Int32) σ7) else (wp_M_isDay σ7 a4 (fun r12 σ11 => if r12 = 0 then (post (-1 : Int32) σ11) else (wp_M_claimThen σ11 a2 a1 a4 (fun r15 σ14 => wp_M_claimThen σ14 a3 a1 a4 (fun r17 σ16 => if r15 = 0 then (post (-2 : Int32) σ16) else (if r17 = 0 then (post (-2 : Int32) σ16) else (if r15 = r17 then (vp_in a1 200 ∧ (∀ x22 : Int32, x22 = ((σ16 51 a1.toNatClampNeg) / (600 : Int32)) → (wp_M_forceOn σ16 a2 (0 : Int32) x22 a4 (fun r24 σ23 => wp_M_forceOn σ23 a3 (0 : Int32) x22 a4 (fun r26 σ25 => if r26 ≤ r24 then (post a3 σ25) else (post a2 σ25)))))) else (if r15 ≤ r17 then (post a3 σ16) else (post a2 σ16)))))))))))))))
set_option maxHeartbeats 4000000 in
set_option maxRecDepth 100000 in
theorem c_M_judged (l : Launch) (D : va_G) (Z : Nat → ClassId) (b : Nat → Nat) (σ : MS) (a1 : Int32) (a2 : Int32) (a3 : Int32) (a4 : Int32) (post : Int32 → MS → Prop) (hw : wp_M_judged σ a1 a2 a3 a4 post) (sz : Nat) : Met l yX11_judged (Wd yX11_judged cX11_judged 8 (some .int)) rm_M_judged (va_Pc [.ref (b 69), .int a1, .int a2, .int a3, .int a4] (mPre D Z b sz σ)) (va_Qi post (mPost D Z b) (mA b sz)) 0 0 (mA b sz) := by
  refine mMi (by decide) rfl _ (Nat.le_of_ble_eq_true rfl) (fun p e s m args below meth c C hr hk ls hl hH => ?_) sz
  obtain ⟨⟨hx, hb, hml, hown, hts⟩, hK⟩ := id C
  have hl : lv_has ls 8 [(0, .ref (b 69)), (1, .int a1), (2, .int a2), (3, .int a3), (4, .int a4)] := hl
  unfold wp_M_judged at hw
  refine lv_aload_n hx hb dX11_judged_0 rfl (lv_at hl 0 rfl) ?_
  refine lv_iload_n hx hb dX11_judged_1 rfl (lv_at hl 1 rfl) ?_
  refine mcVi C hH [.int a1] (fun sz => c_M_isLoad l D Z b σ a1 _ hw sz) (cwTV 1 hts wd_1421 wd_1423 ws_64 wd_14 wd_1424 rfl rfl (by decide +kernel) ⟨Nat.le_of_ble_eq_true rfl, Nat.le_of_ble_eq_true rfl⟩) rfl hl.1 rfl (Nat.le_of_ble_eq_true rfl) dX11_judged_2 ⟨Nat.zero_le _, Nat.zero_le _⟩ (fun r2 σ1 H locs hw hH => ?_)
  refine lv_if_eq (tgt := 35) hx hb dX11_judged_5 (by decide) (fun c3 => ?_) (fun c3 => ?_)
  · have hw := ifp c3 hw
    refine lv_iconst (v := -1) hx hb dX11_judged_35 (by decide) ?_
    exact mri C hr hk hH hw dX11_judged_36
  · have hw := ifn c3 hw
    refine lv_iload_n hx hb dX11_judged_8 rfl (lv_at hl 2 rfl) ?_
    refine mcSi C hH [.int a2] (fun sz => c_M_isFellowship l D Z b σ1 a2 _ hw sz) (cwTS 1 hts wd_1283 wd_1284 wd_14 wd_1285 rfl rfl (by decide +kernel) ⟨Nat.le_of_ble_eq_true rfl, Nat.le_of_ble_eq_true rfl⟩) rfl hl.1 rfl (Nat.le_of_ble_eq_true rfl) dX11_judged_9 ⟨Nat.zero_le _, Nat.zero_le _⟩ (fun r5 σ4 H locs hw hH => ?_)
    refine lv_if_eq (tgt := 35) hx hb dX11_judged_12 (by decide) (fun c6 => ?_) (fun c6 => ?_)
    · have hw := ifp c6 hw
      refine lv_iconst (v := -1) hx hb dX11_judged_35 (by decide) ?_
      exact mri C hr hk hH hw dX11_judged_36
    · have hw := ifn c6 hw
      refine lv_iload_n hx hb dX11_judged_15 rfl (lv_at hl 3 rfl) ?_
      refine mcSi C hH [.int a3] (fun sz => c_M_isFellowship l D Z b σ4 a3 _ hw sz) (cwTS 1 hts wd_1283 wd_1284 wd_14 wd_1285 rfl rfl (by decide +kernel) ⟨Nat.le_of_ble_eq_true rfl, Nat.le_of_ble_eq_true rfl⟩) rfl hl.1 rfl (Nat.le_of_ble_eq_true rfl) dX11_judged_16 ⟨Nat.zero_le _, Nat.zero_le _⟩ (fun r8 σ7 H locs hw hH => ?_)
      refine lv_if_eq (tgt := 35) hx hb dX11_judged_19 (by decide) (fun c9 => ?_) (fun c9 => ?_)
      · have hw := ifp c9 hw
        refine lv_iconst (v := -1) hx hb dX11_judged_35 (by decide) ?_
        exact mri C hr hk hH hw dX11_judged_36
      · have hw := ifn c9 hw
        refine lv_iload_n hx hb dX11_judged_22 rfl (lv_at hl 2 rfl) ?_
        refine lv_iload_n hx hb dX11_judged_23 rfl (lv_at hl 3 rfl) ?_
        refine lv_icmp_eq (tgt := 35) hx hb dX11_judged_24 (by decide) (fun c10 => ?_) (fun c10 => ?_)
        · have hw := ifp c10 hw
          refine lv_iconst (v := -1) hx hb dX11_judged_35 (by decide) ?_
          exact mri C hr hk hH hw dX11_judged_36
        · have hw := ifn c10 hw
          refine lv_iload hx hb dX11_judged_27 (lv_at hl 4 rfl) ?_
          refine mcSi C hH [.int a4] (fun sz => c_M_isDay l D Z b σ7 a4 _ hw sz) (cwTS 1 hts wd_1342 wd_1343 wd_14 wd_1344 rfl rfl (by decide +kernel) ⟨Nat.le_of_ble_eq_true rfl, Nat.le_of_ble_eq_true rfl⟩) rfl hl.1 rfl (Nat.le_of_ble_eq_true rfl) dX11_judged_29 ⟨Nat.zero_le _, Nat.zero_le _⟩ (fun r12 σ11 H locs hw hH => ?_)
          refine lv_if_ne (tgt := 37) hx hb dX11_judged_32 (by decide) (fun c13 => ?_) (fun c13 => ?_)
          · have hw := ifn c13 hw
            refine lv_aload_n hx hb dX11_judged_37 rfl (lv_at hl 0 rfl) ?_
            refine lv_iload_n hx hb dX11_judged_38 rfl (lv_at hl 2 rfl) ?_
            refine lv_iload_n hx hb dX11_judged_39 rfl (lv_at hl 1 rfl) ?_
            refine lv_iload hx hb dX11_judged_40 (lv_at hl 4 rfl) ?_
            refine mcVi C hH [.int a2, .int a1, .int a4] (fun sz => c_M_claimThen l D Z b σ11 a2 a1 a4 _ hw sz) (cwTV 3 hts wd_1550 wd_1552 ws_84 wd_14 wd_1553 rfl rfl (by decide +kernel) ⟨Nat.le_of_ble_eq_true rfl, Nat.le_of_ble_eq_true rfl⟩) rfl hl.1 rfl (Nat.le_of_ble_eq_true rfl) dX11_judged_42 ⟨Nat.zero_le _, Nat.zero_le _⟩ (fun r15 σ14 H locs hw hH => ?_)
            refine lv_istore (lv' := [(5, .int r15), (0, .ref (b 69)), (1, .int a1), (2, .int a2), (3, .int a3), (4, .int a4)]) hx hb dX11_judged_45 hl (by decide) rfl (fun ls hl => ?_)
            refine lv_aload_n hx hb dX11_judged_47 rfl (lv_at hl 1 rfl) ?_
            refine lv_iload_n hx hb dX11_judged_48 rfl (lv_at hl 4 rfl) ?_
            refine lv_iload_n hx hb dX11_judged_49 rfl (lv_at hl 2 rfl) ?_
            refine lv_iload hx hb dX11_judged_50 (lv_at hl 5 rfl) ?_
            refine mcVi C hH [.int a3, .int a1, .int a4] (fun sz => c_M_claimThen l D Z b σ14 a3 a1 a4 _ hw sz) (cwTV 3 hts wd_1550 wd_1552 ws_84 wd_14 wd_1553 rfl rfl (by decide +kernel) ⟨Nat.le_of_ble_eq_true rfl, Nat.le_of_ble_eq_true rfl⟩) rfl hl.1 rfl (Nat.le_of_ble_eq_true rfl) dX11_judged_52 ⟨Nat.zero_le _, Nat.zero_le _⟩ (fun r17 σ16 H locs hw hH => ?_)
            refine lv_istore (lv' := [(6, .int r17), (5, .int r15), (0, .ref (b 69)), (1, .int a1), (2, .int a2), (3, .int a3), (4, .int a4)]) hx hb dX11_judged_55 hl (by decide) rfl (fun ls hl => ?_)
            refine lv_iload hx hb dX11_judged_57 (lv_at hl 1 rfl) ?_
            refine lv_if_eq (tgt := 67) hx hb dX11_judged_59 (by decide) (fun c18 => ?_) (fun c18 => ?_)
            · have hw := ifp c18 hw
              refine lv_bipush (v := -2) hx hb dX11_judged_67 (by decide) ?_
              exact mri C hr hk hH hw dX11_judged_69
            · have hw := ifn c18 hw
              refine lv_iload hx hb dX11_judged_62 (lv_at hl 0 rfl) ?_
              refine lv_if_ne (tgt := 70) hx hb dX11_judged_64 (by decide) (fun c19 => ?_) (fun c19 => ?_)
              · have hw := ifn c19 hw
                refine lv_iload hx hb dX11_judged_70 (lv_at hl 1 rfl) ?_
                refine lv_iload hx hb dX11_judged_72 (lv_at hl 0 rfl) ?_
                refine lv_icmp_eq (tgt := 90) hx hb dX11_judged_74 (by decide) (fun c20 => ?_) (fun c20 => ?_)
                · have hw := ifp c20 hw
                  refine lv_aload_n hx hb dX11_judged_90 rfl (lv_at hl 2 rfl) ?_
                  refine mg C hH 51 (by decide) rfl wd_1080 rfl dX11_judged_91 ?_
                  refine lv_iload_n hx hb dX11_judged_94 rfl (lv_at hl 3 rfl) ?_
                  obtain ⟨h21, hw⟩ := hw
                  refine mai C hH 38 51 rfl h21 dX11_judged_95 ?_
                  refine lv_sipush (v := 600) hx hb dX11_judged_96 (by decide) ?_
                  refine lv_idiv hx hb dX11_judged_99 (by decide) ?_
                  refine lv_topi (fun x22 ex22 => ?_)
                  have hw := hw x22 ex22
                  refine lv_istore (lv' := [(7, .int x22), (6, .int r17), (5, .int r15), (0, .ref (b 69)), (1, .int a1), (2, .int a2), (3, .int a3), (4, .int a4)]) hx hb dX11_judged_100 hl (by decide) rfl (fun ls hl => ?_)
                  refine lv_aload_n hx hb dX11_judged_102 rfl (lv_at hl 3 rfl) ?_
                  refine lv_iload_n hx hb dX11_judged_103 rfl (lv_at hl 5 rfl) ?_
                  refine lv_iconst (v := 0) hx hb dX11_judged_104 (by decide) ?_
                  refine lv_iload hx hb dX11_judged_105 (lv_at hl 0 rfl) ?_
                  refine lv_iload hx hb dX11_judged_107 (lv_at hl 7 rfl) ?_
                  refine mcVi C hH [.int a2, .int (0 : Int32), .int x22, .int a4] (fun sz => c_M_forceOn l D Z b σ16 a2 (0 : Int32) x22 a4 _ hw sz) (cwTV 4 hts wd_1413 wd_1415 ws_63 wd_14 wd_1416 rfl rfl (by decide +kernel) ⟨Nat.le_of_ble_eq_true rfl, Nat.le_of_ble_eq_true rfl⟩) rfl hl.1 rfl (Nat.le_of_ble_eq_true rfl) dX11_judged_109 ⟨Nat.zero_le _, Nat.zero_le _⟩ (fun r24 σ23 H locs hw hH => ?_)
                  refine lv_aload_n hx hb dX11_judged_112 rfl (lv_at hl 3 rfl) ?_
                  refine lv_iload_n hx hb dX11_judged_113 rfl (lv_at hl 6 rfl) ?_
                  refine lv_iconst (v := 0) hx hb dX11_judged_114 (by decide) ?_
                  refine lv_iload hx hb dX11_judged_115 (lv_at hl 0 rfl) ?_
                  refine lv_iload hx hb dX11_judged_117 (lv_at hl 7 rfl) ?_
                  refine mcVi C hH [.int a3, .int (0 : Int32), .int x22, .int a4] (fun sz => c_M_forceOn l D Z b σ23 a3 (0 : Int32) x22 a4 _ hw sz) (cwTV 4 hts wd_1413 wd_1415 ws_63 wd_14 wd_1416 rfl rfl (by decide +kernel) ⟨Nat.le_of_ble_eq_true rfl, Nat.le_of_ble_eq_true rfl⟩) rfl hl.1 rfl (Nat.le_of_ble_eq_true rfl) dX11_judged_119 ⟨Nat.zero_le _, Nat.zero_le _⟩ (fun r26 σ25 H locs hw hH => ?_)
                  refine lv_icmp_ge (tgt := 129) hx hb dX11_judged_122 (by decide) (fun c27 => ?_) (fun c27 => ?_)
                  · have hw := ifp c27 hw
                    refine lv_iload_n hx hb dX11_judged_129 rfl (lv_at hl 6 rfl) ?_
                    exact mri C hr hk hH hw dX11_judged_130
                  · have hw := ifn c27 hw
                    refine lv_iload_n hx hb dX11_judged_125 rfl (lv_at hl 5 rfl) ?_
                    refine lv_goto (tgt := 130) hx hb dX11_judged_126 (by decide) ?_
                    exact mri C hr hk hH hw dX11_judged_130
                · have hw := ifn c20 hw
                  refine lv_iload hx hb dX11_judged_77 (lv_at hl 1 rfl) ?_
                  refine lv_iload hx hb dX11_judged_79 (lv_at hl 0 rfl) ?_
                  refine lv_icmp_le (tgt := 88) hx hb dX11_judged_81 (by decide) (fun c28 => ?_) (fun c28 => ?_)
                  · have hw := ifp c28 hw
                    refine lv_iload_n hx hb dX11_judged_88 rfl (lv_at hl 5 rfl) ?_
                    exact mri C hr hk hH hw dX11_judged_89
                  · have hw := ifn c28 hw
                    refine lv_iload_n hx hb dX11_judged_84 rfl (lv_at hl 4 rfl) ?_
                    refine lv_goto (tgt := 89) hx hb dX11_judged_85 (by decide) ?_
                    exact mri C hr hk hH hw dX11_judged_89
              · have hw := ifp c19 hw
                refine lv_bipush (v := -2) hx hb dX11_judged_67 (by decide) ?_
                exact mri C hr hk hH hw dX11_judged_69
          · have hw := ifp c13 hw
            refine lv_iconst (v := -1) hx hb dX11_judged_35 (by decide) ?_
            exact mri C hr hk hH hw dX11_judged_36
/-! rates -/
abbrev rm_M_rates : Room := { frames := 2, cells := 0, slots := 0, locals := 42 }
def wp_M_rates (σ : MS) (a1 : Int32) (a2 : Int32) (a3 : Int32) (post : Int32 → MS → Prop) : Prop := wp_M_isFellowship σ a1 (fun r2 σ1 => if r2 = 0 then (post (-1 : Int32) σ1) else (wp_M_in σ1 a2 (0 : Int32) (99 : Int32) (fun r5 σ4 => if r5 = 0 then (post (-1 : Int32) σ4) else (wp_M_in σ4 a3 (0 : Int32) (99 : Int32) (fun r8 σ7 => if r8 = 0 then (post (-1 : Int32) σ7) else (vp_in a1 4 ∧ (∀ σ11 : MS, σ11 = up2 σ7 66 a1.toNatClampNeg a2 → (vp_in a1 4 ∧ (∀ σ13 : MS, σ13 = up2 σ11 67 a1.toNatClampNeg a3 → (post (1 : Int32) σ13))))))))))
set_option maxHeartbeats 4000000 in
set_option maxRecDepth 100000 in
theorem c_M_rates (l : Launch) (D : va_G) (Z : Nat → ClassId) (b : Nat → Nat) (σ : MS) (a1 : Int32) (a2 : Int32) (a3 : Int32) (post : Int32 → MS → Prop) (hw : wp_M_rates σ a1 a2 a3 post) (sz : Nat) : Met l yX11_rates (Wd yX11_rates cX11_rates 4 (some .int)) rm_M_rates (va_Pc [.ref (b 69), .int a1, .int a2, .int a3] (mPre D Z b sz σ)) (va_Qi post (mPost D Z b) (mA b sz)) 0 0 (mA b sz) := by
  refine mMi (by decide) rfl _ (Nat.le_of_ble_eq_true rfl) (fun p e s m args below meth c C hr hk ls hl hH => ?_) sz
  obtain ⟨⟨hx, hb, hml, hown, hts⟩, hK⟩ := id C
  have hl : lv_has ls 4 [(0, .ref (b 69)), (1, .int a1), (2, .int a2), (3, .int a3)] := hl
  unfold wp_M_rates at hw
  refine lv_iload_n hx hb dX11_rates_0 rfl (lv_at hl 1 rfl) ?_
  refine mcSi C hH [.int a1] (fun sz => c_M_isFellowship l D Z b σ a1 _ hw sz) (cwTS 1 hts wd_1283 wd_1284 wd_14 wd_1285 rfl rfl (by decide +kernel) ⟨Nat.le_of_ble_eq_true rfl, Nat.le_of_ble_eq_true rfl⟩) rfl hl.1 rfl (Nat.le_of_ble_eq_true rfl) dX11_rates_1 ⟨Nat.zero_le _, Nat.zero_le _⟩ (fun r2 σ1 H locs hw hH => ?_)
  refine lv_if_eq (tgt := 27) hx hb dX11_rates_4 (by decide) (fun c3 => ?_) (fun c3 => ?_)
  · have hw := ifp c3 hw
    refine lv_iconst (v := -1) hx hb dX11_rates_27 (by decide) ?_
    exact mri C hr hk hH hw dX11_rates_28
  · have hw := ifn c3 hw
    refine lv_iload_n hx hb dX11_rates_7 rfl (lv_at hl 2 rfl) ?_
    refine lv_iconst (v := 0) hx hb dX11_rates_8 (by decide) ?_
    refine lv_bipush (v := 99) hx hb dX11_rates_9 (by decide) ?_
    refine mcSi C hH [.int a2, .int (0 : Int32), .int (99 : Int32)] (fun sz => c_M_in l D Z b σ1 a2 (0 : Int32) (99 : Int32) _ hw sz) (cwTS 3 hts wd_1242 wd_1243 wd_14 wd_1244 rfl rfl (by decide +kernel) ⟨Nat.le_of_ble_eq_true rfl, Nat.le_of_ble_eq_true rfl⟩) rfl hl.1 rfl (Nat.le_of_ble_eq_true rfl) dX11_rates_11 ⟨Nat.zero_le _, Nat.zero_le _⟩ (fun r5 σ4 H locs hw hH => ?_)
    refine lv_if_eq (tgt := 27) hx hb dX11_rates_14 (by decide) (fun c6 => ?_) (fun c6 => ?_)
    · have hw := ifp c6 hw
      refine lv_iconst (v := -1) hx hb dX11_rates_27 (by decide) ?_
      exact mri C hr hk hH hw dX11_rates_28
    · have hw := ifn c6 hw
      refine lv_iload_n hx hb dX11_rates_17 rfl (lv_at hl 3 rfl) ?_
      refine lv_iconst (v := 0) hx hb dX11_rates_18 (by decide) ?_
      refine lv_bipush (v := 99) hx hb dX11_rates_19 (by decide) ?_
      refine mcSi C hH [.int a3, .int (0 : Int32), .int (99 : Int32)] (fun sz => c_M_in l D Z b σ4 a3 (0 : Int32) (99 : Int32) _ hw sz) (cwTS 3 hts wd_1242 wd_1243 wd_14 wd_1244 rfl rfl (by decide +kernel) ⟨Nat.le_of_ble_eq_true rfl, Nat.le_of_ble_eq_true rfl⟩) rfl hl.1 rfl (Nat.le_of_ble_eq_true rfl) dX11_rates_21 ⟨Nat.zero_le _, Nat.zero_le _⟩ (fun r8 σ7 H locs hw hH => ?_)
      refine lv_if_ne (tgt := 29) hx hb dX11_rates_24 (by decide) (fun c9 => ?_) (fun c9 => ?_)
      · have hw := ifn c9 hw
        refine lv_aload_n hx hb dX11_rates_29 rfl (lv_at hl 0 rfl) ?_
        refine mg C hH 66 (by decide) rfl wd_1095 rfl dX11_rates_30 ?_
        refine lv_iload_n hx hb dX11_rates_33 rfl (lv_at hl 1 rfl) ?_
        refine lv_iload_n hx hb dX11_rates_34 rfl (lv_at hl 2 rfl) ?_
        obtain ⟨h10, hw⟩ := hw
        refine msi C hH 52 66 rfl (mast_66 Z b σ7 _ _) h10 dX11_rates_35 (fun H locs hH => ?_)
        have hw := hw _ rfl
        generalize up2 σ7 66 a1.toNatClampNeg a2 = σ11 at hw hH
        refine lv_aload_n hx hb dX11_rates_36 rfl (lv_at hl 0 rfl) ?_
        refine mg C hH 67 (by decide) rfl wd_1096 rfl dX11_rates_37 ?_
        refine lv_iload_n hx hb dX11_rates_40 rfl (lv_at hl 1 rfl) ?_
        refine lv_iload_n hx hb dX11_rates_41 rfl (lv_at hl 3 rfl) ?_
        obtain ⟨h12, hw⟩ := hw
        refine msi C hH 53 67 rfl (mast_67 Z b σ11 _ _) h12 dX11_rates_42 (fun H locs hH => ?_)
        have hw := hw _ rfl
        generalize up2 σ11 67 a1.toNatClampNeg a3 = σ13 at hw hH
        refine lv_iconst (v := 1) hx hb dX11_rates_43 (by decide) ?_
        exact mri C hr hk hH hw dX11_rates_44
      · have hw := ifp c9 hw
        refine lv_iconst (v := -1) hx hb dX11_rates_27 (by decide) ?_
        exact mri C hr hk hH hw dX11_rates_28
/-! foretold -/
abbrev rm_M_foretold : Room := { frames := 2, cells := 0, slots := 0, locals := 42 }
def wp_M_foretold_187 (k78 : MS → Int32 → Int64 → Int64 → Int32 → Prop) (k155 : MS → Int32 → Int64 → Int64 → Int32 → Int32 → Int32 → Prop) (post : Int32 → MS → Prop) (σ : MS) (x1_ : Int32) (x4_ : Int64) (x8_ : Int32) (x9_ : Int32) (x10_ : Int32) (t0_ : Int64) (t1_ : Int64) : Prop := ∀ x1 : Int64, x1 = (t0_ - t1_) → (∀ x2 : Int32, x2 = x10_ + (1 : Int32) → (k155 σ x1_ x4_ x1 x8_ x9_ x2))
set_option maxHeartbeats 4000000 in
set_option maxRecDepth 100000 in
theorem b_M_foretold_187 {p : Program} {l : Launch} {e : Env} {s : State} {m : MethodId} {args : Array Value} {below : List Frame} {meth : Method} {c : Code} {D : va_G} {Z : Nat → ClassId} {b : Nat → Nat} (C : MC p s m args c cX11_foretold 11 D Z) (hr : meth.sig.returnType = some .int) (hk : meth.locks = false) {post : Int32 → MS → Prop} {k78 : MS → Int32 → Int64 → Int64 → Int32 → Prop} (hk78 : ∀ (σ : MS) (y1 : Int32) (y4 : Int64) (y6 : Int64) (y8 : Int32), k78 σ y1 y4 y6 y8 → ∀ (H : Heap) (locs : List Loc) (ls : Array Slot), MH D Z b s.heap σ H locs → lv_has ls 11 [(0, .ref (b 69)), (1, .int y1), (4, .long y4), (6, .long y6), (8, .int y8)] → MWi p l e rm_M_foretold s m args below meth c D Z b post H locs (F0 m 78 ls [])) {k155 : MS → Int32 → Int64 → Int64 → Int32 → Int32 → Int32 → Prop} (hk155 : ∀ (σ : MS) (y1 : Int32) (y4 : Int64) (y6 : Int64) (y8 : Int32) (y9 : Int32) (y10 : Int32), k155 σ y1 y4 y6 y8 y9 y10 → ∀ (H : Heap) (locs : List Loc) (ls : Array Slot), MH D Z b s.heap σ H locs → lv_has ls 11 [(0, .ref (b 69)), (1, .int y1), (4, .long y4), (6, .long y6), (8, .int y8), (9, .int y9), (10, .int y10)] → MWi p l e rm_M_foretold s m args below meth c D Z b post H locs (F0 m 155 ls [])) : ∀ (σ : MS) (x1_ : Int32) (x4_ : Int64) (x8_ : Int32) (x9_ : Int32) (x10_ : Int32) (t0_ : Int64) (t1_ : Int64), wp_M_foretold_187 k78 k155 post σ x1_ x4_ x8_ x9_ x10_ t0_ t1_ → ∀ (H : Heap) (locs : List Loc) (ls : Array Slot), MH D Z b s.heap σ H locs → lv_has ls 11 [(0, .ref (b 69)), (1, .int x1_), (4, .long x4_), (8, .int x8_), (9, .int x9_), (10, .int x10_)] → MWi p l e rm_M_foretold s m args below meth c D Z b post H locs (F0 m 187 ls [.long t1_, .long t0_]) := by
  obtain ⟨⟨hx, hb, hml, hown, hts⟩, hK⟩ := id C
  intro σ x1_ x4_ x8_ x9_ x10_ t0_ t1_ hw H locs ls hH hl
  unfold wp_M_foretold_187 at hw
  refine lv_lsub hx hb dX11_foretold_187 ?_
  refine lv_topl (fun x1 ex1 => ?_)
  have hw := hw x1 ex1
  refine lv_lstore (lv' := [(6, .long x1), (0, .ref (b 69)), (1, .int x1_), (4, .long x4_), (8, .int x8_), (9, .int x9_), (10, .int x10_)]) hx hb dX11_foretold_188 hl (by decide) rfl (fun ls hl => ?_)
  obtain ⟨x2, ex2⟩ : ∃ y : Int32, y = x10_ + (1 : Int32) := ⟨_, rfl⟩
  have hw := hw x2 ex2
  refine lv_iinc (v := x2) (lv' := [(10, .int x2), (6, .long x1), (0, .ref (b 69)), (1, .int x1_), (4, .long x4_), (8, .int x8_), (9, .int x9_)]) hx hb dX11_foretold_190 hl (k := 6) rfl (by rw [ex2]; rfl) (by decide) rfl (fun ls hl => ?_)
  refine lv_goto (tgt := 155) hx hb dX11_foretold_193 (by decide) ?_
  exact hk155 σ x1_ x4_ x1 x8_ x9_ x2 hw _ _ _ hH (lv_sub hl [2, 3, 4, 1, 5, 6, 0] rfl)
def wp_M_foretold_155 (k78 : MS → Int32 → Int64 → Int64 → Int32 → Prop) (post : Int32 → MS → Prop) : Nat → MS → Int32 → Int64 → Int64 → Int32 → Int32 → Int32 → Prop
  | 0 => fun _ _ _ _ _ _ _ => False
  | n + 1 => fun σ x1_ x4_ x6_ x8_ x9_ x10_ => if (σ 10 0) ≤ x10_ then (if 0 ≤ (lg_cmp x6_ (0 : Int64)) then (∀ x5 : Int32, x5 = x8_ + (1 : Int32) → (k78 σ x1_ x4_ x6_ x5)) else (post x9_ σ)) else (wp_M_isOld σ x10_ x1_ (fun r7 σ6 => if r7 = 0 then (wp_M_foretold_187 (k78) (wp_M_foretold_155 k78 post n) post σ6 x1_ x4_ x8_ x9_ x10_ x6_ (0 : Int64)) else (vp_in x1_ 4 ∧ (wp_M_foretold_187 (k78) (wp_M_foretold_155 k78 post n) post σ6 x1_ x4_ x8_ x9_ x10_ x6_ ((σ6 67 x1_.toNatClampNeg).toInt64)))))
set_option maxHeartbeats 4000000 in
set_option maxRecDepth 100000 in
theorem b_M_foretold_155 {p : Program} {l : Launch} {e : Env} {s : State} {m : MethodId} {args : Array Value} {below : List Frame} {meth : Method} {c : Code} {D : va_G} {Z : Nat → ClassId} {b : Nat → Nat} (C : MC p s m args c cX11_foretold 11 D Z) (hr : meth.sig.returnType = some .int) (hk : meth.locks = false) {post : Int32 → MS → Prop} {k78 : MS → Int32 → Int64 → Int64 → Int32 → Prop} (hk78 : ∀ (σ : MS) (y1 : Int32) (y4 : Int64) (y6 : Int64) (y8 : Int32), k78 σ y1 y4 y6 y8 → ∀ (H : Heap) (locs : List Loc) (ls : Array Slot), MH D Z b s.heap σ H locs → lv_has ls 11 [(0, .ref (b 69)), (1, .int y1), (4, .long y4), (6, .long y6), (8, .int y8)] → MWi p l e rm_M_foretold s m args below meth c D Z b post H locs (F0 m 78 ls [])) : ∀ (n : Nat) (σ : MS) (x1_ : Int32) (x4_ : Int64) (x6_ : Int64) (x8_ : Int32) (x9_ : Int32) (x10_ : Int32), wp_M_foretold_155 k78 post n σ x1_ x4_ x6_ x8_ x9_ x10_ → ∀ (H : Heap) (locs : List Loc) (ls : Array Slot), MH D Z b s.heap σ H locs → lv_has ls 11 [(0, .ref (b 69)), (1, .int x1_), (4, .long x4_), (6, .long x6_), (8, .int x8_), (9, .int x9_), (10, .int x10_)] → MWi p l e rm_M_foretold s m args below meth c D Z b post H locs (F0 m 155 ls []) := by
  obtain ⟨⟨hx, hb, hml, hown, hts⟩, hK⟩ := id C
  intro n
  induction n with
  | zero => intro σ x1_ x4_ x6_ x8_ x9_ x10_ hw; exact hw.elim
  | succ n ih =>
    intro σ x1_ x4_ x6_ x8_ x9_ x10_ hw H locs ls hH hl
    unfold wp_M_foretold_155 at hw
    refine lv_iload hx hb dX11_foretold_155 (lv_at hl 6 rfl) ?_
    refine lv_aload_n hx hb dX11_foretold_157 rfl (lv_at hl 0 rfl) ?_
    refine mg C hH 10 (by decide) rfl wd_1039 rfl dX11_foretold_158 ?_
    refine lv_icmp_ge (tgt := 196) hx hb dX11_foretold_161 (by decide) (fun c3 => ?_) (fun c3 => ?_)
    · have hw := ifp c3 hw
      refine lv_lload hx hb dX11_foretold_196 (lv_at hl 3 rfl) ?_
      refine lv_lconst (v := 0) hx hb dX11_foretold_198 (by decide) ?_
      refine W.lcmp hx hb dX11_foretold_199 ?_
      refine lv_if_ge (tgt := 206) hx hb dX11_foretold_200 (by decide) (fun c4 => ?_) (fun c4 => ?_)
      · have hw := ifp c4 hw
        obtain ⟨x5, ex5⟩ : ∃ y : Int32, y = x8_ + (1 : Int32) := ⟨_, rfl⟩
        have hw := hw x5 ex5
        refine lv_iinc (v := x5) (lv' := [(8, .int x5), (0, .ref (b 69)), (1, .int x1_), (4, .long x4_), (6, .long x6_), (9, .int x9_), (10, .int x10_)]) hx hb dX11_foretold_206 hl (k := 4) rfl (by rw [ex5]; rfl) (by decide) rfl (fun ls hl => ?_)
        refine lv_goto (tgt := 78) hx hb dX11_foretold_209 (by decide) ?_
        exact hk78 σ x1_ x4_ x6_ x5 hw _ _ _ hH (lv_sub hl [1, 2, 3, 4, 0] rfl)
      · have hw := ifn c4 hw
        refine lv_iload hx hb dX11_foretold_203 (lv_at hl 5 rfl) ?_
        exact mri C hr hk hH hw dX11_foretold_205
    · have hw := ifn c3 hw
      refine lv_lload hx hb dX11_foretold_164 (lv_at hl 3 rfl) ?_
      refine lv_aload_n hx hb dX11_foretold_166 rfl (lv_at hl 0 rfl) ?_
      refine lv_iload hx hb dX11_foretold_167 (lv_at hl 6 rfl) ?_
      refine lv_iload_n hx hb dX11_foretold_169 rfl (lv_at hl 1 rfl) ?_
      refine mcVi C hH [.int x10_, .int x1_] (fun sz => c_M_isOld l D Z b σ x10_ x1_ _ hw sz) (cwTV 2 hts wd_1534 wd_1536 ws_81 wd_14 wd_1537 rfl rfl (by decide +kernel) ⟨Nat.le_of_ble_eq_true rfl, Nat.le_of_ble_eq_true rfl⟩) rfl hl.1 rfl (Nat.le_of_ble_eq_true rfl) dX11_foretold_170 ⟨Nat.zero_le _, Nat.zero_le _⟩ (fun r7 σ6 H locs hw hH => ?_)
      refine lv_if_eq (tgt := 186) hx hb dX11_foretold_173 (by decide) (fun c8 => ?_) (fun c8 => ?_)
      · have hw := ifp c8 hw
        refine lv_lconst (v := 0) hx hb dX11_foretold_186 (by decide) ?_
        exact b_M_foretold_187 C hr hk hk78 ih σ6 x1_ x4_ x8_ x9_ x10_ x6_ (0 : Int64) hw _ _ _ hH (lv_sub hl [0, 1, 2, 4, 5, 6] rfl)
      · have hw := ifn c8 hw
        refine lv_aload_n hx hb dX11_foretold_176 rfl (lv_at hl 0 rfl) ?_
        refine mg C hH 67 (by decide) rfl wd_1096 rfl dX11_foretold_177 ?_
        refine lv_iload_n hx hb dX11_foretold_180 rfl (lv_at hl 1 rfl) ?_
        obtain ⟨h9, hw⟩ := hw
        refine mai C hH 53 67 rfl h9 dX11_foretold_181 ?_
        refine lv_i2l hx hb dX11_foretold_182 rfl ?_
        refine lv_goto (tgt := 187) hx hb dX11_foretold_183 (by decide) ?_
        exact b_M_foretold_187 C hr hk hk78 ih σ6 x1_ x4_ x8_ x9_ x10_ x6_ ((σ6 67 x1_.toNatClampNeg).toInt64) hw _ _ _ hH (lv_sub hl [0, 1, 2, 4, 5, 6] rfl)
def wp_M_foretold_143 (k78 : MS → Int32 → Int64 → Int64 → Int32 → Prop) (k105 : MS → Int32 → Int64 → Int64 → Int32 → Int32 → Int32 → Prop) (post : Int32 → MS → Prop) (σ : MS) (x1_ : Int32) (x4_ : Int64) (x8_ : Int32) (x9_ : Int32) (x10_ : Int32) (t0_ : Int64) (t1_ : Int64) : Prop := ∀ x10 : Int64, x10 = (t0_ - t1_) → (∀ x11 : Int32, x11 = x10_ + (1 : Int32) → (k105 σ x1_ x4_ x10 x8_ x9_ x11))
set_option maxHeartbeats 4000000 in
set_option maxRecDepth 100000 in
theorem b_M_foretold_143 {p : Program} {l : Launch} {e : Env} {s : State} {m : MethodId} {args : Array Value} {below : List Frame} {meth : Method} {c : Code} {D : va_G} {Z : Nat → ClassId} {b : Nat → Nat} (C : MC p s m args c cX11_foretold 11 D Z) (hr : meth.sig.returnType = some .int) (hk : meth.locks = false) {post : Int32 → MS → Prop} {k78 : MS → Int32 → Int64 → Int64 → Int32 → Prop} (hk78 : ∀ (σ : MS) (y1 : Int32) (y4 : Int64) (y6 : Int64) (y8 : Int32), k78 σ y1 y4 y6 y8 → ∀ (H : Heap) (locs : List Loc) (ls : Array Slot), MH D Z b s.heap σ H locs → lv_has ls 11 [(0, .ref (b 69)), (1, .int y1), (4, .long y4), (6, .long y6), (8, .int y8)] → MWi p l e rm_M_foretold s m args below meth c D Z b post H locs (F0 m 78 ls [])) {k105 : MS → Int32 → Int64 → Int64 → Int32 → Int32 → Int32 → Prop} (hk105 : ∀ (σ : MS) (y1 : Int32) (y4 : Int64) (y6 : Int64) (y8 : Int32) (y9 : Int32) (y10 : Int32), k105 σ y1 y4 y6 y8 y9 y10 → ∀ (H : Heap) (locs : List Loc) (ls : Array Slot), MH D Z b s.heap σ H locs → lv_has ls 11 [(0, .ref (b 69)), (1, .int y1), (4, .long y4), (6, .long y6), (8, .int y8), (9, .int y9), (10, .int y10)] → MWi p l e rm_M_foretold s m args below meth c D Z b post H locs (F0 m 105 ls [])) : ∀ (σ : MS) (x1_ : Int32) (x4_ : Int64) (x8_ : Int32) (x9_ : Int32) (x10_ : Int32) (t0_ : Int64) (t1_ : Int64), wp_M_foretold_143 k78 k105 post σ x1_ x4_ x8_ x9_ x10_ t0_ t1_ → ∀ (H : Heap) (locs : List Loc) (ls : Array Slot), MH D Z b s.heap σ H locs → lv_has ls 11 [(0, .ref (b 69)), (1, .int x1_), (4, .long x4_), (8, .int x8_), (9, .int x9_), (10, .int x10_)] → MWi p l e rm_M_foretold s m args below meth c D Z b post H locs (F0 m 143 ls [.long t1_, .long t0_]) := by
  obtain ⟨⟨hx, hb, hml, hown, hts⟩, hK⟩ := id C
  intro σ x1_ x4_ x8_ x9_ x10_ t0_ t1_ hw H locs ls hH hl
  unfold wp_M_foretold_143 at hw
  refine lv_lsub hx hb dX11_foretold_143 ?_
  refine lv_topl (fun x10 ex10 => ?_)
  have hw := hw x10 ex10
  refine lv_lstore (lv' := [(6, .long x10), (0, .ref (b 69)), (1, .int x1_), (4, .long x4_), (8, .int x8_), (9, .int x9_), (10, .int x10_)]) hx hb dX11_foretold_144 hl (by decide) rfl (fun ls hl => ?_)
  obtain ⟨x11, ex11⟩ : ∃ y : Int32, y = x10_ + (1 : Int32) := ⟨_, rfl⟩
  have hw := hw x11 ex11
  refine lv_iinc (v := x11) (lv' := [(10, .int x11), (6, .long x10), (0, .ref (b 69)), (1, .int x1_), (4, .long x4_), (8, .int x8_), (9, .int x9_)]) hx hb dX11_foretold_146 hl (k := 6) rfl (by rw [ex11]; rfl) (by decide) rfl (fun ls hl => ?_)
  refine lv_goto (tgt := 105) hx hb dX11_foretold_149 (by decide) ?_
  exact hk105 σ x1_ x4_ x10 x8_ x9_ x11 hw _ _ _ hH (lv_sub hl [2, 3, 4, 1, 5, 6, 0] rfl)
def wp_M_foretold_105 (k78 : MS → Int32 → Int64 → Int64 → Int32 → Prop) (post : Int32 → MS → Prop) : Nat → MS → Int32 → Int64 → Int64 → Int32 → Int32 → Int32 → Prop
  | 0 => fun _ _ _ _ _ _ _ => False
  | n + 1 => fun σ x1_ x4_ x6_ x8_ x9_ x10_ => if (σ 10 0) ≤ x10_ then (∃ nn : Nat, wp_M_foretold_155 (k78) post nn σ x1_ x4_ x6_ x8_ x9_ (0 : Int32)) else (wp_M_isHelped σ x10_ x1_ ((600 : Int32) * x9_) (fun r14 σ13 => if r14 = 0 then (wp_M_foretold_143 (k78) (wp_M_foretold_105 k78 post n) post σ13 x1_ x4_ x8_ x9_ x10_ x6_ (0 : Int64)) else (vp_in x1_ 4 ∧ (wp_M_foretold_143 (k78) (wp_M_foretold_105 k78 post n) post σ13 x1_ x4_ x8_ x9_ x10_ x6_ ((σ13 66 x1_.toNatClampNeg).toInt64)))))
set_option maxHeartbeats 4000000 in
set_option maxRecDepth 100000 in
theorem b_M_foretold_105 {p : Program} {l : Launch} {e : Env} {s : State} {m : MethodId} {args : Array Value} {below : List Frame} {meth : Method} {c : Code} {D : va_G} {Z : Nat → ClassId} {b : Nat → Nat} (C : MC p s m args c cX11_foretold 11 D Z) (hr : meth.sig.returnType = some .int) (hk : meth.locks = false) {post : Int32 → MS → Prop} {k78 : MS → Int32 → Int64 → Int64 → Int32 → Prop} (hk78 : ∀ (σ : MS) (y1 : Int32) (y4 : Int64) (y6 : Int64) (y8 : Int32), k78 σ y1 y4 y6 y8 → ∀ (H : Heap) (locs : List Loc) (ls : Array Slot), MH D Z b s.heap σ H locs → lv_has ls 11 [(0, .ref (b 69)), (1, .int y1), (4, .long y4), (6, .long y6), (8, .int y8)] → MWi p l e rm_M_foretold s m args below meth c D Z b post H locs (F0 m 78 ls [])) : ∀ (n : Nat) (σ : MS) (x1_ : Int32) (x4_ : Int64) (x6_ : Int64) (x8_ : Int32) (x9_ : Int32) (x10_ : Int32), wp_M_foretold_105 k78 post n σ x1_ x4_ x6_ x8_ x9_ x10_ → ∀ (H : Heap) (locs : List Loc) (ls : Array Slot), MH D Z b s.heap σ H locs → lv_has ls 11 [(0, .ref (b 69)), (1, .int x1_), (4, .long x4_), (6, .long x6_), (8, .int x8_), (9, .int x9_), (10, .int x10_)] → MWi p l e rm_M_foretold s m args below meth c D Z b post H locs (F0 m 105 ls []) := by
  obtain ⟨⟨hx, hb, hml, hown, hts⟩, hK⟩ := id C
  intro n
  induction n with
  | zero => intro σ x1_ x4_ x6_ x8_ x9_ x10_ hw; exact hw.elim
  | succ n ih =>
    intro σ x1_ x4_ x6_ x8_ x9_ x10_ hw H locs ls hH hl
    unfold wp_M_foretold_105 at hw
    refine lv_iload hx hb dX11_foretold_105 (lv_at hl 6 rfl) ?_
    refine lv_aload_n hx hb dX11_foretold_107 rfl (lv_at hl 0 rfl) ?_
    refine mg C hH 10 (by decide) rfl wd_1039 rfl dX11_foretold_108 ?_
    refine lv_icmp_ge (tgt := 152) hx hb dX11_foretold_111 (by decide) (fun c12 => ?_) (fun c12 => ?_)
    · have hw := ifp c12 hw
      refine lv_iconst (v := 0) hx hb dX11_foretold_152 (by decide) ?_
      refine lv_istore (lv' := [(10, .int (0 : Int32)), (0, .ref (b 69)), (1, .int x1_), (4, .long x4_), (6, .long x6_), (8, .int x8_), (9, .int x9_)]) hx hb dX11_foretold_153 hl (by decide) rfl (fun ls hl => ?_)
      obtain ⟨nn, hw⟩ := hw
      exact b_M_foretold_155 C hr hk hk78 nn σ x1_ x4_ x6_ x8_ x9_ (0 : Int32) hw _ _ _ hH (lv_sub hl [1, 2, 3, 4, 5, 6, 0] rfl)
    · have hw := ifn c12 hw
      refine lv_lload hx hb dX11_foretold_114 (lv_at hl 3 rfl) ?_
      refine lv_aload_n hx hb dX11_foretold_116 rfl (lv_at hl 0 rfl) ?_
      refine lv_iload hx hb dX11_foretold_117 (lv_at hl 6 rfl) ?_
      refine lv_iload_n hx hb dX11_foretold_119 rfl (lv_at hl 1 rfl) ?_
      refine lv_sipush (v := 600) hx hb dX11_foretold_120 (by decide) ?_
      refine lv_iload hx hb dX11_foretold_123 (lv_at hl 5 rfl) ?_
      refine lv_imul hx hb dX11_foretold_125 ?_
      refine mcVi C hH [.int x10_, .int x1_, .int ((600 : Int32) * x9_)] (fun sz => c_M_isHelped l D Z b σ x10_ x1_ ((600 : Int32) * x9_) _ hw sz) (cwTV 3 hts wd_1526 wd_1528 ws_79 wd_14 wd_1529 rfl rfl (by decide +kernel) ⟨Nat.le_of_ble_eq_true rfl, Nat.le_of_ble_eq_true rfl⟩) rfl hl.1 rfl (Nat.le_of_ble_eq_true rfl) dX11_foretold_126 ⟨Nat.zero_le _, Nat.zero_le _⟩ (fun r14 σ13 H locs hw hH => ?_)
      refine lv_if_eq (tgt := 142) hx hb dX11_foretold_129 (by decide) (fun c15 => ?_) (fun c15 => ?_)
      · have hw := ifp c15 hw
        refine lv_lconst (v := 0) hx hb dX11_foretold_142 (by decide) ?_
        exact b_M_foretold_143 C hr hk hk78 ih σ13 x1_ x4_ x8_ x9_ x10_ x6_ (0 : Int64) hw _ _ _ hH (lv_sub hl [0, 1, 2, 4, 5, 6] rfl)
      · have hw := ifn c15 hw
        refine lv_aload_n hx hb dX11_foretold_132 rfl (lv_at hl 0 rfl) ?_
        refine mg C hH 66 (by decide) rfl wd_1095 rfl dX11_foretold_133 ?_
        refine lv_iload_n hx hb dX11_foretold_136 rfl (lv_at hl 1 rfl) ?_
        obtain ⟨h16, hw⟩ := hw
        refine mai C hH 52 66 rfl h16 dX11_foretold_137 ?_
        refine lv_i2l hx hb dX11_foretold_138 rfl ?_
        refine lv_goto (tgt := 143) hx hb dX11_foretold_139 (by decide) ?_
        exact b_M_foretold_143 C hr hk hk78 ih σ13 x1_ x4_ x8_ x9_ x10_ x6_ ((σ13 66 x1_.toNatClampNeg).toInt64) hw _ _ _ hH (lv_sub hl [0, 1, 2, 4, 5, 6] rfl)
def wp_M_foretold_78 (post : Int32 → MS → Prop) : Nat → MS → Int32 → Int64 → Int64 → Int32 → Prop
  | 0 => fun _ _ _ _ _ => False
  | n + 1 => fun σ x1_ x4_ x6_ x8_ => if (400 : Int32) < x8_ then (post (-2 : Int32) σ) else (wp_M_today σ  (fun r19 σ18 => ∀ x20 : Int32, x20 = (r19 + x8_) → (∀ x21 : Int64, x21 = (x6_ + x4_) → (∃ nn : Nat, wp_M_foretold_105 (wp_M_foretold_78  post n) post nn σ18 x1_ x4_ x21 x8_ x20 (0 : Int32)))))
set_option maxHeartbeats 4000000 in
set_option maxRecDepth 100000 in
theorem b_M_foretold_78 {p : Program} {l : Launch} {e : Env} {s : State} {m : MethodId} {args : Array Value} {below : List Frame} {meth : Method} {c : Code} {D : va_G} {Z : Nat → ClassId} {b : Nat → Nat} (C : MC p s m args c cX11_foretold 11 D Z) (hr : meth.sig.returnType = some .int) (hk : meth.locks = false) {post : Int32 → MS → Prop} : ∀ (n : Nat) (σ : MS) (x1_ : Int32) (x4_ : Int64) (x6_ : Int64) (x8_ : Int32), wp_M_foretold_78  post n σ x1_ x4_ x6_ x8_ → ∀ (H : Heap) (locs : List Loc) (ls : Array Slot), MH D Z b s.heap σ H locs → lv_has ls 11 [(0, .ref (b 69)), (1, .int x1_), (4, .long x4_), (6, .long x6_), (8, .int x8_)] → MWi p l e rm_M_foretold s m args below meth c D Z b post H locs (F0 m 78 ls []) := by
  obtain ⟨⟨hx, hb, hml, hown, hts⟩, hK⟩ := id C
  intro n
  induction n with
  | zero => intro σ x1_ x4_ x6_ x8_ hw; exact hw.elim
  | succ n ih =>
    intro σ x1_ x4_ x6_ x8_ hw H locs ls hH hl
    unfold wp_M_foretold_78 at hw
    refine lv_iload hx hb dX11_foretold_78 (lv_at hl 4 rfl) ?_
    refine lv_sipush (v := 400) hx hb dX11_foretold_80 (by decide) ?_
    refine lv_icmp_gt (tgt := 212) hx hb dX11_foretold_83 (by decide) (fun c17 => ?_) (fun c17 => ?_)
    · have hw := ifp c17 hw
      refine lv_bipush (v := -2) hx hb dX11_foretold_212 (by decide) ?_
      exact mri C hr hk hH hw dX11_foretold_214
    · have hw := ifn c17 hw
      refine lv_aload_n hx hb dX11_foretold_86 rfl (lv_at hl 0 rfl) ?_
      refine mcVi C hH [] (fun sz => c_M_today l D Z b σ  _ hw sz) (cwTV 0 hts wd_1405 wd_1407 ws_62 wd_14 wd_1408 rfl rfl (by decide +kernel) ⟨Nat.le_of_ble_eq_true rfl, Nat.le_of_ble_eq_true rfl⟩) rfl hl.1 rfl (Nat.le_of_ble_eq_true rfl) dX11_foretold_87 ⟨Nat.zero_le _, Nat.zero_le _⟩ (fun r19 σ18 H locs hw hH => ?_)
      refine lv_iload hx hb dX11_foretold_90 (lv_at hl 4 rfl) ?_
      refine lv_iadd hx hb dX11_foretold_92 ?_
      refine lv_topi (fun x20 ex20 => ?_)
      have hw := hw x20 ex20
      refine lv_istore (lv' := [(9, .int x20), (0, .ref (b 69)), (1, .int x1_), (4, .long x4_), (6, .long x6_), (8, .int x8_)]) hx hb dX11_foretold_93 hl (by decide) rfl (fun ls hl => ?_)
      refine lv_lload hx hb dX11_foretold_95 (lv_at hl 4 rfl) ?_
      refine lv_lload hx hb dX11_foretold_97 (lv_at hl 3 rfl) ?_
      refine lv_ladd hx hb dX11_foretold_99 ?_
      refine lv_topl (fun x21 ex21 => ?_)
      have hw := hw x21 ex21
      refine lv_lstore (lv' := [(6, .long x21), (9, .int x20), (0, .ref (b 69)), (1, .int x1_), (4, .long x4_), (8, .int x8_)]) hx hb dX11_foretold_100 hl (by decide) rfl (fun ls hl => ?_)
      refine lv_iconst (v := 0) hx hb dX11_foretold_102 (by decide) ?_
      refine lv_istore (lv' := [(10, .int (0 : Int32)), (6, .long x21), (9, .int x20), (0, .ref (b 69)), (1, .int x1_), (4, .long x4_), (8, .int x8_)]) hx hb dX11_foretold_103 hl (by decide) rfl (fun ls hl => ?_)
      obtain ⟨nn, hw⟩ := hw
      exact b_M_foretold_105 C hr hk ih nn σ18 x1_ x4_ x21 x8_ x20 (0 : Int32) hw _ _ _ hH (lv_sub hl [3, 4, 5, 1, 6, 2, 0] rfl)
def wp_M_foretold_64 (post : Int32 → MS → Prop) (σ : MS) (x1_ : Int32) (t0_ : Int64) : Prop := vp_in x1_ 4 ∧ (∀ x23 : Int64, x23 = ((σ 63 x1_.toNatClampNeg).toInt64) → (∃ nn : Nat, wp_M_foretold_78  post nn σ x1_ t0_ x23 (1 : Int32)))
set_option maxHeartbeats 4000000 in
set_option maxRecDepth 100000 in
theorem b_M_foretold_64 {p : Program} {l : Launch} {e : Env} {s : State} {m : MethodId} {args : Array Value} {below : List Frame} {meth : Method} {c : Code} {D : va_G} {Z : Nat → ClassId} {b : Nat → Nat} (C : MC p s m args c cX11_foretold 11 D Z) (hr : meth.sig.returnType = some .int) (hk : meth.locks = false) {post : Int32 → MS → Prop} : ∀ (σ : MS) (x1_ : Int32) (t0_ : Int64), wp_M_foretold_64  post σ x1_ t0_ → ∀ (H : Heap) (locs : List Loc) (ls : Array Slot), MH D Z b s.heap σ H locs → lv_has ls 11 [(0, .ref (b 69)), (1, .int x1_)] → MWi p l e rm_M_foretold s m args below meth c D Z b post H locs (F0 m 64 ls [.long t0_]) := by
  obtain ⟨⟨hx, hb, hml, hown, hts⟩, hK⟩ := id C
  intro σ x1_ t0_ hw H locs ls hH hl
  unfold wp_M_foretold_64 at hw
  refine lv_lstore (lv' := [(4, .long t0_), (0, .ref (b 69)), (1, .int x1_)]) hx hb dX11_foretold_64 hl (by decide) rfl (fun ls hl => ?_)
  refine lv_aload_n hx hb dX11_foretold_66 rfl (lv_at hl 1 rfl) ?_
  refine mg C hH 63 (by decide) rfl wd_1092 rfl dX11_foretold_67 ?_
  refine lv_iload_n hx hb dX11_foretold_70 rfl (lv_at hl 2 rfl) ?_
  obtain ⟨h22, hw⟩ := hw
  refine mai C hH 49 63 rfl h22 dX11_foretold_71 ?_
  refine lv_i2l hx hb dX11_foretold_72 rfl ?_
  refine lv_topl (fun x23 ex23 => ?_)
  have hw := hw x23 ex23
  refine lv_lstore (lv' := [(6, .long x23), (4, .long t0_), (0, .ref (b 69)), (1, .int x1_)]) hx hb dX11_foretold_73 hl (by decide) rfl (fun ls hl => ?_)
  refine lv_iconst (v := 1) hx hb dX11_foretold_75 (by decide) ?_
  refine lv_istore (lv' := [(8, .int (1 : Int32)), (6, .long x23), (4, .long t0_), (0, .ref (b 69)), (1, .int x1_)]) hx hb dX11_foretold_76 hl (by decide) rfl (fun ls hl => ?_)
  obtain ⟨nn, hw⟩ := hw
  exact b_M_foretold_78 C hr hk  nn σ x1_ t0_ x23 (1 : Int32) hw _ _ _ hH (lv_sub hl [3, 4, 2, 1, 0] rfl)
def wp_M_foretold_14 (post : Int32 → MS → Prop) : Nat → MS → Int32 → Int64 → Int32 → Prop
  | 0 => fun _ _ _ _ => False
  | n + 1 => fun σ x1_ x2_ x4_ => wp_M_today σ  (fun r25 σ24 => if r25 ≤ x4_ then (wp_M_today σ24  (fun r28 σ27 => if r28 = 0 then (wp_M_foretold_64 post σ27 x1_ (0 : Int64)) else (wp_M_today σ27  (fun r31 σ30 => ¬ (r31.toInt64) = 0 ∧ (wp_M_foretold_64 post σ30 x1_ (x2_ / (r31.toInt64))))))) else (vp_in (((167 : Int32) * x1_) + x4_) 668 ∧ (∀ x34 : Int64, x34 = (x2_ + ((σ24 68 (((167 : Int32) * x1_) + x4_).toNatClampNeg).toInt64)) → (∀ x35 : Int32, x35 = x4_ + (1 : Int32) → (wp_M_foretold_14  post n σ24 x1_ x34 x35)))))
set_option maxHeartbeats 4000000 in
set_option maxRecDepth 100000 in
theorem b_M_foretold_14 {p : Program} {l : Launch} {e : Env} {s : State} {m : MethodId} {args : Array Value} {below : List Frame} {meth : Method} {c : Code} {D : va_G} {Z : Nat → ClassId} {b : Nat → Nat} (C : MC p s m args c cX11_foretold 11 D Z) (hr : meth.sig.returnType = some .int) (hk : meth.locks = false) {post : Int32 → MS → Prop} : ∀ (n : Nat) (σ : MS) (x1_ : Int32) (x2_ : Int64) (x4_ : Int32), wp_M_foretold_14  post n σ x1_ x2_ x4_ → ∀ (H : Heap) (locs : List Loc) (ls : Array Slot), MH D Z b s.heap σ H locs → lv_has ls 11 [(0, .ref (b 69)), (1, .int x1_), (2, .long x2_), (4, .int x4_)] → MWi p l e rm_M_foretold s m args below meth c D Z b post H locs (F0 m 14 ls []) := by
  obtain ⟨⟨hx, hb, hml, hown, hts⟩, hK⟩ := id C
  intro n
  induction n with
  | zero => intro σ x1_ x2_ x4_ hw; exact hw.elim
  | succ n ih =>
    intro σ x1_ x2_ x4_ hw H locs ls hH hl
    unfold wp_M_foretold_14 at hw
    refine lv_iload hx hb dX11_foretold_14 (lv_at hl 3 rfl) ?_
    refine lv_aload_n hx hb dX11_foretold_16 rfl (lv_at hl 0 rfl) ?_
    refine mcVi C hH [] (fun sz => c_M_today l D Z b σ  _ hw sz) (cwTV 0 hts wd_1405 wd_1407 ws_62 wd_14 wd_1408 rfl rfl (by decide +kernel) ⟨Nat.le_of_ble_eq_true rfl, Nat.le_of_ble_eq_true rfl⟩) rfl hl.1 rfl (Nat.le_of_ble_eq_true rfl) dX11_foretold_17 ⟨Nat.zero_le _, Nat.zero_le _⟩ (fun r25 σ24 H locs hw hH => ?_)
    refine lv_icmp_ge (tgt := 46) hx hb dX11_foretold_20 (by decide) (fun c26 => ?_) (fun c26 => ?_)
    · have hw := ifp c26 hw
      refine lv_aload_n hx hb dX11_foretold_46 rfl (lv_at hl 0 rfl) ?_
      refine mcVi C hH [] (fun sz => c_M_today l D Z b σ24  _ hw sz) (cwTV 0 hts wd_1405 wd_1407 ws_62 wd_14 wd_1408 rfl rfl (by decide +kernel) ⟨Nat.le_of_ble_eq_true rfl, Nat.le_of_ble_eq_true rfl⟩) rfl hl.1 rfl (Nat.le_of_ble_eq_true rfl) dX11_foretold_47 ⟨Nat.zero_le _, Nat.zero_le _⟩ (fun r28 σ27 H locs hw hH => ?_)
      refine lv_if_ne (tgt := 57) hx hb dX11_foretold_50 (by decide) (fun c29 => ?_) (fun c29 => ?_)
      · have hw := ifn c29 hw
        refine lv_lload_n hx hb dX11_foretold_57 rfl (lv_at hl 2 rfl) ?_
        refine lv_aload_n hx hb dX11_foretold_58 rfl (lv_at hl 0 rfl) ?_
        refine mcVi C hH [] (fun sz => c_M_today l D Z b σ27  _ hw sz) (cwTV 0 hts wd_1405 wd_1407 ws_62 wd_14 wd_1408 rfl rfl (by decide +kernel) ⟨Nat.le_of_ble_eq_true rfl, Nat.le_of_ble_eq_true rfl⟩) rfl hl.1 rfl (Nat.le_of_ble_eq_true rfl) dX11_foretold_59 ⟨Nat.zero_le _, Nat.zero_le _⟩ (fun r31 σ30 H locs hw hH => ?_)
        refine lv_i2l hx hb dX11_foretold_62 rfl ?_
        obtain ⟨h32, hw⟩ := hw
        refine lv_ldiv hx hb dX11_foretold_63 h32 ?_
        exact b_M_foretold_64 C hr hk  σ30 x1_ (x2_ / (r31.toInt64)) hw _ _ _ hH (lv_sub hl [0, 1] rfl)
      · have hw := ifp c29 hw
        refine lv_lconst (v := 0) hx hb dX11_foretold_53 (by decide) ?_
        refine lv_goto (tgt := 64) hx hb dX11_foretold_54 (by decide) ?_
        exact b_M_foretold_64 C hr hk  σ27 x1_ (0 : Int64) hw _ _ _ hH (lv_sub hl [0, 1] rfl)
    · have hw := ifn c26 hw
      refine lv_lload_n hx hb dX11_foretold_23 rfl (lv_at hl 2 rfl) ?_
      refine lv_aload_n hx hb dX11_foretold_24 rfl (lv_at hl 0 rfl) ?_
      refine mg C hH 68 (by decide) rfl wd_1097 rfl dX11_foretold_25 ?_
      refine lv_sipush (v := 167) hx hb dX11_foretold_28 (by decide) ?_
      refine lv_iload_n hx hb dX11_foretold_31 rfl (lv_at hl 1 rfl) ?_
      refine lv_imul hx hb dX11_foretold_32 ?_
      refine lv_iload hx hb dX11_foretold_33 (lv_at hl 3 rfl) ?_
      refine lv_iadd hx hb dX11_foretold_35 ?_
      obtain ⟨h33, hw⟩ := hw
      refine mai C hH 54 68 rfl h33 dX11_foretold_36 ?_
      refine lv_i2l hx hb dX11_foretold_37 rfl ?_
      refine lv_ladd hx hb dX11_foretold_38 ?_
      refine lv_topl (fun x34 ex34 => ?_)
      have hw := hw x34 ex34
      refine lv_lstore_n (lv' := [(2, .long x34), (0, .ref (b 69)), (1, .int x1_), (4, .int x4_)]) hx hb dX11_foretold_39 rfl hl (by decide) rfl (fun ls hl => ?_)
      obtain ⟨x35, ex35⟩ : ∃ y : Int32, y = x4_ + (1 : Int32) := ⟨_, rfl⟩
      have hw := hw x35 ex35
      refine lv_iinc (v := x35) (lv' := [(4, .int x35), (2, .long x34), (0, .ref (b 69)), (1, .int x1_)]) hx hb dX11_foretold_40 hl (k := 3) rfl (by rw [ex35]; rfl) (by decide) rfl (fun ls hl => ?_)
      refine lv_goto (tgt := 14) hx hb dX11_foretold_43 (by decide) ?_
      exact ih σ24 x1_ x34 x35 hw _ _ _ hH (lv_sub hl [2, 3, 1, 0] rfl)
def wp_M_foretold (σ : MS) (a1 : Int32) (post : Int32 → MS → Prop) : Prop := wp_M_isFellowship σ a1 (fun r37 σ36 => if r37 = 0 then (post (-1 : Int32) σ36) else (∃ nn : Nat, wp_M_foretold_14  post nn σ36 a1 (0 : Int64) (0 : Int32)))
set_option maxHeartbeats 4000000 in
set_option maxRecDepth 100000 in
theorem c_M_foretold (l : Launch) (D : va_G) (Z : Nat → ClassId) (b : Nat → Nat) (σ : MS) (a1 : Int32) (post : Int32 → MS → Prop) (hw : wp_M_foretold σ a1 post) (sz : Nat) : Met l yX11_foretold (Wd yX11_foretold cX11_foretold 11 (some .int)) rm_M_foretold (va_Pc [.ref (b 69), .int a1] (mPre D Z b sz σ)) (va_Qi post (mPost D Z b) (mA b sz)) 0 0 (mA b sz) := by
  refine mMi (by decide) rfl _ (Nat.le_of_ble_eq_true rfl) (fun p e s m args below meth c C hr hk ls hl hH => ?_) sz
  obtain ⟨⟨hx, hb, hml, hown, hts⟩, hK⟩ := id C
  have hl : lv_has ls 11 [(0, .ref (b 69)), (1, .int a1)] := hl
  unfold wp_M_foretold at hw
  refine lv_iload_n hx hb dX11_foretold_0 rfl (lv_at hl 1 rfl) ?_
  refine mcSi C hH [.int a1] (fun sz => c_M_isFellowship l D Z b σ a1 _ hw sz) (cwTS 1 hts wd_1283 wd_1284 wd_14 wd_1285 rfl rfl (by decide +kernel) ⟨Nat.le_of_ble_eq_true rfl, Nat.le_of_ble_eq_true rfl⟩) rfl hl.1 rfl (Nat.le_of_ble_eq_true rfl) dX11_foretold_1 ⟨Nat.zero_le _, Nat.zero_le _⟩ (fun r37 σ36 H locs hw hH => ?_)
  refine lv_if_ne (tgt := 9) hx hb dX11_foretold_4 (by decide) (fun c38 => ?_) (fun c38 => ?_)
  · have hw := ifn c38 hw
    refine lv_lconst (v := 0) hx hb dX11_foretold_9 (by decide) ?_
    refine lv_lstore_n (lv' := [(2, .long (0 : Int64)), (0, .ref (b 69)), (1, .int a1)]) hx hb dX11_foretold_10 rfl hl (by decide) rfl (fun ls hl => ?_)
    refine lv_iconst (v := 0) hx hb dX11_foretold_11 (by decide) ?_
    refine lv_istore (lv' := [(4, .int (0 : Int32)), (2, .long (0 : Int64)), (0, .ref (b 69)), (1, .int a1)]) hx hb dX11_foretold_12 hl (by decide) rfl (fun ls hl => ?_)
    obtain ⟨nn, hw⟩ := hw
    exact b_M_foretold_14 C hr hk  nn σ36 a1 (0 : Int64) (0 : Int32) hw _ _ _ hH (lv_sub hl [2, 3, 1, 0] rfl)
  · have hw := ifp c38 hw
    refine lv_iconst (v := -1) hx hb dX11_foretold_7 (by decide) ?_
    exact mri C hr hk hH hw dX11_foretold_8
/-! fund -/
abbrev rm_M_fund : Room := { frames := 2, cells := 0, slots := 0, locals := 42 }
def wp_M_fund (σ : MS) (a1 : Int32) (a2 : Int32) (post : Int32 → MS → Prop) : Prop := wp_M_isFellowship σ a1 (fun r2 σ1 => if r2 = 0 then (post (-1 : Int32) σ1) else (if a2 = (0 : Int32) then (vp_in a1 4 ∧ (post (σ1 63 a1.toNatClampNeg) σ1)) else (if a2 = (1 : Int32) then (vp_in a1 4 ∧ (post (σ1 64 a1.toNatClampNeg) σ1)) else (if a2 = (2 : Int32) then (vp_in a1 4 ∧ (post (σ1 65 a1.toNatClampNeg) σ1)) else (post (-1 : Int32) σ1)))))
set_option maxHeartbeats 4000000 in
set_option maxRecDepth 100000 in
theorem c_M_fund (l : Launch) (D : va_G) (Z : Nat → ClassId) (b : Nat → Nat) (σ : MS) (a1 : Int32) (a2 : Int32) (post : Int32 → MS → Prop) (hw : wp_M_fund σ a1 a2 post) (sz : Nat) : Met l yX11_fund (Wd yX11_fund cX11_fund 3 (some .int)) rm_M_fund (va_Pc [.ref (b 69), .int a1, .int a2] (mPre D Z b sz σ)) (va_Qi post (mPost D Z b) (mA b sz)) 0 0 (mA b sz) := by
  refine mMi (by decide) rfl _ (Nat.le_of_ble_eq_true rfl) (fun p e s m args below meth c C hr hk ls hl hH => ?_) sz
  obtain ⟨⟨hx, hb, hml, hown, hts⟩, hK⟩ := id C
  have hl : lv_has ls 3 [(0, .ref (b 69)), (1, .int a1), (2, .int a2)] := hl
  unfold wp_M_fund at hw
  refine lv_iload_n hx hb dX11_fund_0 rfl (lv_at hl 1 rfl) ?_
  refine mcSi C hH [.int a1] (fun sz => c_M_isFellowship l D Z b σ a1 _ hw sz) (cwTS 1 hts wd_1283 wd_1284 wd_14 wd_1285 rfl rfl (by decide +kernel) ⟨Nat.le_of_ble_eq_true rfl, Nat.le_of_ble_eq_true rfl⟩) rfl hl.1 rfl (Nat.le_of_ble_eq_true rfl) dX11_fund_1 ⟨Nat.zero_le _, Nat.zero_le _⟩ (fun r2 σ1 H locs hw hH => ?_)
  refine lv_if_ne (tgt := 9) hx hb dX11_fund_4 (by decide) (fun c3 => ?_) (fun c3 => ?_)
  · have hw := ifn c3 hw
    refine lv_iload_n hx hb dX11_fund_9 rfl (lv_at hl 2 rfl) ?_
    by_cases c4 : a2 = (0 : Int32)
    · have hw := ifp c4 hw
      refine lv_tableIn (tgt := 36) hx hb dX11_fund_10 (by rw [c4]; decide) (by rw [c4]; decide) (by rw [c4]; rfl) (by decide) ?_
      refine lv_aload_n hx hb dX11_fund_36 rfl (lv_at hl 0 rfl) ?_
      refine mg C hH 63 (by decide) rfl wd_1092 rfl dX11_fund_37 ?_
      refine lv_iload_n hx hb dX11_fund_40 rfl (lv_at hl 1 rfl) ?_
      obtain ⟨h5, hw⟩ := hw
      refine mai C hH 49 63 rfl h5 dX11_fund_41 ?_
      exact mri C hr hk hH hw dX11_fund_42
    have hw := ifn c4 hw
    by_cases c6 : a2 = (1 : Int32)
    · have hw := ifp c6 hw
      refine lv_tableIn (tgt := 43) hx hb dX11_fund_10 (by rw [c6]; decide) (by rw [c6]; decide) (by rw [c6]; rfl) (by decide) ?_
      refine lv_aload_n hx hb dX11_fund_43 rfl (lv_at hl 0 rfl) ?_
      refine mg C hH 64 (by decide) rfl wd_1093 rfl dX11_fund_44 ?_
      refine lv_iload_n hx hb dX11_fund_47 rfl (lv_at hl 1 rfl) ?_
      obtain ⟨h7, hw⟩ := hw
      refine mai C hH 50 64 rfl h7 dX11_fund_48 ?_
      exact mri C hr hk hH hw dX11_fund_49
    have hw := ifn c6 hw
    by_cases c8 : a2 = (2 : Int32)
    · have hw := ifp c8 hw
      refine lv_tableIn (tgt := 50) hx hb dX11_fund_10 (by rw [c8]; decide) (by rw [c8]; decide) (by rw [c8]; rfl) (by decide) ?_
      refine lv_aload_n hx hb dX11_fund_50 rfl (lv_at hl 0 rfl) ?_
      refine mg C hH 65 (by decide) rfl wd_1094 rfl dX11_fund_51 ?_
      refine lv_iload_n hx hb dX11_fund_54 rfl (lv_at hl 1 rfl) ?_
      obtain ⟨h9, hw⟩ := hw
      refine mai C hH 51 65 rfl h9 dX11_fund_55 ?_
      exact mri C hr hk hH hw dX11_fund_56
    have hw := ifn c8 hw
    refine lv_tableOut (tgt := 57) hx hb dX11_fund_10 (by have := sw_ne c4 0 (by decide); have := sw_ne c6 1 (by decide); have := sw_ne c8 2 (by decide); omega) (by decide) ?_
    refine lv_iconst (v := -1) hx hb dX11_fund_57 (by decide) ?_
    exact mri C hr hk hH hw dX11_fund_58
  · have hw := ifp c3 hw
    refine lv_iconst (v := -1) hx hb dX11_fund_7 (by decide) ?_
    exact mri C hr hk hH hw dX11_fund_8
/-! loadsAs -/
abbrev rm_M_loadsAs : Room := { frames := 0, cells := 0, slots := 0, locals := 0 }
def wp_M_loadsAs_28 (k4 : MS → Int32 → Int32 → Int32 → Prop) (post : Int32 → MS → Prop) (σ : MS) (x1_ : Int32) (x3_ : Int32) (t0_ : Int32) (t1_ : Int32) : Prop := ∀ x1 : Int32, x1 = (t0_ + t1_) → (∀ x2 : Int32, x2 = x3_ + (1 : Int32) → (k4 σ x1_ x1 x2))
set_option maxHeartbeats 4000000 in
set_option maxRecDepth 100000 in
theorem b_M_loadsAs_28 {p : Program} {l : Launch} {e : Env} {s : State} {m : MethodId} {args : Array Value} {below : List Frame} {meth : Method} {c : Code} {D : va_G} {Z : Nat → ClassId} {b : Nat → Nat} (C : MC p s m args c cX11_loadsAs 4 D Z) (hr : meth.sig.returnType = some .int) (hk : meth.locks = false) {post : Int32 → MS → Prop} {k4 : MS → Int32 → Int32 → Int32 → Prop} (hk4 : ∀ (σ : MS) (y1 : Int32) (y2 : Int32) (y3 : Int32), k4 σ y1 y2 y3 → ∀ (H : Heap) (locs : List Loc) (ls : Array Slot), MH D Z b s.heap σ H locs → lv_has ls 4 [(0, .ref (b 69)), (1, .int y1), (2, .int y2), (3, .int y3)] → MWi p l e rm_M_loadsAs s m args below meth c D Z b post H locs (F0 m 4 ls [])) : ∀ (σ : MS) (x1_ : Int32) (x3_ : Int32) (t0_ : Int32) (t1_ : Int32), wp_M_loadsAs_28 k4 post σ x1_ x3_ t0_ t1_ → ∀ (H : Heap) (locs : List Loc) (ls : Array Slot), MH D Z b s.heap σ H locs → lv_has ls 4 [(0, .ref (b 69)), (1, .int x1_), (3, .int x3_)] → MWi p l e rm_M_loadsAs s m args below meth c D Z b post H locs (F0 m 28 ls [.int t1_, .int t0_]) := by
  obtain ⟨⟨hx, hb, hml, hown, hts⟩, hK⟩ := id C
  intro σ x1_ x3_ t0_ t1_ hw H locs ls hH hl
  unfold wp_M_loadsAs_28 at hw
  refine lv_iadd hx hb dX11_loadsAs_28 ?_
  refine lv_topi (fun x1 ex1 => ?_)
  have hw := hw x1 ex1
  refine lv_istore_n (lv' := [(2, .int x1), (0, .ref (b 69)), (1, .int x1_), (3, .int x3_)]) hx hb dX11_loadsAs_29 rfl hl (by decide) rfl (fun ls hl => ?_)
  obtain ⟨x2, ex2⟩ : ∃ y : Int32, y = x3_ + (1 : Int32) := ⟨_, rfl⟩
  have hw := hw x2 ex2
  refine lv_iinc (v := x2) (lv' := [(3, .int x2), (2, .int x1), (0, .ref (b 69)), (1, .int x1_)]) hx hb dX11_loadsAs_30 hl (k := 3) rfl (by rw [ex2]; rfl) (by decide) rfl (fun ls hl => ?_)
  refine lv_goto (tgt := 4) hx hb dX11_loadsAs_33 (by decide) ?_
  exact hk4 σ x1_ x1 x2 hw _ _ _ hH (lv_sub hl [2, 3, 1, 0] rfl)
def wp_M_loadsAs_4 (post : Int32 → MS → Prop) : Nat → MS → Int32 → Int32 → Int32 → Prop
  | 0 => fun _ _ _ _ => False
  | n + 1 => fun σ x1_ x2_ x3_ => if (σ 43 0) ≤ x3_ then (post x2_ σ) else (vp_in x3_ 200 ∧ (if (σ 50 x3_.toNatClampNeg) = x1_ then (wp_M_loadsAs_28 (wp_M_loadsAs_4 post n) post σ x1_ x3_ x2_ (1 : Int32)) else (wp_M_loadsAs_28 (wp_M_loadsAs_4 post n) post σ x1_ x3_ x2_ (0 : Int32))))
set_option maxHeartbeats 4000000 in
set_option maxRecDepth 100000 in
theorem b_M_loadsAs_4 {p : Program} {l : Launch} {e : Env} {s : State} {m : MethodId} {args : Array Value} {below : List Frame} {meth : Method} {c : Code} {D : va_G} {Z : Nat → ClassId} {b : Nat → Nat} (C : MC p s m args c cX11_loadsAs 4 D Z) (hr : meth.sig.returnType = some .int) (hk : meth.locks = false) {post : Int32 → MS → Prop} : ∀ (n : Nat) (σ : MS) (x1_ : Int32) (x2_ : Int32) (x3_ : Int32), wp_M_loadsAs_4  post n σ x1_ x2_ x3_ → ∀ (H : Heap) (locs : List Loc) (ls : Array Slot), MH D Z b s.heap σ H locs → lv_has ls 4 [(0, .ref (b 69)), (1, .int x1_), (2, .int x2_), (3, .int x3_)] → MWi p l e rm_M_loadsAs s m args below meth c D Z b post H locs (F0 m 4 ls []) := by
  obtain ⟨⟨hx, hb, hml, hown, hts⟩, hK⟩ := id C
  intro n
  induction n with
  | zero => intro σ x1_ x2_ x3_ hw; exact hw.elim
  | succ n ih =>
    intro σ x1_ x2_ x3_ hw H locs ls hH hl
    unfold wp_M_loadsAs_4 at hw
    refine lv_iload_n hx hb dX11_loadsAs_4 rfl (lv_at hl 3 rfl) ?_
    refine lv_aload_n hx hb dX11_loadsAs_5 rfl (lv_at hl 0 rfl) ?_
    refine mg C hH 43 (by decide) rfl wd_1072 rfl dX11_loadsAs_6 ?_
    refine lv_icmp_ge (tgt := 36) hx hb dX11_loadsAs_9 (by decide) (fun c3 => ?_) (fun c3 => ?_)
    · have hw := ifp c3 hw
      refine lv_iload_n hx hb dX11_loadsAs_36 rfl (lv_at hl 2 rfl) ?_
      exact mri C hr hk hH hw dX11_loadsAs_37
    · have hw := ifn c3 hw
      refine lv_iload_n hx hb dX11_loadsAs_12 rfl (lv_at hl 2 rfl) ?_
      refine lv_aload_n hx hb dX11_loadsAs_13 rfl (lv_at hl 0 rfl) ?_
      refine mg C hH 50 (by decide) rfl wd_1079 rfl dX11_loadsAs_14 ?_
      refine lv_iload_n hx hb dX11_loadsAs_17 rfl (lv_at hl 3 rfl) ?_
      obtain ⟨h4, hw⟩ := hw
      refine mai C hH 37 50 rfl h4 dX11_loadsAs_18 ?_
      refine lv_iload_n hx hb dX11_loadsAs_19 rfl (lv_at hl 1 rfl) ?_
      refine lv_icmp_ne (tgt := 27) hx hb dX11_loadsAs_20 (by decide) (fun c5 => ?_) (fun c5 => ?_)
      · have hw := ifn c5 hw
        refine lv_iconst (v := 0) hx hb dX11_loadsAs_27 (by decide) ?_
        exact b_M_loadsAs_28 C hr hk ih σ x1_ x3_ x2_ (0 : Int32) hw _ _ _ hH (lv_sub hl [0, 1, 3] rfl)
      · have hw := ifp c5 hw
        refine lv_iconst (v := 1) hx hb dX11_loadsAs_23 (by decide) ?_
        refine lv_goto (tgt := 28) hx hb dX11_loadsAs_24 (by decide) ?_
        exact b_M_loadsAs_28 C hr hk ih σ x1_ x3_ x2_ (1 : Int32) hw _ _ _ hH (lv_sub hl [0, 1, 3] rfl)
def wp_M_loadsAs (σ : MS) (a1 : Int32) (post : Int32 → MS → Prop) : Prop := ∃ nn : Nat, wp_M_loadsAs_4  post nn σ a1 (0 : Int32) (0 : Int32)
set_option maxHeartbeats 4000000 in
set_option maxRecDepth 100000 in
theorem c_M_loadsAs (l : Launch) (D : va_G) (Z : Nat → ClassId) (b : Nat → Nat) (σ : MS) (a1 : Int32) (post : Int32 → MS → Prop) (hw : wp_M_loadsAs σ a1 post) (sz : Nat) : Met l yX11_loadsAs (Wd yX11_loadsAs cX11_loadsAs 4 (some .int)) rm_M_loadsAs (va_Pc [.ref (b 69), .int a1] (mPre D Z b sz σ)) (va_Qi post (mPost D Z b) (mA b sz)) 0 0 (mA b sz) := by
  refine mMi (by decide) rfl _ (Nat.le_of_ble_eq_true rfl) (fun p e s m args below meth c C hr hk ls hl hH => ?_) sz
  obtain ⟨⟨hx, hb, hml, hown, hts⟩, hK⟩ := id C
  have hl : lv_has ls 4 [(0, .ref (b 69)), (1, .int a1)] := hl
  unfold wp_M_loadsAs at hw
  refine lv_iconst (v := 0) hx hb dX11_loadsAs_0 (by decide) ?_
  refine lv_istore_n (lv' := [(2, .int (0 : Int32)), (0, .ref (b 69)), (1, .int a1)]) hx hb dX11_loadsAs_1 rfl hl (by decide) rfl (fun ls hl => ?_)
  refine lv_iconst (v := 0) hx hb dX11_loadsAs_2 (by decide) ?_
  refine lv_istore_n (lv' := [(3, .int (0 : Int32)), (2, .int (0 : Int32)), (0, .ref (b 69)), (1, .int a1)]) hx hb dX11_loadsAs_3 rfl hl (by decide) rfl (fun ls hl => ?_)
  obtain ⟨nn, hw⟩ := hw
  exact b_M_loadsAs_4 C hr hk  nn σ a1 (0 : Int32) (0 : Int32) hw _ _ _ hH (lv_sub hl [2, 3, 1, 0] rfl)
/-! count -/
abbrev rm_M_count : Room := { frames := 1, cells := 0, slots := 0, locals := 23 }
def wp_M_count_130 (post : Int32 → MS → Prop) : Nat → MS → Int32 → Int32 → Prop
  | 0 => fun _ _ _ => False
  | n + 1 => fun σ x2_ x3_ => if (σ 43 0) ≤ x3_ then (post x2_ σ) else (vp_in x3_ 200 ∧ (∀ x3 : Int32, x3 = (x2_ + (σ 57 x3_.toNatClampNeg)) → (∀ x4 : Int32, x4 = x3_ + (1 : Int32) → (wp_M_count_130  post n σ x3 x4))))
set_option maxHeartbeats 4000000 in
set_option maxRecDepth 100000 in
theorem b_M_count_130 {p : Program} {l : Launch} {e : Env} {s : State} {m : MethodId} {args : Array Value} {below : List Frame} {meth : Method} {c : Code} {D : va_G} {Z : Nat → ClassId} {b : Nat → Nat} (C : MC p s m args c cX11_count 4 D Z) (hr : meth.sig.returnType = some .int) (hk : meth.locks = false) {post : Int32 → MS → Prop} : ∀ (n : Nat) (σ : MS) (x2_ : Int32) (x3_ : Int32), wp_M_count_130  post n σ x2_ x3_ → ∀ (H : Heap) (locs : List Loc) (ls : Array Slot), MH D Z b s.heap σ H locs → lv_has ls 4 [(0, .ref (b 69)), (2, .int x2_), (3, .int x3_)] → MWi p l e rm_M_count s m args below meth c D Z b post H locs (F0 m 130 ls []) := by
  obtain ⟨⟨hx, hb, hml, hown, hts⟩, hK⟩ := id C
  intro n
  induction n with
  | zero => intro σ x2_ x3_ hw; exact hw.elim
  | succ n ih =>
    intro σ x2_ x3_ hw H locs ls hH hl
    unfold wp_M_count_130 at hw
    refine lv_iload_n hx hb dX11_count_130 rfl (lv_at hl 2 rfl) ?_
    refine lv_aload_n hx hb dX11_count_131 rfl (lv_at hl 0 rfl) ?_
    refine mg C hH 43 (by decide) rfl wd_1072 rfl dX11_count_132 ?_
    refine lv_icmp_ge (tgt := 153) hx hb dX11_count_135 (by decide) (fun c1 => ?_) (fun c1 => ?_)
    · have hw := ifp c1 hw
      refine lv_iload_n hx hb dX11_count_153 rfl (lv_at hl 1 rfl) ?_
      exact mri C hr hk hH hw dX11_count_154
    · have hw := ifn c1 hw
      refine lv_iload_n hx hb dX11_count_138 rfl (lv_at hl 1 rfl) ?_
      refine lv_aload_n hx hb dX11_count_139 rfl (lv_at hl 0 rfl) ?_
      refine mg C hH 57 (by decide) rfl wd_1086 rfl dX11_count_140 ?_
      refine lv_iload_n hx hb dX11_count_143 rfl (lv_at hl 2 rfl) ?_
      obtain ⟨h2, hw⟩ := hw
      refine mai C hH 44 57 rfl h2 dX11_count_144 ?_
      refine lv_iadd hx hb dX11_count_145 ?_
      refine lv_topi (fun x3 ex3 => ?_)
      have hw := hw x3 ex3
      refine lv_istore_n (lv' := [(2, .int x3), (0, .ref (b 69)), (3, .int x3_)]) hx hb dX11_count_146 rfl hl (by decide) rfl (fun ls hl => ?_)
      obtain ⟨x4, ex4⟩ : ∃ y : Int32, y = x3_ + (1 : Int32) := ⟨_, rfl⟩
      have hw := hw x4 ex4
      refine lv_iinc (v := x4) (lv' := [(3, .int x4), (2, .int x3), (0, .ref (b 69))]) hx hb dX11_count_147 hl (k := 2) rfl (by rw [ex4]; rfl) (by decide) rfl (fun ls hl => ?_)
      refine lv_goto (tgt := 130) hx hb dX11_count_150 (by decide) ?_
      exact ih σ x3 x4 hw _ _ _ hH (lv_sub hl [2, 1, 0] rfl)
def wp_M_count_104 (post : Int32 → MS → Prop) : Nat → MS → Int32 → Int32 → Prop
  | 0 => fun _ _ _ => False
  | n + 1 => fun σ x2_ x3_ => if (σ 43 0) ≤ x3_ then (post x2_ σ) else (wp_M_waited σ x3_ (fun r7 σ6 => ∀ x8 : Int32, x8 = (x2_ + r7) → (∀ x9 : Int32, x9 = x3_ + (1 : Int32) → (wp_M_count_104  post n σ6 x8 x9))))
set_option maxHeartbeats 4000000 in
set_option maxRecDepth 100000 in
theorem b_M_count_104 {p : Program} {l : Launch} {e : Env} {s : State} {m : MethodId} {args : Array Value} {below : List Frame} {meth : Method} {c : Code} {D : va_G} {Z : Nat → ClassId} {b : Nat → Nat} (C : MC p s m args c cX11_count 4 D Z) (hr : meth.sig.returnType = some .int) (hk : meth.locks = false) {post : Int32 → MS → Prop} : ∀ (n : Nat) (σ : MS) (x2_ : Int32) (x3_ : Int32), wp_M_count_104  post n σ x2_ x3_ → ∀ (H : Heap) (locs : List Loc) (ls : Array Slot), MH D Z b s.heap σ H locs → lv_has ls 4 [(0, .ref (b 69)), (2, .int x2_), (3, .int x3_)] → MWi p l e rm_M_count s m args below meth c D Z b post H locs (F0 m 104 ls []) := by
  obtain ⟨⟨hx, hb, hml, hown, hts⟩, hK⟩ := id C
  intro n
  induction n with
  | zero => intro σ x2_ x3_ hw; exact hw.elim
  | succ n ih =>
    intro σ x2_ x3_ hw H locs ls hH hl
    unfold wp_M_count_104 at hw
    refine lv_iload_n hx hb dX11_count_104 rfl (lv_at hl 2 rfl) ?_
    refine lv_aload_n hx hb dX11_count_105 rfl (lv_at hl 0 rfl) ?_
    refine mg C hH 43 (by decide) rfl wd_1072 rfl dX11_count_106 ?_
    refine lv_icmp_ge (tgt := 126) hx hb dX11_count_109 (by decide) (fun c5 => ?_) (fun c5 => ?_)
    · have hw := ifp c5 hw
      refine lv_iload_n hx hb dX11_count_126 rfl (lv_at hl 1 rfl) ?_
      exact mri C hr hk hH hw dX11_count_127
    · have hw := ifn c5 hw
      refine lv_iload_n hx hb dX11_count_112 rfl (lv_at hl 1 rfl) ?_
      refine lv_aload_n hx hb dX11_count_113 rfl (lv_at hl 0 rfl) ?_
      refine lv_iload_n hx hb dX11_count_114 rfl (lv_at hl 2 rfl) ?_
      refine mcVi C hH [.int x3_] (fun sz => c_M_waited l D Z b σ x3_ _ hw sz) (cwTV 1 hts wd_1510 wd_1512 ws_77 wd_14 wd_1513 rfl rfl (by decide +kernel) ⟨Nat.le_of_ble_eq_true rfl, Nat.le_of_ble_eq_true rfl⟩) rfl hl.1 rfl (Nat.le_of_ble_eq_true rfl) dX11_count_115 ⟨Nat.zero_le _, Nat.zero_le _⟩ (fun r7 σ6 H locs hw hH => ?_)
      refine lv_iadd hx hb dX11_count_118 ?_
      refine lv_topi (fun x8 ex8 => ?_)
      have hw := hw x8 ex8
      refine lv_istore_n (lv' := [(2, .int x8), (0, .ref (b 69)), (3, .int x3_)]) hx hb dX11_count_119 rfl hl (by decide) rfl (fun ls hl => ?_)
      obtain ⟨x9, ex9⟩ : ∃ y : Int32, y = x3_ + (1 : Int32) := ⟨_, rfl⟩
      have hw := hw x9 ex9
      refine lv_iinc (v := x9) (lv' := [(3, .int x9), (2, .int x8), (0, .ref (b 69))]) hx hb dX11_count_120 hl (k := 2) rfl (by rw [ex9]; rfl) (by decide) rfl (fun ls hl => ?_)
      refine lv_goto (tgt := 104) hx hb dX11_count_123 (by decide) ?_
      exact ih σ6 x8 x9 hw _ _ _ hH (lv_sub hl [2, 1, 0] rfl)
def wp_M_count (σ : MS) (a1 : Int32) (post : Int32 → MS → Prop) : Prop := if a1 = (0 : Int32) then (post (σ 5 0) σ) else (if a1 = (1 : Int32) then (post (σ 10 0) σ) else (if a1 = (2 : Int32) then (post (σ 43 0) σ) else (if a1 = (3 : Int32) then (post (σ 26 0) σ) else (if a1 = (4 : Int32) then (post (σ 1 0) σ) else (if a1 = (5 : Int32) then (wp_M_loadsAs σ (a1 - (5 : Int32)) (fun r17 σ16 => post r17 σ16)) else (if a1 = (6 : Int32) then (wp_M_loadsAs σ (a1 - (5 : Int32)) (fun r20 σ19 => post r20 σ19)) else (if a1 = (7 : Int32) then (wp_M_loadsAs σ (a1 - (5 : Int32)) (fun r23 σ22 => post r23 σ22)) else (if a1 = (8 : Int32) then (wp_M_loadsAs σ (a1 - (5 : Int32)) (fun r26 σ25 => post r26 σ25)) else (if a1 = (9 : Int32) then (post (σ 25 0) σ) else (if a1 = (10 : Int32) then (∃ nn : Nat, wp_M_count_104  post nn σ (0 : Int32) (0 : Int32)) else (if a1 = (11 : Int32) then (∃ nn : Nat, wp_M_count_130  post nn σ (0 : Int32) (0 : Int32)) else (post (-1 : Int32) σ))))))))))))
set_option maxHeartbeats 4000000 in
set_option maxRecDepth 100000 in
theorem c_M_count (l : Launch) (D : va_G) (Z : Nat → ClassId) (b : Nat → Nat) (σ : MS) (a1 : Int32) (post : Int32 → MS → Prop) (hw : wp_M_count σ a1 post) (sz : Nat) : Met l yX11_count (Wd yX11_count cX11_count 4 (some .int)) rm_M_count (va_Pc [.ref (b 69), .int a1] (mPre D Z b sz σ)) (va_Qi post (mPost D Z b) (mA b sz)) 0 0 (mA b sz) := by
  refine mMi (by decide) rfl _ (Nat.le_of_ble_eq_true rfl) (fun p e s m args below meth c C hr hk ls hl hH => ?_) sz
  obtain ⟨⟨hx, hb, hml, hown, hts⟩, hK⟩ := id C
  have hl : lv_has ls 4 [(0, .ref (b 69)), (1, .int a1)] := hl
  unfold wp_M_count at hw
  refine lv_iconst (v := 0) hx hb dX11_count_0 (by decide) ?_
  refine lv_istore_n (lv' := [(2, .int (0 : Int32)), (0, .ref (b 69)), (1, .int a1)]) hx hb dX11_count_1 rfl hl (by decide) rfl (fun ls hl => ?_)
  refine lv_iload_n hx hb dX11_count_2 rfl (lv_at hl 2 rfl) ?_
  by_cases c10 : a1 = (0 : Int32)
  · have hw := ifp c10 hw
    refine lv_tableIn (tgt := 64) hx hb dX11_count_3 (by rw [c10]; decide) (by rw [c10]; decide) (by rw [c10]; rfl) (by decide) ?_
    refine lv_aload_n hx hb dX11_count_64 rfl (lv_at hl 1 rfl) ?_
    refine mg C hH 5 (by decide) rfl wd_1034 rfl dX11_count_65 ?_
    exact mri C hr hk hH hw dX11_count_68
  have hw := ifn c10 hw
  by_cases c11 : a1 = (1 : Int32)
  · have hw := ifp c11 hw
    refine lv_tableIn (tgt := 69) hx hb dX11_count_3 (by rw [c11]; decide) (by rw [c11]; decide) (by rw [c11]; rfl) (by decide) ?_
    refine lv_aload_n hx hb dX11_count_69 rfl (lv_at hl 1 rfl) ?_
    refine mg C hH 10 (by decide) rfl wd_1039 rfl dX11_count_70 ?_
    exact mri C hr hk hH hw dX11_count_73
  have hw := ifn c11 hw
  by_cases c12 : a1 = (2 : Int32)
  · have hw := ifp c12 hw
    refine lv_tableIn (tgt := 74) hx hb dX11_count_3 (by rw [c12]; decide) (by rw [c12]; decide) (by rw [c12]; rfl) (by decide) ?_
    refine lv_aload_n hx hb dX11_count_74 rfl (lv_at hl 1 rfl) ?_
    refine mg C hH 43 (by decide) rfl wd_1072 rfl dX11_count_75 ?_
    exact mri C hr hk hH hw dX11_count_78
  have hw := ifn c12 hw
  by_cases c13 : a1 = (3 : Int32)
  · have hw := ifp c13 hw
    refine lv_tableIn (tgt := 79) hx hb dX11_count_3 (by rw [c13]; decide) (by rw [c13]; decide) (by rw [c13]; rfl) (by decide) ?_
    refine lv_aload_n hx hb dX11_count_79 rfl (lv_at hl 1 rfl) ?_
    refine mg C hH 26 (by decide) rfl wd_1055 rfl dX11_count_80 ?_
    exact mri C hr hk hH hw dX11_count_83
  have hw := ifn c13 hw
  by_cases c14 : a1 = (4 : Int32)
  · have hw := ifp c14 hw
    refine lv_tableIn (tgt := 84) hx hb dX11_count_3 (by rw [c14]; decide) (by rw [c14]; decide) (by rw [c14]; rfl) (by decide) ?_
    refine lv_aload_n hx hb dX11_count_84 rfl (lv_at hl 1 rfl) ?_
    refine mg C hH 1 (by decide) rfl wd_1030 rfl dX11_count_85 ?_
    exact mri C hr hk hH hw dX11_count_88
  have hw := ifn c14 hw
  by_cases c15 : a1 = (5 : Int32)
  · have hw := ifp c15 hw
    refine lv_tableIn (tgt := 89) hx hb dX11_count_3 (by rw [c15]; decide) (by rw [c15]; decide) (by rw [c15]; rfl) (by decide) ?_
    refine lv_aload_n hx hb dX11_count_89 rfl (lv_at hl 1 rfl) ?_
    refine lv_iload_n hx hb dX11_count_90 rfl (lv_at hl 2 rfl) ?_
    refine lv_iconst (v := 5) hx hb dX11_count_91 (by decide) ?_
    refine lv_isub hx hb dX11_count_92 ?_
    refine mcVi C hH [.int (a1 - (5 : Int32))] (fun sz => c_M_loadsAs l D Z b σ (a1 - (5 : Int32)) _ hw sz) (cwTV 1 hts wd_1570 wd_1572 ws_85 wd_14 wd_1573 rfl rfl (by decide +kernel) ⟨Nat.le_of_ble_eq_true rfl, Nat.le_of_ble_eq_true rfl⟩) rfl hl.1 rfl (Nat.le_of_ble_eq_true rfl) dX11_count_93 ⟨Nat.zero_le _, Nat.zero_le _⟩ (fun r17 σ16 H locs hw hH => ?_)
    exact mri C hr hk hH hw dX11_count_96
  have hw := ifn c15 hw
  by_cases c18 : a1 = (6 : Int32)
  · have hw := ifp c18 hw
    refine lv_tableIn (tgt := 89) hx hb dX11_count_3 (by rw [c18]; decide) (by rw [c18]; decide) (by rw [c18]; rfl) (by decide) ?_
    refine lv_aload_n hx hb dX11_count_89 rfl (lv_at hl 1 rfl) ?_
    refine lv_iload_n hx hb dX11_count_90 rfl (lv_at hl 2 rfl) ?_
    refine lv_iconst (v := 5) hx hb dX11_count_91 (by decide) ?_
    refine lv_isub hx hb dX11_count_92 ?_
    refine mcVi C hH [.int (a1 - (5 : Int32))] (fun sz => c_M_loadsAs l D Z b σ (a1 - (5 : Int32)) _ hw sz) (cwTV 1 hts wd_1570 wd_1572 ws_85 wd_14 wd_1573 rfl rfl (by decide +kernel) ⟨Nat.le_of_ble_eq_true rfl, Nat.le_of_ble_eq_true rfl⟩) rfl hl.1 rfl (Nat.le_of_ble_eq_true rfl) dX11_count_93 ⟨Nat.zero_le _, Nat.zero_le _⟩ (fun r20 σ19 H locs hw hH => ?_)
    exact mri C hr hk hH hw dX11_count_96
  have hw := ifn c18 hw
  by_cases c21 : a1 = (7 : Int32)
  · have hw := ifp c21 hw
    refine lv_tableIn (tgt := 89) hx hb dX11_count_3 (by rw [c21]; decide) (by rw [c21]; decide) (by rw [c21]; rfl) (by decide) ?_
    refine lv_aload_n hx hb dX11_count_89 rfl (lv_at hl 1 rfl) ?_
    refine lv_iload_n hx hb dX11_count_90 rfl (lv_at hl 2 rfl) ?_
    refine lv_iconst (v := 5) hx hb dX11_count_91 (by decide) ?_
    refine lv_isub hx hb dX11_count_92 ?_
    refine mcVi C hH [.int (a1 - (5 : Int32))] (fun sz => c_M_loadsAs l D Z b σ (a1 - (5 : Int32)) _ hw sz) (cwTV 1 hts wd_1570 wd_1572 ws_85 wd_14 wd_1573 rfl rfl (by decide +kernel) ⟨Nat.le_of_ble_eq_true rfl, Nat.le_of_ble_eq_true rfl⟩) rfl hl.1 rfl (Nat.le_of_ble_eq_true rfl) dX11_count_93 ⟨Nat.zero_le _, Nat.zero_le _⟩ (fun r23 σ22 H locs hw hH => ?_)
    exact mri C hr hk hH hw dX11_count_96
  have hw := ifn c21 hw
  by_cases c24 : a1 = (8 : Int32)
  · have hw := ifp c24 hw
    refine lv_tableIn (tgt := 89) hx hb dX11_count_3 (by rw [c24]; decide) (by rw [c24]; decide) (by rw [c24]; rfl) (by decide) ?_
    refine lv_aload_n hx hb dX11_count_89 rfl (lv_at hl 1 rfl) ?_
    refine lv_iload_n hx hb dX11_count_90 rfl (lv_at hl 2 rfl) ?_
    refine lv_iconst (v := 5) hx hb dX11_count_91 (by decide) ?_
    refine lv_isub hx hb dX11_count_92 ?_
    refine mcVi C hH [.int (a1 - (5 : Int32))] (fun sz => c_M_loadsAs l D Z b σ (a1 - (5 : Int32)) _ hw sz) (cwTV 1 hts wd_1570 wd_1572 ws_85 wd_14 wd_1573 rfl rfl (by decide +kernel) ⟨Nat.le_of_ble_eq_true rfl, Nat.le_of_ble_eq_true rfl⟩) rfl hl.1 rfl (Nat.le_of_ble_eq_true rfl) dX11_count_93 ⟨Nat.zero_le _, Nat.zero_le _⟩ (fun r26 σ25 H locs hw hH => ?_)
    exact mri C hr hk hH hw dX11_count_96
  have hw := ifn c24 hw
  by_cases c27 : a1 = (9 : Int32)
  · have hw := ifp c27 hw
    refine lv_tableIn (tgt := 97) hx hb dX11_count_3 (by rw [c27]; decide) (by rw [c27]; decide) (by rw [c27]; rfl) (by decide) ?_
    refine lv_aload_n hx hb dX11_count_97 rfl (lv_at hl 1 rfl) ?_
    refine mg C hH 25 (by decide) rfl wd_1054 rfl dX11_count_98 ?_
    exact mri C hr hk hH hw dX11_count_101
  have hw := ifn c27 hw
  by_cases c28 : a1 = (10 : Int32)
  · have hw := ifp c28 hw
    refine lv_tableIn (tgt := 102) hx hb dX11_count_3 (by rw [c28]; decide) (by rw [c28]; decide) (by rw [c28]; rfl) (by decide) ?_
    refine lv_iconst (v := 0) hx hb dX11_count_102 (by decide) ?_
    refine lv_istore_n (lv' := [(3, .int (0 : Int32)), (2, .int (0 : Int32)), (0, .ref (b 69)), (1, .int a1)]) hx hb dX11_count_103 rfl hl (by decide) rfl (fun ls hl => ?_)
    obtain ⟨nn, hw⟩ := hw
    exact b_M_count_104 C hr hk  nn σ (0 : Int32) (0 : Int32) hw _ _ _ hH (lv_sub hl [2, 1, 0] rfl)
  have hw := ifn c28 hw
  by_cases c29 : a1 = (11 : Int32)
  · have hw := ifp c29 hw
    refine lv_tableIn (tgt := 128) hx hb dX11_count_3 (by rw [c29]; decide) (by rw [c29]; decide) (by rw [c29]; rfl) (by decide) ?_
    refine lv_iconst (v := 0) hx hb dX11_count_128 (by decide) ?_
    refine lv_istore_n (lv' := [(3, .int (0 : Int32)), (2, .int (0 : Int32)), (0, .ref (b 69)), (1, .int a1)]) hx hb dX11_count_129 rfl hl (by decide) rfl (fun ls hl => ?_)
    obtain ⟨nn, hw⟩ := hw
    exact b_M_count_130 C hr hk  nn σ (0 : Int32) (0 : Int32) hw _ _ _ hH (lv_sub hl [2, 1, 0] rfl)
  have hw := ifn c29 hw
  refine lv_tableOut (tgt := 155) hx hb dX11_count_3 (by have := sw_ne c10 0 (by decide); have := sw_ne c11 1 (by decide); have := sw_ne c12 2 (by decide); have := sw_ne c13 3 (by decide); have := sw_ne c14 4 (by decide); have := sw_ne c15 5 (by decide); have := sw_ne c18 6 (by decide); have := sw_ne c21 7 (by decide); have := sw_ne c24 8 (by decide); have := sw_ne c27 9 (by decide); have := sw_ne c28 10 (by decide); have := sw_ne c29 11 (by decide); omega) (by decide) ?_
  refine lv_iconst (v := -1) hx hb dX11_count_155 (by decide) ?_
  exact mri C hr hk hH hw dX11_count_156
