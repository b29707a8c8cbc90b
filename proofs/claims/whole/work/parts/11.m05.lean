/-! fall -/
abbrev rm_M_fall : Room := { frames := 3, cells := 0, slots := 0, locals := 71 }
def wp_M_fall_140 (k70 : MS → Int32 → Int32 → Int32 → Int32 → Int32 → Int32 → Prop) (post : Int32 → MS → Prop) (σ : MS) (x1_ : Int32) (x2_ : Int32) (x3_ : Int32) (x4_ : Int32) (x5_ : Int32) (x6_ : Int32) (x7_ : Int32) (t0_ : Int32) : Prop := vp_in x7_ 60 ∧ (vp_in x7_ 60 ∧ (∀ σ3 : MS, σ3 = up2 σ 14 x7_.toNatClampNeg ((σ 14 x7_.toNatClampNeg) - t0_) → (∀ x4 : Int32, x4 = (x4_ + t0_) → (wp_M_comesToFund σ3 x5_ t0_ (fun σ5 => ∀ x6 : Int32, x6 = x6_ + (1 : Int32) → (k70 σ5 x1_ x2_ x3_ x4 x5_ x6))))))
set_option maxHeartbeats 4000000 in
set_option maxRecDepth 100000 in
theorem b_M_fall_140 {p : Program} {l : Launch} {e : Env} {s : State} {m : MethodId} {args : Array Value} {below : List Frame} {meth : Method} {c : Code} {D : va_G} {Z : Nat → ClassId} {b : Nat → Nat} (C : MC p s m args c cX11_fall 9 D Z) (hr : meth.sig.returnType = some .int) (hk : meth.locks = false) {post : Int32 → MS → Prop} {k70 : MS → Int32 → Int32 → Int32 → Int32 → Int32 → Int32 → Prop} (hk70 : ∀ (σ : MS) (y1 : Int32) (y2 : Int32) (y3 : Int32) (y4 : Int32) (y5 : Int32) (y6 : Int32), k70 σ y1 y2 y3 y4 y5 y6 → ∀ (H : Heap) (locs : List Loc) (ls : Array Slot), MH D Z b s.heap σ H locs → lv_has ls 9 [(0, .ref (b 69)), (1, .int y1), (2, .int y2), (3, .int y3), (4, .int y4), (5, .int y5), (6, .int y6)] → MWi p l e rm_M_fall s m args below meth c D Z b post H locs (F0 m 70 ls [])) : ∀ (σ : MS) (x1_ : Int32) (x2_ : Int32) (x3_ : Int32) (x4_ : Int32) (x5_ : Int32) (x6_ : Int32) (x7_ : Int32) (t0_ : Int32), wp_M_fall_140 k70 post σ x1_ x2_ x3_ x4_ x5_ x6_ x7_ t0_ → ∀ (H : Heap) (locs : List Loc) (ls : Array Slot), MH D Z b s.heap σ H locs → lv_has ls 9 [(0, .ref (b 69)), (1, .int x1_), (2, .int x2_), (3, .int x3_), (4, .int x4_), (5, .int x5_), (6, .int x6_), (7, .int x7_)] → MWi p l e rm_M_fall s m args below meth c D Z b post H locs (F0 m 140 ls [.int t0_]) := by
  obtain ⟨⟨hx, hb, hml, hown, hts⟩, hK⟩ := id C
  intro σ x1_ x2_ x3_ x4_ x5_ x6_ x7_ t0_ hw H locs ls hH hl
  unfold wp_M_fall_140 at hw
  refine lv_istore (lv' := [(8, .int t0_), (0, .ref (b 69)), (1, .int x1_), (2, .int x2_), (3, .int x3_), (4, .int x4_), (5, .int x5_), (6, .int x6_), (7, .int x7_)]) hx hb dX11_fall_140 hl (by decide) rfl (fun ls hl => ?_)
  refine lv_aload_n hx hb dX11_fall_142 rfl (lv_at hl 1 rfl) ?_
  refine mg C hH 14 (by decide) rfl wd_1043 rfl dX11_fall_143 ?_
  refine lv_iload hx hb dX11_fall_146 (lv_at hl 8 rfl) ?_
  refine lv_dup2_11 hx hb dX11_fall_148 rfl rfl ?_
  obtain ⟨h1, hw⟩ := hw
  refine mai C hH 10 14 rfl h1 dX11_fall_149 ?_
  refine lv_iload hx hb dX11_fall_150 (lv_at hl 0 rfl) ?_
  refine lv_isub hx hb dX11_fall_152 ?_
  obtain ⟨h2, hw⟩ := hw
  refine msi C hH 10 14 rfl (mast_14 Z b σ _ _) h2 dX11_fall_153 (fun H locs hH => ?_)
  have hw := hw _ rfl
  generalize up2 σ 14 x7_.toNatClampNeg ((σ 14 x7_.toNatClampNeg) - t0_) = σ3 at hw hH
  refine lv_iload hx hb dX11_fall_154 (lv_at hl 5 rfl) ?_
  refine lv_iload hx hb dX11_fall_156 (lv_at hl 0 rfl) ?_
  refine lv_iadd hx hb dX11_fall_158 ?_
  refine lv_topi (fun x4 ex4 => ?_)
  have hw := hw x4 ex4
  refine lv_istore (lv' := [(4, .int x4), (8, .int t0_), (0, .ref (b 69)), (1, .int x1_), (2, .int x2_), (3, .int x3_), (5, .int x5_), (6, .int x6_), (7, .int x7_)]) hx hb dX11_fall_159 hl (by decide) rfl (fun ls hl => ?_)
  refine lv_aload_n hx hb dX11_fall_161 rfl (lv_at hl 2 rfl) ?_
  refine lv_iload hx hb dX11_fall_162 (lv_at hl 6 rfl) ?_
  refine lv_iload hx hb dX11_fall_164 (lv_at hl 1 rfl) ?_
  refine mcVv C hH [.int x5_, .int t0_] (fun sz => c_M_comesToFund l D Z b σ3 x5_ t0_ _ hw sz) (cwTV 2 hts wd_1502 wd_1504 ws_76 wd_14 wd_1505 rfl rfl (by decide +kernel) ⟨Nat.le_of_ble_eq_true rfl, Nat.le_of_ble_eq_true rfl⟩) rfl hl.1 rfl (Nat.le_of_ble_eq_true rfl) dX11_fall_166 ⟨Nat.zero_le _, Nat.zero_le _⟩ (fun  σ5 H locs hw hH => ?_)
  obtain ⟨x6, ex6⟩ : ∃ y : Int32, y = x6_ + (1 : Int32) := ⟨_, rfl⟩
  have hw := hw x6 ex6
  refine lv_iinc (v := x6) (lv' := [(6, .int x6), (4, .int x4), (8, .int t0_), (0, .ref (b 69)), (1, .int x1_), (2, .int x2_), (3, .int x3_), (5, .int x5_), (7, .int x7_)]) hx hb dX11_fall_169 hl (k := 7) rfl (by rw [ex6]; rfl) (by decide) rfl (fun ls hl => ?_)
  refine lv_goto (tgt := 70) hx hb dX11_fall_172 (by decide) ?_
  exact hk70 σ5 x1_ x2_ x3_ x4 x5_ x6 hw _ _ _ hH (lv_sub hl [3, 4, 5, 6, 1, 7, 0] rfl)
def wp_M_fall_70 (post : Int32 → MS → Prop) : Nat → MS → Int32 → Int32 → Int32 → Int32 → Int32 → Int32 → Prop
  | 0 => fun _ _ _ _ _ _ _ => False
  | n + 1 => fun σ x1_ x2_ x3_ x4_ x5_ x6_ => vp_in x1_ 200 ∧ (if (σ 58 x1_.toNatClampNeg) ≤ x6_ then (vp_in x1_ 200 ∧ (∀ σ10 : MS, σ10 = up2 σ 50 x1_.toNatClampNeg (3 : Int32) → (if x2_ < 0 then (post x4_ σ10) else (vp_in x2_ 60 ∧ (∀ σ13 : MS, σ13 = up2 σ10 17 x2_.toNatClampNeg x3_ → (post x4_ σ13)))))) else (vp_in (((8 : Int32) * x1_) + x6_) 1600 ∧ (∀ x15 : Int32, x15 = (σ 59 (((8 : Int32) * x1_) + x6_).toNatClampNeg) → (wp_M_saysNow σ x5_ (3 : Int32) x1_ x15 (fun r17 σ16 => if 0 ≤ r17 then (vp_in x15 60 ∧ (if r17 ≤ (σ16 14 x15.toNatClampNeg) then (wp_M_fall_140 (wp_M_fall_70 post n) post σ16 x1_ x2_ x3_ x4_ x5_ x6_ x15 r17) else (vp_in x15 60 ∧ (wp_M_fall_140 (wp_M_fall_70 post n) post σ16 x1_ x2_ x3_ x4_ x5_ x6_ x15 (σ16 14 x15.toNatClampNeg))))) else (wp_M_fall_140 (wp_M_fall_70 post n) post σ16 x1_ x2_ x3_ x4_ x5_ x6_ x15 (0 : Int32)))))))
set_option maxHeartbeats 4000000 in
set_option maxRecDepth 100000 in
theorem b_M_fall_70 {p : Program} {l : Launch} {e : Env} {s : State} {m : MethodId} {args : Array Value} {below : List Frame} {meth : Method} {c : Code} {D : va_G} {Z : Nat → ClassId} {b : Nat → Nat} (C : MC p s m args c cX11_fall 9 D Z) (hr : meth.sig.returnType = some .int) (hk : meth.locks = false) {post : Int32 → MS → Prop} : ∀ (n : Nat) (σ : MS) (x1_ : Int32) (x2_ : Int32) (x3_ : Int32) (x4_ : Int32) (x5_ : Int32) (x6_ : Int32), wp_M_fall_70  post n σ x1_ x2_ x3_ x4_ x5_ x6_ → ∀ (H : Heap) (locs : List Loc) (ls : Array Slot), MH D Z b s.heap σ H locs → lv_has ls 9 [(0, .ref (b 69)), (1, .int x1_), (2, .int x2_), (3, .int x3_), (4, .int x4_), (5, .int x5_), (6, .int x6_)] → MWi p l e rm_M_fall s m args below meth c D Z b post H locs (F0 m 70 ls []) := by
  obtain ⟨⟨hx, hb, hml, hown, hts⟩, hK⟩ := id C
  intro n
  induction n with
  | zero => intro σ x1_ x2_ x3_ x4_ x5_ x6_ hw; exact hw.elim
  | succ n ih =>
    intro σ x1_ x2_ x3_ x4_ x5_ x6_ hw H locs ls hH hl
    unfold wp_M_fall_70 at hw
    refine lv_iload hx hb dX11_fall_70 (lv_at hl 6 rfl) ?_
    refine lv_aload_n hx hb dX11_fall_72 rfl (lv_at hl 0 rfl) ?_
    refine mg C hH 58 (by decide) rfl wd_1087 rfl dX11_fall_73 ?_
    refine lv_iload_n hx hb dX11_fall_76 rfl (lv_at hl 1 rfl) ?_
    obtain ⟨h7, hw⟩ := hw
    refine mai C hH 45 58 rfl h7 dX11_fall_77 ?_
    refine lv_icmp_ge (tgt := 175) hx hb dX11_fall_78 (by decide) (fun c8 => ?_) (fun c8 => ?_)
    · have hw := ifp c8 hw
      refine lv_aload_n hx hb dX11_fall_175 rfl (lv_at hl 0 rfl) ?_
      refine mg C hH 50 (by decide) rfl wd_1079 rfl dX11_fall_176 ?_
      refine lv_iload_n hx hb dX11_fall_179 rfl (lv_at hl 1 rfl) ?_
      refine lv_iconst (v := 3) hx hb dX11_fall_180 (by decide) ?_
      obtain ⟨h9, hw⟩ := hw
      refine msi C hH 37 50 rfl (mast_50 Z b σ _ _) h9 dX11_fall_181 (fun H locs hH => ?_)
      have hw := hw _ rfl
      generalize up2 σ 50 x1_.toNatClampNeg (3 : Int32) = σ10 at hw hH
      refine lv_iload_n hx hb dX11_fall_182 rfl (lv_at hl 2 rfl) ?_
      refine lv_if_lt (tgt := 193) hx hb dX11_fall_183 (by decide) (fun c11 => ?_) (fun c11 => ?_)
      · have hw := ifp c11 hw
        refine lv_iload hx hb dX11_fall_193 (lv_at hl 4 rfl) ?_
        exact mri C hr hk hH hw dX11_fall_195
      · have hw := ifn c11 hw
        refine lv_aload_n hx hb dX11_fall_186 rfl (lv_at hl 0 rfl) ?_
        refine mg C hH 17 (by decide) rfl wd_1046 rfl dX11_fall_187 ?_
        refine lv_iload_n hx hb dX11_fall_190 rfl (lv_at hl 2 rfl) ?_
        refine lv_iload_n hx hb dX11_fall_191 rfl (lv_at hl 3 rfl) ?_
        obtain ⟨h12, hw⟩ := hw
        refine msi C hH 13 17 rfl (mast_17 Z b σ10 _ _) h12 dX11_fall_192 (fun H locs hH => ?_)
        have hw := hw _ rfl
        generalize up2 σ10 17 x2_.toNatClampNeg x3_ = σ13 at hw hH
        refine lv_iload hx hb dX11_fall_193 (lv_at hl 4 rfl) ?_
        exact mri C hr hk hH hw dX11_fall_195
    · have hw := ifn c8 hw
      refine lv_aload_n hx hb dX11_fall_81 rfl (lv_at hl 0 rfl) ?_
      refine mg C hH 59 (by decide) rfl wd_1088 rfl dX11_fall_82 ?_
      refine lv_bipush (v := 8) hx hb dX11_fall_85 (by decide) ?_
      refine lv_iload_n hx hb dX11_fall_87 rfl (lv_at hl 1 rfl) ?_
      refine lv_imul hx hb dX11_fall_88 ?_
      refine lv_iload hx hb dX11_fall_89 (lv_at hl 6 rfl) ?_
      refine lv_iadd hx hb dX11_fall_91 ?_
      obtain ⟨h14, hw⟩ := hw
      refine mai C hH 46 59 rfl h14 dX11_fall_92 ?_
      refine lv_topi (fun x15 ex15 => ?_)
      have hw := hw x15 ex15
      refine lv_istore (lv' := [(7, .int x15), (0, .ref (b 69)), (1, .int x1_), (2, .int x2_), (3, .int x3_), (4, .int x4_), (5, .int x5_), (6, .int x6_)]) hx hb dX11_fall_93 hl (by decide) rfl (fun ls hl => ?_)
      refine lv_aload_n hx hb dX11_fall_95 rfl (lv_at hl 1 rfl) ?_
      refine lv_iload hx hb dX11_fall_96 (lv_at hl 6 rfl) ?_
      refine lv_iconst (v := 3) hx hb dX11_fall_98 (by decide) ?_
      refine lv_iload_n hx hb dX11_fall_99 rfl (lv_at hl 2 rfl) ?_
      refine lv_iload hx hb dX11_fall_100 (lv_at hl 0 rfl) ?_
      refine mcVi C hH [.int x5_, .int (3 : Int32), .int x1_, .int x15] (fun sz => c_M_saysNow l D Z b σ x5_ (3 : Int32) x1_ x15 _ hw sz) (cwTV 4 hts wd_1426 wd_1428 ws_65 wd_14 wd_1429 rfl rfl (by decide +kernel) ⟨Nat.le_of_ble_eq_true rfl, Nat.le_of_ble_eq_true rfl⟩) rfl hl.1 rfl (Nat.le_of_ble_eq_true rfl) dX11_fall_102 ⟨Nat.zero_le _, Nat.zero_le _⟩ (fun r17 σ16 H locs hw hH => ?_)
      refine lv_istore (lv' := [(8, .int r17), (7, .int x15), (0, .ref (b 69)), (1, .int x1_), (2, .int x2_), (3, .int x3_), (4, .int x4_), (5, .int x5_), (6, .int x6_)]) hx hb dX11_fall_105 hl (by decide) rfl (fun ls hl => ?_)
      refine lv_iload hx hb dX11_fall_107 (lv_at hl 0 rfl) ?_
      refine lv_if_ge (tgt := 116) hx hb dX11_fall_109 (by decide) (fun c18 => ?_) (fun c18 => ?_)
      · have hw := ifp c18 hw
        refine lv_iload hx hb dX11_fall_116 (lv_at hl 0 rfl) ?_
        refine lv_aload_n hx hb dX11_fall_118 rfl (lv_at hl 2 rfl) ?_
        refine mg C hH 14 (by decide) rfl wd_1043 rfl dX11_fall_119 ?_
        refine lv_iload hx hb dX11_fall_122 (lv_at hl 1 rfl) ?_
        obtain ⟨h19, hw⟩ := hw
        refine mai C hH 10 14 rfl h19 dX11_fall_124 ?_
        refine lv_icmp_le (tgt := 138) hx hb dX11_fall_125 (by decide) (fun c20 => ?_) (fun c20 => ?_)
        · have hw := ifp c20 hw
          refine lv_iload hx hb dX11_fall_138 (lv_at hl 0 rfl) ?_
          exact b_M_fall_140 C hr hk ih σ16 x1_ x2_ x3_ x4_ x5_ x6_ x15 r17 hw _ _ _ hH (lv_sub hl [2, 3, 4, 5, 6, 7, 8, 1] rfl)
        · have hw := ifn c20 hw
          refine lv_aload_n hx hb dX11_fall_128 rfl (lv_at hl 2 rfl) ?_
          refine mg C hH 14 (by decide) rfl wd_1043 rfl dX11_fall_129 ?_
          refine lv_iload hx hb dX11_fall_132 (lv_at hl 1 rfl) ?_
          obtain ⟨h21, hw⟩ := hw
          refine mai C hH 10 14 rfl h21 dX11_fall_134 ?_
          refine lv_goto (tgt := 140) hx hb dX11_fall_135 (by decide) ?_
          exact b_M_fall_140 C hr hk ih σ16 x1_ x2_ x3_ x4_ x5_ x6_ x15 (σ16 14 x15.toNatClampNeg) hw _ _ _ hH (lv_sub hl [2, 3, 4, 5, 6, 7, 8, 1] rfl)
      · have hw := ifn c18 hw
        refine lv_iconst (v := 0) hx hb dX11_fall_112 (by decide) ?_
        refine lv_goto (tgt := 140) hx hb dX11_fall_113 (by decide) ?_
        exact b_M_fall_140 C hr hk ih σ16 x1_ x2_ x3_ x4_ x5_ x6_ x15 (0 : Int32) hw _ _ _ hH (lv_sub hl [2, 3, 4, 5, 6, 7, 8, 1] rfl)
def wp_M_fall_43 (post : Int32 → MS → Prop) (σ : MS) (x1_ : Int32) (x2_ : Int32) (x3_ : Int32) : Prop := vp_in x1_ 200 ∧ (if (σ 50 x1_.toNatClampNeg) = (1 : Int32) then (vp_in x1_ 200 ∧ (∀ x25 : Int32, x25 = (σ 53 x1_.toNatClampNeg) → (∃ nn : Nat, wp_M_fall_70  post nn σ x1_ x2_ x3_ (0 : Int32) x25 (0 : Int32)))) else (post (-2 : Int32) σ))
set_option maxHeartbeats 4000000 in
set_option maxRecDepth 100000 in
theorem b_M_fall_43 {p : Program} {l : Launch} {e : Env} {s : State} {m : MethodId} {args : Array Value} {below : List Frame} {meth : Method} {c : Code} {D : va_G} {Z : Nat → ClassId} {b : Nat → Nat} (C : MC p s m args c cX11_fall 9 D Z) (hr : meth.sig.returnType = some .int) (hk : meth.locks = false) {post : Int32 → MS → Prop} : ∀ (σ : MS) (x1_ : Int32) (x2_ : Int32) (x3_ : Int32), wp_M_fall_43  post σ x1_ x2_ x3_ → ∀ (H : Heap) (locs : List Loc) (ls : Array Slot), MH D Z b s.heap σ H locs → lv_has ls 9 [(0, .ref (b 69)), (1, .int x1_), (2, .int x2_), (3, .int x3_)] → MWi p l e rm_M_fall s m args below meth c D Z b post H locs (F0 m 43 ls []) := by
  obtain ⟨⟨hx, hb, hml, hown, hts⟩, hK⟩ := id C
  intro σ x1_ x2_ x3_ hw H locs ls hH hl
  unfold wp_M_fall_43 at hw
  refine lv_aload_n hx hb dX11_fall_43 rfl (lv_at hl 0 rfl) ?_
  refine mg C hH 50 (by decide) rfl wd_1079 rfl dX11_fall_44 ?_
  refine lv_iload_n hx hb dX11_fall_47 rfl (lv_at hl 1 rfl) ?_
  obtain ⟨h22, hw⟩ := hw
  refine mai C hH 37 50 rfl h22 dX11_fall_48 ?_
  refine lv_iconst (v := 1) hx hb dX11_fall_49 (by decide) ?_
  refine lv_icmp_eq (tgt := 56) hx hb dX11_fall_50 (by decide) (fun c23 => ?_) (fun c23 => ?_)
  · have hw := ifp c23 hw
    refine lv_iconst (v := 0) hx hb dX11_fall_56 (by decide) ?_
    refine lv_istore (lv' := [(4, .int (0 : Int32)), (0, .ref (b 69)), (1, .int x1_), (2, .int x2_), (3, .int x3_)]) hx hb dX11_fall_57 hl (by decide) rfl (fun ls hl => ?_)
    refine lv_aload_n hx hb dX11_fall_59 rfl (lv_at hl 1 rfl) ?_
    refine mg C hH 53 (by decide) rfl wd_1082 rfl dX11_fall_60 ?_
    refine lv_iload_n hx hb dX11_fall_63 rfl (lv_at hl 2 rfl) ?_
    obtain ⟨h24, hw⟩ := hw
    refine mai C hH 40 53 rfl h24 dX11_fall_64 ?_
    refine lv_topi (fun x25 ex25 => ?_)
    have hw := hw x25 ex25
    refine lv_istore (lv' := [(5, .int x25), (4, .int (0 : Int32)), (0, .ref (b 69)), (1, .int x1_), (2, .int x2_), (3, .int x3_)]) hx hb dX11_fall_65 hl (by decide) rfl (fun ls hl => ?_)
    refine lv_iconst (v := 0) hx hb dX11_fall_67 (by decide) ?_
    refine lv_istore (lv' := [(6, .int (0 : Int32)), (5, .int x25), (4, .int (0 : Int32)), (0, .ref (b 69)), (1, .int x1_), (2, .int x2_), (3, .int x3_)]) hx hb dX11_fall_68 hl (by decide) rfl (fun ls hl => ?_)
    obtain ⟨nn, hw⟩ := hw
    exact b_M_fall_70 C hr hk  nn σ x1_ x2_ x3_ (0 : Int32) x25 (0 : Int32) hw _ _ _ hH (lv_sub hl [3, 4, 5, 6, 2, 1, 0] rfl)
  · have hw := ifn c23 hw
    refine lv_bipush (v := -2) hx hb dX11_fall_53 (by decide) ?_
    exact mri C hr hk hH hw dX11_fall_55
def wp_M_fall (σ : MS) (a1 : Int32) (a2 : Int32) (a3 : Int32) (post : Int32 → MS → Prop) : Prop := wp_M_isLoad σ a1 (fun r27 σ26 => if r27 = 0 then (post (-1 : Int32) σ26) else (if a2 = (-1 : Int32) then (wp_M_fall_43 post σ26 a1 a2 a3) else (wp_M_isMan σ26 a2 (fun r31 σ30 => if r31 = 0 then (post (-1 : Int32) σ30) else (wp_M_placeInGang σ30 a1 a2 (fun r34 σ33 => if r34 < 0 then (post (-1 : Int32) σ33) else (wp_M_in σ33 a3 (0 : Int32) (200000 : Int32) (fun r37 σ36 => if r37 = 0 then (post (-1 : Int32) σ36) else (wp_M_fall_43 post σ36 a1 a2 a3)))))))))
set_option maxHeartbeats 4000000 in
set_option maxRecDepth 100000 in
theorem c_M_fall (l : Launch) (D : va_G) (Z : Nat → ClassId) (b : Nat → Nat) (σ : MS) (a1 : Int32) (a2 : Int32) (a3 : Int32) (post : Int32 → MS → Prop) (hw : wp_M_fall σ a1 a2 a3 post) (sz : Nat) : Met l yX11_fall (Wd yX11_fall cX11_fall 9 (some .int)) rm_M_fall (va_Pc [.ref (b 69), .int a1, .int a2, .int a3] (mPre D Z b sz σ)) (va_Qi post (mPost D Z b) (mA b sz)) 0 0 (mA b sz) := by
  refine mMi (by decide) rfl _ (Nat.le_of_ble_eq_true rfl) (fun p e s m args below meth c C hr hk ls hl hH => ?_) sz
  obtain ⟨⟨hx, hb, hml, hown, hts⟩, hK⟩ := id C
  have hl : lv_has ls 9 [(0, .ref (b 69)), (1, .int a1), (2, .int a2), (3, .int a3)] := hl
  unfold wp_M_fall at hw
  refine lv_aload_n hx hb dX11_fall_0 rfl (lv_at hl 0 rfl) ?_
  refine lv_iload_n hx hb dX11_fall_1 rfl (lv_at hl 1 rfl) ?_
  refine mcVi C hH [.int a1] (fun sz => c_M_isLoad l D Z b σ a1 _ hw sz) (cwTV 1 hts wd_1421 wd_1423 ws_64 wd_14 wd_1424 rfl rfl (by decide +kernel) ⟨Nat.le_of_ble_eq_true rfl, Nat.le_of_ble_eq_true rfl⟩) rfl hl.1 rfl (Nat.le_of_ble_eq_true rfl) dX11_fall_2 ⟨Nat.zero_le _, Nat.zero_le _⟩ (fun r27 σ26 H locs hw hH => ?_)
  refine lv_if_eq (tgt := 41) hx hb dX11_fall_5 (by decide) (fun c28 => ?_) (fun c28 => ?_)
  · have hw := ifp c28 hw
    refine lv_iconst (v := -1) hx hb dX11_fall_41 (by decide) ?_
    exact mri C hr hk hH hw dX11_fall_42
  · have hw := ifn c28 hw
    refine lv_iload_n hx hb dX11_fall_8 rfl (lv_at hl 2 rfl) ?_
    refine lv_iconst (v := -1) hx hb dX11_fall_9 (by decide) ?_
    refine lv_icmp_eq (tgt := 43) hx hb dX11_fall_10 (by decide) (fun c29 => ?_) (fun c29 => ?_)
    · have hw := ifp c29 hw
      exact b_M_fall_43 C hr hk  σ26 a1 a2 a3 hw _ _ _ hH (lv_sub hl [0, 1, 2, 3] rfl)
    · have hw := ifn c29 hw
      refine lv_aload_n hx hb dX11_fall_13 rfl (lv_at hl 0 rfl) ?_
      refine lv_iload_n hx hb dX11_fall_14 rfl (lv_at hl 2 rfl) ?_
      refine mcVi C hH [.int a2] (fun sz => c_M_isMan l D Z b σ26 a2 _ hw sz) (cwTV 1 hts wd_1290 wd_1292 ws_51 wd_14 wd_1293 rfl rfl (by decide +kernel) ⟨Nat.le_of_ble_eq_true rfl, Nat.le_of_ble_eq_true rfl⟩) rfl hl.1 rfl (Nat.le_of_ble_eq_true rfl) dX11_fall_15 ⟨Nat.zero_le _, Nat.zero_le _⟩ (fun r31 σ30 H locs hw hH => ?_)
      refine lv_if_eq (tgt := 41) hx hb dX11_fall_18 (by decide) (fun c32 => ?_) (fun c32 => ?_)
      · have hw := ifp c32 hw
        refine lv_iconst (v := -1) hx hb dX11_fall_41 (by decide) ?_
        exact mri C hr hk hH hw dX11_fall_42
      · have hw := ifn c32 hw
        refine lv_aload_n hx hb dX11_fall_21 rfl (lv_at hl 0 rfl) ?_
        refine lv_iload_n hx hb dX11_fall_22 rfl (lv_at hl 1 rfl) ?_
        refine lv_iload_n hx hb dX11_fall_23 rfl (lv_at hl 2 rfl) ?_
        refine mcVi C hH [.int a1, .int a2] (fun sz => c_M_placeInGang l D Z b σ30 a1 a2 _ hw sz) (cwTV 2 hts wd_1498 wd_1500 ws_75 wd_14 wd_1501 rfl rfl (by decide +kernel) ⟨Nat.le_of_ble_eq_true rfl, Nat.le_of_ble_eq_true rfl⟩) rfl hl.1 rfl (Nat.le_of_ble_eq_true rfl) dX11_fall_24 ⟨Nat.zero_le _, Nat.zero_le _⟩ (fun r34 σ33 H locs hw hH => ?_)
        refine lv_if_lt (tgt := 41) hx hb dX11_fall_27 (by decide) (fun c35 => ?_) (fun c35 => ?_)
        · have hw := ifp c35 hw
          refine lv_iconst (v := -1) hx hb dX11_fall_41 (by decide) ?_
          exact mri C hr hk hH hw dX11_fall_42
        · have hw := ifn c35 hw
          refine lv_iload_n hx hb dX11_fall_30 rfl (lv_at hl 3 rfl) ?_
          refine lv_iconst (v := 0) hx hb dX11_fall_31 (by decide) ?_
          refine lv_ldcw (own := RX11) (index := 370) (v := 200000) hx hb hown (hts _ wd_1449) dX11_fall_32 ?_
          refine mcSi C hH [.int a3, .int (0 : Int32), .int (200000 : Int32)] (fun sz => c_M_in l D Z b σ33 a3 (0 : Int32) (200000 : Int32) _ hw sz) (cwTS 3 hts wd_1242 wd_1243 wd_14 wd_1244 rfl rfl (by decide +kernel) ⟨Nat.le_of_ble_eq_true rfl, Nat.le_of_ble_eq_true rfl⟩) rfl hl.1 rfl (Nat.le_of_ble_eq_true rfl) dX11_fall_35 ⟨Nat.zero_le _, Nat.zero_le _⟩ (fun r37 σ36 H locs hw hH => ?_)
          refine lv_if_ne (tgt := 43) hx hb dX11_fall_38 (by decide) (fun c38 => ?_) (fun c38 => ?_)
          · have hw := ifn c38 hw
            exact b_M_fall_43 C hr hk  σ36 a1 a2 a3 hw _ _ _ hH (lv_sub hl [0, 1, 2, 3] rfl)
          · have hw := ifp c38 hw
            refine lv_iconst (v := -1) hx hb dX11_fall_41 (by decide) ?_
            exact mri C hr hk hH hw dX11_fall_42
/-! waited -/
abbrev rm_M_waited : Room := { frames := 0, cells := 0, slots := 0, locals := 0 }
def wp_M_waited_22 (post : Int32 → MS → Prop) (σ : MS) (x1_ : Int32) (t0_ : Int32) : Prop := vp_in x1_ 200 ∧ (post (t0_ - (σ 51 x1_.toNatClampNeg)) σ)
set_option maxHeartbeats 4000000 in
set_option maxRecDepth 100000 in
theorem b_M_waited_22 {p : Program} {l : Launch} {e : Env} {s : State} {m : MethodId} {args : Array Value} {below : List Frame} {meth : Method} {c : Code} {D : va_G} {Z : Nat → ClassId} {b : Nat → Nat} (C : MC p s m args c cX11_waited 2 D Z) (hr : meth.sig.returnType = some .int) (hk : meth.locks = false) {post : Int32 → MS → Prop} : ∀ (σ : MS) (x1_ : Int32) (t0_ : Int32), wp_M_waited_22  post σ x1_ t0_ → ∀ (H : Heap) (locs : List Loc) (ls : Array Slot), MH D Z b s.heap σ H locs → lv_has ls 2 [(0, .ref (b 69)), (1, .int x1_)] → MWi p l e rm_M_waited s m args below meth c D Z b post H locs (F0 m 22 ls [.int t0_]) := by
  obtain ⟨⟨hx, hb, hml, hown, hts⟩, hK⟩ := id C
  intro σ x1_ t0_ hw H locs ls hH hl
  unfold wp_M_waited_22 at hw
  refine lv_aload_n hx hb dX11_waited_22 rfl (lv_at hl 0 rfl) ?_
  refine mg C hH 51 (by decide) rfl wd_1080 rfl dX11_waited_23 ?_
  refine lv_iload_n hx hb dX11_waited_26 rfl (lv_at hl 1 rfl) ?_
  obtain ⟨h1, hw⟩ := hw
  refine mai C hH 38 51 rfl h1 dX11_waited_27 ?_
  refine lv_isub hx hb dX11_waited_28 ?_
  exact mri C hr hk hH hw dX11_waited_29
def wp_M_waited (σ : MS) (a1 : Int32) (post : Int32 → MS → Prop) : Prop := vp_in a1 200 ∧ (if (σ 50 a1.toNatClampNeg) = 0 then (wp_M_waited_22 post σ a1 (σ 1 0)) else (vp_in a1 200 ∧ (wp_M_waited_22 post σ a1 (σ 52 a1.toNatClampNeg))))
set_option maxHeartbeats 4000000 in
set_option maxRecDepth 100000 in
theorem c_M_waited (l : Launch) (D : va_G) (Z : Nat → ClassId) (b : Nat → Nat) (σ : MS) (a1 : Int32) (post : Int32 → MS → Prop) (hw : wp_M_waited σ a1 post) (sz : Nat) : Met l yX11_waited (Wd yX11_waited cX11_waited 2 (some .int)) rm_M_waited (va_Pc [.ref (b 69), .int a1] (mPre D Z b sz σ)) (va_Qi post (mPost D Z b) (mA b sz)) 0 0 (mA b sz) := by
  refine mMi (by decide) rfl _ (Nat.le_of_ble_eq_true rfl) (fun p e s m args below meth c C hr hk ls hl hH => ?_) sz
  obtain ⟨⟨hx, hb, hml, hown, hts⟩, hK⟩ := id C
  have hl : lv_has ls 2 [(0, .ref (b 69)), (1, .int a1)] := hl
  unfold wp_M_waited at hw
  refine lv_aload_n hx hb dX11_waited_0 rfl (lv_at hl 0 rfl) ?_
  refine mg C hH 50 (by decide) rfl wd_1079 rfl dX11_waited_1 ?_
  refine lv_iload_n hx hb dX11_waited_4 rfl (lv_at hl 1 rfl) ?_
  obtain ⟨h2, hw⟩ := hw
  refine mai C hH 37 50 rfl h2 dX11_waited_5 ?_
  refine lv_if_ne (tgt := 16) hx hb dX11_waited_6 (by decide) (fun c3 => ?_) (fun c3 => ?_)
  · have hw := ifn c3 hw
    refine lv_aload_n hx hb dX11_waited_16 rfl (lv_at hl 0 rfl) ?_
    refine mg C hH 52 (by decide) rfl wd_1081 rfl dX11_waited_17 ?_
    refine lv_iload_n hx hb dX11_waited_20 rfl (lv_at hl 1 rfl) ?_
    obtain ⟨h4, hw⟩ := hw
    refine mai C hH 39 52 rfl h4 dX11_waited_21 ?_
    exact b_M_waited_22 C hr hk  σ a1 (σ 52 a1.toNatClampNeg) hw _ _ _ hH (lv_sub hl [0, 1] rfl)
  · have hw := ifp c3 hw
    refine lv_aload_n hx hb dX11_waited_9 rfl (lv_at hl 0 rfl) ?_
    refine mg C hH 1 (by decide) rfl wd_1030 rfl dX11_waited_10 ?_
    refine lv_goto (tgt := 22) hx hb dX11_waited_13 (by decide) ?_
    exact b_M_waited_22 C hr hk  σ a1 (σ 1 0) hw _ _ _ hH (lv_sub hl [0, 1] rfl)
/-! told -/
abbrev rm_M_told : Room := { frames := 2, cells := 0, slots := 0, locals := 43 }
def wp_M_told_183 (post : Int32 → MS → Prop) (σ : MS) (x1_ : Int32) : Prop := vp_in x1_ 200 ∧ (post (σ 54 x1_.toNatClampNeg) σ)
set_option maxHeartbeats 4000000 in
set_option maxRecDepth 100000 in
theorem b_M_told_183 {p : Program} {l : Launch} {e : Env} {s : State} {m : MethodId} {args : Array Value} {below : List Frame} {meth : Method} {c : Code} {D : va_G} {Z : Nat → ClassId} {b : Nat → Nat} (C : MC p s m args c cX11_told 3 D Z) (hr : meth.sig.returnType = some .int) (hk : meth.locks = false) {post : Int32 → MS → Prop} : ∀ (σ : MS) (x1_ : Int32), wp_M_told_183  post σ x1_ → ∀ (H : Heap) (locs : List Loc) (ls : Array Slot), MH D Z b s.heap σ H locs → lv_has ls 3 [(0, .ref (b 69)), (1, .int x1_)] → MWi p l e rm_M_told s m args below meth c D Z b post H locs (F0 m 183 ls []) := by
  obtain ⟨⟨hx, hb, hml, hown, hts⟩, hK⟩ := id C
  intro σ x1_ hw H locs ls hH hl
  unfold wp_M_told_183 at hw
  refine lv_aload_n hx hb dX11_told_183 rfl (lv_at hl 0 rfl) ?_
  refine mg C hH 54 (by decide) rfl wd_1083 rfl dX11_told_184 ?_
  refine lv_iload_n hx hb dX11_told_187 rfl (lv_at hl 1 rfl) ?_
  obtain ⟨h1, hw⟩ := hw
  refine mai C hH 41 54 rfl h1 dX11_told_188 ?_
  refine lv_goto (tgt := 193) hx hb dX11_told_189 (by decide) ?_
  exact mri C hr hk hH hw dX11_told_193
def wp_M_told (σ : MS) (a1 : Int32) (a2 : Int32) (post : Int32 → MS → Prop) : Prop := wp_M_isLoad σ a1 (fun r3 σ2 => if r3 = 0 then (post (-2 : Int32) σ2) else (if a2 = (0 : Int32) then (vp_in a1 200 ∧ (post (σ2 44 a1.toNatClampNeg) σ2)) else (if a2 = (1 : Int32) then (vp_in a1 200 ∧ (post (σ2 45 a1.toNatClampNeg) σ2)) else (if a2 = (2 : Int32) then (vp_in a1 200 ∧ (post (σ2 46 a1.toNatClampNeg) σ2)) else (if a2 = (3 : Int32) then (vp_in a1 200 ∧ (post (σ2 47 a1.toNatClampNeg) σ2)) else (if a2 = (4 : Int32) then (vp_in a1 200 ∧ (post (σ2 48 a1.toNatClampNeg) σ2)) else (if a2 = (5 : Int32) then (vp_in a1 200 ∧ (post (σ2 49 a1.toNatClampNeg) σ2)) else (if a2 = (6 : Int32) then (vp_in a1 200 ∧ (post (σ2 50 a1.toNatClampNeg) σ2)) else (if a2 = (7 : Int32) then (vp_in a1 200 ∧ (post (σ2 53 a1.toNatClampNeg) σ2)) else (if a2 = (8 : Int32) then (vp_in a1 200 ∧ (post (σ2 58 a1.toNatClampNeg) σ2)) else (if a2 = (9 : Int32) then (vp_in a1 200 ∧ (post (σ2 55 a1.toNatClampNeg) σ2)) else (if a2 = (10 : Int32) then (vp_in a1 200 ∧ (post (σ2 57 a1.toNatClampNeg) σ2)) else (if a2 = (11 : Int32) then (wp_M_waited σ2 a1 (fun r29 σ28 => post r29 σ28)) else (if a2 = (12 : Int32) then (vp_in a1 200 ∧ (if (σ2 50 a1.toNatClampNeg) = (1 : Int32) then (wp_M_told_183 post σ2 a1) else (vp_in a1 200 ∧ (if (σ2 50 a1.toNatClampNeg) = (2 : Int32) then (wp_M_told_183 post σ2 a1) else (post (-1 : Int32) σ2))))) else (post (-2 : Int32) σ2)))))))))))))))
set_option maxHeartbeats 4000000 in
set_option maxRecDepth 100000 in
theorem c_M_told (l : Launch) (D : va_G) (Z : Nat → ClassId) (b : Nat → Nat) (σ : MS) (a1 : Int32) (a2 : Int32) (post : Int32 → MS → Prop) (hw : wp_M_told σ a1 a2 post) (sz : Nat) : Met l yX11_told (Wd yX11_told cX11_told 3 (some .int)) rm_M_told (va_Pc [.ref (b 69), .int a1, .int a2] (mPre D Z b sz σ)) (va_Qi post (mPost D Z b) (mA b sz)) 0 0 (mA b sz) := by
  refine mMi (by decide) rfl _ (Nat.le_of_ble_eq_true rfl) (fun p e s m args below meth c C hr hk ls hl hH => ?_) sz
  obtain ⟨⟨hx, hb, hml, hown, hts⟩, hK⟩ := id C
  have hl : lv_has ls 3 [(0, .ref (b 69)), (1, .int a1), (2, .int a2)] := hl
  unfold wp_M_told at hw
  refine lv_aload_n hx hb dX11_told_0 rfl (lv_at hl 0 rfl) ?_
  refine lv_iload_n hx hb dX11_told_1 rfl (lv_at hl 1 rfl) ?_
  refine mcVi C hH [.int a1] (fun sz => c_M_isLoad l D Z b σ a1 _ hw sz) (cwTV 1 hts wd_1421 wd_1423 ws_64 wd_14 wd_1424 rfl rfl (by decide +kernel) ⟨Nat.le_of_ble_eq_true rfl, Nat.le_of_ble_eq_true rfl⟩) rfl hl.1 rfl (Nat.le_of_ble_eq_true rfl) dX11_told_2 ⟨Nat.zero_le _, Nat.zero_le _⟩ (fun r3 σ2 H locs hw hH => ?_)
  refine lv_if_ne (tgt := 11) hx hb dX11_told_5 (by decide) (fun c4 => ?_) (fun c4 => ?_)
  · have hw := ifn c4 hw
    refine lv_iload_n hx hb dX11_told_11 rfl (lv_at hl 2 rfl) ?_
    by_cases c5 : a2 = (0 : Int32)
    · have hw := ifp c5 hw
      refine lv_tableIn (tgt := 80) hx hb dX11_told_12 (by rw [c5]; decide) (by rw [c5]; decide) (by rw [c5]; rfl) (by decide) ?_
      refine lv_aload_n hx hb dX11_told_80 rfl (lv_at hl 0 rfl) ?_
      refine mg C hH 44 (by decide) rfl wd_1073 rfl dX11_told_81 ?_
      refine lv_iload_n hx hb dX11_told_84 rfl (lv_at hl 1 rfl) ?_
      obtain ⟨h6, hw⟩ := hw
      refine mai C hH 31 44 rfl h6 dX11_told_85 ?_
      exact mri C hr hk hH hw dX11_told_86
    have hw := ifn c5 hw
    by_cases c7 : a2 = (1 : Int32)
    · have hw := ifp c7 hw
      refine lv_tableIn (tgt := 87) hx hb dX11_told_12 (by rw [c7]; decide) (by rw [c7]; decide) (by rw [c7]; rfl) (by decide) ?_
      refine lv_aload_n hx hb dX11_told_87 rfl (lv_at hl 0 rfl) ?_
      refine mg C hH 45 (by decide) rfl wd_1074 rfl dX11_told_88 ?_
      refine lv_iload_n hx hb dX11_told_91 rfl (lv_at hl 1 rfl) ?_
      obtain ⟨h8, hw⟩ := hw
      refine mai C hH 32 45 rfl h8 dX11_told_92 ?_
      exact mri C hr hk hH hw dX11_told_93
    have hw := ifn c7 hw
    by_cases c9 : a2 = (2 : Int32)
    · have hw := ifp c9 hw
      refine lv_tableIn (tgt := 94) hx hb dX11_told_12 (by rw [c9]; decide) (by rw [c9]; decide) (by rw [c9]; rfl) (by decide) ?_
      refine lv_aload_n hx hb dX11_told_94 rfl (lv_at hl 0 rfl) ?_
      refine mg C hH 46 (by decide) rfl wd_1075 rfl dX11_told_95 ?_
      refine lv_iload_n hx hb dX11_told_98 rfl (lv_at hl 1 rfl) ?_
      obtain ⟨h10, hw⟩ := hw
      refine mai C hH 33 46 rfl h10 dX11_told_99 ?_
      exact mri C hr hk hH hw dX11_told_100
    have hw := ifn c9 hw
    by_cases c11 : a2 = (3 : Int32)
    · have hw := ifp c11 hw
      refine lv_tableIn (tgt := 101) hx hb dX11_told_12 (by rw [c11]; decide) (by rw [c11]; decide) (by rw [c11]; rfl) (by decide) ?_
      refine lv_aload_n hx hb dX11_told_101 rfl (lv_at hl 0 rfl) ?_
      refine mg C hH 47 (by decide) rfl wd_1076 rfl dX11_told_102 ?_
      refine lv_iload_n hx hb dX11_told_105 rfl (lv_at hl 1 rfl) ?_
      obtain ⟨h12, hw⟩ := hw
      refine mai C hH 34 47 rfl h12 dX11_told_106 ?_
      exact mri C hr hk hH hw dX11_told_107
    have hw := ifn c11 hw
    by_cases c13 : a2 = (4 : Int32)
    · have hw := ifp c13 hw
      refine lv_tableIn (tgt := 108) hx hb dX11_told_12 (by rw [c13]; decide) (by rw [c13]; decide) (by rw [c13]; rfl) (by decide) ?_
      refine lv_aload_n hx hb dX11_told_108 rfl (lv_at hl 0 rfl) ?_
      refine mg C hH 48 (by decide) rfl wd_1077 rfl dX11_told_109 ?_
      refine lv_iload_n hx hb dX11_told_112 rfl (lv_at hl 1 rfl) ?_
      obtain ⟨h14, hw⟩ := hw
      refine mai C hH 35 48 rfl h14 dX11_told_113 ?_
      exact mri C hr hk hH hw dX11_told_114
    have hw := ifn c13 hw
    by_cases c15 : a2 = (5 : Int32)
    · have hw := ifp c15 hw
      refine lv_tableIn (tgt := 115) hx hb dX11_told_12 (by rw [c15]; decide) (by rw [c15]; decide) (by rw [c15]; rfl) (by decide) ?_
      refine lv_aload_n hx hb dX11_told_115 rfl (lv_at hl 0 rfl) ?_
      refine mg C hH 49 (by decide) rfl wd_1078 rfl dX11_told_116 ?_
      refine lv_iload_n hx hb dX11_told_119 rfl (lv_at hl 1 rfl) ?_
      obtain ⟨h16, hw⟩ := hw
      refine mai C hH 36 49 rfl h16 dX11_told_120 ?_
      exact mri C hr hk hH hw dX11_told_121
    have hw := ifn c15 hw
    by_cases c17 : a2 = (6 : Int32)
    · have hw := ifp c17 hw
      refine lv_tableIn (tgt := 122) hx hb dX11_told_12 (by rw [c17]; decide) (by rw [c17]; decide) (by rw [c17]; rfl) (by decide) ?_
      refine lv_aload_n hx hb dX11_told_122 rfl (lv_at hl 0 rfl) ?_
      refine mg C hH 50 (by decide) rfl wd_1079 rfl dX11_told_123 ?_
      refine lv_iload_n hx hb dX11_told_126 rfl (lv_at hl 1 rfl) ?_
      obtain ⟨h18, hw⟩ := hw
      refine mai C hH 37 50 rfl h18 dX11_told_127 ?_
      exact mri C hr hk hH hw dX11_told_128
    have hw := ifn c17 hw
    by_cases c19 : a2 = (7 : Int32)
    · have hw := ifp c19 hw
      refine lv_tableIn (tgt := 129) hx hb dX11_told_12 (by rw [c19]; decide) (by rw [c19]; decide) (by rw [c19]; rfl) (by decide) ?_
      refine lv_aload_n hx hb dX11_told_129 rfl (lv_at hl 0 rfl) ?_
      refine mg C hH 53 (by decide) rfl wd_1082 rfl dX11_told_130 ?_
      refine lv_iload_n hx hb dX11_told_133 rfl (lv_at hl 1 rfl) ?_
      obtain ⟨h20, hw⟩ := hw
      refine mai C hH 40 53 rfl h20 dX11_told_134 ?_
      exact mri C hr hk hH hw dX11_told_135
    have hw := ifn c19 hw
    by_cases c21 : a2 = (8 : Int32)
    · have hw := ifp c21 hw
      refine lv_tableIn (tgt := 136) hx hb dX11_told_12 (by rw [c21]; decide) (by rw [c21]; decide) (by rw [c21]; rfl) (by decide) ?_
      refine lv_aload_n hx hb dX11_told_136 rfl (lv_at hl 0 rfl) ?_
      refine mg C hH 58 (by decide) rfl wd_1087 rfl dX11_told_137 ?_
      refine lv_iload_n hx hb dX11_told_140 rfl (lv_at hl 1 rfl) ?_
      obtain ⟨h22, hw⟩ := hw
      refine mai C hH 45 58 rfl h22 dX11_told_141 ?_
      exact mri C hr hk hH hw dX11_told_142
    have hw := ifn c21 hw
    by_cases c23 : a2 = (9 : Int32)
    · have hw := ifp c23 hw
      refine lv_tableIn (tgt := 143) hx hb dX11_told_12 (by rw [c23]; decide) (by rw [c23]; decide) (by rw [c23]; rfl) (by decide) ?_
      refine lv_aload_n hx hb dX11_told_143 rfl (lv_at hl 0 rfl) ?_
      refine mg C hH 55 (by decide) rfl wd_1084 rfl dX11_told_144 ?_
      refine lv_iload_n hx hb dX11_told_147 rfl (lv_at hl 1 rfl) ?_
      obtain ⟨h24, hw⟩ := hw
      refine mai C hH 42 55 rfl h24 dX11_told_148 ?_
      exact mri C hr hk hH hw dX11_told_149
    have hw := ifn c23 hw
    by_cases c25 : a2 = (10 : Int32)
    · have hw := ifp c25 hw
      refine lv_tableIn (tgt := 150) hx hb dX11_told_12 (by rw [c25]; decide) (by rw [c25]; decide) (by rw [c25]; rfl) (by decide) ?_
      refine lv_aload_n hx hb dX11_told_150 rfl (lv_at hl 0 rfl) ?_
      refine mg C hH 57 (by decide) rfl wd_1086 rfl dX11_told_151 ?_
      refine lv_iload_n hx hb dX11_told_154 rfl (lv_at hl 1 rfl) ?_
      obtain ⟨h26, hw⟩ := hw
      refine mai C hH 44 57 rfl h26 dX11_told_155 ?_
      exact mri C hr hk hH hw dX11_told_156
    have hw := ifn c25 hw
    by_cases c27 : a2 = (11 : Int32)
    · have hw := ifp c27 hw
      refine lv_tableIn (tgt := 157) hx hb dX11_told_12 (by rw [c27]; decide) (by rw [c27]; decide) (by rw [c27]; rfl) (by decide) ?_
      refine lv_aload_n hx hb dX11_told_157 rfl (lv_at hl 0 rfl) ?_
      refine lv_iload_n hx hb dX11_told_158 rfl (lv_at hl 1 rfl) ?_
      refine mcVi C hH [.int a1] (fun sz => c_M_waited l D Z b σ2 a1 _ hw sz) (cwTV 1 hts wd_1510 wd_1512 ws_77 wd_14 wd_1513 rfl rfl (by decide +kernel) ⟨Nat.le_of_ble_eq_true rfl, Nat.le_of_ble_eq_true rfl⟩) rfl hl.1 rfl (Nat.le_of_ble_eq_true rfl) dX11_told_159 ⟨Nat.zero_le _, Nat.zero_le _⟩ (fun r29 σ28 H locs hw hH => ?_)
      exact mri C hr hk hH hw dX11_told_162
    have hw := ifn c27 hw
    by_cases c30 : a2 = (12 : Int32)
    · have hw := ifp c30 hw
      refine lv_tableIn (tgt := 163) hx hb dX11_told_12 (by rw [c30]; decide) (by rw [c30]; decide) (by rw [c30]; rfl) (by decide) ?_
      refine lv_aload_n hx hb dX11_told_163 rfl (lv_at hl 0 rfl) ?_
      refine mg C hH 50 (by decide) rfl wd_1079 rfl dX11_told_164 ?_
      refine lv_iload_n hx hb dX11_told_167 rfl (lv_at hl 1 rfl) ?_
      obtain ⟨h31, hw⟩ := hw
      refine mai C hH 37 50 rfl h31 dX11_told_168 ?_
      refine lv_iconst (v := 1) hx hb dX11_told_169 (by decide) ?_
      refine lv_icmp_eq (tgt := 183) hx hb dX11_told_170 (by decide) (fun c32 => ?_) (fun c32 => ?_)
      · have hw := ifp c32 hw
        exact b_M_told_183 C hr hk  σ2 a1 hw _ _ _ hH (lv_sub hl [0, 1] rfl)
      · have hw := ifn c32 hw
        refine lv_aload_n hx hb dX11_told_173 rfl (lv_at hl 0 rfl) ?_
        refine mg C hH 50 (by decide) rfl wd_1079 rfl dX11_told_174 ?_
        refine lv_iload_n hx hb dX11_told_177 rfl (lv_at hl 1 rfl) ?_
        obtain ⟨h33, hw⟩ := hw
        refine mai C hH 37 50 rfl h33 dX11_told_178 ?_
        refine lv_iconst (v := 2) hx hb dX11_told_179 (by decide) ?_
        refine lv_icmp_ne (tgt := 192) hx hb dX11_told_180 (by decide) (fun c34 => ?_) (fun c34 => ?_)
        · have hw := ifn c34 hw
          refine lv_iconst (v := -1) hx hb dX11_told_192 (by decide) ?_
          exact mri C hr hk hH hw dX11_told_193
        · have hw := ifp c34 hw
          exact b_M_told_183 C hr hk  σ2 a1 hw _ _ _ hH (lv_sub hl [0, 1] rfl)
    have hw := ifn c30 hw
    refine lv_tableOut (tgt := 194) hx hb dX11_told_12 (by have := sw_ne c5 0 (by decide); have := sw_ne c7 1 (by decide); have := sw_ne c9 2 (by decide); have := sw_ne c11 3 (by decide); have := sw_ne c13 4 (by decide); have := sw_ne c15 5 (by decide); have := sw_ne c17 6 (by decide); have := sw_ne c19 7 (by decide); have := sw_ne c21 8 (by decide); have := sw_ne c23 9 (by decide); have := sw_ne c25 10 (by decide); have := sw_ne c27 11 (by decide); have := sw_ne c30 12 (by decide); omega) (by decide) ?_
    refine lv_bipush (v := -2) hx hb dX11_told_194 (by decide) ?_
    exact mri C hr hk hH hw dX11_told_196
  · have hw := ifp c4 hw
    refine lv_bipush (v := -2) hx hb dX11_told_8 (by decide) ?_
    exact mri C hr hk hH hw dX11_told_10
/-! gang -/
abbrev rm_M_gang : Room := { frames := 2, cells := 0, slots := 0, locals := 43 }
def wp_M_gang (σ : MS) (a1 : Int32) (a2 : Int32) (post : Int32 → MS → Prop) : Prop := wp_M_isLoad σ a1 (fun r2 σ1 => if r2 = 0 then (post (-1 : Int32) σ1) else (vp_in a1 200 ∧ (wp_M_in σ1 a2 (0 : Int32) ((σ1 58 a1.toNatClampNeg) - (1 : Int32)) (fun r6 σ5 => if r6 = 0 then (post (-1 : Int32) σ5) else (vp_in (((8 : Int32) * a1) + a2) 1600 ∧ (post (σ5 59 (((8 : Int32) * a1) + a2).toNatClampNeg) σ5))))))
set_option maxHeartbeats 4000000 in
set_option maxRecDepth 100000 in
theorem c_M_gang (l : Launch) (D : va_G) (Z : Nat → ClassId) (b : Nat → Nat) (σ : MS) (a1 : Int32) (a2 : Int32) (post : Int32 → MS → Prop) (hw : wp_M_gang σ a1 a2 post) (sz : Nat) : Met l yX11_gang (Wd yX11_gang cX11_gang 3 (some .int)) rm_M_gang (va_Pc [.ref (b 69), .int a1, .int a2] (mPre D Z b sz σ)) (va_Qi post (mPost D Z b) (mA b sz)) 0 0 (mA b sz) := by
  refine mMi (by decide) rfl _ (Nat.le_of_ble_eq_true rfl) (fun p e s m args below meth c C hr hk ls hl hH => ?_) sz
  obtain ⟨⟨hx, hb, hml, hown, hts⟩, hK⟩ := id C
  have hl : lv_has ls 3 [(0, .ref (b 69)), (1, .int a1), (2, .int a2)] := hl
  unfold wp_M_gang at hw
  refine lv_aload_n hx hb dX11_gang_0 rfl (lv_at hl 0 rfl) ?_
  refine lv_iload_n hx hb dX11_gang_1 rfl (lv_at hl 1 rfl) ?_
  refine mcVi C hH [.int a1] (fun sz => c_M_isLoad l D Z b σ a1 _ hw sz) (cwTV 1 hts wd_1421 wd_1423 ws_64 wd_14 wd_1424 rfl rfl (by decide +kernel) ⟨Nat.le_of_ble_eq_true rfl, Nat.le_of_ble_eq_true rfl⟩) rfl hl.1 rfl (Nat.le_of_ble_eq_true rfl) dX11_gang_2 ⟨Nat.zero_le _, Nat.zero_le _⟩ (fun r2 σ1 H locs hw hH => ?_)
  refine lv_if_eq (tgt := 38) hx hb dX11_gang_5 (by decide) (fun c3 => ?_) (fun c3 => ?_)
  · have hw := ifp c3 hw
    refine lv_iconst (v := -1) hx hb dX11_gang_38 (by decide) ?_
    exact mri C hr hk hH hw dX11_gang_39
  · have hw := ifn c3 hw
    refine lv_iload_n hx hb dX11_gang_8 rfl (lv_at hl 2 rfl) ?_
    refine lv_iconst (v := 0) hx hb dX11_gang_9 (by decide) ?_
    refine lv_aload_n hx hb dX11_gang_10 rfl (lv_at hl 0 rfl) ?_
    refine mg C hH 58 (by decide) rfl wd_1087 rfl dX11_gang_11 ?_
    refine lv_iload_n hx hb dX11_gang_14 rfl (lv_at hl 1 rfl) ?_
    obtain ⟨h4, hw⟩ := hw
    refine mai C hH 45 58 rfl h4 dX11_gang_15 ?_
    refine lv_iconst (v := 1) hx hb dX11_gang_16 (by decide) ?_
    refine lv_isub hx hb dX11_gang_17 ?_
    refine mcSi C hH [.int a2, .int (0 : Int32), .int ((σ1 58 a1.toNatClampNeg) - (1 : Int32))] (fun sz => c_M_in l D Z b σ1 a2 (0 : Int32) ((σ1 58 a1.toNatClampNeg) - (1 : Int32)) _ hw sz) (cwTS 3 hts wd_1242 wd_1243 wd_14 wd_1244 rfl rfl (by decide +kernel) ⟨Nat.le_of_ble_eq_true rfl, Nat.le_of_ble_eq_true rfl⟩) rfl hl.1 rfl (Nat.le_of_ble_eq_true rfl) dX11_gang_18 ⟨Nat.zero_le _, Nat.zero_le _⟩ (fun r6 σ5 H locs hw hH => ?_)
    refine lv_if_eq (tgt := 38) hx hb dX11_gang_21 (by decide) (fun c7 => ?_) (fun c7 => ?_)
    · have hw := ifp c7 hw
      refine lv_iconst (v := -1) hx hb dX11_gang_38 (by decide) ?_
      exact mri C hr hk hH hw dX11_gang_39
    · have hw := ifn c7 hw
      refine lv_aload_n hx hb dX11_gang_24 rfl (lv_at hl 0 rfl) ?_
      refine mg C hH 59 (by decide) rfl wd_1088 rfl dX11_gang_25 ?_
      refine lv_bipush (v := 8) hx hb dX11_gang_28 (by decide) ?_
      refine lv_iload_n hx hb dX11_gang_30 rfl (lv_at hl 1 rfl) ?_
      refine lv_imul hx hb dX11_gang_31 ?_
      refine lv_iload_n hx hb dX11_gang_32 rfl (lv_at hl 2 rfl) ?_
      refine lv_iadd hx hb dX11_gang_33 ?_
      obtain ⟨h8, hw⟩ := hw
      refine mai C hH 46 59 rfl h8 dX11_gang_34 ?_
      refine lv_goto (tgt := 39) hx hb dX11_gang_35 (by decide) ?_
      exact mri C hr hk hH hw dX11_gang_39
/-! pays -/
abbrev rm_M_pays : Room := { frames := 2, cells := 0, slots := 0, locals := 42 }
def wp_M_pays_90 (post : MS → Prop) : Nat → MS → Int32 → Int32 → Int32 → Int32 → Prop
  | 0 => fun _ _ _ _ _ => False
  | n + 1 => fun σ x1_ x4_ x5_ x6_ => vp_in x1_ 200 ∧ (if (σ 58 x1_.toNatClampNeg) ≤ x6_ then (vp_in ((8 : Int32) * x1_) 1600 ∧ (vp_in (σ 59 ((8 : Int32) * x1_).toNatClampNeg) 60 ∧ (vp_in x1_ 200 ∧ (vp_in (σ 59 ((8 : Int32) * x1_).toNatClampNeg) 60 ∧ (∀ σ7 : MS, σ7 = up2 σ 14 (σ 59 ((8 : Int32) * x1_).toNatClampNeg).toNatClampNeg ((σ 14 (σ 59 ((8 : Int32) * x1_).toNatClampNeg).toNatClampNeg) + (x4_ - (x5_ * (σ 58 x1_.toNatClampNeg)))) → (post σ7)))))) else (vp_in (((8 : Int32) * x1_) + x6_) 1600 ∧ (vp_in (σ 59 (((8 : Int32) * x1_) + x6_).toNatClampNeg) 60 ∧ (vp_in (σ 59 (((8 : Int32) * x1_) + x6_).toNatClampNeg) 60 ∧ (∀ σ11 : MS, σ11 = up2 σ 14 (σ 59 (((8 : Int32) * x1_) + x6_).toNatClampNeg).toNatClampNeg ((σ 14 (σ 59 (((8 : Int32) * x1_) + x6_).toNatClampNeg).toNatClampNeg) + x5_) → (∀ x12 : Int32, x12 = x6_ + (1 : Int32) → (wp_M_pays_90  post n σ11 x1_ x4_ x5_ x12)))))))
set_option maxHeartbeats 4000000 in
set_option maxRecDepth 100000 in
theorem b_M_pays_90 {p : Program} {l : Launch} {e : Env} {s : State} {m : MethodId} {args : Array Value} {below : List Frame} {meth : Method} {c : Code} {D : va_G} {Z : Nat → ClassId} {b : Nat → Nat} (C : MC p s m args c cX11_pays 7 D Z) (hr : meth.sig.returnType = none) (hk : meth.locks = false) {post : MS → Prop} : ∀ (n : Nat) (σ : MS) (x1_ : Int32) (x4_ : Int32) (x5_ : Int32) (x6_ : Int32), wp_M_pays_90  post n σ x1_ x4_ x5_ x6_ → ∀ (H : Heap) (locs : List Loc) (ls : Array Slot), MH D Z b s.heap σ H locs → lv_has ls 7 [(0, .ref (b 69)), (1, .int x1_), (4, .int x4_), (5, .int x5_), (6, .int x6_)] → MWv p l e rm_M_pays s m args below meth c D Z b post H locs (F0 m 90 ls []) := by
  obtain ⟨⟨hx, hb, hml, hown, hts⟩, hK⟩ := id C
  intro n
  induction n with
  | zero => intro σ x1_ x4_ x5_ x6_ hw; exact hw.elim
  | succ n ih =>
    intro σ x1_ x4_ x5_ x6_ hw H locs ls hH hl
    unfold wp_M_pays_90 at hw
    refine lv_iload hx hb dX11_pays_90 (lv_at hl 4 rfl) ?_
    refine lv_aload_n hx hb dX11_pays_92 rfl (lv_at hl 0 rfl) ?_
    refine mg C hH 58 (by decide) rfl wd_1087 rfl dX11_pays_93 ?_
    refine lv_iload_n hx hb dX11_pays_96 rfl (lv_at hl 1 rfl) ?_
    obtain ⟨h1, hw⟩ := hw
    refine mai C hH 45 58 rfl h1 dX11_pays_97 ?_
    refine lv_icmp_ge (tgt := 129) hx hb dX11_pays_98 (by decide) (fun c2 => ?_) (fun c2 => ?_)
    · have hw := ifp c2 hw
      refine lv_aload_n hx hb dX11_pays_129 rfl (lv_at hl 0 rfl) ?_
      refine mg C hH 14 (by decide) rfl wd_1043 rfl dX11_pays_130 ?_
      refine lv_aload_n hx hb dX11_pays_133 rfl (lv_at hl 0 rfl) ?_
      refine mg C hH 59 (by decide) rfl wd_1088 rfl dX11_pays_134 ?_
      refine lv_bipush (v := 8) hx hb dX11_pays_137 (by decide) ?_
      refine lv_iload_n hx hb dX11_pays_139 rfl (lv_at hl 1 rfl) ?_
      refine lv_imul hx hb dX11_pays_140 ?_
      obtain ⟨h3, hw⟩ := hw
      refine mai C hH 46 59 rfl h3 dX11_pays_141 ?_
      refine lv_dup2_11 hx hb dX11_pays_142 rfl rfl ?_
      obtain ⟨h4, hw⟩ := hw
      refine mai C hH 10 14 rfl h4 dX11_pays_143 ?_
      refine lv_iload hx hb dX11_pays_144 (lv_at hl 2 rfl) ?_
      refine lv_iload hx hb dX11_pays_146 (lv_at hl 3 rfl) ?_
      refine lv_aload_n hx hb dX11_pays_148 rfl (lv_at hl 0 rfl) ?_
      refine mg C hH 58 (by decide) rfl wd_1087 rfl dX11_pays_149 ?_
      refine lv_iload_n hx hb dX11_pays_152 rfl (lv_at hl 1 rfl) ?_
      obtain ⟨h5, hw⟩ := hw
      refine mai C hH 45 58 rfl h5 dX11_pays_153 ?_
      refine lv_imul hx hb dX11_pays_154 ?_
      refine lv_isub hx hb dX11_pays_155 ?_
      refine lv_iadd hx hb dX11_pays_156 ?_
      obtain ⟨h6, hw⟩ := hw
      refine msi C hH 10 14 rfl (mast_14 Z b σ _ _) h6 dX11_pays_157 (fun H locs hH => ?_)
      have hw := hw _ rfl
      generalize up2 σ 14 (σ 59 ((8 : Int32) * x1_).toNatClampNeg).toNatClampNeg ((σ 14 (σ 59 ((8 : Int32) * x1_).toNatClampNeg).toNatClampNeg) + (x4_ - (x5_ * (σ 58 x1_.toNatClampNeg)))) = σ7 at hw hH
      exact mrv C hr hk hH hw dX11_pays_158
    · have hw := ifn c2 hw
      refine lv_aload_n hx hb dX11_pays_101 rfl (lv_at hl 0 rfl) ?_
      refine mg C hH 14 (by decide) rfl wd_1043 rfl dX11_pays_102 ?_
      refine lv_aload_n hx hb dX11_pays_105 rfl (lv_at hl 0 rfl) ?_
      refine mg C hH 59 (by decide) rfl wd_1088 rfl dX11_pays_106 ?_
      refine lv_bipush (v := 8) hx hb dX11_pays_109 (by decide) ?_
      refine lv_iload_n hx hb dX11_pays_111 rfl (lv_at hl 1 rfl) ?_
      refine lv_imul hx hb dX11_pays_112 ?_
      refine lv_iload hx hb dX11_pays_113 (lv_at hl 4 rfl) ?_
      refine lv_iadd hx hb dX11_pays_115 ?_
      obtain ⟨h8, hw⟩ := hw
      refine mai C hH 46 59 rfl h8 dX11_pays_116 ?_
      refine lv_dup2_11 hx hb dX11_pays_117 rfl rfl ?_
      obtain ⟨h9, hw⟩ := hw
      refine mai C hH 10 14 rfl h9 dX11_pays_118 ?_
      refine lv_iload hx hb dX11_pays_119 (lv_at hl 3 rfl) ?_
      refine lv_iadd hx hb dX11_pays_121 ?_
      obtain ⟨h10, hw⟩ := hw
      refine msi C hH 10 14 rfl (mast_14 Z b σ _ _) h10 dX11_pays_122 (fun H locs hH => ?_)
      have hw := hw _ rfl
      generalize up2 σ 14 (σ 59 (((8 : Int32) * x1_) + x6_).toNatClampNeg).toNatClampNeg ((σ 14 (σ 59 (((8 : Int32) * x1_) + x6_).toNatClampNeg).toNatClampNeg) + x5_) = σ11 at hw hH
      obtain ⟨x12, ex12⟩ : ∃ y : Int32, y = x6_ + (1 : Int32) := ⟨_, rfl⟩
      have hw := hw x12 ex12
      refine lv_iinc (v := x12) (lv' := [(6, .int x12), (0, .ref (b 69)), (1, .int x1_), (4, .int x4_), (5, .int x5_)]) hx hb dX11_pays_123 hl (k := 4) rfl (by rw [ex12]; rfl) (by decide) rfl (fun ls hl => ?_)
      refine lv_goto (tgt := 90) hx hb dX11_pays_126 (by decide) ?_
      exact ih σ11 x1_ x4_ x5_ x12 hw _ _ _ hH (lv_sub hl [1, 2, 3, 4, 0] rfl)
def wp_M_pays_42 (post : MS → Prop) (σ : MS) (x1_ : Int32) (x2_ : Int32) (t1_ : Int32) (t2_ : Int32) : Prop := vp_in t1_ 200 ∧ (∀ σ14 : MS, σ14 = up2 σ 57 t1_.toNatClampNeg t2_ → (vp_in x1_ 200 ∧ (vp_in x1_ 200 ∧ (∀ x17 : Int32, x17 = (((σ14 57 x1_.toNatClampNeg) * (σ14 56 x1_.toNatClampNeg)) / (100 : Int32)) → (wp_M_comesToFund σ14 x2_ x17 (fun σ18 => vp_in x1_ 200 ∧ (∀ x20 : Int32, x20 = ((σ18 57 x1_.toNatClampNeg) - x17) → (vp_in x1_ 200 ∧ (¬ (σ18 58 x1_.toNatClampNeg) = 0 ∧ (∀ x23 : Int32, x23 = (x20 / (σ18 58 x1_.toNatClampNeg)) → (∃ nn : Nat, wp_M_pays_90  post nn σ18 x1_ x20 x23 (0 : Int32))))))))))))
set_option maxHeartbeats 4000000 in
set_option maxRecDepth 100000 in
theorem b_M_pays_42 {p : Program} {l : Launch} {e : Env} {s : State} {m : MethodId} {args : Array Value} {below : List Frame} {meth : Method} {c : Code} {D : va_G} {Z : Nat → ClassId} {b : Nat → Nat} (C : MC p s m args c cX11_pays 7 D Z) (hr : meth.sig.returnType = none) (hk : meth.locks = false) {post : MS → Prop} : ∀ (σ : MS) (x1_ : Int32) (x2_ : Int32) (t1_ : Int32) (t2_ : Int32), wp_M_pays_42  post σ x1_ x2_ t1_ t2_ → ∀ (H : Heap) (locs : List Loc) (ls : Array Slot), MH D Z b s.heap σ H locs → lv_has ls 7 [(0, .ref (b 69)), (1, .int x1_), (2, .int x2_)] → MWv p l e rm_M_pays s m args below meth c D Z b post H locs (F0 m 42 ls [.int t2_, .int t1_, .ref (b 57)]) := by
  obtain ⟨⟨hx, hb, hml, hown, hts⟩, hK⟩ := id C
  intro σ x1_ x2_ t1_ t2_ hw H locs ls hH hl
  unfold wp_M_pays_42 at hw
  obtain ⟨h13, hw⟩ := hw
  refine msi C hH 44 57 rfl (mast_57 Z b σ _ _) h13 dX11_pays_42 (fun H locs hH => ?_)
  have hw := hw _ rfl
  generalize up2 σ 57 t1_.toNatClampNeg t2_ = σ14 at hw hH
  refine lv_aload_n hx hb dX11_pays_43 rfl (lv_at hl 0 rfl) ?_
  refine mg C hH 57 (by decide) rfl wd_1086 rfl dX11_pays_44 ?_
  refine lv_iload_n hx hb dX11_pays_47 rfl (lv_at hl 1 rfl) ?_
  obtain ⟨h15, hw⟩ := hw
  refine mai C hH 44 57 rfl h15 dX11_pays_48 ?_
  refine lv_aload_n hx hb dX11_pays_49 rfl (lv_at hl 0 rfl) ?_
  refine mg C hH 56 (by decide) rfl wd_1085 rfl dX11_pays_50 ?_
  refine lv_iload_n hx hb dX11_pays_53 rfl (lv_at hl 1 rfl) ?_
  obtain ⟨h16, hw⟩ := hw
  refine mai C hH 43 56 rfl h16 dX11_pays_54 ?_
  refine lv_imul hx hb dX11_pays_55 ?_
  refine lv_bipush (v := 100) hx hb dX11_pays_56 (by decide) ?_
  refine lv_idiv hx hb dX11_pays_58 (by decide) ?_
  refine lv_topi (fun x17 ex17 => ?_)
  have hw := hw x17 ex17
  refine lv_istore_n (lv' := [(3, .int x17), (0, .ref (b 69)), (1, .int x1_), (2, .int x2_)]) hx hb dX11_pays_59 rfl hl (by decide) rfl (fun ls hl => ?_)
  refine lv_aload_n hx hb dX11_pays_60 rfl (lv_at hl 1 rfl) ?_
  refine lv_iload_n hx hb dX11_pays_61 rfl (lv_at hl 3 rfl) ?_
  refine lv_iload_n hx hb dX11_pays_62 rfl (lv_at hl 0 rfl) ?_
  refine mcVv C hH [.int x2_, .int x17] (fun sz => c_M_comesToFund l D Z b σ14 x2_ x17 _ hw sz) (cwTV 2 hts wd_1502 wd_1504 ws_76 wd_14 wd_1505 rfl rfl (by decide +kernel) ⟨Nat.le_of_ble_eq_true rfl, Nat.le_of_ble_eq_true rfl⟩) rfl hl.1 rfl (Nat.le_of_ble_eq_true rfl) dX11_pays_63 ⟨Nat.zero_le _, Nat.zero_le _⟩ (fun  σ18 H locs hw hH => ?_)
  refine lv_aload_n hx hb dX11_pays_66 rfl (lv_at hl 1 rfl) ?_
  refine mg C hH 57 (by decide) rfl wd_1086 rfl dX11_pays_67 ?_
  refine lv_iload_n hx hb dX11_pays_70 rfl (lv_at hl 2 rfl) ?_
  obtain ⟨h19, hw⟩ := hw
  refine mai C hH 44 57 rfl h19 dX11_pays_71 ?_
  refine lv_iload_n hx hb dX11_pays_72 rfl (lv_at hl 0 rfl) ?_
  refine lv_isub hx hb dX11_pays_73 ?_
  refine lv_topi (fun x20 ex20 => ?_)
  have hw := hw x20 ex20
  refine lv_istore (lv' := [(4, .int x20), (3, .int x17), (0, .ref (b 69)), (1, .int x1_), (2, .int x2_)]) hx hb dX11_pays_74 hl (by decide) rfl (fun ls hl => ?_)
  refine lv_iload hx hb dX11_pays_76 (lv_at hl 0 rfl) ?_
  refine lv_aload_n hx hb dX11_pays_78 rfl (lv_at hl 2 rfl) ?_
  refine mg C hH 58 (by decide) rfl wd_1087 rfl dX11_pays_79 ?_
  refine lv_iload_n hx hb dX11_pays_82 rfl (lv_at hl 3 rfl) ?_
  obtain ⟨h21, hw⟩ := hw
  refine mai C hH 45 58 rfl h21 dX11_pays_83 ?_
  obtain ⟨h22, hw⟩ := hw
  refine lv_idiv hx hb dX11_pays_84 h22 ?_
  refine lv_topi (fun x23 ex23 => ?_)
  have hw := hw x23 ex23
  refine lv_istore (lv' := [(5, .int x23), (4, .int x20), (3, .int x17), (0, .ref (b 69)), (1, .int x1_), (2, .int x2_)]) hx hb dX11_pays_85 hl (by decide) rfl (fun ls hl => ?_)
  refine lv_iconst (v := 0) hx hb dX11_pays_87 (by decide) ?_
  refine lv_istore (lv' := [(6, .int (0 : Int32)), (5, .int x23), (4, .int x20), (3, .int x17), (0, .ref (b 69)), (1, .int x1_), (2, .int x2_)]) hx hb dX11_pays_88 hl (by decide) rfl (fun ls hl => ?_)
  obtain ⟨nn, hw⟩ := hw
  exact b_M_pays_90 C hr hk  nn σ18 x1_ x20 x23 (0 : Int32) hw _ _ _ hH (lv_sub hl [4, 5, 2, 1, 0] rfl)
def wp_M_pays (σ : MS) (a1 : Int32) (post : MS → Prop) : Prop := vp_in a1 200 ∧ (∀ x25 : Int32, x25 = (σ 53 a1.toNatClampNeg) → (vp_in a1 200 ∧ (if (σ 1 0) ≤ (σ 49 a1.toNatClampNeg) then (vp_in a1 200 ∧ (wp_M_pays_42 post σ a1 x25 a1 (σ 55 a1.toNatClampNeg))) else (vp_in a1 200 ∧ (wp_M_pays_42 post σ a1 x25 a1 ((σ 55 a1.toNatClampNeg) / (2 : Int32)))))))
set_option maxHeartbeats 4000000 in
set_option maxRecDepth 100000 in
theorem c_M_pays (l : Launch) (D : va_G) (Z : Nat → ClassId) (b : Nat → Nat) (σ : MS) (a1 : Int32) (post : MS → Prop) (hw : wp_M_pays σ a1 post) (sz : Nat) : Met l yX11_pays (Wd yX11_pays cX11_pays 7 (none)) rm_M_pays (va_Pc [.ref (b 69), .int a1] (mPre D Z b sz σ)) (va_Qv post (mPost D Z b) (mA b sz)) 0 0 (mA b sz) := by
  refine mMv (by decide) rfl _ (Nat.le_of_ble_eq_true rfl) (fun p e s m args below meth c C hr hk ls hl hH => ?_) sz
  obtain ⟨⟨hx, hb, hml, hown, hts⟩, hK⟩ := id C
  have hl : lv_has ls 7 [(0, .ref (b 69)), (1, .int a1)] := hl
  unfold wp_M_pays at hw
  refine lv_aload_n hx hb dX11_pays_0 rfl (lv_at hl 0 rfl) ?_
  refine mg C hH 53 (by decide) rfl wd_1082 rfl dX11_pays_1 ?_
  refine lv_iload_n hx hb dX11_pays_4 rfl (lv_at hl 1 rfl) ?_
  obtain ⟨h24, hw⟩ := hw
  refine mai C hH 40 53 rfl h24 dX11_pays_5 ?_
  refine lv_topi (fun x25 ex25 => ?_)
  have hw := hw x25 ex25
  refine lv_istore_n (lv' := [(2, .int x25), (0, .ref (b 69)), (1, .int a1)]) hx hb dX11_pays_6 rfl hl (by decide) rfl (fun ls hl => ?_)
  refine lv_aload_n hx hb dX11_pays_7 rfl (lv_at hl 1 rfl) ?_
  refine mg C hH 57 (by decide) rfl wd_1086 rfl dX11_pays_8 ?_
  refine lv_iload_n hx hb dX11_pays_11 rfl (lv_at hl 2 rfl) ?_
  refine lv_aload_n hx hb dX11_pays_12 rfl (lv_at hl 1 rfl) ?_
  refine mg C hH 1 (by decide) rfl wd_1030 rfl dX11_pays_13 ?_
  refine lv_aload_n hx hb dX11_pays_16 rfl (lv_at hl 1 rfl) ?_
  refine mg C hH 49 (by decide) rfl wd_1078 rfl dX11_pays_17 ?_
  refine lv_iload_n hx hb dX11_pays_20 rfl (lv_at hl 2 rfl) ?_
  obtain ⟨h26, hw⟩ := hw
  refine mai C hH 36 49 rfl h26 dX11_pays_21 ?_
  refine lv_icmp_le (tgt := 36) hx hb dX11_pays_22 (by decide) (fun c27 => ?_) (fun c27 => ?_)
  · have hw := ifp c27 hw
    refine lv_aload_n hx hb dX11_pays_36 rfl (lv_at hl 1 rfl) ?_
    refine mg C hH 55 (by decide) rfl wd_1084 rfl dX11_pays_37 ?_
    refine lv_iload_n hx hb dX11_pays_40 rfl (lv_at hl 2 rfl) ?_
    obtain ⟨h28, hw⟩ := hw
    refine mai C hH 42 55 rfl h28 dX11_pays_41 ?_
    exact b_M_pays_42 C hr hk  σ a1 x25 a1 (σ 55 a1.toNatClampNeg) hw _ _ _ hH (lv_sub hl [1, 2, 0] rfl)
  · have hw := ifn c27 hw
    refine lv_aload_n hx hb dX11_pays_25 rfl (lv_at hl 1 rfl) ?_
    refine mg C hH 55 (by decide) rfl wd_1084 rfl dX11_pays_26 ?_
    refine lv_iload_n hx hb dX11_pays_29 rfl (lv_at hl 2 rfl) ?_
    obtain ⟨h29, hw⟩ := hw
    refine mai C hH 42 55 rfl h29 dX11_pays_30 ?_
    refine lv_iconst (v := 2) hx hb dX11_pays_31 (by decide) ?_
    refine lv_idiv hx hb dX11_pays_32 (by decide) ?_
    refine lv_goto (tgt := 42) hx hb dX11_pays_33 (by decide) ?_
    exact b_M_pays_42 C hr hk  σ a1 x25 a1 ((σ 55 a1.toNatClampNeg) / (2 : Int32)) hw _ _ _ hH (lv_sub hl [1, 2, 0] rfl)
/-! arrive -/
abbrev rm_M_arrive : Room := { frames := 3, cells := 0, slots := 0, locals := 68 }
def wp_M_arrive_113 (k2 : MS → Int32 → Prop) (post : MS → Prop) (σ : MS) (x1_ : Int32) : Prop := ∀ x1 : Int32, x1 = x1_ + (1 : Int32) → (k2 σ x1)
set_option maxHeartbeats 4000000 in
set_option maxRecDepth 100000 in
theorem b_M_arrive_113 {p : Program} {l : Launch} {e : Env} {s : State} {m : MethodId} {args : Array Value} {below : List Frame} {meth : Method} {c : Code} {D : va_G} {Z : Nat → ClassId} {b : Nat → Nat} (C : MC p s m args c cX11_arrive 4 D Z) (hr : meth.sig.returnType = none) (hk : meth.locks = false) {post : MS → Prop} {k2 : MS → Int32 → Prop} (hk2 : ∀ (σ : MS) (y1 : Int32), k2 σ y1 → ∀ (H : Heap) (locs : List Loc) (ls : Array Slot), MH D Z b s.heap σ H locs → lv_has ls 4 [(0, .ref (b 69)), (1, .int y1)] → MWv p l e rm_M_arrive s m args below meth c D Z b post H locs (F0 m 2 ls [])) : ∀ (σ : MS) (x1_ : Int32), wp_M_arrive_113 k2 post σ x1_ → ∀ (H : Heap) (locs : List Loc) (ls : Array Slot), MH D Z b s.heap σ H locs → lv_has ls 4 [(0, .ref (b 69)), (1, .int x1_)] → MWv p l e rm_M_arrive s m args below meth c D Z b post H locs (F0 m 113 ls []) := by
  obtain ⟨⟨hx, hb, hml, hown, hts⟩, hK⟩ := id C
  intro σ x1_ hw H locs ls hH hl
  unfold wp_M_arrive_113 at hw
  obtain ⟨x1, ex1⟩ : ∃ y : Int32, y = x1_ + (1 : Int32) := ⟨_, rfl⟩
  have hw := hw x1 ex1
  refine lv_iinc (v := x1) (lv' := [(1, .int x1), (0, .ref (b 69))]) hx hb dX11_arrive_113 hl (k := 1) rfl (by rw [ex1]; rfl) (by decide) rfl (fun ls hl => ?_)
  refine lv_goto (tgt := 2) hx hb dX11_arrive_116 (by decide) ?_
  exact hk2 σ x1 hw _ _ _ hH (lv_sub hl [1, 0] rfl)
def wp_M_arrive_48 (k2 : MS → Int32 → Prop) (post : MS → Prop) : Nat → MS → Int32 → Int32 → Prop
  | 0 => fun _ _ _ => False
  | n + 1 => fun σ x1_ x2_ => vp_in x1_ 200 ∧ (if (σ 58 x1_.toNatClampNeg) ≤ x2_ then (vp_in x1_ 200 ∧ (if (σ 50 x1_.toNatClampNeg) = (3 : Int32) then (wp_M_arrive_113 (k2) post σ x1_) else (vp_in x1_ 200 ∧ (∀ σ7 : MS, σ7 = up2 σ 50 x1_.toNatClampNeg (2 : Int32) → (wp_M_pays σ7 x1_ (fun σ8 => wp_M_arrive_113 (k2) post σ8 x1_)))))) else (vp_in (((8 : Int32) * x1_) + x2_) 1600 ∧ (∀ x10 : Int32, x10 = (σ 59 (((8 : Int32) * x1_) + x2_).toNatClampNeg) → (vp_in x10 60 ∧ (∀ σ12 : MS, σ12 = up2 σ 18 x10.toNatClampNeg (-1 : Int32) → (wp_M_comesIn σ12 x10 (fun σ13 => ∀ x14 : Int32, x14 = x2_ + (1 : Int32) → (wp_M_arrive_48 k2 post n σ13 x1_ x14))))))))
set_option maxHeartbeats 4000000 in
set_option maxRecDepth 100000 in
theorem b_M_arrive_48 {p : Program} {l : Launch} {e : Env} {s : State} {m : MethodId} {args : Array Value} {below : List Frame} {meth : Method} {c : Code} {D : va_G} {Z : Nat → ClassId} {b : Nat → Nat} (C : MC p s m args c cX11_arrive 4 D Z) (hr : meth.sig.returnType = none) (hk : meth.locks = false) {post : MS → Prop} {k2 : MS → Int32 → Prop} (hk2 : ∀ (σ : MS) (y1 : Int32), k2 σ y1 → ∀ (H : Heap) (locs : List Loc) (ls : Array Slot), MH D Z b s.heap σ H locs → lv_has ls 4 [(0, .ref (b 69)), (1, .int y1)] → MWv p l e rm_M_arrive s m args below meth c D Z b post H locs (F0 m 2 ls [])) : ∀ (n : Nat) (σ : MS) (x1_ : Int32) (x2_ : Int32), wp_M_arrive_48 k2 post n σ x1_ x2_ → ∀ (H : Heap) (locs : List Loc) (ls : Array Slot), MH D Z b s.heap σ H locs → lv_has ls 4 [(0, .ref (b 69)), (1, .int x1_), (2, .int x2_)] → MWv p l e rm_M_arrive s m args below meth c D Z b post H locs (F0 m 48 ls []) := by
  obtain ⟨⟨hx, hb, hml, hown, hts⟩, hK⟩ := id C
  intro n
  induction n with
  | zero => intro σ x1_ x2_ hw; exact hw.elim
  | succ n ih =>
    intro σ x1_ x2_ hw H locs ls hH hl
    unfold wp_M_arrive_48 at hw
    refine lv_iload_n hx hb dX11_arrive_48 rfl (lv_at hl 2 rfl) ?_
    refine lv_aload_n hx hb dX11_arrive_49 rfl (lv_at hl 0 rfl) ?_
    refine mg C hH 58 (by decide) rfl wd_1087 rfl dX11_arrive_50 ?_
    refine lv_iload_n hx hb dX11_arrive_53 rfl (lv_at hl 1 rfl) ?_
    obtain ⟨h2, hw⟩ := hw
    refine mai C hH 45 58 rfl h2 dX11_arrive_54 ?_
    refine lv_icmp_ge (tgt := 88) hx hb dX11_arrive_55 (by decide) (fun c3 => ?_) (fun c3 => ?_)
    · have hw := ifp c3 hw
      refine lv_aload_n hx hb dX11_arrive_88 rfl (lv_at hl 0 rfl) ?_
      refine mg C hH 50 (by decide) rfl wd_1079 rfl dX11_arrive_89 ?_
      refine lv_iload_n hx hb dX11_arrive_92 rfl (lv_at hl 1 rfl) ?_
      obtain ⟨h4, hw⟩ := hw
      refine mai C hH 37 50 rfl h4 dX11_arrive_93 ?_
      refine lv_iconst (v := 3) hx hb dX11_arrive_94 (by decide) ?_
      refine lv_icmp_ne (tgt := 101) hx hb dX11_arrive_95 (by decide) (fun c5 => ?_) (fun c5 => ?_)
      · have hw := ifn c5 hw
        refine lv_aload_n hx hb dX11_arrive_101 rfl (lv_at hl 0 rfl) ?_
        refine mg C hH 50 (by decide) rfl wd_1079 rfl dX11_arrive_102 ?_
        refine lv_iload_n hx hb dX11_arrive_105 rfl (lv_at hl 1 rfl) ?_
        refine lv_iconst (v := 2) hx hb dX11_arrive_106 (by decide) ?_
        obtain ⟨h6, hw⟩ := hw
        refine msi C hH 37 50 rfl (mast_50 Z b σ _ _) h6 dX11_arrive_107 (fun H locs hH => ?_)
        have hw := hw _ rfl
        generalize up2 σ 50 x1_.toNatClampNeg (2 : Int32) = σ7 at hw hH
        refine lv_aload_n hx hb dX11_arrive_108 rfl (lv_at hl 0 rfl) ?_
        refine lv_iload_n hx hb dX11_arrive_109 rfl (lv_at hl 1 rfl) ?_
        refine mcVv C hH [.int x1_] (fun sz => c_M_pays l D Z b σ7 x1_ _ hw sz) (cwTV 1 hts wd_1542 wd_1544 ws_83 wd_14 wd_1545 rfl rfl (by decide +kernel) ⟨Nat.le_of_ble_eq_true rfl, Nat.le_of_ble_eq_true rfl⟩) rfl hl.1 rfl (Nat.le_of_ble_eq_true rfl) dX11_arrive_110 ⟨Nat.zero_le _, Nat.zero_le _⟩ (fun  σ8 H locs hw hH => ?_)
        exact b_M_arrive_113 C hr hk hk2 σ8 x1_ hw _ _ _ hH (lv_sub hl [0, 1] rfl)
      · have hw := ifp c5 hw
        refine lv_goto (tgt := 113) hx hb dX11_arrive_98 (by decide) ?_
        exact b_M_arrive_113 C hr hk hk2 σ x1_ hw _ _ _ hH (lv_sub hl [0, 1] rfl)
    · have hw := ifn c3 hw
      refine lv_aload_n hx hb dX11_arrive_58 rfl (lv_at hl 0 rfl) ?_
      refine mg C hH 59 (by decide) rfl wd_1088 rfl dX11_arrive_59 ?_
      refine lv_bipush (v := 8) hx hb dX11_arrive_62 (by decide) ?_
      refine lv_iload_n hx hb dX11_arrive_64 rfl (lv_at hl 1 rfl) ?_
      refine lv_imul hx hb dX11_arrive_65 ?_
      refine lv_iload_n hx hb dX11_arrive_66 rfl (lv_at hl 2 rfl) ?_
      refine lv_iadd hx hb dX11_arrive_67 ?_
      obtain ⟨h9, hw⟩ := hw
      refine mai C hH 46 59 rfl h9 dX11_arrive_68 ?_
      refine lv_topi (fun x10 ex10 => ?_)
      have hw := hw x10 ex10
      refine lv_istore_n (lv' := [(3, .int x10), (0, .ref (b 69)), (1, .int x1_), (2, .int x2_)]) hx hb dX11_arrive_69 rfl hl (by decide) rfl (fun ls hl => ?_)
      refine lv_aload_n hx hb dX11_arrive_70 rfl (lv_at hl 1 rfl) ?_
      refine mg C hH 18 (by decide) rfl wd_1047 rfl dX11_arrive_71 ?_
      refine lv_iload_n hx hb dX11_arrive_74 rfl (lv_at hl 0 rfl) ?_
      refine lv_iconst (v := -1) hx hb dX11_arrive_75 (by decide) ?_
      obtain ⟨h11, hw⟩ := hw
      refine msi C hH 14 18 rfl (mast_18 Z b σ _ _) h11 dX11_arrive_76 (fun H locs hH => ?_)
      have hw := hw _ rfl
      generalize up2 σ 18 x10.toNatClampNeg (-1 : Int32) = σ12 at hw hH
      refine lv_aload_n hx hb dX11_arrive_77 rfl (lv_at hl 1 rfl) ?_
      refine lv_iload_n hx hb dX11_arrive_78 rfl (lv_at hl 0 rfl) ?_
      refine mcVv C hH [.int x10] (fun sz => c_M_comesIn l D Z b σ12 x10 _ hw sz) (cwTV 1 hts wd_1298 wd_1300 ws_53 wd_14 wd_1301 rfl rfl (by decide +kernel) ⟨Nat.le_of_ble_eq_true rfl, Nat.le_of_ble_eq_true rfl⟩) rfl hl.1 rfl (Nat.le_of_ble_eq_true rfl) dX11_arrive_79 ⟨Nat.zero_le _, Nat.zero_le _⟩ (fun  σ13 H locs hw hH => ?_)
      obtain ⟨x14, ex14⟩ : ∃ y : Int32, y = x2_ + (1 : Int32) := ⟨_, rfl⟩
      have hw := hw x14 ex14
      refine lv_iinc (v := x14) (lv' := [(2, .int x14), (3, .int x10), (0, .ref (b 69)), (1, .int x1_)]) hx hb dX11_arrive_82 hl (k := 3) rfl (by rw [ex14]; rfl) (by decide) rfl (fun ls hl => ?_)
      refine lv_goto (tgt := 48) hx hb dX11_arrive_85 (by decide) ?_
      exact ih σ13 x1_ x14 hw _ _ _ hH (lv_sub hl [2, 3, 0] rfl)
def wp_M_arrive_46 (k2 : MS → Int32 → Prop) (post : MS → Prop) (σ : MS) (x1_ : Int32) : Prop := ∃ nn : Nat, wp_M_arrive_48 (k2) post nn σ x1_ (0 : Int32)
set_option maxHeartbeats 4000000 in
set_option maxRecDepth 100000 in
theorem b_M_arrive_46 {p : Program} {l : Launch} {e : Env} {s : State} {m : MethodId} {args : Array Value} {below : List Frame} {meth : Method} {c : Code} {D : va_G} {Z : Nat → ClassId} {b : Nat → Nat} (C : MC p s m args c cX11_arrive 4 D Z) (hr : meth.sig.returnType = none) (hk : meth.locks = false) {post : MS → Prop} {k2 : MS → Int32 → Prop} (hk2 : ∀ (σ : MS) (y1 : Int32), k2 σ y1 → ∀ (H : Heap) (locs : List Loc) (ls : Array Slot), MH D Z b s.heap σ H locs → lv_has ls 4 [(0, .ref (b 69)), (1, .int y1)] → MWv p l e rm_M_arrive s m args below meth c D Z b post H locs (F0 m 2 ls [])) : ∀ (σ : MS) (x1_ : Int32), wp_M_arrive_46 k2 post σ x1_ → ∀ (H : Heap) (locs : List Loc) (ls : Array Slot), MH D Z b s.heap σ H locs → lv_has ls 4 [(0, .ref (b 69)), (1, .int x1_)] → MWv p l e rm_M_arrive s m args below meth c D Z b post H locs (F0 m 46 ls []) := by
  obtain ⟨⟨hx, hb, hml, hown, hts⟩, hK⟩ := id C
  intro σ x1_ hw H locs ls hH hl
  unfold wp_M_arrive_46 at hw
  refine lv_iconst (v := 0) hx hb dX11_arrive_46 (by decide) ?_
  refine lv_istore_n (lv' := [(2, .int (0 : Int32)), (0, .ref (b 69)), (1, .int x1_)]) hx hb dX11_arrive_47 rfl hl (by decide) rfl (fun ls hl => ?_)
  obtain ⟨nn, hw⟩ := hw
  exact b_M_arrive_48 C hr hk hk2 nn σ x1_ (0 : Int32) hw _ _ _ hH (lv_sub hl [1, 2, 0] rfl)
def wp_M_arrive_2 (post : MS → Prop) : Nat → MS → Int32 → Prop
  | 0 => fun _ _ => False
  | n + 1 => fun σ x1_ => if (σ 43 0) ≤ x1_ then (post σ) else (vp_in x1_ 200 ∧ (if (σ 54 x1_.toNatClampNeg) = (σ 1 0) then (vp_in x1_ 200 ∧ (if (σ 50 x1_.toNatClampNeg) = (1 : Int32) then (wp_M_arrive_46 (wp_M_arrive_2 post n) post σ x1_) else (vp_in x1_ 200 ∧ (if (σ 50 x1_.toNatClampNeg) = (3 : Int32) then (wp_M_arrive_46 (wp_M_arrive_2 post n) post σ x1_) else (wp_M_arrive_113 (wp_M_arrive_2 post n) post σ x1_))))) else (wp_M_arrive_113 (wp_M_arrive_2 post n) post σ x1_)))
set_option maxHeartbeats 4000000 in
set_option maxRecDepth 100000 in
theorem b_M_arrive_2 {p : Program} {l : Launch} {e : Env} {s : State} {m : MethodId} {args : Array Value} {below : List Frame} {meth : Method} {c : Code} {D : va_G} {Z : Nat → ClassId} {b : Nat → Nat} (C : MC p s m args c cX11_arrive 4 D Z) (hr : meth.sig.returnType = none) (hk : meth.locks = false) {post : MS → Prop} : ∀ (n : Nat) (σ : MS) (x1_ : Int32), wp_M_arrive_2  post n σ x1_ → ∀ (H : Heap) (locs : List Loc) (ls : Array Slot), MH D Z b s.heap σ H locs → lv_has ls 4 [(0, .ref (b 69)), (1, .int x1_)] → MWv p l e rm_M_arrive s m args below meth c D Z b post H locs (F0 m 2 ls []) := by
  obtain ⟨⟨hx, hb, hml, hown, hts⟩, hK⟩ := id C
  intro n
  induction n with
  | zero => intro σ x1_ hw; exact hw.elim
  | succ n ih =>
    intro σ x1_ hw H locs ls hH hl
    unfold wp_M_arrive_2 at hw
    refine lv_iload_n hx hb dX11_arrive_2 rfl (lv_at hl 1 rfl) ?_
    refine lv_aload_n hx hb dX11_arrive_3 rfl (lv_at hl 0 rfl) ?_
    refine mg C hH 43 (by decide) rfl wd_1072 rfl dX11_arrive_4 ?_
    refine lv_icmp_ge (tgt := 119) hx hb dX11_arrive_7 (by decide) (fun c15 => ?_) (fun c15 => ?_)
    · have hw := ifp c15 hw
      exact mrv C hr hk hH hw dX11_arrive_119
    · have hw := ifn c15 hw
      refine lv_aload_n hx hb dX11_arrive_10 rfl (lv_at hl 0 rfl) ?_
      refine mg C hH 54 (by decide) rfl wd_1083 rfl dX11_arrive_11 ?_
      refine lv_iload_n hx hb dX11_arrive_14 rfl (lv_at hl 1 rfl) ?_
      obtain ⟨h16, hw⟩ := hw
      refine mai C hH 41 54 rfl h16 dX11_arrive_15 ?_
      refine lv_aload_n hx hb dX11_arrive_16 rfl (lv_at hl 0 rfl) ?_
      refine mg C hH 1 (by decide) rfl wd_1030 rfl dX11_arrive_17 ?_
      refine lv_icmp_ne (tgt := 113) hx hb dX11_arrive_20 (by decide) (fun c17 => ?_) (fun c17 => ?_)
      · have hw := ifn c17 hw
        exact b_M_arrive_113 C hr hk ih σ x1_ hw _ _ _ hH (lv_sub hl [0, 1] rfl)
      · have hw := ifp c17 hw
        refine lv_aload_n hx hb dX11_arrive_23 rfl (lv_at hl 0 rfl) ?_
        refine mg C hH 50 (by decide) rfl wd_1079 rfl dX11_arrive_24 ?_
        refine lv_iload_n hx hb dX11_arrive_27 rfl (lv_at hl 1 rfl) ?_
        obtain ⟨h18, hw⟩ := hw
        refine mai C hH 37 50 rfl h18 dX11_arrive_28 ?_
        refine lv_iconst (v := 1) hx hb dX11_arrive_29 (by decide) ?_
        refine lv_icmp_eq (tgt := 46) hx hb dX11_arrive_30 (by decide) (fun c19 => ?_) (fun c19 => ?_)
        · have hw := ifp c19 hw
          exact b_M_arrive_46 C hr hk ih σ x1_ hw _ _ _ hH (lv_sub hl [0, 1] rfl)
        · have hw := ifn c19 hw
          refine lv_aload_n hx hb dX11_arrive_33 rfl (lv_at hl 0 rfl) ?_
          refine mg C hH 50 (by decide) rfl wd_1079 rfl dX11_arrive_34 ?_
          refine lv_iload_n hx hb dX11_arrive_37 rfl (lv_at hl 1 rfl) ?_
          obtain ⟨h20, hw⟩ := hw
          refine mai C hH 37 50 rfl h20 dX11_arrive_38 ?_
          refine lv_iconst (v := 3) hx hb dX11_arrive_39 (by decide) ?_
          refine lv_icmp_eq (tgt := 46) hx hb dX11_arrive_40 (by decide) (fun c21 => ?_) (fun c21 => ?_)
          · have hw := ifp c21 hw
            exact b_M_arrive_46 C hr hk ih σ x1_ hw _ _ _ hH (lv_sub hl [0, 1] rfl)
          · have hw := ifn c21 hw
            refine lv_goto (tgt := 113) hx hb dX11_arrive_43 (by decide) ?_
            exact b_M_arrive_113 C hr hk ih σ x1_ hw _ _ _ hH (lv_sub hl [0, 1] rfl)
def wp_M_arrive (σ : MS) (post : MS → Prop) : Prop := ∃ nn : Nat, wp_M_arrive_2  post nn σ (0 : Int32)
set_option maxHeartbeats 4000000 in
set_option maxRecDepth 100000 in
theorem c_M_arrive (l : Launch) (D : va_G) (Z : Nat → ClassId) (b : Nat → Nat) (σ : MS) (post : MS → Prop) (hw : wp_M_arrive σ  post) (sz : Nat) : Met l yX11_arrive (Wd yX11_arrive cX11_arrive 4 (none)) rm_M_arrive (va_Pc [.ref (b 69)] (mPre D Z b sz σ)) (va_Qv post (mPost D Z b) (mA b sz)) 0 0 (mA b sz) := by
  refine mMv (by decide) rfl _ (Nat.le_of_ble_eq_true rfl) (fun p e s m args below meth c C hr hk ls hl hH => ?_) sz
  obtain ⟨⟨hx, hb, hml, hown, hts⟩, hK⟩ := id C
  have hl : lv_has ls 4 [(0, .ref (b 69))] := hl
  unfold wp_M_arrive at hw
  refine lv_iconst (v := 0) hx hb dX11_arrive_0 (by decide) ?_
  refine lv_istore_n (lv' := [(1, .int (0 : Int32)), (0, .ref (b 69))]) hx hb dX11_arrive_1 rfl hl (by decide) rfl (fun ls hl => ?_)
  obtain ⟨nn, hw⟩ := hw
  exact b_M_arrive_2 C hr hk  nn σ (0 : Int32) hw _ _ _ hH (lv_sub hl [1, 0] rfl)
/-! isHelped -/
abbrev rm_M_isHelped : Room := { frames := 0, cells := 0, slots := 0, locals := 0 }
def wp_M_isHelped (σ : MS) (a1 : Int32) (a2 : Int32) (a3 : Int32) (post : Int32 → MS → Prop) : Prop := vp_in a1 60 ∧ (if (σ 11 a1.toNatClampNeg) = a2 then (vp_in a1 60 ∧ (if (σ 19 a1.toNatClampNeg) = 0 then (vp_in a1 60 ∧ (if (σ 17 a1.toNatClampNeg) ≤ a3 then (post (0 : Int32) σ) else (post (1 : Int32) σ))) else (post (0 : Int32) σ))) else (post (0 : Int32) σ))
set_option maxHeartbeats 4000000 in
set_option maxRecDepth 100000 in
theorem c_M_isHelped (l : Launch) (D : va_G) (Z : Nat → ClassId) (b : Nat → Nat) (σ : MS) (a1 : Int32) (a2 : Int32) (a3 : Int32) (post : Int32 → MS → Prop) (hw : wp_M_isHelped σ a1 a2 a3 post) (sz : Nat) : Met l yX11_isHelped (Wd yX11_isHelped cX11_isHelped 4 (some .boolean)) rm_M_isHelped (va_Pc [.ref (b 69), .int a1, .int a2, .int a3] (mPre D Z b sz σ)) (va_Qi post (mPost D Z b) (mA b sz)) 0 0 (mA b sz) := by
  refine mMi (by decide) rfl _ (Nat.le_of_ble_eq_true rfl) (fun p e s m args below meth c C hr hk ls hl hH => ?_) sz
  obtain ⟨⟨hx, hb, hml, hown, hts⟩, hK⟩ := id C
  have hl : lv_has ls 4 [(0, .ref (b 69)), (1, .int a1), (2, .int a2), (3, .int a3)] := hl
  unfold wp_M_isHelped at hw
  refine lv_aload_n hx hb dX11_isHelped_0 rfl (lv_at hl 0 rfl) ?_
  refine mg C hH 11 (by decide) rfl wd_1040 rfl dX11_isHelped_1 ?_
  refine lv_iload_n hx hb dX11_isHelped_4 rfl (lv_at hl 1 rfl) ?_
  obtain ⟨h1, hw⟩ := hw
  refine mai C hH 7 11 rfl h1 dX11_isHelped_5 ?_
  refine lv_iload_n hx hb dX11_isHelped_6 rfl (lv_at hl 2 rfl) ?_
  refine lv_icmp_ne (tgt := 33) hx hb dX11_isHelped_7 (by decide) (fun c2 => ?_) (fun c2 => ?_)
  · have hw := ifn c2 hw
    refine lv_iconst (v := 0) hx hb dX11_isHelped_33 (by decide) ?_
    exact mrz C hr hk hH bz0 hw dX11_isHelped_34
  · have hw := ifp c2 hw
    refine lv_aload_n hx hb dX11_isHelped_10 rfl (lv_at hl 0 rfl) ?_
    refine mg C hH 19 (by decide) rfl wd_1048 rfl dX11_isHelped_11 ?_
    refine lv_iload_n hx hb dX11_isHelped_14 rfl (lv_at hl 1 rfl) ?_
    obtain ⟨h3, hw⟩ := hw
    refine maz C hH 15 19 rfl h3 dX11_isHelped_15 ?_
    refine lv_if_ne (tgt := 33) hx hb dX11_isHelped_16 (by decide) (fun c4 => ?_) (fun c4 => ?_)
    · have hw := ifn c4 hw
      refine lv_iconst (v := 0) hx hb dX11_isHelped_33 (by decide) ?_
      exact mrz C hr hk hH bz0 hw dX11_isHelped_34
    · have hw := ifp c4 hw
      refine lv_aload_n hx hb dX11_isHelped_19 rfl (lv_at hl 0 rfl) ?_
      refine mg C hH 17 (by decide) rfl wd_1046 rfl dX11_isHelped_20 ?_
      refine lv_iload_n hx hb dX11_isHelped_23 rfl (lv_at hl 1 rfl) ?_
      obtain ⟨h5, hw⟩ := hw
      refine mai C hH 13 17 rfl h5 dX11_isHelped_24 ?_
      refine lv_iload_n hx hb dX11_isHelped_25 rfl (lv_at hl 3 rfl) ?_
      refine lv_icmp_le (tgt := 33) hx hb dX11_isHelped_26 (by decide) (fun c6 => ?_) (fun c6 => ?_)
      · have hw := ifp c6 hw
        refine lv_iconst (v := 0) hx hb dX11_isHelped_33 (by decide) ?_
        exact mrz C hr hk hH bz0 hw dX11_isHelped_34
      · have hw := ifn c6 hw
        refine lv_iconst (v := 1) hx hb dX11_isHelped_29 (by decide) ?_
        refine lv_goto (tgt := 34) hx hb dX11_isHelped_30 (by decide) ?_
        exact mrz C hr hk hH bz1 hw dX11_isHelped_34
/-! give -/
abbrev rm_M_give : Room := { frames := 0, cells := 0, slots := 0, locals := 0 }
def wp_M_give (σ : MS) (a1 : Int32) (a2 : Int32) (a3 : Int32) (post : MS → Prop) : Prop := vp_in a1 4 ∧ (if a3 ≤ (σ 63 a1.toNatClampNeg) then (vp_in a1 4 ∧ (vp_in a1 4 ∧ (∀ σ5 : MS, σ5 = up2 σ 63 a1.toNatClampNeg ((σ 63 a1.toNatClampNeg) - a3) → (vp_in a1 4 ∧ (vp_in a1 4 ∧ (∀ σ8 : MS, σ8 = up2 σ5 65 a1.toNatClampNeg ((σ5 65 a1.toNatClampNeg) + a3) → (vp_in a2 60 ∧ (vp_in a2 60 ∧ (∀ σ11 : MS, σ11 = up2 σ8 14 a2.toNatClampNeg ((σ8 14 a2.toNatClampNeg) + a3) → (post σ11)))))))))) else (post σ))
set_option maxHeartbeats 4000000 in
set_option maxRecDepth 100000 in
theorem c_M_give (l : Launch) (D : va_G) (Z : Nat → ClassId) (b : Nat → Nat) (σ : MS) (a1 : Int32) (a2 : Int32) (a3 : Int32) (post : MS → Prop) (hw : wp_M_give σ a1 a2 a3 post) (sz : Nat) : Met l yX11_give (Wd yX11_give cX11_give 4 (none)) rm_M_give (va_Pc [.ref (b 69), .int a1, .int a2, .int a3] (mPre D Z b sz σ)) (va_Qv post (mPost D Z b) (mA b sz)) 0 0 (mA b sz) := by
  refine mMv (by decide) rfl _ (Nat.le_of_ble_eq_true rfl) (fun p e s m args below meth c C hr hk ls hl hH => ?_) sz
  obtain ⟨⟨hx, hb, hml, hown, hts⟩, hK⟩ := id C
  have hl : lv_has ls 4 [(0, .ref (b 69)), (1, .int a1), (2, .int a2), (3, .int a3)] := hl
  unfold wp_M_give at hw
  refine lv_aload_n hx hb dX11_give_0 rfl (lv_at hl 0 rfl) ?_
  refine mg C hH 63 (by decide) rfl wd_1092 rfl dX11_give_1 ?_
  refine lv_iload_n hx hb dX11_give_4 rfl (lv_at hl 1 rfl) ?_
  obtain ⟨h1, hw⟩ := hw
  refine mai C hH 49 63 rfl h1 dX11_give_5 ?_
  refine lv_iload_n hx hb dX11_give_6 rfl (lv_at hl 3 rfl) ?_
  refine lv_icmp_ge (tgt := 11) hx hb dX11_give_7 (by decide) (fun c2 => ?_) (fun c2 => ?_)
  · have hw := ifp c2 hw
    refine lv_aload_n hx hb dX11_give_11 rfl (lv_at hl 0 rfl) ?_
    refine mg C hH 63 (by decide) rfl wd_1092 rfl dX11_give_12 ?_
    refine lv_iload_n hx hb dX11_give_15 rfl (lv_at hl 1 rfl) ?_
    refine lv_dup2_11 hx hb dX11_give_16 rfl rfl ?_
    obtain ⟨h3, hw⟩ := hw
    refine mai C hH 49 63 rfl h3 dX11_give_17 ?_
    refine lv_iload_n hx hb dX11_give_18 rfl (lv_at hl 3 rfl) ?_
    refine lv_isub hx hb dX11_give_19 ?_
    obtain ⟨h4, hw⟩ := hw
    refine msi C hH 49 63 rfl (mast_63 Z b σ _ _) h4 dX11_give_20 (fun H locs hH => ?_)
    have hw := hw _ rfl
    generalize up2 σ 63 a1.toNatClampNeg ((σ 63 a1.toNatClampNeg) - a3) = σ5 at hw hH
    refine lv_aload_n hx hb dX11_give_21 rfl (lv_at hl 0 rfl) ?_
    refine mg C hH 65 (by decide) rfl wd_1094 rfl dX11_give_22 ?_
    refine lv_iload_n hx hb dX11_give_25 rfl (lv_at hl 1 rfl) ?_
    refine lv_dup2_11 hx hb dX11_give_26 rfl rfl ?_
    obtain ⟨h6, hw⟩ := hw
    refine mai C hH 51 65 rfl h6 dX11_give_27 ?_
    refine lv_iload_n hx hb dX11_give_28 rfl (lv_at hl 3 rfl) ?_
    refine lv_iadd hx hb dX11_give_29 ?_
    obtain ⟨h7, hw⟩ := hw
    refine msi C hH 51 65 rfl (mast_65 Z b σ5 _ _) h7 dX11_give_30 (fun H locs hH => ?_)
    have hw := hw _ rfl
    generalize up2 σ5 65 a1.toNatClampNeg ((σ5 65 a1.toNatClampNeg) + a3) = σ8 at hw hH
    refine lv_aload_n hx hb dX11_give_31 rfl (lv_at hl 0 rfl) ?_
    refine mg C hH 14 (by decide) rfl wd_1043 rfl dX11_give_32 ?_
    refine lv_iload_n hx hb dX11_give_35 rfl (lv_at hl 2 rfl) ?_
    refine lv_dup2_11 hx hb dX11_give_36 rfl rfl ?_
    obtain ⟨h9, hw⟩ := hw
    refine mai C hH 10 14 rfl h9 dX11_give_37 ?_
    refine lv_iload_n hx hb dX11_give_38 rfl (lv_at hl 3 rfl) ?_
    refine lv_iadd hx hb dX11_give_39 ?_
    obtain ⟨h10, hw⟩ := hw
    refine msi C hH 10 14 rfl (mast_14 Z b σ8 _ _) h10 dX11_give_40 (fun H locs hH => ?_)
    have hw := hw _ rfl
    generalize up2 σ8 14 a2.toNatClampNeg ((σ8 14 a2.toNatClampNeg) + a3) = σ11 at hw hH
    exact mrv C hr hk hH hw dX11_give_41
  · have hw := ifn c2 hw
    exact mrv C hr hk hH hw dX11_give_10
/-! isOld -/
abbrev rm_M_isOld : Room := { frames := 0, cells := 0, slots := 0, locals := 0 }
def wp_M_isOld (σ : MS) (a1 : Int32) (a2 : Int32) (post : Int32 → MS → Prop) : Prop := vp_in a1 60 ∧ (if (σ 11 a1.toNatClampNeg) = a2 then (vp_in a1 60 ∧ (if (σ 19 a1.toNatClampNeg) = 0 then (vp_in a1 60 ∧ (if (σ 13 a1.toNatClampNeg) < (70 : Int32) then (post (0 : Int32) σ) else (post (1 : Int32) σ))) else (post (0 : Int32) σ))) else (post (0 : Int32) σ))
set_option maxHeartbeats 4000000 in
set_option maxRecDepth 100000 in
theorem c_M_isOld (l : Launch) (D : va_G) (Z : Nat → ClassId) (b : Nat → Nat) (σ : MS) (a1 : Int32) (a2 : Int32) (post : Int32 → MS → Prop) (hw : wp_M_isOld σ a1 a2 post) (sz : Nat) : Met l yX11_isOld (Wd yX11_isOld cX11_isOld 3 (some .boolean)) rm_M_isOld (va_Pc [.ref (b 69), .int a1, .int a2] (mPre D Z b sz σ)) (va_Qi post (mPost D Z b) (mA b sz)) 0 0 (mA b sz) := by
  refine mMi (by decide) rfl _ (Nat.le_of_ble_eq_true rfl) (fun p e s m args below meth c C hr hk ls hl hH => ?_) sz
  obtain ⟨⟨hx, hb, hml, hown, hts⟩, hK⟩ := id C
  have hl : lv_has ls 3 [(0, .ref (b 69)), (1, .int a1), (2, .int a2)] := hl
  unfold wp_M_isOld at hw
  refine lv_aload_n hx hb dX11_isOld_0 rfl (lv_at hl 0 rfl) ?_
  refine mg C hH 11 (by decide) rfl wd_1040 rfl dX11_isOld_1 ?_
  refine lv_iload_n hx hb dX11_isOld_4 rfl (lv_at hl 1 rfl) ?_
  obtain ⟨h1, hw⟩ := hw
  refine mai C hH 7 11 rfl h1 dX11_isOld_5 ?_
  refine lv_iload_n hx hb dX11_isOld_6 rfl (lv_at hl 2 rfl) ?_
  refine lv_icmp_ne (tgt := 34) hx hb dX11_isOld_7 (by decide) (fun c2 => ?_) (fun c2 => ?_)
  · have hw := ifn c2 hw
    refine lv_iconst (v := 0) hx hb dX11_isOld_34 (by decide) ?_
    exact mrz C hr hk hH bz0 hw dX11_isOld_35
  · have hw := ifp c2 hw
    refine lv_aload_n hx hb dX11_isOld_10 rfl (lv_at hl 0 rfl) ?_
    refine mg C hH 19 (by decide) rfl wd_1048 rfl dX11_isOld_11 ?_
    refine lv_iload_n hx hb dX11_isOld_14 rfl (lv_at hl 1 rfl) ?_
    obtain ⟨h3, hw⟩ := hw
    refine maz C hH 15 19 rfl h3 dX11_isOld_15 ?_
    refine lv_if_ne (tgt := 34) hx hb dX11_isOld_16 (by decide) (fun c4 => ?_) (fun c4 => ?_)
    · have hw := ifn c4 hw
      refine lv_iconst (v := 0) hx hb dX11_isOld_34 (by decide) ?_
      exact mrz C hr hk hH bz0 hw dX11_isOld_35
    · have hw := ifp c4 hw
      refine lv_aload_n hx hb dX11_isOld_19 rfl (lv_at hl 0 rfl) ?_
      refine mg C hH 13 (by decide) rfl wd_1042 rfl dX11_isOld_20 ?_
      refine lv_iload_n hx hb dX11_isOld_23 rfl (lv_at hl 1 rfl) ?_
      obtain ⟨h5, hw⟩ := hw
      refine mai C hH 9 13 rfl h5 dX11_isOld_24 ?_
      refine lv_bipush (v := 70) hx hb dX11_isOld_25 (by decide) ?_
      refine lv_icmp_lt (tgt := 34) hx hb dX11_isOld_27 (by decide) (fun c6 => ?_) (fun c6 => ?_)
      · have hw := ifp c6 hw
        refine lv_iconst (v := 0) hx hb dX11_isOld_34 (by decide) ?_
        exact mrz C hr hk hH bz0 hw dX11_isOld_35
      · have hw := ifn c6 hw
        refine lv_iconst (v := 1) hx hb dX11_isOld_30 (by decide) ?_
        refine lv_goto (tgt := 35) hx hb dX11_isOld_31 (by decide) ?_
        exact mrz C hr hk hH bz1 hw dX11_isOld_35
/-! payFund -/
abbrev rm_M_payFund : Room := { frames := 1, cells := 0, slots := 0, locals := 23 }
def wp_M_payFund_72 (k43 : MS → Int32 → Int32 → Prop) (post : MS → Prop) (σ : MS) (x1_ : Int32) (x2_ : Int32) : Prop := ∀ x1 : Int32, x1 = x2_ + (1 : Int32) → (k43 σ x1_ x1)
set_option maxHeartbeats 4000000 in
set_option maxRecDepth 100000 in
theorem b_M_payFund_72 {p : Program} {l : Launch} {e : Env} {s : State} {m : MethodId} {args : Array Value} {below : List Frame} {meth : Method} {c : Code} {D : va_G} {Z : Nat → ClassId} {b : Nat → Nat} (C : MC p s m args c cX11_payFund 3 D Z) (hr : meth.sig.returnType = none) (hk : meth.locks = false) {post : MS → Prop} {k43 : MS → Int32 → Int32 → Prop} (hk43 : ∀ (σ : MS) (y1 : Int32) (y2 : Int32), k43 σ y1 y2 → ∀ (H : Heap) (locs : List Loc) (ls : Array Slot), MH D Z b s.heap σ H locs → lv_has ls 3 [(0, .ref (b 69)), (1, .int y1), (2, .int y2)] → MWv p l e rm_M_payFund s m args below meth c D Z b post H locs (F0 m 43 ls [])) : ∀ (σ : MS) (x1_ : Int32) (x2_ : Int32), wp_M_payFund_72 k43 post σ x1_ x2_ → ∀ (H : Heap) (locs : List Loc) (ls : Array Slot), MH D Z b s.heap σ H locs → lv_has ls 3 [(0, .ref (b 69)), (1, .int x1_), (2, .int x2_)] → MWv p l e rm_M_payFund s m args below meth c D Z b post H locs (F0 m 72 ls []) := by
  obtain ⟨⟨hx, hb, hml, hown, hts⟩, hK⟩ := id C
  intro σ x1_ x2_ hw H locs ls hH hl
  unfold wp_M_payFund_72 at hw
  obtain ⟨x1, ex1⟩ : ∃ y : Int32, y = x2_ + (1 : Int32) := ⟨_, rfl⟩
  have hw := hw x1 ex1
  refine lv_iinc (v := x1) (lv' := [(2, .int x1), (0, .ref (b 69)), (1, .int x1_)]) hx hb dX11_payFund_72 hl (k := 2) rfl (by rw [ex1]; rfl) (by decide) rfl (fun ls hl => ?_)
  refine lv_goto (tgt := 43) hx hb dX11_payFund_75 (by decide) ?_
  exact hk43 σ x1_ x1 hw _ _ _ hH (lv_sub hl [1, 2, 0] rfl)
def wp_M_payFund_43 (post : MS → Prop) : Nat → MS → Int32 → Int32 → Prop
  | 0 => fun _ _ _ => False
  | n + 1 => fun σ x1_ x2_ => if (σ 10 0) ≤ x2_ then (post σ) else (wp_M_isOld σ x2_ x1_ (fun r4 σ3 => if r4 = 0 then (wp_M_payFund_72 (wp_M_payFund_43 post n) post σ3 x1_ x2_) else (vp_in x1_ 4 ∧ (wp_M_give σ3 x1_ x2_ (σ3 67 x1_.toNatClampNeg) (fun σ7 => wp_M_payFund_72 (wp_M_payFund_43 post n) post σ7 x1_ x2_)))))
set_option maxHeartbeats 4000000 in
set_option maxRecDepth 100000 in
theorem b_M_payFund_43 {p : Program} {l : Launch} {e : Env} {s : State} {m : MethodId} {args : Array Value} {below : List Frame} {meth : Method} {c : Code} {D : va_G} {Z : Nat → ClassId} {b : Nat → Nat} (C : MC p s m args c cX11_payFund 3 D Z) (hr : meth.sig.returnType = none) (hk : meth.locks = false) {post : MS → Prop} : ∀ (n : Nat) (σ : MS) (x1_ : Int32) (x2_ : Int32), wp_M_payFund_43  post n σ x1_ x2_ → ∀ (H : Heap) (locs : List Loc) (ls : Array Slot), MH D Z b s.heap σ H locs → lv_has ls 3 [(0, .ref (b 69)), (1, .int x1_), (2, .int x2_)] → MWv p l e rm_M_payFund s m args below meth c D Z b post H locs (F0 m 43 ls []) := by
  obtain ⟨⟨hx, hb, hml, hown, hts⟩, hK⟩ := id C
  intro n
  induction n with
  | zero => intro σ x1_ x2_ hw; exact hw.elim
  | succ n ih =>
    intro σ x1_ x2_ hw H locs ls hH hl
    unfold wp_M_payFund_43 at hw
    refine lv_iload_n hx hb dX11_payFund_43 rfl (lv_at hl 2 rfl) ?_
    refine lv_aload_n hx hb dX11_payFund_44 rfl (lv_at hl 0 rfl) ?_
    refine mg C hH 10 (by decide) rfl wd_1039 rfl dX11_payFund_45 ?_
    refine lv_icmp_ge (tgt := 78) hx hb dX11_payFund_48 (by decide) (fun c2 => ?_) (fun c2 => ?_)
    · have hw := ifp c2 hw
      exact mrv C hr hk hH hw dX11_payFund_78
    · have hw := ifn c2 hw
      refine lv_aload_n hx hb dX11_payFund_51 rfl (lv_at hl 0 rfl) ?_
      refine lv_iload_n hx hb dX11_payFund_52 rfl (lv_at hl 2 rfl) ?_
      refine lv_iload_n hx hb dX11_payFund_53 rfl (lv_at hl 1 rfl) ?_
      refine mcVi C hH [.int x2_, .int x1_] (fun sz => c_M_isOld l D Z b σ x2_ x1_ _ hw sz) (cwTV 2 hts wd_1534 wd_1536 ws_81 wd_14 wd_1537 rfl rfl (by decide +kernel) ⟨Nat.le_of_ble_eq_true rfl, Nat.le_of_ble_eq_true rfl⟩) rfl hl.1 rfl (Nat.le_of_ble_eq_true rfl) dX11_payFund_54 ⟨Nat.zero_le _, Nat.zero_le _⟩ (fun r4 σ3 H locs hw hH => ?_)
      refine lv_if_eq (tgt := 72) hx hb dX11_payFund_57 (by decide) (fun c5 => ?_) (fun c5 => ?_)
      · have hw := ifp c5 hw
        exact b_M_payFund_72 C hr hk ih σ3 x1_ x2_ hw _ _ _ hH (lv_sub hl [0, 1, 2] rfl)
      · have hw := ifn c5 hw
        refine lv_aload_n hx hb dX11_payFund_60 rfl (lv_at hl 0 rfl) ?_
        refine lv_iload_n hx hb dX11_payFund_61 rfl (lv_at hl 1 rfl) ?_
        refine lv_iload_n hx hb dX11_payFund_62 rfl (lv_at hl 2 rfl) ?_
        refine lv_aload_n hx hb dX11_payFund_63 rfl (lv_at hl 0 rfl) ?_
        refine mg C hH 67 (by decide) rfl wd_1096 rfl dX11_payFund_64 ?_
        refine lv_iload_n hx hb dX11_payFund_67 rfl (lv_at hl 1 rfl) ?_
        obtain ⟨h6, hw⟩ := hw
        refine mai C hH 53 67 rfl h6 dX11_payFund_68 ?_
        refine mcVv C hH [.int x1_, .int x2_, .int (σ3 67 x1_.toNatClampNeg)] (fun sz => c_M_give l D Z b σ3 x1_ x2_ (σ3 67 x1_.toNatClampNeg) _ hw sz) (cwTV 3 hts wd_1530 wd_1532 ws_80 wd_14 wd_1533 rfl rfl (by decide +kernel) ⟨Nat.le_of_ble_eq_true rfl, Nat.le_of_ble_eq_true rfl⟩) rfl hl.1 rfl (Nat.le_of_ble_eq_true rfl) dX11_payFund_69 ⟨Nat.zero_le _, Nat.zero_le _⟩ (fun  σ7 H locs hw hH => ?_)
        exact b_M_payFund_72 C hr hk ih σ7 x1_ x2_ hw _ _ _ hH (lv_sub hl [0, 1, 2] rfl)
def wp_M_payFund_35 (k2 : MS → Int32 → Int32 → Prop) (post : MS → Prop) (σ : MS) (x1_ : Int32) (x2_ : Int32) : Prop := ∀ x8 : Int32, x8 = x2_ + (1 : Int32) → (k2 σ x1_ x8)
set_option maxHeartbeats 4000000 in
set_option maxRecDepth 100000 in
theorem b_M_payFund_35 {p : Program} {l : Launch} {e : Env} {s : State} {m : MethodId} {args : Array Value} {below : List Frame} {meth : Method} {c : Code} {D : va_G} {Z : Nat → ClassId} {b : Nat → Nat} (C : MC p s m args c cX11_payFund 3 D Z) (hr : meth.sig.returnType = none) (hk : meth.locks = false) {post : MS → Prop} {k2 : MS → Int32 → Int32 → Prop} (hk2 : ∀ (σ : MS) (y1 : Int32) (y2 : Int32), k2 σ y1 y2 → ∀ (H : Heap) (locs : List Loc) (ls : Array Slot), MH D Z b s.heap σ H locs → lv_has ls 3 [(0, .ref (b 69)), (1, .int y1), (2, .int y2)] → MWv p l e rm_M_payFund s m args below meth c D Z b post H locs (F0 m 2 ls [])) : ∀ (σ : MS) (x1_ : Int32) (x2_ : Int32), wp_M_payFund_35 k2 post σ x1_ x2_ → ∀ (H : Heap) (locs : List Loc) (ls : Array Slot), MH D Z b s.heap σ H locs → lv_has ls 3 [(0, .ref (b 69)), (1, .int x1_), (2, .int x2_)] → MWv p l e rm_M_payFund s m args below meth c D Z b post H locs (F0 m 35 ls []) := by
  obtain ⟨⟨hx, hb, hml, hown, hts⟩, hK⟩ := id C
  intro σ x1_ x2_ hw H locs ls hH hl
  unfold wp_M_payFund_35 at hw
  obtain ⟨x8, ex8⟩ : ∃ y : Int32, y = x2_ + (1 : Int32) := ⟨_, rfl⟩
  have hw := hw x8 ex8
  refine lv_iinc (v := x8) (lv' := [(2, .int x8), (0, .ref (b 69)), (1, .int x1_)]) hx hb dX11_payFund_35 hl (k := 2) rfl (by rw [ex8]; rfl) (by decide) rfl (fun ls hl => ?_)
  refine lv_goto (tgt := 2) hx hb dX11_payFund_38 (by decide) ?_
  exact hk2 σ x1_ x8 hw _ _ _ hH (lv_sub hl [1, 2, 0] rfl)
def wp_M_payFund_2 (post : MS → Prop) : Nat → MS → Int32 → Int32 → Prop
  | 0 => fun _ _ _ => False
  | n + 1 => fun σ x1_ x2_ => if (σ 10 0) ≤ x2_ then (∃ nn : Nat, wp_M_payFund_43  post nn σ x1_ (0 : Int32)) else (wp_M_isHelped σ x2_ x1_ (σ 1 0) (fun r11 σ10 => if r11 = 0 then (wp_M_payFund_35 (wp_M_payFund_2 post n) post σ10 x1_ x2_) else (vp_in x1_ 4 ∧ (wp_M_give σ10 x1_ x2_ (σ10 66 x1_.toNatClampNeg) (fun σ14 => wp_M_payFund_35 (wp_M_payFund_2 post n) post σ14 x1_ x2_)))))
set_option maxHeartbeats 4000000 in
set_option maxRecDepth 100000 in
theorem b_M_payFund_2 {p : Program} {l : Launch} {e : Env} {s : State} {m : MethodId} {args : Array Value} {below : List Frame} {meth : Method} {c : Code} {D : va_G} {Z : Nat → ClassId} {b : Nat → Nat} (C : MC p s m args c cX11_payFund 3 D Z) (hr : meth.sig.returnType = none) (hk : meth.locks = false) {post : MS → Prop} : ∀ (n : Nat) (σ : MS) (x1_ : Int32) (x2_ : Int32), wp_M_payFund_2  post n σ x1_ x2_ → ∀ (H : Heap) (locs : List Loc) (ls : Array Slot), MH D Z b s.heap σ H locs → lv_has ls 3 [(0, .ref (b 69)), (1, .int x1_), (2, .int x2_)] → MWv p l e rm_M_payFund s m args below meth c D Z b post H locs (F0 m 2 ls []) := by
  obtain ⟨⟨hx, hb, hml, hown, hts⟩, hK⟩ := id C
  intro n
  induction n with
  | zero => intro σ x1_ x2_ hw; exact hw.elim
  | succ n ih =>
    intro σ x1_ x2_ hw H locs ls hH hl
    unfold wp_M_payFund_2 at hw
    refine lv_iload_n hx hb dX11_payFund_2 rfl (lv_at hl 2 rfl) ?_
    refine lv_aload_n hx hb dX11_payFund_3 rfl (lv_at hl 0 rfl) ?_
    refine mg C hH 10 (by decide) rfl wd_1039 rfl dX11_payFund_4 ?_
    refine lv_icmp_ge (tgt := 41) hx hb dX11_payFund_7 (by decide) (fun c9 => ?_) (fun c9 => ?_)
    · have hw := ifp c9 hw
      refine lv_iconst (v := 0) hx hb dX11_payFund_41 (by decide) ?_
      refine lv_istore_n (lv' := [(2, .int (0 : Int32)), (0, .ref (b 69)), (1, .int x1_)]) hx hb dX11_payFund_42 rfl hl (by decide) rfl (fun ls hl => ?_)
      obtain ⟨nn, hw⟩ := hw
      exact b_M_payFund_43 C hr hk  nn σ x1_ (0 : Int32) hw _ _ _ hH (lv_sub hl [1, 2, 0] rfl)
    · have hw := ifn c9 hw
      refine lv_aload_n hx hb dX11_payFund_10 rfl (lv_at hl 0 rfl) ?_
      refine lv_iload_n hx hb dX11_payFund_11 rfl (lv_at hl 2 rfl) ?_
      refine lv_iload_n hx hb dX11_payFund_12 rfl (lv_at hl 1 rfl) ?_
      refine lv_aload_n hx hb dX11_payFund_13 rfl (lv_at hl 0 rfl) ?_
      refine mg C hH 1 (by decide) rfl wd_1030 rfl dX11_payFund_14 ?_
      refine mcVi C hH [.int x2_, .int x1_, .int (σ 1 0)] (fun sz => c_M_isHelped l D Z b σ x2_ x1_ (σ 1 0) _ hw sz) (cwTV 3 hts wd_1526 wd_1528 ws_79 wd_14 wd_1529 rfl rfl (by decide +kernel) ⟨Nat.le_of_ble_eq_true rfl, Nat.le_of_ble_eq_true rfl⟩) rfl hl.1 rfl (Nat.le_of_ble_eq_true rfl) dX11_payFund_17 ⟨Nat.zero_le _, Nat.zero_le _⟩ (fun r11 σ10 H locs hw hH => ?_)
      refine lv_if_eq (tgt := 35) hx hb dX11_payFund_20 (by decide) (fun c12 => ?_) (fun c12 => ?_)
      · have hw := ifp c12 hw
        exact b_M_payFund_35 C hr hk ih σ10 x1_ x2_ hw _ _ _ hH (lv_sub hl [0, 1, 2] rfl)
      · have hw := ifn c12 hw
        refine lv_aload_n hx hb dX11_payFund_23 rfl (lv_at hl 0 rfl) ?_
        refine lv_iload_n hx hb dX11_payFund_24 rfl (lv_at hl 1 rfl) ?_
        refine lv_iload_n hx hb dX11_payFund_25 rfl (lv_at hl 2 rfl) ?_
        refine lv_aload_n hx hb dX11_payFund_26 rfl (lv_at hl 0 rfl) ?_
        refine mg C hH 66 (by decide) rfl wd_1095 rfl dX11_payFund_27 ?_
        refine lv_iload_n hx hb dX11_payFund_30 rfl (lv_at hl 1 rfl) ?_
        obtain ⟨h13, hw⟩ := hw
        refine mai C hH 52 66 rfl h13 dX11_payFund_31 ?_
        refine mcVv C hH [.int x1_, .int x2_, .int (σ10 66 x1_.toNatClampNeg)] (fun sz => c_M_give l D Z b σ10 x1_ x2_ (σ10 66 x1_.toNatClampNeg) _ hw sz) (cwTV 3 hts wd_1530 wd_1532 ws_80 wd_14 wd_1533 rfl rfl (by decide +kernel) ⟨Nat.le_of_ble_eq_true rfl, Nat.le_of_ble_eq_true rfl⟩) rfl hl.1 rfl (Nat.le_of_ble_eq_true rfl) dX11_payFund_32 ⟨Nat.zero_le _, Nat.zero_le _⟩ (fun  σ14 H locs hw hH => ?_)
        exact b_M_payFund_35 C hr hk ih σ14 x1_ x2_ hw _ _ _ hH (lv_sub hl [0, 1, 2] rfl)
def wp_M_payFund (σ : MS) (a1 : Int32) (post : MS → Prop) : Prop := ∃ nn : Nat, wp_M_payFund_2  post nn σ a1 (0 : Int32)
set_option maxHeartbeats 4000000 in
set_option maxRecDepth 100000 in
theorem c_M_payFund (l : Launch) (D : va_G) (Z : Nat → ClassId) (b : Nat → Nat) (σ : MS) (a1 : Int32) (post : MS → Prop) (hw : wp_M_payFund σ a1 post) (sz : Nat) : Met l yX11_payFund (Wd yX11_payFund cX11_payFund 3 (none)) rm_M_payFund (va_Pc [.ref (b 69), .int a1] (mPre D Z b sz σ)) (va_Qv post (mPost D Z b) (mA b sz)) 0 0 (mA b sz) := by
  refine mMv (by decide) rfl _ (Nat.le_of_ble_eq_true rfl) (fun p e s m args below meth c C hr hk ls hl hH => ?_) sz
  obtain ⟨⟨hx, hb, hml, hown, hts⟩, hK⟩ := id C
  have hl : lv_has ls 3 [(0, .ref (b 69)), (1, .int a1)] := hl
  unfold wp_M_payFund at hw
  refine lv_iconst (v := 0) hx hb dX11_payFund_0 (by decide) ?_
  refine lv_istore_n (lv' := [(2, .int (0 : Int32)), (0, .ref (b 69)), (1, .int a1)]) hx hb dX11_payFund_1 rfl hl (by decide) rfl (fun ls hl => ?_)
  obtain ⟨nn, hw⟩ := hw
  exact b_M_payFund_2 C hr hk  nn σ a1 (0 : Int32) hw _ _ _ hH (lv_sub hl [1, 2, 0] rfl)
/-! minutes -/
abbrev rm_M_minutes : Room := { frames := 4, cells := 0, slots := 0, locals := 91 }
def wp_M_minutes_93 (k26 : MS → Int32 → Int32 → Prop) (post : Int32 → MS → Prop) (σ : MS) (x1_ : Int32) (x2_ : Int32) : Prop := wp_M_arrive σ  (fun σ1 => ∀ x2 : Int32, x2 = x2_ + (1 : Int32) → (k26 σ1 x1_ x2))
set_option maxHeartbeats 4000000 in
set_option maxRecDepth 100000 in
theorem b_M_minutes_93 {p : Program} {l : Launch} {e : Env} {s : State} {m : MethodId} {args : Array Value} {below : List Frame} {meth : Method} {c : Code} {D : va_G} {Z : Nat → ClassId} {b : Nat → Nat} (C : MC p s m args c cX11_minutes 4 D Z) (hr : meth.sig.returnType = some .int) (hk : meth.locks = false) {post : Int32 → MS → Prop} {k26 : MS → Int32 → Int32 → Prop} (hk26 : ∀ (σ : MS) (y1 : Int32) (y2 : Int32), k26 σ y1 y2 → ∀ (H : Heap) (locs : List Loc) (ls : Array Slot), MH D Z b s.heap σ H locs → lv_has ls 4 [(0, .ref (b 69)), (1, .int y1), (2, .int y2)] → MWi p l e rm_M_minutes s m args below meth c D Z b post H locs (F0 m 26 ls [])) : ∀ (σ : MS) (x1_ : Int32) (x2_ : Int32), wp_M_minutes_93 k26 post σ x1_ x2_ → ∀ (H : Heap) (locs : List Loc) (ls : Array Slot), MH D Z b s.heap σ H locs → lv_has ls 4 [(0, .ref (b 69)), (1, .int x1_), (2, .int x2_)] → MWi p l e rm_M_minutes s m args below meth c D Z b post H locs (F0 m 93 ls []) := by
  obtain ⟨⟨hx, hb, hml, hown, hts⟩, hK⟩ := id C
  intro σ x1_ x2_ hw H locs ls hH hl
  unfold wp_M_minutes_93 at hw
  refine lv_aload_n hx hb dX11_minutes_93 rfl (lv_at hl 0 rfl) ?_
  refine mcVv C hH [] (fun sz => c_M_arrive l D Z b σ  _ hw sz) (cwTV 0 hts wd_1538 wd_1540 ws_82 wd_14 wd_1541 rfl rfl (by decide +kernel) ⟨Nat.le_of_ble_eq_true rfl, Nat.le_of_ble_eq_true rfl⟩) rfl hl.1 rfl (Nat.le_of_ble_eq_true rfl) dX11_minutes_94 ⟨Nat.zero_le _, Nat.zero_le _⟩ (fun  σ1 H locs hw hH => ?_)
  obtain ⟨x2, ex2⟩ : ∃ y : Int32, y = x2_ + (1 : Int32) := ⟨_, rfl⟩
  have hw := hw x2 ex2
  refine lv_iinc (v := x2) (lv' := [(2, .int x2), (0, .ref (b 69)), (1, .int x1_)]) hx hb dX11_minutes_97 hl (k := 2) rfl (by rw [ex2]; rfl) (by decide) rfl (fun ls hl => ?_)
  refine lv_goto (tgt := 26) hx hb dX11_minutes_100 (by decide) ?_
  exact hk26 σ1 x1_ x2 hw _ _ _ hH (lv_sub hl [1, 2, 0] rfl)
def wp_M_minutes_77 (k26 : MS → Int32 → Int32 → Prop) (post : Int32 → MS → Prop) : Nat → MS → Int32 → Int32 → Int32 → Prop
  | 0 => fun _ _ _ _ => False
  | n + 1 => fun σ x1_ x2_ x3_ => if (4 : Int32) ≤ x3_ then (wp_M_minutes_93 (k26) post σ x1_ x2_) else (wp_M_payFund σ x3_ (fun σ4 => ∀ x5 : Int32, x5 = x3_ + (1 : Int32) → (wp_M_minutes_77 k26 post n σ4 x1_ x2_ x5)))
set_option maxHeartbeats 4000000 in
set_option maxRecDepth 100000 in
theorem b_M_minutes_77 {p : Program} {l : Launch} {e : Env} {s : State} {m : MethodId} {args : Array Value} {below : List Frame} {meth : Method} {c : Code} {D : va_G} {Z : Nat → ClassId} {b : Nat → Nat} (C : MC p s m args c cX11_minutes 4 D Z) (hr : meth.sig.returnType = some .int) (hk : meth.locks = false) {post : Int32 → MS → Prop} {k26 : MS → Int32 → Int32 → Prop} (hk26 : ∀ (σ : MS) (y1 : Int32) (y2 : Int32), k26 σ y1 y2 → ∀ (H : Heap) (locs : List Loc) (ls : Array Slot), MH D Z b s.heap σ H locs → lv_has ls 4 [(0, .ref (b 69)), (1, .int y1), (2, .int y2)] → MWi p l e rm_M_minutes s m args below meth c D Z b post H locs (F0 m 26 ls [])) : ∀ (n : Nat) (σ : MS) (x1_ : Int32) (x2_ : Int32) (x3_ : Int32), wp_M_minutes_77 k26 post n σ x1_ x2_ x3_ → ∀ (H : Heap) (locs : List Loc) (ls : Array Slot), MH D Z b s.heap σ H locs → lv_has ls 4 [(0, .ref (b 69)), (1, .int x1_), (2, .int x2_), (3, .int x3_)] → MWi p l e rm_M_minutes s m args below meth c D Z b post H locs (F0 m 77 ls []) := by
  obtain ⟨⟨hx, hb, hml, hown, hts⟩, hK⟩ := id C
  intro n
  induction n with
  | zero => intro σ x1_ x2_ x3_ hw; exact hw.elim
  | succ n ih =>
    intro σ x1_ x2_ x3_ hw H locs ls hH hl
    unfold wp_M_minutes_77 at hw
    refine lv_iload_n hx hb dX11_minutes_77 rfl (lv_at hl 3 rfl) ?_
    refine lv_iconst (v := 4) hx hb dX11_minutes_78 (by decide) ?_
    refine lv_icmp_ge (tgt := 93) hx hb dX11_minutes_79 (by decide) (fun c3 => ?_) (fun c3 => ?_)
    · have hw := ifp c3 hw
      exact b_M_minutes_93 C hr hk hk26 σ x1_ x2_ hw _ _ _ hH (lv_sub hl [0, 1, 2] rfl)
    · have hw := ifn c3 hw
      refine lv_aload_n hx hb dX11_minutes_82 rfl (lv_at hl 0 rfl) ?_
      refine lv_iload_n hx hb dX11_minutes_83 rfl (lv_at hl 3 rfl) ?_
      refine mcVv C hH [.int x3_] (fun sz => c_M_payFund l D Z b σ x3_ _ hw sz) (cwTV 1 hts wd_1522 wd_1524 ws_78 wd_14 wd_1525 rfl rfl (by decide +kernel) ⟨Nat.le_of_ble_eq_true rfl, Nat.le_of_ble_eq_true rfl⟩) rfl hl.1 rfl (Nat.le_of_ble_eq_true rfl) dX11_minutes_84 ⟨Nat.zero_le _, Nat.zero_le _⟩ (fun  σ4 H locs hw hH => ?_)
      obtain ⟨x5, ex5⟩ : ∃ y : Int32, y = x3_ + (1 : Int32) := ⟨_, rfl⟩
      have hw := hw x5 ex5
      refine lv_iinc (v := x5) (lv' := [(3, .int x5), (0, .ref (b 69)), (1, .int x1_), (2, .int x2_)]) hx hb dX11_minutes_87 hl (k := 3) rfl (by rw [ex5]; rfl) (by decide) rfl (fun ls hl => ?_)
      refine lv_goto (tgt := 77) hx hb dX11_minutes_90 (by decide) ?_
      exact ih σ4 x1_ x2_ x5 hw _ _ _ hH (lv_sub hl [1, 2, 3, 0] rfl)
def wp_M_minutes_54 (k26 : MS → Int32 → Int32 → Prop) (post : Int32 → MS → Prop) : Nat → MS → Int32 → Int32 → Int32 → Prop
  | 0 => fun _ _ _ _ => False
  | n + 1 => fun σ x1_ x2_ x3_ => if (σ 10 0) ≤ x3_ then (∃ nn : Nat, wp_M_minutes_77 (k26) post nn σ x1_ x2_ (0 : Int32)) else (vp_in x3_ 60 ∧ (∀ σ8 : MS, σ8 = up2 σ 15 x3_.toNatClampNeg (0 : Int32) → (∀ x9 : Int32, x9 = x3_ + (1 : Int32) → (wp_M_minutes_54 k26 post n σ8 x1_ x2_ x9))))
set_option maxHeartbeats 4000000 in
set_option maxRecDepth 100000 in
theorem b_M_minutes_54 {p : Program} {l : Launch} {e : Env} {s : State} {m : MethodId} {args : Array Value} {below : List Frame} {meth : Method} {c : Code} {D : va_G} {Z : Nat → ClassId} {b : Nat → Nat} (C : MC p s m args c cX11_minutes 4 D Z) (hr : meth.sig.returnType = some .int) (hk : meth.locks = false) {post : Int32 → MS → Prop} {k26 : MS → Int32 → Int32 → Prop} (hk26 : ∀ (σ : MS) (y1 : Int32) (y2 : Int32), k26 σ y1 y2 → ∀ (H : Heap) (locs : List Loc) (ls : Array Slot), MH D Z b s.heap σ H locs → lv_has ls 4 [(0, .ref (b 69)), (1, .int y1), (2, .int y2)] → MWi p l e rm_M_minutes s m args below meth c D Z b post H locs (F0 m 26 ls [])) : ∀ (n : Nat) (σ : MS) (x1_ : Int32) (x2_ : Int32) (x3_ : Int32), wp_M_minutes_54 k26 post n σ x1_ x2_ x3_ → ∀ (H : Heap) (locs : List Loc) (ls : Array Slot), MH D Z b s.heap σ H locs → lv_has ls 4 [(0, .ref (b 69)), (1, .int x1_), (2, .int x2_), (3, .int x3_)] → MWi p l e rm_M_minutes s m args below meth c D Z b post H locs (F0 m 54 ls []) := by
  obtain ⟨⟨hx, hb, hml, hown, hts⟩, hK⟩ := id C
  intro n
  induction n with
  | zero => intro σ x1_ x2_ x3_ hw; exact hw.elim
  | succ n ih =>
    intro σ x1_ x2_ x3_ hw H locs ls hH hl
    unfold wp_M_minutes_54 at hw
    refine lv_iload_n hx hb dX11_minutes_54 rfl (lv_at hl 3 rfl) ?_
    refine lv_aload_n hx hb dX11_minutes_55 rfl (lv_at hl 0 rfl) ?_
    refine mg C hH 10 (by decide) rfl wd_1039 rfl dX11_minutes_56 ?_
    refine lv_icmp_ge (tgt := 75) hx hb dX11_minutes_59 (by decide) (fun c6 => ?_) (fun c6 => ?_)
    · have hw := ifp c6 hw
      refine lv_iconst (v := 0) hx hb dX11_minutes_75 (by decide) ?_
      refine lv_istore_n (lv' := [(3, .int (0 : Int32)), (0, .ref (b 69)), (1, .int x1_), (2, .int x2_)]) hx hb dX11_minutes_76 rfl hl (by decide) rfl (fun ls hl => ?_)
      obtain ⟨nn, hw⟩ := hw
      exact b_M_minutes_77 C hr hk hk26 nn σ x1_ x2_ (0 : Int32) hw _ _ _ hH (lv_sub hl [1, 2, 3, 0] rfl)
    · have hw := ifn c6 hw
      refine lv_aload_n hx hb dX11_minutes_62 rfl (lv_at hl 0 rfl) ?_
      refine mg C hH 15 (by decide) rfl wd_1044 rfl dX11_minutes_63 ?_
      refine lv_iload_n hx hb dX11_minutes_66 rfl (lv_at hl 3 rfl) ?_
      refine lv_iconst (v := 0) hx hb dX11_minutes_67 (by decide) ?_
      obtain ⟨h7, hw⟩ := hw
      refine msi C hH 11 15 rfl (mast_15 Z b σ _ _) h7 dX11_minutes_68 (fun H locs hH => ?_)
      have hw := hw _ rfl
      generalize up2 σ 15 x3_.toNatClampNeg (0 : Int32) = σ8 at hw hH
      obtain ⟨x9, ex9⟩ : ∃ y : Int32, y = x3_ + (1 : Int32) := ⟨_, rfl⟩
      have hw := hw x9 ex9
      refine lv_iinc (v := x9) (lv' := [(3, .int x9), (0, .ref (b 69)), (1, .int x1_), (2, .int x2_)]) hx hb dX11_minutes_69 hl (k := 3) rfl (by rw [ex9]; rfl) (by decide) rfl (fun ls hl => ?_)
      refine lv_goto (tgt := 54) hx hb dX11_minutes_72 (by decide) ?_
      exact ih σ8 x1_ x2_ x9 hw _ _ _ hH (lv_sub hl [1, 2, 3, 0] rfl)
def wp_M_minutes_26 (post : Int32 → MS → Prop) : Nat → MS → Int32 → Int32 → Prop
  | 0 => fun _ _ _ => False
  | n + 1 => fun σ x1_ x2_ => if x1_ ≤ x2_ then (post (σ 1 0) σ) else (∀ σ11 : MS, σ11 = up2 σ 1 0 ((σ 1 0) + (1 : Int32)) → (if ((σ11 1 0) - (σ11 1 0) / (600 : Int32) * (600 : Int32)) = 0 then (∃ nn : Nat, wp_M_minutes_54 (wp_M_minutes_26  post n) post nn σ11 x1_ x2_ (0 : Int32)) else (wp_M_minutes_93 (wp_M_minutes_26 post n) post σ11 x1_ x2_)))
set_option maxHeartbeats 4000000 in
set_option maxRecDepth 100000 in
theorem b_M_minutes_26 {p : Program} {l : Launch} {e : Env} {s : State} {m : MethodId} {args : Array Value} {below : List Frame} {meth : Method} {c : Code} {D : va_G} {Z : Nat → ClassId} {b : Nat → Nat} (C : MC p s m args c cX11_minutes 4 D Z) (hr : meth.sig.returnType = some .int) (hk : meth.locks = false) {post : Int32 → MS → Prop} : ∀ (n : Nat) (σ : MS) (x1_ : Int32) (x2_ : Int32), wp_M_minutes_26  post n σ x1_ x2_ → ∀ (H : Heap) (locs : List Loc) (ls : Array Slot), MH D Z b s.heap σ H locs → lv_has ls 4 [(0, .ref (b 69)), (1, .int x1_), (2, .int x2_)] → MWi p l e rm_M_minutes s m args below meth c D Z b post H locs (F0 m 26 ls []) := by
  obtain ⟨⟨hx, hb, hml, hown, hts⟩, hK⟩ := id C
  intro n
  induction n with
  | zero => intro σ x1_ x2_ hw; exact hw.elim
  | succ n ih =>
    intro σ x1_ x2_ hw H locs ls hH hl
    unfold wp_M_minutes_26 at hw
    refine lv_iload_n hx hb dX11_minutes_26 rfl (lv_at hl 2 rfl) ?_
    refine lv_iload_n hx hb dX11_minutes_27 rfl (lv_at hl 1 rfl) ?_
    refine lv_icmp_ge (tgt := 103) hx hb dX11_minutes_28 (by decide) (fun c10 => ?_) (fun c10 => ?_)
    · have hw := ifp c10 hw
      refine lv_aload_n hx hb dX11_minutes_103 rfl (lv_at hl 0 rfl) ?_
      refine mg C hH 1 (by decide) rfl wd_1030 rfl dX11_minutes_104 ?_
      exact mri C hr hk hH hw dX11_minutes_107
    · have hw := ifn c10 hw
      refine lv_aload_n hx hb dX11_minutes_31 rfl (lv_at hl 0 rfl) ?_
      refine lv_dup hx hb dX11_minutes_32 rfl ?_
      refine mg C hH 1 (by decide) rfl wd_1030 rfl dX11_minutes_33 ?_
      refine lv_iconst (v := 1) hx hb dX11_minutes_36 (by decide) ?_
      refine lv_iadd hx hb dX11_minutes_37 ?_
      refine mp C hH 1 (by decide) rfl wd_1030 (mset_1 Z b σ _) dX11_minutes_38 (fun H locs hH => ?_)
      have hw := hw _ rfl
      generalize up2 σ 1 0 ((σ 1 0) + (1 : Int32)) = σ11 at hw hH
      refine lv_aload_n hx hb dX11_minutes_41 rfl (lv_at hl 0 rfl) ?_
      refine mg C hH 1 (by decide) rfl wd_1030 rfl dX11_minutes_42 ?_
      refine lv_sipush (v := 600) hx hb dX11_minutes_45 (by decide) ?_
      refine lv_irem hx hb dX11_minutes_48 (by decide) ?_
      refine lv_if_ne (tgt := 93) hx hb dX11_minutes_49 (by decide) (fun c12 => ?_) (fun c12 => ?_)
      · have hw := ifn c12 hw
        exact b_M_minutes_93 C hr hk ih σ11 x1_ x2_ hw _ _ _ hH (lv_sub hl [0, 1, 2] rfl)
      · have hw := ifp c12 hw
        refine lv_iconst (v := 0) hx hb dX11_minutes_52 (by decide) ?_
        refine lv_istore_n (lv' := [(3, .int (0 : Int32)), (0, .ref (b 69)), (1, .int x1_), (2, .int x2_)]) hx hb dX11_minutes_53 rfl hl (by decide) rfl (fun ls hl => ?_)
        obtain ⟨nn, hw⟩ := hw
        exact b_M_minutes_54 C hr hk ih nn σ11 x1_ x2_ (0 : Int32) hw _ _ _ hH (lv_sub hl [1, 2, 3, 0] rfl)
def wp_M_minutes (σ : MS) (a1 : Int32) (post : Int32 → MS → Prop) : Prop := wp_M_in σ a1 (1 : Int32) (600 : Int32) (fun r14 σ13 => if r14 = 0 then (post (-1 : Int32) σ13) else (if ((σ13 1 0) + a1) ≤ (99999 : Int32) then (∃ nn : Nat, wp_M_minutes_26  post nn σ13 a1 (0 : Int32)) else (post (-1 : Int32) σ13)))
set_option maxHeartbeats 4000000 in
set_option maxRecDepth 100000 in
theorem c_M_minutes (l : Launch) (D : va_G) (Z : Nat → ClassId) (b : Nat → Nat) (σ : MS) (a1 : Int32) (post : Int32 → MS → Prop) (hw : wp_M_minutes σ a1 post) (sz : Nat) : Met l yX11_minutes (Wd yX11_minutes cX11_minutes 4 (some .int)) rm_M_minutes (va_Pc [.ref (b 69), .int a1] (mPre D Z b sz σ)) (va_Qi post (mPost D Z b) (mA b sz)) 0 0 (mA b sz) := by
  refine mMi (by decide) rfl _ (Nat.le_of_ble_eq_true rfl) (fun p e s m args below meth c C hr hk ls hl hH => ?_) sz
  obtain ⟨⟨hx, hb, hml, hown, hts⟩, hK⟩ := id C
  have hl : lv_has ls 4 [(0, .ref (b 69)), (1, .int a1)] := hl
  unfold wp_M_minutes at hw
  refine lv_iload_n hx hb dX11_minutes_0 rfl (lv_at hl 1 rfl) ?_
  refine lv_iconst (v := 1) hx hb dX11_minutes_1 (by decide) ?_
  refine lv_sipush (v := 600) hx hb dX11_minutes_2 (by decide) ?_
  refine mcSi C hH [.int a1, .int (1 : Int32), .int (600 : Int32)] (fun sz => c_M_in l D Z b σ a1 (1 : Int32) (600 : Int32) _ hw sz) (cwTS 3 hts wd_1242 wd_1243 wd_14 wd_1244 rfl rfl (by decide +kernel) ⟨Nat.le_of_ble_eq_true rfl, Nat.le_of_ble_eq_true rfl⟩) rfl hl.1 rfl (Nat.le_of_ble_eq_true rfl) dX11_minutes_5 ⟨Nat.zero_le _, Nat.zero_le _⟩ (fun r14 σ13 H locs hw hH => ?_)
  refine lv_if_eq (tgt := 22) hx hb dX11_minutes_8 (by decide) (fun c15 => ?_) (fun c15 => ?_)
  · have hw := ifp c15 hw
    refine lv_iconst (v := -1) hx hb dX11_minutes_22 (by decide) ?_
    exact mri C hr hk hH hw dX11_minutes_23
  · have hw := ifn c15 hw
    refine lv_aload_n hx hb dX11_minutes_11 rfl (lv_at hl 0 rfl) ?_
    refine mg C hH 1 (by decide) rfl wd_1030 rfl dX11_minutes_12 ?_
    refine lv_iload_n hx hb dX11_minutes_15 rfl (lv_at hl 1 rfl) ?_
    refine lv_iadd hx hb dX11_minutes_16 ?_
    refine lv_ldc (own := RX11) (index := 195) (v := 99999) hx hb hown (hts _ wd_1257) dX11_minutes_17 ?_
    refine lv_icmp_le (tgt := 24) hx hb dX11_minutes_19 (by decide) (fun c16 => ?_) (fun c16 => ?_)
    · have hw := ifp c16 hw
      refine lv_iconst (v := 0) hx hb dX11_minutes_24 (by decide) ?_
      refine lv_istore_n (lv' := [(2, .int (0 : Int32)), (0, .ref (b 69)), (1, .int a1)]) hx hb dX11_minutes_25 rfl hl (by decide) rfl (fun ls hl => ?_)
      obtain ⟨nn, hw⟩ := hw
      exact b_M_minutes_26 C hr hk  nn σ13 a1 (0 : Int32) hw _ _ _ hH (lv_sub hl [1, 2, 0] rfl)
    · have hw := ifn c16 hw
      refine lv_iconst (v := -1) hx hb dX11_minutes_22 (by decide) ?_
      exact mri C hr hk hH hw dX11_minutes_23
