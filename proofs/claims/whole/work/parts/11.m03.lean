/-! works -/
abbrev rm_M_works : Room := { frames := 1, cells := 0, slots := 0, locals := 22 }
def wp_M_works_188 (k8 : MS → Int32 → Int32 → Int32 → Prop) (post : Int32 → MS → Prop) (σ : MS) (x1_ : Int32) (x2_ : Int32) (x3_ : Int32) : Prop := ∀ x1 : Int32, x1 = x3_ + (1 : Int32) → (k8 σ x1_ x2_ x1)
set_option maxHeartbeats 4000000 in
set_option maxRecDepth 100000 in
theorem b_M_works_188 {p : Program} {l : Launch} {e : Env} {s : State} {m : MethodId} {args : Array Value} {below : List Frame} {meth : Method} {c : Code} {D : va_G} {Z : Nat → ClassId} {b : Nat → Nat} (C : MC p s m args c cX11_works 5 D Z) (hr : meth.sig.returnType = some .int) (hk : meth.locks = false) {post : Int32 → MS → Prop} {k8 : MS → Int32 → Int32 → Int32 → Prop} (hk8 : ∀ (σ : MS) (y1 : Int32) (y2 : Int32) (y3 : Int32), k8 σ y1 y2 y3 → ∀ (H : Heap) (locs : List Loc) (ls : Array Slot), MH D Z b s.heap σ H locs → lv_has ls 5 [(0, .ref (b 69)), (1, .int y1), (2, .int y2), (3, .int y3)] → MWi p l e rm_M_works s m args below meth c D Z b post H locs (F0 m 8 ls [])) : ∀ (σ : MS) (x1_ : Int32) (x2_ : Int32) (x3_ : Int32), wp_M_works_188 k8 post σ x1_ x2_ x3_ → ∀ (H : Heap) (locs : List Loc) (ls : Array Slot), MH D Z b s.heap σ H locs → lv_has ls 5 [(0, .ref (b 69)), (1, .int x1_), (2, .int x2_), (3, .int x3_)] → MWi p l e rm_M_works s m args below meth c D Z b post H locs (F0 m 188 ls []) := by
  obtain ⟨⟨hx, hb, hml, hown, hts⟩, hK⟩ := id C
  intro σ x1_ x2_ x3_ hw H locs ls hH hl
  unfold wp_M_works_188 at hw
  obtain ⟨x1, ex1⟩ : ∃ y : Int32, y = x3_ + (1 : Int32) := ⟨_, rfl⟩
  have hw := hw x1 ex1
  refine lv_iinc (v := x1) (lv' := [(3, .int x1), (0, .ref (b 69)), (1, .int x1_), (2, .int x2_)]) hx hb dX11_works_188 hl (k := 3) rfl (by rw [ex1]; rfl) (by decide) rfl (fun ls hl => ?_)
  refine lv_goto (tgt := 8) hx hb dX11_works_191 (by decide) ?_
  exact hk8 σ x1_ x2_ x1 hw _ _ _ hH (lv_sub hl [1, 2, 3, 0] rfl)
def wp_M_works_154 (k8 : MS → Int32 → Int32 → Int32 → Prop) (post : Int32 → MS → Prop) (σ : MS) (x1_ : Int32) (x2_ : Int32) (x3_ : Int32) (t1_ : Int32) (t2_ : Int32) : Prop := vp_in t1_ 220 ∧ (∀ σ3 : MS, σ3 = up2 σ 42 t1_.toNatClampNeg t2_ → (wp_M_works_188 (k8) post σ3 x1_ x2_ x3_))
set_option maxHeartbeats 4000000 in
set_option maxRecDepth 100000 in
theorem b_M_works_154 {p : Program} {l : Launch} {e : Env} {s : State} {m : MethodId} {args : Array Value} {below : List Frame} {meth : Method} {c : Code} {D : va_G} {Z : Nat → ClassId} {b : Nat → Nat} (C : MC p s m args c cX11_works 5 D Z) (hr : meth.sig.returnType = some .int) (hk : meth.locks = false) {post : Int32 → MS → Prop} {k8 : MS → Int32 → Int32 → Int32 → Prop} (hk8 : ∀ (σ : MS) (y1 : Int32) (y2 : Int32) (y3 : Int32), k8 σ y1 y2 y3 → ∀ (H : Heap) (locs : List Loc) (ls : Array Slot), MH D Z b s.heap σ H locs → lv_has ls 5 [(0, .ref (b 69)), (1, .int y1), (2, .int y2), (3, .int y3)] → MWi p l e rm_M_works s m args below meth c D Z b post H locs (F0 m 8 ls [])) : ∀ (σ : MS) (x1_ : Int32) (x2_ : Int32) (x3_ : Int32) (t1_ : Int32) (t2_ : Int32), wp_M_works_154 k8 post σ x1_ x2_ x3_ t1_ t2_ → ∀ (H : Heap) (locs : List Loc) (ls : Array Slot), MH D Z b s.heap σ H locs → lv_has ls 5 [(0, .ref (b 69)), (1, .int x1_), (2, .int x2_), (3, .int x3_)] → MWi p l e rm_M_works s m args below meth c D Z b post H locs (F0 m 154 ls [.int t2_, .int t1_, .ref (b 42)]) := by
  obtain ⟨⟨hx, hb, hml, hown, hts⟩, hK⟩ := id C
  intro σ x1_ x2_ x3_ t1_ t2_ hw H locs ls hH hl
  unfold wp_M_works_154 at hw
  obtain ⟨h2, hw⟩ := hw
  refine msi C hH 30 42 rfl (mast_42 Z b σ _ _) h2 dX11_works_154 (fun H locs hH => ?_)
  have hw := hw _ rfl
  generalize up2 σ 42 t1_.toNatClampNeg t2_ = σ3 at hw hH
  refine lv_goto (tgt := 188) hx hb dX11_works_155 (by decide) ?_
  exact b_M_works_188 C hr hk hk8 σ3 x1_ x2_ x3_ hw _ _ _ hH (lv_sub hl [0, 1, 2, 3] rfl)
def wp_M_works_117 (k8 : MS → Int32 → Int32 → Int32 → Prop) (post : Int32 → MS → Prop) (σ : MS) (x1_ : Int32) (x2_ : Int32) (x3_ : Int32) (t1_ : Int32) (t2_ : Int32) : Prop := vp_in t1_ 220 ∧ (∀ σ5 : MS, σ5 = up2 σ 42 t1_.toNatClampNeg t2_ → (∀ x6 : Int32, x6 = x2_ + (1 : Int32) → (wp_M_works_188 (k8) post σ5 x1_ x6 x3_)))
set_option maxHeartbeats 4000000 in
set_option maxRecDepth 100000 in
theorem b_M_works_117 {p : Program} {l : Launch} {e : Env} {s : State} {m : MethodId} {args : Array Value} {below : List Frame} {meth : Method} {c : Code} {D : va_G} {Z : Nat → ClassId} {b : Nat → Nat} (C : MC p s m args c cX11_works 5 D Z) (hr : meth.sig.returnType = some .int) (hk : meth.locks = false) {post : Int32 → MS → Prop} {k8 : MS → Int32 → Int32 → Int32 → Prop} (hk8 : ∀ (σ : MS) (y1 : Int32) (y2 : Int32) (y3 : Int32), k8 σ y1 y2 y3 → ∀ (H : Heap) (locs : List Loc) (ls : Array Slot), MH D Z b s.heap σ H locs → lv_has ls 5 [(0, .ref (b 69)), (1, .int y1), (2, .int y2), (3, .int y3)] → MWi p l e rm_M_works s m args below meth c D Z b post H locs (F0 m 8 ls [])) : ∀ (σ : MS) (x1_ : Int32) (x2_ : Int32) (x3_ : Int32) (t1_ : Int32) (t2_ : Int32), wp_M_works_117 k8 post σ x1_ x2_ x3_ t1_ t2_ → ∀ (H : Heap) (locs : List Loc) (ls : Array Slot), MH D Z b s.heap σ H locs → lv_has ls 5 [(0, .ref (b 69)), (1, .int x1_), (2, .int x2_), (3, .int x3_)] → MWi p l e rm_M_works s m args below meth c D Z b post H locs (F0 m 117 ls [.int t2_, .int t1_, .ref (b 42)]) := by
  obtain ⟨⟨hx, hb, hml, hown, hts⟩, hK⟩ := id C
  intro σ x1_ x2_ x3_ t1_ t2_ hw H locs ls hH hl
  unfold wp_M_works_117 at hw
  obtain ⟨h4, hw⟩ := hw
  refine msi C hH 30 42 rfl (mast_42 Z b σ _ _) h4 dX11_works_117 (fun H locs hH => ?_)
  have hw := hw _ rfl
  generalize up2 σ 42 t1_.toNatClampNeg t2_ = σ5 at hw hH
  obtain ⟨x6, ex6⟩ : ∃ y : Int32, y = x2_ + (1 : Int32) := ⟨_, rfl⟩
  have hw := hw x6 ex6
  refine lv_iinc (v := x6) (lv' := [(2, .int x6), (0, .ref (b 69)), (1, .int x1_), (3, .int x3_)]) hx hb dX11_works_118 hl (k := 2) rfl (by rw [ex6]; rfl) (by decide) rfl (fun ls hl => ?_)
  refine lv_goto (tgt := 188) hx hb dX11_works_121 (by decide) ?_
  exact b_M_works_188 C hr hk hk8 σ5 x1_ x6 x3_ hw _ _ _ hH (lv_sub hl [1, 2, 0, 3] rfl)
def wp_M_works_87 (k8 : MS → Int32 → Int32 → Int32 → Prop) (post : Int32 → MS → Prop) (σ : MS) (x1_ : Int32) (x2_ : Int32) (x3_ : Int32) (x4_ : Int32) : Prop := if x4_ = (1 : Int32) then (vp_in x3_ 8800 ∧ (wp_M_works_117 (k8) post σ x1_ x2_ x3_ x2_ (σ 33 x3_.toNatClampNeg))) else (vp_in (x4_ - (100 : Int32)) 13 ∧ (wp_M_works_117 (k8) post σ x1_ x2_ x3_ x2_ (σ 41 (x4_ - (100 : Int32)).toNatClampNeg)))
set_option maxHeartbeats 4000000 in
set_option maxRecDepth 100000 in
theorem b_M_works_87 {p : Program} {l : Launch} {e : Env} {s : State} {m : MethodId} {args : Array Value} {below : List Frame} {meth : Method} {c : Code} {D : va_G} {Z : Nat → ClassId} {b : Nat → Nat} (C : MC p s m args c cX11_works 5 D Z) (hr : meth.sig.returnType = some .int) (hk : meth.locks = false) {post : Int32 → MS → Prop} {k8 : MS → Int32 → Int32 → Int32 → Prop} (hk8 : ∀ (σ : MS) (y1 : Int32) (y2 : Int32) (y3 : Int32), k8 σ y1 y2 y3 → ∀ (H : Heap) (locs : List Loc) (ls : Array Slot), MH D Z b s.heap σ H locs → lv_has ls 5 [(0, .ref (b 69)), (1, .int y1), (2, .int y2), (3, .int y3)] → MWi p l e rm_M_works s m args below meth c D Z b post H locs (F0 m 8 ls [])) : ∀ (σ : MS) (x1_ : Int32) (x2_ : Int32) (x3_ : Int32) (x4_ : Int32), wp_M_works_87 k8 post σ x1_ x2_ x3_ x4_ → ∀ (H : Heap) (locs : List Loc) (ls : Array Slot), MH D Z b s.heap σ H locs → lv_has ls 5 [(0, .ref (b 69)), (1, .int x1_), (2, .int x2_), (3, .int x3_), (4, .int x4_)] → MWi p l e rm_M_works s m args below meth c D Z b post H locs (F0 m 87 ls []) := by
  obtain ⟨⟨hx, hb, hml, hown, hts⟩, hK⟩ := id C
  intro σ x1_ x2_ x3_ x4_ hw H locs ls hH hl
  unfold wp_M_works_87 at hw
  refine lv_aload_n hx hb dX11_works_87 rfl (lv_at hl 0 rfl) ?_
  refine mg C hH 42 (by decide) rfl wd_1071 rfl dX11_works_88 ?_
  refine lv_iload_n hx hb dX11_works_91 rfl (lv_at hl 2 rfl) ?_
  refine lv_iload hx hb dX11_works_92 (lv_at hl 4 rfl) ?_
  refine lv_iconst (v := 1) hx hb dX11_works_94 (by decide) ?_
  refine lv_icmp_ne (tgt := 107) hx hb dX11_works_95 (by decide) (fun c7 => ?_) (fun c7 => ?_)
  · have hw := ifn c7 hw
    refine lv_aload_n hx hb dX11_works_107 rfl (lv_at hl 0 rfl) ?_
    refine mg C hH 41 (by decide) rfl wd_1070 rfl dX11_works_108 ?_
    refine lv_iload hx hb dX11_works_111 (lv_at hl 4 rfl) ?_
    refine lv_bipush (v := 100) hx hb dX11_works_113 (by decide) ?_
    refine lv_isub hx hb dX11_works_115 ?_
    obtain ⟨h8, hw⟩ := hw
    refine mai C hH 29 41 rfl h8 dX11_works_116 ?_
    exact b_M_works_117 C hr hk hk8 σ x1_ x2_ x3_ x2_ (σ 41 (x4_ - (100 : Int32)).toNatClampNeg) hw _ _ _ hH (lv_sub hl [0, 1, 2, 3] rfl)
  · have hw := ifp c7 hw
    refine lv_aload_n hx hb dX11_works_98 rfl (lv_at hl 0 rfl) ?_
    refine mg C hH 33 (by decide) rfl wd_1062 rfl dX11_works_99 ?_
    refine lv_iload_n hx hb dX11_works_102 rfl (lv_at hl 3 rfl) ?_
    obtain ⟨h9, hw⟩ := hw
    refine mai C hH 27 33 rfl h9 dX11_works_103 ?_
    refine lv_goto (tgt := 117) hx hb dX11_works_104 (by decide) ?_
    exact b_M_works_117 C hr hk hk8 σ x1_ x2_ x3_ x2_ (σ 33 x3_.toNatClampNeg) hw _ _ _ hH (lv_sub hl [0, 1, 2, 3] rfl)
def wp_M_works_8 (post : Int32 → MS → Prop) : Nat → MS → Int32 → Int32 → Int32 → Prop
  | 0 => fun _ _ _ _ => False
  | n + 1 => fun σ x1_ x2_ x3_ => vp_in x1_ 40 ∧ (if (((220 : Int32) * x1_) + (σ 31 x1_.toNatClampNeg)) ≤ x3_ then (post (0 : Int32) σ) else (vp_in x3_ 8800 ∧ (∀ x13 : Int32, x13 = (σ 32 x3_.toNatClampNeg) → (if x13 = (9 : Int32) then (vp_in (0 : Int32) 220 ∧ (post (σ 42 (0 : Int32).toNatClampNeg) σ)) else (if x13 = (8 : Int32) then (vp_in (1 : Int32) 220 ∧ (if (σ 42 (1 : Int32).toNatClampNeg) = 0 then (wp_M_works_188 (wp_M_works_8 post n) post σ x1_ (0 : Int32) x3_) else (vp_in (0 : Int32) 220 ∧ (post (σ 42 (0 : Int32).toNatClampNeg) σ)))) else (if x13 = (1 : Int32) then (wp_M_works_87 (wp_M_works_8 post n) post σ x1_ x2_ x3_ x13) else (if x13 < (100 : Int32) then (if x13 = (30 : Int32) then (vp_in (x2_ - (1 : Int32)) 220 ∧ (if (σ 42 (x2_ - (1 : Int32)).toNatClampNeg) = 0 then (wp_M_works_154 (wp_M_works_8 post n) post σ x1_ x2_ x3_ (x2_ - (1 : Int32)) (1 : Int32)) else (wp_M_works_154 (wp_M_works_8 post n) post σ x1_ x2_ x3_ (x2_ - (1 : Int32)) (0 : Int32)))) else (∀ x19 : Int32, x19 = x2_ + (-1 : Int32) → (vp_in (x19 - (1 : Int32)) 220 ∧ (vp_in x19 220 ∧ (wp_M_both σ x13 (σ 42 (x19 - (1 : Int32)).toNatClampNeg) (σ 42 x19.toNatClampNeg) (fun r23 σ22 => vp_in (x19 - (1 : Int32)) 220 ∧ (∀ σ25 : MS, σ25 = up2 σ22 42 (x19 - (1 : Int32)).toNatClampNeg r23 → (wp_M_works_188 (wp_M_works_8 post n) post σ25 x1_ x19 x3_)))))))) else (wp_M_works_87 (wp_M_works_8 post n) post σ x1_ x2_ x3_ x13))))))))
set_option maxHeartbeats 4000000 in
set_option maxRecDepth 100000 in
theorem b_M_works_8 {p : Program} {l : Launch} {e : Env} {s : State} {m : MethodId} {args : Array Value} {below : List Frame} {meth : Method} {c : Code} {D : va_G} {Z : Nat → ClassId} {b : Nat → Nat} (C : MC p s m args c cX11_works 5 D Z) (hr : meth.sig.returnType = some .int) (hk : meth.locks = false) {post : Int32 → MS → Prop} : ∀ (n : Nat) (σ : MS) (x1_ : Int32) (x2_ : Int32) (x3_ : Int32), wp_M_works_8  post n σ x1_ x2_ x3_ → ∀ (H : Heap) (locs : List Loc) (ls : Array Slot), MH D Z b s.heap σ H locs → lv_has ls 5 [(0, .ref (b 69)), (1, .int x1_), (2, .int x2_), (3, .int x3_)] → MWi p l e rm_M_works s m args below meth c D Z b post H locs (F0 m 8 ls []) := by
  obtain ⟨⟨hx, hb, hml, hown, hts⟩, hK⟩ := id C
  intro n
  induction n with
  | zero => intro σ x1_ x2_ x3_ hw; exact hw.elim
  | succ n ih =>
    intro σ x1_ x2_ x3_ hw H locs ls hH hl
    unfold wp_M_works_8 at hw
    refine lv_iload_n hx hb dX11_works_8 rfl (lv_at hl 3 rfl) ?_
    refine lv_sipush (v := 220) hx hb dX11_works_9 (by decide) ?_
    refine lv_iload_n hx hb dX11_works_12 rfl (lv_at hl 1 rfl) ?_
    refine lv_imul hx hb dX11_works_13 ?_
    refine lv_aload_n hx hb dX11_works_14 rfl (lv_at hl 0 rfl) ?_
    refine mg C hH 31 (by decide) rfl wd_1060 rfl dX11_works_15 ?_
    refine lv_iload_n hx hb dX11_works_18 rfl (lv_at hl 1 rfl) ?_
    obtain ⟨h10, hw⟩ := hw
    refine mai C hH 25 31 rfl h10 dX11_works_19 ?_
    refine lv_iadd hx hb dX11_works_20 ?_
    refine lv_icmp_ge (tgt := 194) hx hb dX11_works_21 (by decide) (fun c11 => ?_) (fun c11 => ?_)
    · have hw := ifp c11 hw
      refine lv_iconst (v := 0) hx hb dX11_works_194 (by decide) ?_
      exact mri C hr hk hH hw dX11_works_195
    · have hw := ifn c11 hw
      refine lv_aload_n hx hb dX11_works_24 rfl (lv_at hl 0 rfl) ?_
      refine mg C hH 32 (by decide) rfl wd_1061 rfl dX11_works_25 ?_
      refine lv_iload_n hx hb dX11_works_28 rfl (lv_at hl 3 rfl) ?_
      obtain ⟨h12, hw⟩ := hw
      refine mai C hH 26 32 rfl h12 dX11_works_29 ?_
      refine lv_topi (fun x13 ex13 => ?_)
      have hw := hw x13 ex13
      refine lv_istore (lv' := [(4, .int x13), (0, .ref (b 69)), (1, .int x1_), (2, .int x2_), (3, .int x3_)]) hx hb dX11_works_30 hl (by decide) rfl (fun ls hl => ?_)
      refine lv_iload hx hb dX11_works_32 (lv_at hl 0 rfl) ?_
      refine lv_bipush (v := 9) hx hb dX11_works_34 (by decide) ?_
      refine lv_icmp_ne (tgt := 46) hx hb dX11_works_36 (by decide) (fun c14 => ?_) (fun c14 => ?_)
      · have hw := ifn c14 hw
        refine lv_iload hx hb dX11_works_46 (lv_at hl 0 rfl) ?_
        refine lv_bipush (v := 8) hx hb dX11_works_48 (by decide) ?_
        refine lv_icmp_ne (tgt := 74) hx hb dX11_works_50 (by decide) (fun c15 => ?_) (fun c15 => ?_)
        · have hw := ifn c15 hw
          refine lv_iload hx hb dX11_works_74 (lv_at hl 0 rfl) ?_
          refine lv_iconst (v := 1) hx hb dX11_works_76 (by decide) ?_
          refine lv_icmp_eq (tgt := 87) hx hb dX11_works_77 (by decide) (fun c16 => ?_) (fun c16 => ?_)
          · have hw := ifp c16 hw
            exact b_M_works_87 C hr hk ih σ x1_ x2_ x3_ x13 hw _ _ _ hH (lv_sub hl [1, 2, 3, 4, 0] rfl)
          · have hw := ifn c16 hw
            refine lv_iload hx hb dX11_works_80 (lv_at hl 0 rfl) ?_
            refine lv_bipush (v := 100) hx hb dX11_works_82 (by decide) ?_
            refine lv_icmp_lt (tgt := 124) hx hb dX11_works_84 (by decide) (fun c17 => ?_) (fun c17 => ?_)
            · have hw := ifp c17 hw
              refine lv_iload hx hb dX11_works_124 (lv_at hl 0 rfl) ?_
              refine lv_bipush (v := 30) hx hb dX11_works_126 (by decide) ?_
              refine lv_icmp_ne (tgt := 158) hx hb dX11_works_128 (by decide) (fun c18 => ?_) (fun c18 => ?_)
              · have hw := ifn c18 hw
                obtain ⟨x19, ex19⟩ : ∃ y : Int32, y = x2_ + (-1 : Int32) := ⟨_, rfl⟩
                have hw := hw x19 ex19
                refine lv_iinc (v := x19) (lv' := [(2, .int x19), (4, .int x13), (0, .ref (b 69)), (1, .int x1_), (3, .int x3_)]) hx hb dX11_works_158 hl (k := 3) rfl (by rw [ex19]; rfl) (by decide) rfl (fun ls hl => ?_)
                refine lv_aload_n hx hb dX11_works_161 rfl (lv_at hl 2 rfl) ?_
                refine mg C hH 42 (by decide) rfl wd_1071 rfl dX11_works_162 ?_
                refine lv_iload_n hx hb dX11_works_165 rfl (lv_at hl 0 rfl) ?_
                refine lv_iconst (v := 1) hx hb dX11_works_166 (by decide) ?_
                refine lv_isub hx hb dX11_works_167 ?_
                refine lv_iload hx hb dX11_works_168 (lv_at hl 1 rfl) ?_
                refine lv_aload_n hx hb dX11_works_170 rfl (lv_at hl 2 rfl) ?_
                refine mg C hH 42 (by decide) rfl wd_1071 rfl dX11_works_171 ?_
                refine lv_iload_n hx hb dX11_works_174 rfl (lv_at hl 0 rfl) ?_
                refine lv_iconst (v := 1) hx hb dX11_works_175 (by decide) ?_
                refine lv_isub hx hb dX11_works_176 ?_
                obtain ⟨h20, hw⟩ := hw
                refine mai C hH 30 42 rfl h20 dX11_works_177 ?_
                refine lv_aload_n hx hb dX11_works_178 rfl (lv_at hl 2 rfl) ?_
                refine mg C hH 42 (by decide) rfl wd_1071 rfl dX11_works_179 ?_
                refine lv_iload_n hx hb dX11_works_182 rfl (lv_at hl 0 rfl) ?_
                obtain ⟨h21, hw⟩ := hw
                refine mai C hH 30 42 rfl h21 dX11_works_183 ?_
                refine mcSi C hH [.int x13, .int (σ 42 (x19 - (1 : Int32)).toNatClampNeg), .int (σ 42 x19.toNatClampNeg)] (fun sz => c_M_both l D Z b σ x13 (σ 42 (x19 - (1 : Int32)).toNatClampNeg) (σ 42 x19.toNatClampNeg) _ hw sz) (cwTS 3 hts wd_1442 wd_1443 wd_14 wd_1444 rfl rfl (by decide +kernel) ⟨Nat.le_of_ble_eq_true rfl, Nat.le_of_ble_eq_true rfl⟩) rfl hl.1 rfl (Nat.le_of_ble_eq_true rfl) dX11_works_184 ⟨Nat.zero_le _, Nat.zero_le _⟩ (fun r23 σ22 H locs hw hH => ?_)
                obtain ⟨h24, hw⟩ := hw
                refine msi C hH 30 42 rfl (mast_42 Z b σ22 _ _) h24 dX11_works_187 (fun H locs hH => ?_)
                have hw := hw _ rfl
                generalize up2 σ22 42 (x19 - (1 : Int32)).toNatClampNeg r23 = σ25 at hw hH
                exact b_M_works_188 C hr hk ih σ25 x1_ x19 x3_ hw _ _ _ hH (lv_sub hl [2, 3, 0, 4] rfl)
              · have hw := ifp c18 hw
                refine lv_aload_n hx hb dX11_works_131 rfl (lv_at hl 1 rfl) ?_
                refine mg C hH 42 (by decide) rfl wd_1071 rfl dX11_works_132 ?_
                refine lv_iload_n hx hb dX11_works_135 rfl (lv_at hl 3 rfl) ?_
                refine lv_iconst (v := 1) hx hb dX11_works_136 (by decide) ?_
                refine lv_isub hx hb dX11_works_137 ?_
                refine lv_aload_n hx hb dX11_works_138 rfl (lv_at hl 1 rfl) ?_
                refine mg C hH 42 (by decide) rfl wd_1071 rfl dX11_works_139 ?_
                refine lv_iload_n hx hb dX11_works_142 rfl (lv_at hl 3 rfl) ?_
                refine lv_iconst (v := 1) hx hb dX11_works_143 (by decide) ?_
                refine lv_isub hx hb dX11_works_144 ?_
                obtain ⟨h26, hw⟩ := hw
                refine mai C hH 30 42 rfl h26 dX11_works_145 ?_
                refine lv_if_ne (tgt := 153) hx hb dX11_works_146 (by decide) (fun c27 => ?_) (fun c27 => ?_)
                · have hw := ifn c27 hw
                  refine lv_iconst (v := 0) hx hb dX11_works_153 (by decide) ?_
                  exact b_M_works_154 C hr hk ih σ x1_ x2_ x3_ (x2_ - (1 : Int32)) (0 : Int32) hw _ _ _ hH (lv_sub hl [1, 2, 3, 4] rfl)
                · have hw := ifp c27 hw
                  refine lv_iconst (v := 1) hx hb dX11_works_149 (by decide) ?_
                  refine lv_goto (tgt := 154) hx hb dX11_works_150 (by decide) ?_
                  exact b_M_works_154 C hr hk ih σ x1_ x2_ x3_ (x2_ - (1 : Int32)) (1 : Int32) hw _ _ _ hH (lv_sub hl [1, 2, 3, 4] rfl)
            · have hw := ifn c17 hw
              exact b_M_works_87 C hr hk ih σ x1_ x2_ x3_ x13 hw _ _ _ hH (lv_sub hl [1, 2, 3, 4, 0] rfl)
        · have hw := ifp c15 hw
          refine lv_aload_n hx hb dX11_works_53 rfl (lv_at hl 1 rfl) ?_
          refine mg C hH 42 (by decide) rfl wd_1071 rfl dX11_works_54 ?_
          refine lv_iconst (v := 1) hx hb dX11_works_57 (by decide) ?_
          obtain ⟨h28, hw⟩ := hw
          refine mai C hH 30 42 rfl h28 dX11_works_58 ?_
          refine lv_if_eq (tgt := 69) hx hb dX11_works_59 (by decide) (fun c29 => ?_) (fun c29 => ?_)
          · have hw := ifp c29 hw
            refine lv_iconst (v := 0) hx hb dX11_works_69 (by decide) ?_
            refine lv_istore_n (lv' := [(2, .int (0 : Int32)), (4, .int x13), (0, .ref (b 69)), (1, .int x1_), (3, .int x3_)]) hx hb dX11_works_70 rfl hl (by decide) rfl (fun ls hl => ?_)
            refine lv_goto (tgt := 188) hx hb dX11_works_71 (by decide) ?_
            exact b_M_works_188 C hr hk ih σ x1_ (0 : Int32) x3_ hw _ _ _ hH (lv_sub hl [2, 3, 0, 4] rfl)
          · have hw := ifn c29 hw
            refine lv_aload_n hx hb dX11_works_62 rfl (lv_at hl 1 rfl) ?_
            refine mg C hH 42 (by decide) rfl wd_1071 rfl dX11_works_63 ?_
            refine lv_iconst (v := 0) hx hb dX11_works_66 (by decide) ?_
            obtain ⟨h30, hw⟩ := hw
            refine mai C hH 30 42 rfl h30 dX11_works_67 ?_
            exact mri C hr hk hH hw dX11_works_68
      · have hw := ifp c14 hw
        refine lv_aload_n hx hb dX11_works_39 rfl (lv_at hl 1 rfl) ?_
        refine mg C hH 42 (by decide) rfl wd_1071 rfl dX11_works_40 ?_
        refine lv_iconst (v := 0) hx hb dX11_works_43 (by decide) ?_
        obtain ⟨h31, hw⟩ := hw
        refine mai C hH 30 42 rfl h31 dX11_works_44 ?_
        exact mri C hr hk hH hw dX11_works_45
def wp_M_works (σ : MS) (a1 : Int32) (post : Int32 → MS → Prop) : Prop := ∀ x32 : Int32, x32 = ((220 : Int32) * a1) → (∃ nn : Nat, wp_M_works_8  post nn σ a1 (0 : Int32) x32)
set_option maxHeartbeats 4000000 in
set_option maxRecDepth 100000 in
theorem c_M_works (l : Launch) (D : va_G) (Z : Nat → ClassId) (b : Nat → Nat) (σ : MS) (a1 : Int32) (post : Int32 → MS → Prop) (hw : wp_M_works σ a1 post) (sz : Nat) : Met l yX11_works (Wd yX11_works cX11_works 5 (some .int)) rm_M_works (va_Pc [.ref (b 69), .int a1] (mPre D Z b sz σ)) (va_Qi post (mPost D Z b) (mA b sz)) 0 0 (mA b sz) := by
  refine mMi (by decide) rfl _ (Nat.le_of_ble_eq_true rfl) (fun p e s m args below meth c C hr hk ls hl hH => ?_) sz
  obtain ⟨⟨hx, hb, hml, hown, hts⟩, hK⟩ := id C
  have hl : lv_has ls 5 [(0, .ref (b 69)), (1, .int a1)] := hl
  unfold wp_M_works at hw
  refine lv_iconst (v := 0) hx hb dX11_works_0 (by decide) ?_
  refine lv_istore_n (lv' := [(2, .int (0 : Int32)), (0, .ref (b 69)), (1, .int a1)]) hx hb dX11_works_1 rfl hl (by decide) rfl (fun ls hl => ?_)
  refine lv_sipush (v := 220) hx hb dX11_works_2 (by decide) ?_
  refine lv_iload_n hx hb dX11_works_5 rfl (lv_at hl 2 rfl) ?_
  refine lv_imul hx hb dX11_works_6 ?_
  refine lv_topi (fun x32 ex32 => ?_)
  have hw := hw x32 ex32
  refine lv_istore_n (lv' := [(3, .int x32), (2, .int (0 : Int32)), (0, .ref (b 69)), (1, .int a1)]) hx hb dX11_works_7 rfl hl (by decide) rfl (fun ls hl => ?_)
  obtain ⟨nn, hw⟩ := hw
  exact b_M_works_8 C hr hk  nn σ a1 (0 : Int32) x32 hw _ _ _ hH (lv_sub hl [2, 3, 1, 0] rfl)
/-! nameLoad -/
abbrev rm_M_nameLoad : Room := { frames := 1, cells := 0, slots := 0, locals := 22 }
def wp_M_nameLoad_198 (post : MS → Prop) (σ : MS) (t1_ : Int32) (t2_ : Int32) : Prop := vp_in t1_ 13 ∧ (∀ σ2 : MS, σ2 = up2 σ 41 t1_.toNatClampNeg t2_ → (wp_M_today σ2  (fun r4 σ3 => vp_in (9 : Int32) 13 ∧ (∀ σ6 : MS, σ6 = up2 σ3 41 (9 : Int32).toNatClampNeg r4 → (post σ6)))))
set_option maxHeartbeats 4000000 in
set_option maxRecDepth 100000 in
theorem b_M_nameLoad_198 {p : Program} {l : Launch} {e : Env} {s : State} {m : MethodId} {args : Array Value} {below : List Frame} {meth : Method} {c : Code} {D : va_G} {Z : Nat → ClassId} {b : Nat → Nat} (C : MC p s m args c cX11_nameLoad 2 D Z) (hr : meth.sig.returnType = none) (hk : meth.locks = false) {post : MS → Prop} : ∀ (σ : MS) (t1_ : Int32) (t2_ : Int32), wp_M_nameLoad_198  post σ t1_ t2_ → ∀ (H : Heap) (locs : List Loc) (ls : Array Slot), MH D Z b s.heap σ H locs → lv_has ls 2 [(0, .ref (b 69))] → MWv p l e rm_M_nameLoad s m args below meth c D Z b post H locs (F0 m 198 ls [.int t2_, .int t1_, .ref (b 41)]) := by
  obtain ⟨⟨hx, hb, hml, hown, hts⟩, hK⟩ := id C
  intro σ t1_ t2_ hw H locs ls hH hl
  unfold wp_M_nameLoad_198 at hw
  obtain ⟨h1, hw⟩ := hw
  refine msi C hH 29 41 rfl (mast_41 Z b σ _ _) h1 dX11_nameLoad_198 (fun H locs hH => ?_)
  have hw := hw _ rfl
  generalize up2 σ 41 t1_.toNatClampNeg t2_ = σ2 at hw hH
  refine lv_aload_n hx hb dX11_nameLoad_199 rfl (lv_at hl 0 rfl) ?_
  refine mg C hH 41 (by decide) rfl wd_1070 rfl dX11_nameLoad_200 ?_
  refine lv_bipush (v := 9) hx hb dX11_nameLoad_203 (by decide) ?_
  refine lv_aload_n hx hb dX11_nameLoad_205 rfl (lv_at hl 0 rfl) ?_
  refine mcVi C hH [] (fun sz => c_M_today l D Z b σ2  _ hw sz) (cwTV 0 hts wd_1405 wd_1407 ws_62 wd_14 wd_1408 rfl rfl (by decide +kernel) ⟨Nat.le_of_ble_eq_true rfl, Nat.le_of_ble_eq_true rfl⟩) rfl hl.1 rfl (Nat.le_of_ble_eq_true rfl) dX11_nameLoad_206 ⟨Nat.zero_le _, Nat.zero_le _⟩ (fun r4 σ3 H locs hw hH => ?_)
  obtain ⟨h5, hw⟩ := hw
  refine msi C hH 29 41 rfl (mast_41 Z b σ3 _ _) h5 dX11_nameLoad_209 (fun H locs hH => ?_)
  have hw := hw _ rfl
  generalize up2 σ3 41 (9 : Int32).toNatClampNeg r4 = σ6 at hw hH
  exact mrv C hr hk hH hw dX11_nameLoad_210
def wp_M_nameLoad_183 (post : MS → Prop) (σ : MS) (t1_ : Int32) : Prop := wp_M_nameLoad_198 post σ t1_ (0 : Int32)
set_option maxHeartbeats 4000000 in
set_option maxRecDepth 100000 in
theorem b_M_nameLoad_183 {p : Program} {l : Launch} {e : Env} {s : State} {m : MethodId} {args : Array Value} {below : List Frame} {meth : Method} {c : Code} {D : va_G} {Z : Nat → ClassId} {b : Nat → Nat} (C : MC p s m args c cX11_nameLoad 2 D Z) (hr : meth.sig.returnType = none) (hk : meth.locks = false) {post : MS → Prop} : ∀ (σ : MS) (t1_ : Int32), wp_M_nameLoad_183  post σ t1_ → ∀ (H : Heap) (locs : List Loc) (ls : Array Slot), MH D Z b s.heap σ H locs → lv_has ls 2 [(0, .ref (b 69))] → MWv p l e rm_M_nameLoad s m args below meth c D Z b post H locs (F0 m 183 ls [.int t1_, .ref (b 41)]) := by
  obtain ⟨⟨hx, hb, hml, hown, hts⟩, hK⟩ := id C
  intro σ t1_ hw H locs ls hH hl
  unfold wp_M_nameLoad_183 at hw
  refine lv_iconst (v := 0) hx hb dX11_nameLoad_183 (by decide) ?_
  refine lv_goto (tgt := 198) hx hb dX11_nameLoad_184 (by decide) ?_
  exact b_M_nameLoad_198 C hr hk  σ t1_ (0 : Int32) hw _ _ _ hH (lv_sub hl [0] rfl)
def wp_M_nameLoad_159 (post : MS → Prop) (σ : MS) (x1_ : Int32) (t1_ : Int32) (t2_ : Int32) : Prop := vp_in t1_ 13 ∧ (∀ σ8 : MS, σ8 = up2 σ 41 t1_.toNatClampNeg t2_ → (if x1_ < 0 then (wp_M_nameLoad_183 post σ8 (7 : Int32)) else (vp_in x1_ 200 ∧ (if (σ8 49 x1_.toNatClampNeg) < (σ8 1 0) then (vp_in x1_ 200 ∧ (wp_M_nameLoad_198 post σ8 (7 : Int32) ((σ8 1 0) - (σ8 49 x1_.toNatClampNeg)))) else (wp_M_nameLoad_183 post σ8 (7 : Int32))))))
set_option maxHeartbeats 4000000 in
set_option maxRecDepth 100000 in
theorem b_M_nameLoad_159 {p : Program} {l : Launch} {e : Env} {s : State} {m : MethodId} {args : Array Value} {below : List Frame} {meth : Method} {c : Code} {D : va_G} {Z : Nat → ClassId} {b : Nat → Nat} (C : MC p s m args c cX11_nameLoad 2 D Z) (hr : meth.sig.returnType = none) (hk : meth.locks = false) {post : MS → Prop} : ∀ (σ : MS) (x1_ : Int32) (t1_ : Int32) (t2_ : Int32), wp_M_nameLoad_159  post σ x1_ t1_ t2_ → ∀ (H : Heap) (locs : List Loc) (ls : Array Slot), MH D Z b s.heap σ H locs → lv_has ls 2 [(0, .ref (b 69)), (1, .int x1_)] → MWv p l e rm_M_nameLoad s m args below meth c D Z b post H locs (F0 m 159 ls [.int t2_, .int t1_, .ref (b 41)]) := by
  obtain ⟨⟨hx, hb, hml, hown, hts⟩, hK⟩ := id C
  intro σ x1_ t1_ t2_ hw H locs ls hH hl
  unfold wp_M_nameLoad_159 at hw
  obtain ⟨h7, hw⟩ := hw
  refine msi C hH 29 41 rfl (mast_41 Z b σ _ _) h7 dX11_nameLoad_159 (fun H locs hH => ?_)
  have hw := hw _ rfl
  generalize up2 σ 41 t1_.toNatClampNeg t2_ = σ8 at hw hH
  refine lv_aload_n hx hb dX11_nameLoad_160 rfl (lv_at hl 0 rfl) ?_
  refine mg C hH 41 (by decide) rfl wd_1070 rfl dX11_nameLoad_161 ?_
  refine lv_bipush (v := 7) hx hb dX11_nameLoad_164 (by decide) ?_
  refine lv_iload_n hx hb dX11_nameLoad_166 rfl (lv_at hl 1 rfl) ?_
  refine lv_if_lt (tgt := 183) hx hb dX11_nameLoad_167 (by decide) (fun c9 => ?_) (fun c9 => ?_)
  · have hw := ifp c9 hw
    exact b_M_nameLoad_183 C hr hk  σ8 (7 : Int32) hw _ _ _ hH (lv_sub hl [0] rfl)
  · have hw := ifn c9 hw
    refine lv_aload_n hx hb dX11_nameLoad_170 rfl (lv_at hl 0 rfl) ?_
    refine mg C hH 1 (by decide) rfl wd_1030 rfl dX11_nameLoad_171 ?_
    refine lv_aload_n hx hb dX11_nameLoad_174 rfl (lv_at hl 0 rfl) ?_
    refine mg C hH 49 (by decide) rfl wd_1078 rfl dX11_nameLoad_175 ?_
    refine lv_iload_n hx hb dX11_nameLoad_178 rfl (lv_at hl 1 rfl) ?_
    obtain ⟨h10, hw⟩ := hw
    refine mai C hH 36 49 rfl h10 dX11_nameLoad_179 ?_
    refine lv_icmp_gt (tgt := 187) hx hb dX11_nameLoad_180 (by decide) (fun c11 => ?_) (fun c11 => ?_)
    · have hw := ifp c11 hw
      refine lv_aload_n hx hb dX11_nameLoad_187 rfl (lv_at hl 0 rfl) ?_
      refine mg C hH 1 (by decide) rfl wd_1030 rfl dX11_nameLoad_188 ?_
      refine lv_aload_n hx hb dX11_nameLoad_191 rfl (lv_at hl 0 rfl) ?_
      refine mg C hH 49 (by decide) rfl wd_1078 rfl dX11_nameLoad_192 ?_
      refine lv_iload_n hx hb dX11_nameLoad_195 rfl (lv_at hl 1 rfl) ?_
      obtain ⟨h12, hw⟩ := hw
      refine mai C hH 36 49 rfl h12 dX11_nameLoad_196 ?_
      refine lv_isub hx hb dX11_nameLoad_197 ?_
      exact b_M_nameLoad_198 C hr hk  σ8 (7 : Int32) ((σ8 1 0) - (σ8 49 x1_.toNatClampNeg)) hw _ _ _ hH (lv_sub hl [0] rfl)
    · have hw := ifn c11 hw
      exact b_M_nameLoad_183 C hr hk  σ8 (7 : Int32) hw _ _ _ hH (lv_sub hl [0] rfl)
def wp_M_nameLoad_119 (post : MS → Prop) (σ : MS) (x1_ : Int32) (t1_ : Int32) (t2_ : Int32) : Prop := vp_in t1_ 13 ∧ (∀ σ14 : MS, σ14 = up2 σ 41 t1_.toNatClampNeg t2_ → (vp_in (5 : Int32) 13 ∧ (∀ σ16 : MS, σ16 = up2 σ14 41 (5 : Int32).toNatClampNeg (((σ14 1 0) - (σ14 1 0) / (600 : Int32) * (600 : Int32)) / (60 : Int32)) → (wp_M_rainsAt σ16 (σ16 1 0) (fun r18 σ17 => if r18 = 0 then (wp_M_nameLoad_159 post σ17 x1_ (6 : Int32) (0 : Int32)) else (wp_M_nameLoad_159 post σ17 x1_ (6 : Int32) (1 : Int32)))))))
set_option maxHeartbeats 4000000 in
set_option maxRecDepth 100000 in
theorem b_M_nameLoad_119 {p : Program} {l : Launch} {e : Env} {s : State} {m : MethodId} {args : Array Value} {below : List Frame} {meth : Method} {c : Code} {D : va_G} {Z : Nat → ClassId} {b : Nat → Nat} (C : MC p s m args c cX11_nameLoad 2 D Z) (hr : meth.sig.returnType = none) (hk : meth.locks = false) {post : MS → Prop} : ∀ (σ : MS) (x1_ : Int32) (t1_ : Int32) (t2_ : Int32), wp_M_nameLoad_119  post σ x1_ t1_ t2_ → ∀ (H : Heap) (locs : List Loc) (ls : Array Slot), MH D Z b s.heap σ H locs → lv_has ls 2 [(0, .ref (b 69)), (1, .int x1_)] → MWv p l e rm_M_nameLoad s m args below meth c D Z b post H locs (F0 m 119 ls [.int t2_, .int t1_, .ref (b 41)]) := by
  obtain ⟨⟨hx, hb, hml, hown, hts⟩, hK⟩ := id C
  intro σ x1_ t1_ t2_ hw H locs ls hH hl
  unfold wp_M_nameLoad_119 at hw
  obtain ⟨h13, hw⟩ := hw
  refine msi C hH 29 41 rfl (mast_41 Z b σ _ _) h13 dX11_nameLoad_119 (fun H locs hH => ?_)
  have hw := hw _ rfl
  generalize up2 σ 41 t1_.toNatClampNeg t2_ = σ14 at hw hH
  refine lv_aload_n hx hb dX11_nameLoad_120 rfl (lv_at hl 0 rfl) ?_
  refine mg C hH 41 (by decide) rfl wd_1070 rfl dX11_nameLoad_121 ?_
  refine lv_iconst (v := 5) hx hb dX11_nameLoad_124 (by decide) ?_
  refine lv_aload_n hx hb dX11_nameLoad_125 rfl (lv_at hl 0 rfl) ?_
  refine mg C hH 1 (by decide) rfl wd_1030 rfl dX11_nameLoad_126 ?_
  refine lv_sipush (v := 600) hx hb dX11_nameLoad_129 (by decide) ?_
  refine lv_irem hx hb dX11_nameLoad_132 (by decide) ?_
  refine lv_bipush (v := 60) hx hb dX11_nameLoad_133 (by decide) ?_
  refine lv_idiv hx hb dX11_nameLoad_135 (by decide) ?_
  obtain ⟨h15, hw⟩ := hw
  refine msi C hH 29 41 rfl (mast_41 Z b σ14 _ _) h15 dX11_nameLoad_136 (fun H locs hH => ?_)
  have hw := hw _ rfl
  generalize up2 σ14 41 (5 : Int32).toNatClampNeg (((σ14 1 0) - (σ14 1 0) / (600 : Int32) * (600 : Int32)) / (60 : Int32)) = σ16 at hw hH
  refine lv_aload_n hx hb dX11_nameLoad_137 rfl (lv_at hl 0 rfl) ?_
  refine mg C hH 41 (by decide) rfl wd_1070 rfl dX11_nameLoad_138 ?_
  refine lv_bipush (v := 6) hx hb dX11_nameLoad_141 (by decide) ?_
  refine lv_aload_n hx hb dX11_nameLoad_143 rfl (lv_at hl 0 rfl) ?_
  refine lv_aload_n hx hb dX11_nameLoad_144 rfl (lv_at hl 0 rfl) ?_
  refine mg C hH 1 (by decide) rfl wd_1030 rfl dX11_nameLoad_145 ?_
  refine mcVi C hH [.int (σ16 1 0)] (fun sz => c_M_rainsAt l D Z b σ16 (σ16 1 0) _ hw sz) (cwTV 1 hts wd_1275 wd_1277 ws_50 wd_14 wd_1278 rfl rfl (by decide +kernel) ⟨Nat.le_of_ble_eq_true rfl, Nat.le_of_ble_eq_true rfl⟩) rfl hl.1 rfl (Nat.le_of_ble_eq_true rfl) dX11_nameLoad_148 ⟨Nat.zero_le _, Nat.zero_le _⟩ (fun r18 σ17 H locs hw hH => ?_)
  refine lv_if_eq (tgt := 158) hx hb dX11_nameLoad_151 (by decide) (fun c19 => ?_) (fun c19 => ?_)
  · have hw := ifp c19 hw
    refine lv_iconst (v := 0) hx hb dX11_nameLoad_158 (by decide) ?_
    exact b_M_nameLoad_159 C hr hk  σ17 x1_ (6 : Int32) (0 : Int32) hw _ _ _ hH (lv_sub hl [0, 1] rfl)
  · have hw := ifn c19 hw
    refine lv_iconst (v := 1) hx hb dX11_nameLoad_154 (by decide) ?_
    refine lv_goto (tgt := 159) hx hb dX11_nameLoad_155 (by decide) ?_
    exact b_M_nameLoad_159 C hr hk  σ17 x1_ (6 : Int32) (1 : Int32) hw _ _ _ hH (lv_sub hl [0, 1] rfl)
def wp_M_nameLoad_99 (post : MS → Prop) (σ : MS) (x1_ : Int32) (t1_ : Int32) (t2_ : Int32) : Prop := vp_in t1_ 13 ∧ (∀ σ21 : MS, σ21 = up2 σ 41 t1_.toNatClampNeg t2_ → (if 0 ≤ x1_ then (vp_in x1_ 200 ∧ (wp_M_nameLoad_119 post σ21 x1_ (4 : Int32) (σ21 48 x1_.toNatClampNeg))) else (wp_M_nameLoad_119 post σ21 x1_ (4 : Int32) (0 : Int32))))
set_option maxHeartbeats 4000000 in
set_option maxRecDepth 100000 in
theorem b_M_nameLoad_99 {p : Program} {l : Launch} {e : Env} {s : State} {m : MethodId} {args : Array Value} {below : List Frame} {meth : Method} {c : Code} {D : va_G} {Z : Nat → ClassId} {b : Nat → Nat} (C : MC p s m args c cX11_nameLoad 2 D Z) (hr : meth.sig.returnType = none) (hk : meth.locks = false) {post : MS → Prop} : ∀ (σ : MS) (x1_ : Int32) (t1_ : Int32) (t2_ : Int32), wp_M_nameLoad_99  post σ x1_ t1_ t2_ → ∀ (H : Heap) (locs : List Loc) (ls : Array Slot), MH D Z b s.heap σ H locs → lv_has ls 2 [(0, .ref (b 69)), (1, .int x1_)] → MWv p l e rm_M_nameLoad s m args below meth c D Z b post H locs (F0 m 99 ls [.int t2_, .int t1_, .ref (b 41)]) := by
  obtain ⟨⟨hx, hb, hml, hown, hts⟩, hK⟩ := id C
  intro σ x1_ t1_ t2_ hw H locs ls hH hl
  unfold wp_M_nameLoad_99 at hw
  obtain ⟨h20, hw⟩ := hw
  refine msi C hH 29 41 rfl (mast_41 Z b σ _ _) h20 dX11_nameLoad_99 (fun H locs hH => ?_)
  have hw := hw _ rfl
  generalize up2 σ 41 t1_.toNatClampNeg t2_ = σ21 at hw hH
  refine lv_aload_n hx hb dX11_nameLoad_100 rfl (lv_at hl 0 rfl) ?_
  refine mg C hH 41 (by decide) rfl wd_1070 rfl dX11_nameLoad_101 ?_
  refine lv_iconst (v := 4) hx hb dX11_nameLoad_104 (by decide) ?_
  refine lv_iload_n hx hb dX11_nameLoad_105 rfl (lv_at hl 1 rfl) ?_
  refine lv_if_ge (tgt := 113) hx hb dX11_nameLoad_106 (by decide) (fun c22 => ?_) (fun c22 => ?_)
  · have hw := ifp c22 hw
    refine lv_aload_n hx hb dX11_nameLoad_113 rfl (lv_at hl 0 rfl) ?_
    refine mg C hH 48 (by decide) rfl wd_1077 rfl dX11_nameLoad_114 ?_
    refine lv_iload_n hx hb dX11_nameLoad_117 rfl (lv_at hl 1 rfl) ?_
    obtain ⟨h23, hw⟩ := hw
    refine mai C hH 35 48 rfl h23 dX11_nameLoad_118 ?_
    exact b_M_nameLoad_119 C hr hk  σ21 x1_ (4 : Int32) (σ21 48 x1_.toNatClampNeg) hw _ _ _ hH (lv_sub hl [0, 1] rfl)
  · have hw := ifn c22 hw
    refine lv_iconst (v := 0) hx hb dX11_nameLoad_109 (by decide) ?_
    refine lv_goto (tgt := 119) hx hb dX11_nameLoad_110 (by decide) ?_
    exact b_M_nameLoad_119 C hr hk  σ21 x1_ (4 : Int32) (0 : Int32) hw _ _ _ hH (lv_sub hl [0, 1] rfl)
def wp_M_nameLoad_69 (post : MS → Prop) (σ : MS) (x1_ : Int32) (t1_ : Int32) (t2_ : Int32) : Prop := vp_in t1_ 13 ∧ (∀ σ25 : MS, σ25 = up2 σ 41 t1_.toNatClampNeg t2_ → (if 0 ≤ x1_ then (vp_in x1_ 200 ∧ (vp_in x1_ 200 ∧ (wp_M_up σ25 (σ25 46 x1_.toNatClampNeg) (σ25 47 x1_.toNatClampNeg) (fun r30 σ29 => wp_M_nameLoad_99 post σ29 x1_ (3 : Int32) r30)))) else (wp_M_nameLoad_99 post σ25 x1_ (3 : Int32) (0 : Int32))))
set_option maxHeartbeats 4000000 in
set_option maxRecDepth 100000 in
theorem b_M_nameLoad_69 {p : Program} {l : Launch} {e : Env} {s : State} {m : MethodId} {args : Array Value} {below : List Frame} {meth : Method} {c : Code} {D : va_G} {Z : Nat → ClassId} {b : Nat → Nat} (C : MC p s m args c cX11_nameLoad 2 D Z) (hr : meth.sig.returnType = none) (hk : meth.locks = false) {post : MS → Prop} : ∀ (σ : MS) (x1_ : Int32) (t1_ : Int32) (t2_ : Int32), wp_M_nameLoad_69  post σ x1_ t1_ t2_ → ∀ (H : Heap) (locs : List Loc) (ls : Array Slot), MH D Z b s.heap σ H locs → lv_has ls 2 [(0, .ref (b 69)), (1, .int x1_)] → MWv p l e rm_M_nameLoad s m args below meth c D Z b post H locs (F0 m 69 ls [.int t2_, .int t1_, .ref (b 41)]) := by
  obtain ⟨⟨hx, hb, hml, hown, hts⟩, hK⟩ := id C
  intro σ x1_ t1_ t2_ hw H locs ls hH hl
  unfold wp_M_nameLoad_69 at hw
  obtain ⟨h24, hw⟩ := hw
  refine msi C hH 29 41 rfl (mast_41 Z b σ _ _) h24 dX11_nameLoad_69 (fun H locs hH => ?_)
  have hw := hw _ rfl
  generalize up2 σ 41 t1_.toNatClampNeg t2_ = σ25 at hw hH
  refine lv_aload_n hx hb dX11_nameLoad_70 rfl (lv_at hl 0 rfl) ?_
  refine mg C hH 41 (by decide) rfl wd_1070 rfl dX11_nameLoad_71 ?_
  refine lv_iconst (v := 3) hx hb dX11_nameLoad_74 (by decide) ?_
  refine lv_iload_n hx hb dX11_nameLoad_75 rfl (lv_at hl 1 rfl) ?_
  refine lv_if_ge (tgt := 83) hx hb dX11_nameLoad_76 (by decide) (fun c26 => ?_) (fun c26 => ?_)
  · have hw := ifp c26 hw
    refine lv_aload_n hx hb dX11_nameLoad_83 rfl (lv_at hl 0 rfl) ?_
    refine lv_aload_n hx hb dX11_nameLoad_84 rfl (lv_at hl 0 rfl) ?_
    refine mg C hH 46 (by decide) rfl wd_1075 rfl dX11_nameLoad_85 ?_
    refine lv_iload_n hx hb dX11_nameLoad_88 rfl (lv_at hl 1 rfl) ?_
    obtain ⟨h27, hw⟩ := hw
    refine mai C hH 33 46 rfl h27 dX11_nameLoad_89 ?_
    refine lv_aload_n hx hb dX11_nameLoad_90 rfl (lv_at hl 0 rfl) ?_
    refine mg C hH 47 (by decide) rfl wd_1076 rfl dX11_nameLoad_91 ?_
    refine lv_iload_n hx hb dX11_nameLoad_94 rfl (lv_at hl 1 rfl) ?_
    obtain ⟨h28, hw⟩ := hw
    refine mai C hH 34 47 rfl h28 dX11_nameLoad_95 ?_
    refine mcVi C hH [.int (σ25 46 x1_.toNatClampNeg), .int (σ25 47 x1_.toNatClampNeg)] (fun sz => c_M_up l D Z b σ25 (σ25 46 x1_.toNatClampNeg) (σ25 47 x1_.toNatClampNeg) _ hw sz) (cwTV 2 hts wd_1267 wd_1269 ws_48 wd_14 wd_1270 rfl rfl (by decide +kernel) ⟨Nat.le_of_ble_eq_true rfl, Nat.le_of_ble_eq_true rfl⟩) rfl hl.1 rfl (Nat.le_of_ble_eq_true rfl) dX11_nameLoad_96 ⟨Nat.zero_le _, Nat.zero_le _⟩ (fun r30 σ29 H locs hw hH => ?_)
    exact b_M_nameLoad_99 C hr hk  σ29 x1_ (3 : Int32) r30 hw _ _ _ hH (lv_sub hl [0, 1] rfl)
  · have hw := ifn c26 hw
    refine lv_iconst (v := 0) hx hb dX11_nameLoad_79 (by decide) ?_
    refine lv_goto (tgt := 99) hx hb dX11_nameLoad_80 (by decide) ?_
    exact b_M_nameLoad_99 C hr hk  σ25 x1_ (3 : Int32) (0 : Int32) hw _ _ _ hH (lv_sub hl [0, 1] rfl)
def wp_M_nameLoad_39 (post : MS → Prop) (σ : MS) (x1_ : Int32) (t1_ : Int32) (t2_ : Int32) : Prop := vp_in t1_ 13 ∧ (∀ σ32 : MS, σ32 = up2 σ 41 t1_.toNatClampNeg t2_ → (if 0 ≤ x1_ then (vp_in x1_ 200 ∧ (vp_in x1_ 200 ∧ (wp_M_far σ32 (σ32 46 x1_.toNatClampNeg) (σ32 47 x1_.toNatClampNeg) (fun r37 σ36 => wp_M_nameLoad_69 post σ36 x1_ (2 : Int32) r37)))) else (wp_M_nameLoad_69 post σ32 x1_ (2 : Int32) (0 : Int32))))
set_option maxHeartbeats 4000000 in
set_option maxRecDepth 100000 in
theorem b_M_nameLoad_39 {p : Program} {l : Launch} {e : Env} {s : State} {m : MethodId} {args : Array Value} {below : List Frame} {meth : Method} {c : Code} {D : va_G} {Z : Nat → ClassId} {b : Nat → Nat} (C : MC p s m args c cX11_nameLoad 2 D Z) (hr : meth.sig.returnType = none) (hk : meth.locks = false) {post : MS → Prop} : ∀ (σ : MS) (x1_ : Int32) (t1_ : Int32) (t2_ : Int32), wp_M_nameLoad_39  post σ x1_ t1_ t2_ → ∀ (H : Heap) (locs : List Loc) (ls : Array Slot), MH D Z b s.heap σ H locs → lv_has ls 2 [(0, .ref (b 69)), (1, .int x1_)] → MWv p l e rm_M_nameLoad s m args below meth c D Z b post H locs (F0 m 39 ls [.int t2_, .int t1_, .ref (b 41)]) := by
  obtain ⟨⟨hx, hb, hml, hown, hts⟩, hK⟩ := id C
  intro σ x1_ t1_ t2_ hw H locs ls hH hl
  unfold wp_M_nameLoad_39 at hw
  obtain ⟨h31, hw⟩ := hw
  refine msi C hH 29 41 rfl (mast_41 Z b σ _ _) h31 dX11_nameLoad_39 (fun H locs hH => ?_)
  have hw := hw _ rfl
  generalize up2 σ 41 t1_.toNatClampNeg t2_ = σ32 at hw hH
  refine lv_aload_n hx hb dX11_nameLoad_40 rfl (lv_at hl 0 rfl) ?_
  refine mg C hH 41 (by decide) rfl wd_1070 rfl dX11_nameLoad_41 ?_
  refine lv_iconst (v := 2) hx hb dX11_nameLoad_44 (by decide) ?_
  refine lv_iload_n hx hb dX11_nameLoad_45 rfl (lv_at hl 1 rfl) ?_
  refine lv_if_ge (tgt := 53) hx hb dX11_nameLoad_46 (by decide) (fun c33 => ?_) (fun c33 => ?_)
  · have hw := ifp c33 hw
    refine lv_aload_n hx hb dX11_nameLoad_53 rfl (lv_at hl 0 rfl) ?_
    refine lv_aload_n hx hb dX11_nameLoad_54 rfl (lv_at hl 0 rfl) ?_
    refine mg C hH 46 (by decide) rfl wd_1075 rfl dX11_nameLoad_55 ?_
    refine lv_iload_n hx hb dX11_nameLoad_58 rfl (lv_at hl 1 rfl) ?_
    obtain ⟨h34, hw⟩ := hw
    refine mai C hH 33 46 rfl h34 dX11_nameLoad_59 ?_
    refine lv_aload_n hx hb dX11_nameLoad_60 rfl (lv_at hl 0 rfl) ?_
    refine mg C hH 47 (by decide) rfl wd_1076 rfl dX11_nameLoad_61 ?_
    refine lv_iload_n hx hb dX11_nameLoad_64 rfl (lv_at hl 1 rfl) ?_
    obtain ⟨h35, hw⟩ := hw
    refine mai C hH 34 47 rfl h35 dX11_nameLoad_65 ?_
    refine mcVi C hH [.int (σ32 46 x1_.toNatClampNeg), .int (σ32 47 x1_.toNatClampNeg)] (fun sz => c_M_far l D Z b σ32 (σ32 46 x1_.toNatClampNeg) (σ32 47 x1_.toNatClampNeg) _ hw sz) (cwTV 2 hts wd_1263 wd_1265 ws_47 wd_14 wd_1266 rfl rfl (by decide +kernel) ⟨Nat.le_of_ble_eq_true rfl, Nat.le_of_ble_eq_true rfl⟩) rfl hl.1 rfl (Nat.le_of_ble_eq_true rfl) dX11_nameLoad_66 ⟨Nat.zero_le _, Nat.zero_le _⟩ (fun r37 σ36 H locs hw hH => ?_)
    exact b_M_nameLoad_69 C hr hk  σ36 x1_ (2 : Int32) r37 hw _ _ _ hH (lv_sub hl [0, 1] rfl)
  · have hw := ifn c33 hw
    refine lv_iconst (v := 0) hx hb dX11_nameLoad_49 (by decide) ?_
    refine lv_goto (tgt := 69) hx hb dX11_nameLoad_50 (by decide) ?_
    exact b_M_nameLoad_69 C hr hk  σ32 x1_ (2 : Int32) (0 : Int32) hw _ _ _ hH (lv_sub hl [0, 1] rfl)
def wp_M_nameLoad_19 (post : MS → Prop) (σ : MS) (x1_ : Int32) (t1_ : Int32) (t2_ : Int32) : Prop := vp_in t1_ 13 ∧ (∀ σ39 : MS, σ39 = up2 σ 41 t1_.toNatClampNeg t2_ → (if 0 ≤ x1_ then (vp_in x1_ 200 ∧ (wp_M_nameLoad_39 post σ39 x1_ (1 : Int32) (σ39 45 x1_.toNatClampNeg))) else (wp_M_nameLoad_39 post σ39 x1_ (1 : Int32) (0 : Int32))))
set_option maxHeartbeats 4000000 in
set_option maxRecDepth 100000 in
theorem b_M_nameLoad_19 {p : Program} {l : Launch} {e : Env} {s : State} {m : MethodId} {args : Array Value} {below : List Frame} {meth : Method} {c : Code} {D : va_G} {Z : Nat → ClassId} {b : Nat → Nat} (C : MC p s m args c cX11_nameLoad 2 D Z) (hr : meth.sig.returnType = none) (hk : meth.locks = false) {post : MS → Prop} : ∀ (σ : MS) (x1_ : Int32) (t1_ : Int32) (t2_ : Int32), wp_M_nameLoad_19  post σ x1_ t1_ t2_ → ∀ (H : Heap) (locs : List Loc) (ls : Array Slot), MH D Z b s.heap σ H locs → lv_has ls 2 [(0, .ref (b 69)), (1, .int x1_)] → MWv p l e rm_M_nameLoad s m args below meth c D Z b post H locs (F0 m 19 ls [.int t2_, .int t1_, .ref (b 41)]) := by
  obtain ⟨⟨hx, hb, hml, hown, hts⟩, hK⟩ := id C
  intro σ x1_ t1_ t2_ hw H locs ls hH hl
  unfold wp_M_nameLoad_19 at hw
  obtain ⟨h38, hw⟩ := hw
  refine msi C hH 29 41 rfl (mast_41 Z b σ _ _) h38 dX11_nameLoad_19 (fun H locs hH => ?_)
  have hw := hw _ rfl
  generalize up2 σ 41 t1_.toNatClampNeg t2_ = σ39 at hw hH
  refine lv_aload_n hx hb dX11_nameLoad_20 rfl (lv_at hl 0 rfl) ?_
  refine mg C hH 41 (by decide) rfl wd_1070 rfl dX11_nameLoad_21 ?_
  refine lv_iconst (v := 1) hx hb dX11_nameLoad_24 (by decide) ?_
  refine lv_iload_n hx hb dX11_nameLoad_25 rfl (lv_at hl 1 rfl) ?_
  refine lv_if_ge (tgt := 33) hx hb dX11_nameLoad_26 (by decide) (fun c40 => ?_) (fun c40 => ?_)
  · have hw := ifp c40 hw
    refine lv_aload_n hx hb dX11_nameLoad_33 rfl (lv_at hl 0 rfl) ?_
    refine mg C hH 45 (by decide) rfl wd_1074 rfl dX11_nameLoad_34 ?_
    refine lv_iload_n hx hb dX11_nameLoad_37 rfl (lv_at hl 1 rfl) ?_
    obtain ⟨h41, hw⟩ := hw
    refine mai C hH 32 45 rfl h41 dX11_nameLoad_38 ?_
    exact b_M_nameLoad_39 C hr hk  σ39 x1_ (1 : Int32) (σ39 45 x1_.toNatClampNeg) hw _ _ _ hH (lv_sub hl [0, 1] rfl)
  · have hw := ifn c40 hw
    refine lv_iconst (v := 0) hx hb dX11_nameLoad_29 (by decide) ?_
    refine lv_goto (tgt := 39) hx hb dX11_nameLoad_30 (by decide) ?_
    exact b_M_nameLoad_39 C hr hk  σ39 x1_ (1 : Int32) (0 : Int32) hw _ _ _ hH (lv_sub hl [0, 1] rfl)
def wp_M_nameLoad (σ : MS) (a1 : Int32) (post : MS → Prop) : Prop := if 0 ≤ a1 then (vp_in a1 200 ∧ (wp_M_nameLoad_19 post σ a1 (0 : Int32) (σ 44 a1.toNatClampNeg))) else (wp_M_nameLoad_19 post σ a1 (0 : Int32) (0 : Int32))
set_option maxHeartbeats 4000000 in
set_option maxRecDepth 100000 in
theorem c_M_nameLoad (l : Launch) (D : va_G) (Z : Nat → ClassId) (b : Nat → Nat) (σ : MS) (a1 : Int32) (post : MS → Prop) (hw : wp_M_nameLoad σ a1 post) (sz : Nat) : Met l yX11_nameLoad (Wd yX11_nameLoad cX11_nameLoad 2 (none)) rm_M_nameLoad (va_Pc [.ref (b 69), .int a1] (mPre D Z b sz σ)) (va_Qv post (mPost D Z b) (mA b sz)) 0 0 (mA b sz) := by
  refine mMv (by decide) rfl _ (Nat.le_of_ble_eq_true rfl) (fun p e s m args below meth c C hr hk ls hl hH => ?_) sz
  obtain ⟨⟨hx, hb, hml, hown, hts⟩, hK⟩ := id C
  have hl : lv_has ls 2 [(0, .ref (b 69)), (1, .int a1)] := hl
  unfold wp_M_nameLoad at hw
  refine lv_aload_n hx hb dX11_nameLoad_0 rfl (lv_at hl 0 rfl) ?_
  refine mg C hH 41 (by decide) rfl wd_1070 rfl dX11_nameLoad_1 ?_
  refine lv_iconst (v := 0) hx hb dX11_nameLoad_4 (by decide) ?_
  refine lv_iload_n hx hb dX11_nameLoad_5 rfl (lv_at hl 1 rfl) ?_
  refine lv_if_ge (tgt := 13) hx hb dX11_nameLoad_6 (by decide) (fun c42 => ?_) (fun c42 => ?_)
  · have hw := ifp c42 hw
    refine lv_aload_n hx hb dX11_nameLoad_13 rfl (lv_at hl 0 rfl) ?_
    refine mg C hH 44 (by decide) rfl wd_1073 rfl dX11_nameLoad_14 ?_
    refine lv_iload_n hx hb dX11_nameLoad_17 rfl (lv_at hl 1 rfl) ?_
    obtain ⟨h43, hw⟩ := hw
    refine mai C hH 31 44 rfl h43 dX11_nameLoad_18 ?_
    exact b_M_nameLoad_19 C hr hk  σ a1 (0 : Int32) (σ 44 a1.toNatClampNeg) hw _ _ _ hH (lv_sub hl [0, 1] rfl)
  · have hw := ifn c42 hw
    refine lv_iconst (v := 0) hx hb dX11_nameLoad_9 (by decide) ?_
    refine lv_goto (tgt := 19) hx hb dX11_nameLoad_10 (by decide) ?_
    exact b_M_nameLoad_19 C hr hk  σ a1 (0 : Int32) (0 : Int32) hw _ _ _ hH (lv_sub hl [0, 1] rfl)
/-! saysNow -/
abbrev rm_M_saysNow : Room := { frames := 2, cells := 0, slots := 0, locals := 46 }
def wp_M_saysNow_148 (post : Int32 → MS → Prop) (σ : MS) (x5_ : Int32) (t1_ : Int32) (t2_ : Int32) : Prop := vp_in t1_ 13 ∧ (∀ σ2 : MS, σ2 = up2 σ 41 t1_.toNatClampNeg t2_ → (wp_M_works σ2 x5_ (fun r4 σ3 => post r4 σ3)))
set_option maxHeartbeats 4000000 in
set_option maxRecDepth 100000 in
theorem b_M_saysNow_148 {p : Program} {l : Launch} {e : Env} {s : State} {m : MethodId} {args : Array Value} {below : List Frame} {meth : Method} {c : Code} {D : va_G} {Z : Nat → ClassId} {b : Nat → Nat} (C : MC p s m args c cX11_saysNow 6 D Z) (hr : meth.sig.returnType = some .int) (hk : meth.locks = false) {post : Int32 → MS → Prop} : ∀ (σ : MS) (x5_ : Int32) (t1_ : Int32) (t2_ : Int32), wp_M_saysNow_148  post σ x5_ t1_ t2_ → ∀ (H : Heap) (locs : List Loc) (ls : Array Slot), MH D Z b s.heap σ H locs → lv_has ls 6 [(0, .ref (b 69)), (5, .int x5_)] → MWi p l e rm_M_saysNow s m args below meth c D Z b post H locs (F0 m 148 ls [.int t2_, .int t1_, .ref (b 41)]) := by
  obtain ⟨⟨hx, hb, hml, hown, hts⟩, hK⟩ := id C
  intro σ x5_ t1_ t2_ hw H locs ls hH hl
  unfold wp_M_saysNow_148 at hw
  obtain ⟨h1, hw⟩ := hw
  refine msi C hH 29 41 rfl (mast_41 Z b σ _ _) h1 dX11_saysNow_148 (fun H locs hH => ?_)
  have hw := hw _ rfl
  generalize up2 σ 41 t1_.toNatClampNeg t2_ = σ2 at hw hH
  refine lv_aload_n hx hb dX11_saysNow_149 rfl (lv_at hl 0 rfl) ?_
  refine lv_iload hx hb dX11_saysNow_150 (lv_at hl 1 rfl) ?_
  refine mcVi C hH [.int x5_] (fun sz => c_M_works l D Z b σ2 x5_ _ hw sz) (cwTV 1 hts wd_1438 wd_1440 ws_68 wd_14 wd_1441 rfl rfl (by decide +kernel) ⟨Nat.le_of_ble_eq_true rfl, Nat.le_of_ble_eq_true rfl⟩) rfl hl.1 rfl (Nat.le_of_ble_eq_true rfl) dX11_saysNow_152 ⟨Nat.zero_le _, Nat.zero_le _⟩ (fun r4 σ3 H locs hw hH => ?_)
  exact mri C hr hk hH hw dX11_saysNow_155
def wp_M_saysNow_125 (post : Int32 → MS → Prop) (σ : MS) (x4_ : Int32) (x5_ : Int32) (t1_ : Int32) (t2_ : Int32) : Prop := vp_in t1_ 13 ∧ (∀ σ6 : MS, σ6 = up2 σ 41 t1_.toNatClampNeg t2_ → (if 0 ≤ x4_ then (vp_in x4_ 60 ∧ (wp_M_saysNow_148 post σ6 x5_ (12 : Int32) (σ6 15 x4_.toNatClampNeg))) else (wp_M_saysNow_148 post σ6 x5_ (12 : Int32) (0 : Int32))))
set_option maxHeartbeats 4000000 in
set_option maxRecDepth 100000 in
theorem b_M_saysNow_125 {p : Program} {l : Launch} {e : Env} {s : State} {m : MethodId} {args : Array Value} {below : List Frame} {meth : Method} {c : Code} {D : va_G} {Z : Nat → ClassId} {b : Nat → Nat} (C : MC p s m args c cX11_saysNow 6 D Z) (hr : meth.sig.returnType = some .int) (hk : meth.locks = false) {post : Int32 → MS → Prop} : ∀ (σ : MS) (x4_ : Int32) (x5_ : Int32) (t1_ : Int32) (t2_ : Int32), wp_M_saysNow_125  post σ x4_ x5_ t1_ t2_ → ∀ (H : Heap) (locs : List Loc) (ls : Array Slot), MH D Z b s.heap σ H locs → lv_has ls 6 [(0, .ref (b 69)), (4, .int x4_), (5, .int x5_)] → MWi p l e rm_M_saysNow s m args below meth c D Z b post H locs (F0 m 125 ls [.int t2_, .int t1_, .ref (b 41)]) := by
  obtain ⟨⟨hx, hb, hml, hown, hts⟩, hK⟩ := id C
  intro σ x4_ x5_ t1_ t2_ hw H locs ls hH hl
  unfold wp_M_saysNow_125 at hw
  obtain ⟨h5, hw⟩ := hw
  refine msi C hH 29 41 rfl (mast_41 Z b σ _ _) h5 dX11_saysNow_125 (fun H locs hH => ?_)
  have hw := hw _ rfl
  generalize up2 σ 41 t1_.toNatClampNeg t2_ = σ6 at hw hH
  refine lv_aload_n hx hb dX11_saysNow_126 rfl (lv_at hl 0 rfl) ?_
  refine mg C hH 41 (by decide) rfl wd_1070 rfl dX11_saysNow_127 ?_
  refine lv_bipush (v := 12) hx hb dX11_saysNow_130 (by decide) ?_
  refine lv_iload hx hb dX11_saysNow_132 (lv_at hl 1 rfl) ?_
  refine lv_if_ge (tgt := 141) hx hb dX11_saysNow_134 (by decide) (fun c7 => ?_) (fun c7 => ?_)
  · have hw := ifp c7 hw
    refine lv_aload_n hx hb dX11_saysNow_141 rfl (lv_at hl 0 rfl) ?_
    refine mg C hH 15 (by decide) rfl wd_1044 rfl dX11_saysNow_142 ?_
    refine lv_iload hx hb dX11_saysNow_145 (lv_at hl 1 rfl) ?_
    obtain ⟨h8, hw⟩ := hw
    refine mai C hH 11 15 rfl h8 dX11_saysNow_147 ?_
    exact b_M_saysNow_148 C hr hk  σ6 x5_ (12 : Int32) (σ6 15 x4_.toNatClampNeg) hw _ _ _ hH (lv_sub hl [0, 2] rfl)
  · have hw := ifn c7 hw
    refine lv_iconst (v := 0) hx hb dX11_saysNow_137 (by decide) ?_
    refine lv_goto (tgt := 148) hx hb dX11_saysNow_138 (by decide) ?_
    exact b_M_saysNow_148 C hr hk  σ6 x5_ (12 : Int32) (0 : Int32) hw _ _ _ hH (lv_sub hl [0, 2] rfl)
def wp_M_saysNow_102 (post : Int32 → MS → Prop) (σ : MS) (x4_ : Int32) (x5_ : Int32) (t1_ : Int32) (t2_ : Int32) : Prop := vp_in t1_ 13 ∧ (∀ σ10 : MS, σ10 = up2 σ 41 t1_.toNatClampNeg t2_ → (if 0 ≤ x4_ then (vp_in x4_ 60 ∧ (wp_M_saysNow_125 post σ10 x4_ x5_ (11 : Int32) (σ10 12 x4_.toNatClampNeg))) else (wp_M_saysNow_125 post σ10 x4_ x5_ (11 : Int32) (0 : Int32))))
set_option maxHeartbeats 4000000 in
set_option maxRecDepth 100000 in
theorem b_M_saysNow_102 {p : Program} {l : Launch} {e : Env} {s : State} {m : MethodId} {args : Array Value} {below : List Frame} {meth : Method} {c : Code} {D : va_G} {Z : Nat → ClassId} {b : Nat → Nat} (C : MC p s m args c cX11_saysNow 6 D Z) (hr : meth.sig.returnType = some .int) (hk : meth.locks = false) {post : Int32 → MS → Prop} : ∀ (σ : MS) (x4_ : Int32) (x5_ : Int32) (t1_ : Int32) (t2_ : Int32), wp_M_saysNow_102  post σ x4_ x5_ t1_ t2_ → ∀ (H : Heap) (locs : List Loc) (ls : Array Slot), MH D Z b s.heap σ H locs → lv_has ls 6 [(0, .ref (b 69)), (4, .int x4_), (5, .int x5_)] → MWi p l e rm_M_saysNow s m args below meth c D Z b post H locs (F0 m 102 ls [.int t2_, .int t1_, .ref (b 41)]) := by
  obtain ⟨⟨hx, hb, hml, hown, hts⟩, hK⟩ := id C
  intro σ x4_ x5_ t1_ t2_ hw H locs ls hH hl
  unfold wp_M_saysNow_102 at hw
  obtain ⟨h9, hw⟩ := hw
  refine msi C hH 29 41 rfl (mast_41 Z b σ _ _) h9 dX11_saysNow_102 (fun H locs hH => ?_)
  have hw := hw _ rfl
  generalize up2 σ 41 t1_.toNatClampNeg t2_ = σ10 at hw hH
  refine lv_aload_n hx hb dX11_saysNow_103 rfl (lv_at hl 0 rfl) ?_
  refine mg C hH 41 (by decide) rfl wd_1070 rfl dX11_saysNow_104 ?_
  refine lv_bipush (v := 11) hx hb dX11_saysNow_107 (by decide) ?_
  refine lv_iload hx hb dX11_saysNow_109 (lv_at hl 1 rfl) ?_
  refine lv_if_ge (tgt := 118) hx hb dX11_saysNow_111 (by decide) (fun c11 => ?_) (fun c11 => ?_)
  · have hw := ifp c11 hw
    refine lv_aload_n hx hb dX11_saysNow_118 rfl (lv_at hl 0 rfl) ?_
    refine mg C hH 12 (by decide) rfl wd_1041 rfl dX11_saysNow_119 ?_
    refine lv_iload hx hb dX11_saysNow_122 (lv_at hl 1 rfl) ?_
    obtain ⟨h12, hw⟩ := hw
    refine mai C hH 8 12 rfl h12 dX11_saysNow_124 ?_
    exact b_M_saysNow_125 C hr hk  σ10 x4_ x5_ (11 : Int32) (σ10 12 x4_.toNatClampNeg) hw _ _ _ hH (lv_sub hl [0, 1, 2] rfl)
  · have hw := ifn c11 hw
    refine lv_iconst (v := 0) hx hb dX11_saysNow_114 (by decide) ?_
    refine lv_goto (tgt := 125) hx hb dX11_saysNow_115 (by decide) ?_
    exact b_M_saysNow_125 C hr hk  σ10 x4_ x5_ (11 : Int32) (0 : Int32) hw _ _ _ hH (lv_sub hl [0, 1, 2] rfl)
def wp_M_saysNow (σ : MS) (a1 : Int32) (a2 : Int32) (a3 : Int32) (a4 : Int32) (post : Int32 → MS → Prop) : Prop := wp_M_today σ  (fun r14 σ13 => wp_M_today σ13  (fun r16 σ15 => wp_M_forceOn σ15 a1 a2 r14 r16 (fun r18 σ17 => if 0 ≤ r18 then (wp_M_nameLoad σ17 a3 (fun σ20 => wp_M_freeMen σ20 a1 (fun r22 σ21 => vp_in (8 : Int32) 13 ∧ (∀ σ24 : MS, σ24 = up2 σ21 41 (8 : Int32).toNatClampNeg r22 → (if 0 ≤ a4 then (vp_in a4 60 ∧ (wp_M_saysNow_102 post σ24 a4 r18 (10 : Int32) (σ24 13 a4.toNatClampNeg))) else (wp_M_saysNow_102 post σ24 a4 r18 (10 : Int32) (0 : Int32))))))) else (if a2 = (1 : Int32) then (if 0 ≤ a3 then (vp_in a3 200 ∧ (post (σ17 45 a3.toNatClampNeg) σ17)) else (post (0 : Int32) σ17)) else (if a2 = (2 : Int32) then (post (1 : Int32) σ17) else (if a2 = (4 : Int32) then (post (5 : Int32) σ17) else (post (0 : Int32) σ17)))))))
set_option maxHeartbeats 4000000 in
set_option maxRecDepth 100000 in
theorem c_M_saysNow (l : Launch) (D : va_G) (Z : Nat → ClassId) (b : Nat → Nat) (σ : MS) (a1 : Int32) (a2 : Int32) (a3 : Int32) (a4 : Int32) (post : Int32 → MS → Prop) (hw : wp_M_saysNow σ a1 a2 a3 a4 post) (sz : Nat) : Met l yX11_saysNow (Wd yX11_saysNow cX11_saysNow 6 (some .int)) rm_M_saysNow (va_Pc [.ref (b 69), .int a1, .int a2, .int a3, .int a4] (mPre D Z b sz σ)) (va_Qi post (mPost D Z b) (mA b sz)) 0 0 (mA b sz) := by
  refine mMi (by decide) rfl _ (Nat.le_of_ble_eq_true rfl) (fun p e s m args below meth c C hr hk ls hl hH => ?_) sz
  obtain ⟨⟨hx, hb, hml, hown, hts⟩, hK⟩ := id C
  have hl : lv_has ls 6 [(0, .ref (b 69)), (1, .int a1), (2, .int a2), (3, .int a3), (4, .int a4)] := hl
  unfold wp_M_saysNow at hw
  refine lv_aload_n hx hb dX11_saysNow_0 rfl (lv_at hl 0 rfl) ?_
  refine lv_iload_n hx hb dX11_saysNow_1 rfl (lv_at hl 1 rfl) ?_
  refine lv_iload_n hx hb dX11_saysNow_2 rfl (lv_at hl 2 rfl) ?_
  refine lv_aload_n hx hb dX11_saysNow_3 rfl (lv_at hl 0 rfl) ?_
  refine mcVi C hH [] (fun sz => c_M_today l D Z b σ  _ hw sz) (cwTV 0 hts wd_1405 wd_1407 ws_62 wd_14 wd_1408 rfl rfl (by decide +kernel) ⟨Nat.le_of_ble_eq_true rfl, Nat.le_of_ble_eq_true rfl⟩) rfl hl.1 rfl (Nat.le_of_ble_eq_true rfl) dX11_saysNow_4 ⟨Nat.zero_le _, Nat.zero_le _⟩ (fun r14 σ13 H locs hw hH => ?_)
  refine lv_aload_n hx hb dX11_saysNow_7 rfl (lv_at hl 0 rfl) ?_
  refine mcVi C hH [] (fun sz => c_M_today l D Z b σ13  _ hw sz) (cwTV 0 hts wd_1405 wd_1407 ws_62 wd_14 wd_1408 rfl rfl (by decide +kernel) ⟨Nat.le_of_ble_eq_true rfl, Nat.le_of_ble_eq_true rfl⟩) rfl hl.1 rfl (Nat.le_of_ble_eq_true rfl) dX11_saysNow_8 ⟨Nat.zero_le _, Nat.zero_le _⟩ (fun r16 σ15 H locs hw hH => ?_)
  refine mcVi C hH [.int a1, .int a2, .int r14, .int r16] (fun sz => c_M_forceOn l D Z b σ15 a1 a2 r14 r16 _ hw sz) (cwTV 4 hts wd_1413 wd_1415 ws_63 wd_14 wd_1416 rfl rfl (by decide +kernel) ⟨Nat.le_of_ble_eq_true rfl, Nat.le_of_ble_eq_true rfl⟩) rfl hl.1 rfl (Nat.le_of_ble_eq_true rfl) dX11_saysNow_11 ⟨Nat.zero_le _, Nat.zero_le _⟩ (fun r18 σ17 H locs hw hH => ?_)
  refine lv_istore (lv' := [(5, .int r18), (0, .ref (b 69)), (1, .int a1), (2, .int a2), (3, .int a3), (4, .int a4)]) hx hb dX11_saysNow_14 hl (by decide) rfl (fun ls hl => ?_)
  refine lv_iload hx hb dX11_saysNow_16 (lv_at hl 0 rfl) ?_
  refine lv_if_ge (tgt := 63) hx hb dX11_saysNow_18 (by decide) (fun c19 => ?_) (fun c19 => ?_)
  · have hw := ifp c19 hw
    refine lv_aload_n hx hb dX11_saysNow_63 rfl (lv_at hl 1 rfl) ?_
    refine lv_iload_n hx hb dX11_saysNow_64 rfl (lv_at hl 4 rfl) ?_
    refine mcVv C hH [.int a3] (fun sz => c_M_nameLoad l D Z b σ17 a3 _ hw sz) (cwTV 1 hts wd_1430 wd_1432 ws_66 wd_14 wd_1433 rfl rfl (by decide +kernel) ⟨Nat.le_of_ble_eq_true rfl, Nat.le_of_ble_eq_true rfl⟩) rfl hl.1 rfl (Nat.le_of_ble_eq_true rfl) dX11_saysNow_65 ⟨Nat.zero_le _, Nat.zero_le _⟩ (fun  σ20 H locs hw hH => ?_)
    refine lv_aload_n hx hb dX11_saysNow_68 rfl (lv_at hl 1 rfl) ?_
    refine mg C hH 41 (by decide) rfl wd_1070 rfl dX11_saysNow_69 ?_
    refine lv_bipush (v := 8) hx hb dX11_saysNow_72 (by decide) ?_
    refine lv_aload_n hx hb dX11_saysNow_74 rfl (lv_at hl 1 rfl) ?_
    refine lv_iload_n hx hb dX11_saysNow_75 rfl (lv_at hl 2 rfl) ?_
    refine mcVi C hH [.int a1] (fun sz => c_M_freeMen l D Z b σ20 a1 _ hw sz) (cwTV 1 hts wd_1434 wd_1436 ws_67 wd_14 wd_1437 rfl rfl (by decide +kernel) ⟨Nat.le_of_ble_eq_true rfl, Nat.le_of_ble_eq_true rfl⟩) rfl hl.1 rfl (Nat.le_of_ble_eq_true rfl) dX11_saysNow_76 ⟨Nat.zero_le _, Nat.zero_le _⟩ (fun r22 σ21 H locs hw hH => ?_)
    obtain ⟨h23, hw⟩ := hw
    refine msi C hH 29 41 rfl (mast_41 Z b σ21 _ _) h23 dX11_saysNow_79 (fun H locs hH => ?_)
    have hw := hw _ rfl
    generalize up2 σ21 41 (8 : Int32).toNatClampNeg r22 = σ24 at hw hH
    refine lv_aload_n hx hb dX11_saysNow_80 rfl (lv_at hl 1 rfl) ?_
    refine mg C hH 41 (by decide) rfl wd_1070 rfl dX11_saysNow_81 ?_
    refine lv_bipush (v := 10) hx hb dX11_saysNow_84 (by decide) ?_
    refine lv_iload hx hb dX11_saysNow_86 (lv_at hl 5 rfl) ?_
    refine lv_if_ge (tgt := 95) hx hb dX11_saysNow_88 (by decide) (fun c25 => ?_) (fun c25 => ?_)
    · have hw := ifp c25 hw
      refine lv_aload_n hx hb dX11_saysNow_95 rfl (lv_at hl 1 rfl) ?_
      refine mg C hH 13 (by decide) rfl wd_1042 rfl dX11_saysNow_96 ?_
      refine lv_iload hx hb dX11_saysNow_99 (lv_at hl 5 rfl) ?_
      obtain ⟨h26, hw⟩ := hw
      refine mai C hH 9 13 rfl h26 dX11_saysNow_101 ?_
      exact b_M_saysNow_102 C hr hk  σ24 a4 r18 (10 : Int32) (σ24 13 a4.toNatClampNeg) hw _ _ _ hH (lv_sub hl [1, 5, 0] rfl)
    · have hw := ifn c25 hw
      refine lv_iconst (v := 0) hx hb dX11_saysNow_91 (by decide) ?_
      refine lv_goto (tgt := 102) hx hb dX11_saysNow_92 (by decide) ?_
      exact b_M_saysNow_102 C hr hk  σ24 a4 r18 (10 : Int32) (0 : Int32) hw _ _ _ hH (lv_sub hl [1, 5, 0] rfl)
  · have hw := ifn c19 hw
    refine lv_iload_n hx hb dX11_saysNow_21 rfl (lv_at hl 3 rfl) ?_
    refine lv_iconst (v := 1) hx hb dX11_saysNow_22 (by decide) ?_
    refine lv_icmp_ne (tgt := 43) hx hb dX11_saysNow_23 (by decide) (fun c27 => ?_) (fun c27 => ?_)
    · have hw := ifn c27 hw
      refine lv_iload_n hx hb dX11_saysNow_43 rfl (lv_at hl 3 rfl) ?_
      refine lv_iconst (v := 2) hx hb dX11_saysNow_44 (by decide) ?_
      refine lv_icmp_ne (tgt := 52) hx hb dX11_saysNow_45 (by decide) (fun c28 => ?_) (fun c28 => ?_)
      · have hw := ifn c28 hw
        refine lv_iload_n hx hb dX11_saysNow_52 rfl (lv_at hl 3 rfl) ?_
        refine lv_iconst (v := 4) hx hb dX11_saysNow_53 (by decide) ?_
        refine lv_icmp_ne (tgt := 61) hx hb dX11_saysNow_54 (by decide) (fun c29 => ?_) (fun c29 => ?_)
        · have hw := ifn c29 hw
          refine lv_iconst (v := 0) hx hb dX11_saysNow_61 (by decide) ?_
          exact mri C hr hk hH hw dX11_saysNow_62
        · have hw := ifp c29 hw
          refine lv_iconst (v := 5) hx hb dX11_saysNow_57 (by decide) ?_
          refine lv_goto (tgt := 62) hx hb dX11_saysNow_58 (by decide) ?_
          exact mri C hr hk hH hw dX11_saysNow_62
      · have hw := ifp c28 hw
        refine lv_iconst (v := 1) hx hb dX11_saysNow_48 (by decide) ?_
        refine lv_goto (tgt := 62) hx hb dX11_saysNow_49 (by decide) ?_
        exact mri C hr hk hH hw dX11_saysNow_62
    · have hw := ifp c27 hw
      refine lv_iload_n hx hb dX11_saysNow_26 rfl (lv_at hl 4 rfl) ?_
      refine lv_if_ge (tgt := 34) hx hb dX11_saysNow_27 (by decide) (fun c30 => ?_) (fun c30 => ?_)
      · have hw := ifp c30 hw
        refine lv_aload_n hx hb dX11_saysNow_34 rfl (lv_at hl 1 rfl) ?_
        refine mg C hH 45 (by decide) rfl wd_1074 rfl dX11_saysNow_35 ?_
        refine lv_iload_n hx hb dX11_saysNow_38 rfl (lv_at hl 4 rfl) ?_
        obtain ⟨h31, hw⟩ := hw
        refine mai C hH 32 45 rfl h31 dX11_saysNow_39 ?_
        refine lv_goto (tgt := 62) hx hb dX11_saysNow_40 (by decide) ?_
        exact mri C hr hk hH hw dX11_saysNow_62
      · have hw := ifn c30 hw
        refine lv_iconst (v := 0) hx hb dX11_saysNow_30 (by decide) ?_
        refine lv_goto (tgt := 62) hx hb dX11_saysNow_31 (by decide) ?_
        exact mri C hr hk hH hw dX11_saysNow_62
/-! isLoad -/
abbrev rm_M_isLoad : Room := { frames := 1, cells := 0, slots := 0, locals := 22 }
def wp_M_isLoad (σ : MS) (a1 : Int32) (post : Int32 → MS → Prop) : Prop := wp_M_in σ a1 (0 : Int32) ((σ 43 0) - (1 : Int32)) (fun r2 σ1 => bz r2 ∧ post r2 σ1)
set_option maxHeartbeats 4000000 in
set_option maxRecDepth 100000 in
theorem c_M_isLoad (l : Launch) (D : va_G) (Z : Nat → ClassId) (b : Nat → Nat) (σ : MS) (a1 : Int32) (post : Int32 → MS → Prop) (hw : wp_M_isLoad σ a1 post) (sz : Nat) : Met l yX11_isLoad (Wd yX11_isLoad cX11_isLoad 2 (some .boolean)) rm_M_isLoad (va_Pc [.ref (b 69), .int a1] (mPre D Z b sz σ)) (va_Qi post (mPost D Z b) (mA b sz)) 0 0 (mA b sz) := by
  refine mMi (by decide) rfl _ (Nat.le_of_ble_eq_true rfl) (fun p e s m args below meth c C hr hk ls hl hH => ?_) sz
  obtain ⟨⟨hx, hb, hml, hown, hts⟩, hK⟩ := id C
  have hl : lv_has ls 2 [(0, .ref (b 69)), (1, .int a1)] := hl
  unfold wp_M_isLoad at hw
  refine lv_iload_n hx hb dX11_isLoad_0 rfl (lv_at hl 1 rfl) ?_
  refine lv_iconst (v := 0) hx hb dX11_isLoad_1 (by decide) ?_
  refine lv_aload_n hx hb dX11_isLoad_2 rfl (lv_at hl 0 rfl) ?_
  refine mg C hH 43 (by decide) rfl wd_1072 rfl dX11_isLoad_3 ?_
  refine lv_iconst (v := 1) hx hb dX11_isLoad_6 (by decide) ?_
  refine lv_isub hx hb dX11_isLoad_7 ?_
  refine mcSi C hH [.int a1, .int (0 : Int32), .int ((σ 43 0) - (1 : Int32))] (fun sz => c_M_in l D Z b σ a1 (0 : Int32) ((σ 43 0) - (1 : Int32)) _ hw sz) (cwTS 3 hts wd_1242 wd_1243 wd_14 wd_1244 rfl rfl (by decide +kernel) ⟨Nat.le_of_ble_eq_true rfl, Nat.le_of_ble_eq_true rfl⟩) rfl hl.1 rfl (Nat.le_of_ble_eq_true rfl) dX11_isLoad_8 ⟨Nat.zero_le _, Nat.zero_le _⟩ (fun r2 σ1 H locs hw hH => ?_)
  exact mrz C hr hk hH hw.1 hw.2 dX11_isLoad_11
/-! says -/
abbrev rm_M_says : Room := { frames := 3, cells := 0, slots := 0, locals := 71 }
def wp_M_says_48 (post : Int32 → MS → Prop) (σ : MS) (x1_ : Int32) (x2_ : Int32) (x3_ : Int32) (x4_ : Int32) : Prop := wp_M_saysNow σ x1_ x2_ x3_ x4_ (fun r2 σ1 => post r2 σ1)
set_option maxHeartbeats 4000000 in
set_option maxRecDepth 100000 in
theorem b_M_says_48 {p : Program} {l : Launch} {e : Env} {s : State} {m : MethodId} {args : Array Value} {below : List Frame} {meth : Method} {c : Code} {D : va_G} {Z : Nat → ClassId} {b : Nat → Nat} (C : MC p s m args c cX11_says 5 D Z) (hr : meth.sig.returnType = some .int) (hk : meth.locks = false) {post : Int32 → MS → Prop} : ∀ (σ : MS) (x1_ : Int32) (x2_ : Int32) (x3_ : Int32) (x4_ : Int32), wp_M_says_48  post σ x1_ x2_ x3_ x4_ → ∀ (H : Heap) (locs : List Loc) (ls : Array Slot), MH D Z b s.heap σ H locs → lv_has ls 5 [(0, .ref (b 69)), (1, .int x1_), (2, .int x2_), (3, .int x3_), (4, .int x4_)] → MWi p l e rm_M_says s m args below meth c D Z b post H locs (F0 m 48 ls []) := by
  obtain ⟨⟨hx, hb, hml, hown, hts⟩, hK⟩ := id C
  intro σ x1_ x2_ x3_ x4_ hw H locs ls hH hl
  unfold wp_M_says_48 at hw
  refine lv_aload_n hx hb dX11_says_48 rfl (lv_at hl 0 rfl) ?_
  refine lv_iload_n hx hb dX11_says_49 rfl (lv_at hl 1 rfl) ?_
  refine lv_iload_n hx hb dX11_says_50 rfl (lv_at hl 2 rfl) ?_
  refine lv_iload_n hx hb dX11_says_51 rfl (lv_at hl 3 rfl) ?_
  refine lv_iload hx hb dX11_says_52 (lv_at hl 4 rfl) ?_
  refine mcVi C hH [.int x1_, .int x2_, .int x3_, .int x4_] (fun sz => c_M_saysNow l D Z b σ x1_ x2_ x3_ x4_ _ hw sz) (cwTV 4 hts wd_1426 wd_1428 ws_65 wd_14 wd_1429 rfl rfl (by decide +kernel) ⟨Nat.le_of_ble_eq_true rfl, Nat.le_of_ble_eq_true rfl⟩) rfl hl.1 rfl (Nat.le_of_ble_eq_true rfl) dX11_says_54 ⟨Nat.zero_le _, Nat.zero_le _⟩ (fun r2 σ1 H locs hw hH => ?_)
  exact mri C hr hk hH hw dX11_says_57
def wp_M_says_29 (post : Int32 → MS → Prop) (σ : MS) (x1_ : Int32) (x2_ : Int32) (x3_ : Int32) (x4_ : Int32) : Prop := if x4_ = (-1 : Int32) then (wp_M_says_48 post σ x1_ x2_ x3_ x4_) else (wp_M_isMan σ x4_ (fun r5 σ4 => if r5 = 0 then (post (-2000000000 : Int32) σ4) else (wp_M_says_48 post σ4 x1_ x2_ x3_ x4_)))
set_option maxHeartbeats 4000000 in
set_option maxRecDepth 100000 in
theorem b_M_says_29 {p : Program} {l : Launch} {e : Env} {s : State} {m : MethodId} {args : Array Value} {below : List Frame} {meth : Method} {c : Code} {D : va_G} {Z : Nat → ClassId} {b : Nat → Nat} (C : MC p s m args c cX11_says 5 D Z) (hr : meth.sig.returnType = some .int) (hk : meth.locks = false) {post : Int32 → MS → Prop} : ∀ (σ : MS) (x1_ : Int32) (x2_ : Int32) (x3_ : Int32) (x4_ : Int32), wp_M_says_29  post σ x1_ x2_ x3_ x4_ → ∀ (H : Heap) (locs : List Loc) (ls : Array Slot), MH D Z b s.heap σ H locs → lv_has ls 5 [(0, .ref (b 69)), (1, .int x1_), (2, .int x2_), (3, .int x3_), (4, .int x4_)] → MWi p l e rm_M_says s m args below meth c D Z b post H locs (F0 m 29 ls []) := by
  obtain ⟨⟨hx, hb, hml, hown, hts⟩, hK⟩ := id C
  intro σ x1_ x2_ x3_ x4_ hw H locs ls hH hl
  unfold wp_M_says_29 at hw
  refine lv_iload hx hb dX11_says_29 (lv_at hl 4 rfl) ?_
  refine lv_iconst (v := -1) hx hb dX11_says_31 (by decide) ?_
  refine lv_icmp_eq (tgt := 48) hx hb dX11_says_32 (by decide) (fun c3 => ?_) (fun c3 => ?_)
  · have hw := ifp c3 hw
    exact b_M_says_48 C hr hk  σ x1_ x2_ x3_ x4_ hw _ _ _ hH (lv_sub hl [0, 1, 2, 3, 4] rfl)
  · have hw := ifn c3 hw
    refine lv_aload_n hx hb dX11_says_35 rfl (lv_at hl 0 rfl) ?_
    refine lv_iload hx hb dX11_says_36 (lv_at hl 4 rfl) ?_
    refine mcVi C hH [.int x4_] (fun sz => c_M_isMan l D Z b σ x4_ _ hw sz) (cwTV 1 hts wd_1290 wd_1292 ws_51 wd_14 wd_1293 rfl rfl (by decide +kernel) ⟨Nat.le_of_ble_eq_true rfl, Nat.le_of_ble_eq_true rfl⟩) rfl hl.1 rfl (Nat.le_of_ble_eq_true rfl) dX11_says_38 ⟨Nat.zero_le _, Nat.zero_le _⟩ (fun r5 σ4 H locs hw hH => ?_)
    refine lv_if_ne (tgt := 48) hx hb dX11_says_41 (by decide) (fun c6 => ?_) (fun c6 => ?_)
    · have hw := ifn c6 hw
      exact b_M_says_48 C hr hk  σ4 x1_ x2_ x3_ x4_ hw _ _ _ hH (lv_sub hl [0, 1, 2, 3, 4] rfl)
    · have hw := ifp c6 hw
      refine lv_ldcw (own := RX11) (index := 363) (v := -2000000000) hx hb hown (hts _ wd_1425) dX11_says_44 ?_
      exact mri C hr hk hH hw dX11_says_47
def wp_M_says (σ : MS) (a1 : Int32) (a2 : Int32) (a3 : Int32) (a4 : Int32) (post : Int32 → MS → Prop) : Prop := wp_M_isFellowship σ a1 (fun r8 σ7 => if r8 = 0 then (post (-2000000000 : Int32) σ7) else (wp_M_in σ7 a2 (0 : Int32) (4 : Int32) (fun r11 σ10 => if r11 = 0 then (post (-2000000000 : Int32) σ10) else (if a3 = (-1 : Int32) then (wp_M_says_29 post σ10 a1 a2 a3 a4) else (wp_M_isLoad σ10 a3 (fun r15 σ14 => if r15 = 0 then (post (-2000000000 : Int32) σ14) else (wp_M_says_29 post σ14 a1 a2 a3 a4)))))))
set_option maxHeartbeats 4000000 in
set_option maxRecDepth 100000 in
theorem c_M_says (l : Launch) (D : va_G) (Z : Nat → ClassId) (b : Nat → Nat) (σ : MS) (a1 : Int32) (a2 : Int32) (a3 : Int32) (a4 : Int32) (post : Int32 → MS → Prop) (hw : wp_M_says σ a1 a2 a3 a4 post) (sz : Nat) : Met l yX11_says (Wd yX11_says cX11_says 5 (some .int)) rm_M_says (va_Pc [.ref (b 69), .int a1, .int a2, .int a3, .int a4] (mPre D Z b sz σ)) (va_Qi post (mPost D Z b) (mA b sz)) 0 0 (mA b sz) := by
  refine mMi (by decide) rfl _ (Nat.le_of_ble_eq_true rfl) (fun p e s m args below meth c C hr hk ls hl hH => ?_) sz
  obtain ⟨⟨hx, hb, hml, hown, hts⟩, hK⟩ := id C
  have hl : lv_has ls 5 [(0, .ref (b 69)), (1, .int a1), (2, .int a2), (3, .int a3), (4, .int a4)] := hl
  unfold wp_M_says at hw
  refine lv_iload_n hx hb dX11_says_0 rfl (lv_at hl 1 rfl) ?_
  refine mcSi C hH [.int a1] (fun sz => c_M_isFellowship l D Z b σ a1 _ hw sz) (cwTS 1 hts wd_1283 wd_1284 wd_14 wd_1285 rfl rfl (by decide +kernel) ⟨Nat.le_of_ble_eq_true rfl, Nat.le_of_ble_eq_true rfl⟩) rfl hl.1 rfl (Nat.le_of_ble_eq_true rfl) dX11_says_1 ⟨Nat.zero_le _, Nat.zero_le _⟩ (fun r8 σ7 H locs hw hH => ?_)
  refine lv_if_eq (tgt := 44) hx hb dX11_says_4 (by decide) (fun c9 => ?_) (fun c9 => ?_)
  · have hw := ifp c9 hw
    refine lv_ldcw (own := RX11) (index := 363) (v := -2000000000) hx hb hown (hts _ wd_1425) dX11_says_44 ?_
    exact mri C hr hk hH hw dX11_says_47
  · have hw := ifn c9 hw
    refine lv_iload_n hx hb dX11_says_7 rfl (lv_at hl 2 rfl) ?_
    refine lv_iconst (v := 0) hx hb dX11_says_8 (by decide) ?_
    refine lv_iconst (v := 4) hx hb dX11_says_9 (by decide) ?_
    refine mcSi C hH [.int a2, .int (0 : Int32), .int (4 : Int32)] (fun sz => c_M_in l D Z b σ7 a2 (0 : Int32) (4 : Int32) _ hw sz) (cwTS 3 hts wd_1242 wd_1243 wd_14 wd_1244 rfl rfl (by decide +kernel) ⟨Nat.le_of_ble_eq_true rfl, Nat.le_of_ble_eq_true rfl⟩) rfl hl.1 rfl (Nat.le_of_ble_eq_true rfl) dX11_says_10 ⟨Nat.zero_le _, Nat.zero_le _⟩ (fun r11 σ10 H locs hw hH => ?_)
    refine lv_if_eq (tgt := 44) hx hb dX11_says_13 (by decide) (fun c12 => ?_) (fun c12 => ?_)
    · have hw := ifp c12 hw
      refine lv_ldcw (own := RX11) (index := 363) (v := -2000000000) hx hb hown (hts _ wd_1425) dX11_says_44 ?_
      exact mri C hr hk hH hw dX11_says_47
    · have hw := ifn c12 hw
      refine lv_iload_n hx hb dX11_says_16 rfl (lv_at hl 3 rfl) ?_
      refine lv_iconst (v := -1) hx hb dX11_says_17 (by decide) ?_
      refine lv_icmp_eq (tgt := 29) hx hb dX11_says_18 (by decide) (fun c13 => ?_) (fun c13 => ?_)
      · have hw := ifp c13 hw
        exact b_M_says_29 C hr hk  σ10 a1 a2 a3 a4 hw _ _ _ hH (lv_sub hl [0, 1, 2, 3, 4] rfl)
      · have hw := ifn c13 hw
        refine lv_aload_n hx hb dX11_says_21 rfl (lv_at hl 0 rfl) ?_
        refine lv_iload_n hx hb dX11_says_22 rfl (lv_at hl 3 rfl) ?_
        refine mcVi C hH [.int a3] (fun sz => c_M_isLoad l D Z b σ10 a3 _ hw sz) (cwTV 1 hts wd_1421 wd_1423 ws_64 wd_14 wd_1424 rfl rfl (by decide +kernel) ⟨Nat.le_of_ble_eq_true rfl, Nat.le_of_ble_eq_true rfl⟩) rfl hl.1 rfl (Nat.le_of_ble_eq_true rfl) dX11_says_23 ⟨Nat.zero_le _, Nat.zero_le _⟩ (fun r15 σ14 H locs hw hH => ?_)
        refine lv_if_eq (tgt := 44) hx hb dX11_says_26 (by decide) (fun c16 => ?_) (fun c16 => ?_)
        · have hw := ifp c16 hw
          refine lv_ldcw (own := RX11) (index := 363) (v := -2000000000) hx hb hown (hts _ wd_1425) dX11_says_44 ?_
          exact mri C hr hk hH hw dX11_says_47
        · have hw := ifn c16 hw
          exact b_M_says_29 C hr hk  σ14 a1 a2 a3 a4 hw _ _ _ hH (lv_sub hl [0, 1, 2, 3, 4] rfl)
/-! load -/
abbrev rm_M_load : Room := { frames := 2, cells := 0, slots := 0, locals := 43 }
def wp_M_load (σ : MS) (a1 : Int32) (a2 : Int32) (a3 : Int32) (a4 : Int32) (post : Int32 → MS → Prop) : Prop := if a1 < 0 then (post (-1 : Int32) σ) else (wp_M_in σ (a1 / (1000 : Int32)) (0 : Int32) (4 : Int32) (fun r3 σ2 => if r3 = 0 then (post (-1 : Int32) σ2) else (if (a1 - a1 / (1000 : Int32) * (1000 : Int32)) = 0 then (post (-1 : Int32) σ2) else (if a2 < 0 then (post (-1 : Int32) σ2) else (wp_M_isPlace σ2 (a2 / (100 : Int32)) (fun r8 σ7 => if r8 = 0 then (post (-1 : Int32) σ7) else (wp_M_isPlace σ7 (a2 - a2 / (100 : Int32) * (100 : Int32)) (fun r11 σ10 => if r11 = 0 then (post (-1 : Int32) σ10) else (if (a2 / (100 : Int32)) = (a2 - a2 / (100 : Int32) * (100 : Int32)) then (post (-1 : Int32) σ10) else (wp_M_in σ10 a3 (0 : Int32) (9999 : Int32) (fun r15 σ14 => if r15 = 0 then (post (-1 : Int32) σ14) else (wp_M_in σ14 a4 (0 : Int32) (200000 : Int32) (fun r18 σ17 => if r18 = 0 then (post (-1 : Int32) σ17) else (if (σ17 43 0) = (200 : Int32) then (post (-3 : Int32) σ17) else (∀ x21 : Int32, x21 = (σ17 43 0) → (vp_in x21 200 ∧ (∀ σ23 : MS, σ23 = up2 σ17 44 x21.toNatClampNeg (a1 / (1000 : Int32)) → (vp_in x21 200 ∧ (∀ σ25 : MS, σ25 = up2 σ23 45 x21.toNatClampNeg (a1 - a1 / (1000 : Int32) * (1000 : Int32)) → (vp_in x21 200 ∧ (∀ σ27 : MS, σ27 = up2 σ25 46 x21.toNatClampNeg (a2 / (100 : Int32)) → (vp_in x21 200 ∧ (∀ σ29 : MS, σ29 = up2 σ27 47 x21.toNatClampNeg (a2 - a2 / (100 : Int32) * (100 : Int32)) → (vp_in x21 200 ∧ (∀ σ31 : MS, σ31 = up2 σ29 48 x21.toNatClampNeg a3 → (vp_in x21 200 ∧ (∀ σ33 : MS, σ33 = up2 σ31 49 x21.toNatClampNeg a4 → (vp_in x21 200 ∧ (∀ σ35 : MS, σ35 = up2 σ33 50 x21.toNatClampNeg (0 : Int32) → (vp_in x21 200 ∧ (∀ σ37 : MS, σ37 = up2 σ35 51 x21.toNatClampNeg (σ35 1 0) → (vp_in x21 200 ∧ (∀ σ39 : MS, σ39 = up2 σ37 53 x21.toNatClampNeg (-1 : Int32) → (vp_in x21 200 ∧ (∀ σ41 : MS, σ41 = up2 σ39 54 x21.toNatClampNeg (-1 : Int32) → (∀ σ42 : MS, σ42 = up2 σ41 43 0 ((σ41 43 0) + (1 : Int32)) → (post x21 σ42)))))))))))))))))))))))))))))))))))))
set_option maxHeartbeats 4000000 in
set_option maxRecDepth 100000 in
theorem c_M_load (l : Launch) (D : va_G) (Z : Nat → ClassId) (b : Nat → Nat) (σ : MS) (a1 : Int32) (a2 : Int32) (a3 : Int32) (a4 : Int32) (post : Int32 → MS → Prop) (hw : wp_M_load σ a1 a2 a3 a4 post) (sz : Nat) : Met l yX11_load (Wd yX11_load cX11_load 6 (some .int)) rm_M_load (va_Pc [.ref (b 69), .int a1, .int a2, .int a3, .int a4] (mPre D Z b sz σ)) (va_Qi post (mPost D Z b) (mA b sz)) 0 0 (mA b sz) := by
  refine mMi (by decide) rfl _ (Nat.le_of_ble_eq_true rfl) (fun p e s m args below meth c C hr hk ls hl hH => ?_) sz
  obtain ⟨⟨hx, hb, hml, hown, hts⟩, hK⟩ := id C
  have hl : lv_has ls 6 [(0, .ref (b 69)), (1, .int a1), (2, .int a2), (3, .int a3), (4, .int a4)] := hl
  unfold wp_M_load at hw
  refine lv_iload_n hx hb dX11_load_0 rfl (lv_at hl 1 rfl) ?_
  refine lv_if_lt (tgt := 85) hx hb dX11_load_1 (by decide) (fun c1 => ?_) (fun c1 => ?_)
  · have hw := ifp c1 hw
    refine lv_iconst (v := -1) hx hb dX11_load_85 (by decide) ?_
    exact mri C hr hk hH hw dX11_load_86
  · have hw := ifn c1 hw
    refine lv_iload_n hx hb dX11_load_4 rfl (lv_at hl 1 rfl) ?_
    refine lv_sipush (v := 1000) hx hb dX11_load_5 (by decide) ?_
    refine lv_idiv hx hb dX11_load_8 (by decide) ?_
    refine lv_iconst (v := 0) hx hb dX11_load_9 (by decide) ?_
    refine lv_iconst (v := 4) hx hb dX11_load_10 (by decide) ?_
    refine mcSi C hH [.int (a1 / (1000 : Int32)), .int (0 : Int32), .int (4 : Int32)] (fun sz => c_M_in l D Z b σ (a1 / (1000 : Int32)) (0 : Int32) (4 : Int32) _ hw sz) (cwTS 3 hts wd_1242 wd_1243 wd_14 wd_1244 rfl rfl (by decide +kernel) ⟨Nat.le_of_ble_eq_true rfl, Nat.le_of_ble_eq_true rfl⟩) rfl hl.1 rfl (Nat.le_of_ble_eq_true rfl) dX11_load_11 ⟨Nat.zero_le _, Nat.zero_le _⟩ (fun r3 σ2 H locs hw hH => ?_)
    refine lv_if_eq (tgt := 85) hx hb dX11_load_14 (by decide) (fun c4 => ?_) (fun c4 => ?_)
    · have hw := ifp c4 hw
      refine lv_iconst (v := -1) hx hb dX11_load_85 (by decide) ?_
      exact mri C hr hk hH hw dX11_load_86
    · have hw := ifn c4 hw
      refine lv_iload_n hx hb dX11_load_17 rfl (lv_at hl 1 rfl) ?_
      refine lv_sipush (v := 1000) hx hb dX11_load_18 (by decide) ?_
      refine lv_irem hx hb dX11_load_21 (by decide) ?_
      refine lv_if_eq (tgt := 85) hx hb dX11_load_22 (by decide) (fun c5 => ?_) (fun c5 => ?_)
      · have hw := ifp c5 hw
        refine lv_iconst (v := -1) hx hb dX11_load_85 (by decide) ?_
        exact mri C hr hk hH hw dX11_load_86
      · have hw := ifn c5 hw
        refine lv_iload_n hx hb dX11_load_25 rfl (lv_at hl 2 rfl) ?_
        refine lv_if_lt (tgt := 85) hx hb dX11_load_26 (by decide) (fun c6 => ?_) (fun c6 => ?_)
        · have hw := ifp c6 hw
          refine lv_iconst (v := -1) hx hb dX11_load_85 (by decide) ?_
          exact mri C hr hk hH hw dX11_load_86
        · have hw := ifn c6 hw
          refine lv_aload_n hx hb dX11_load_29 rfl (lv_at hl 0 rfl) ?_
          refine lv_iload_n hx hb dX11_load_30 rfl (lv_at hl 2 rfl) ?_
          refine lv_bipush (v := 100) hx hb dX11_load_31 (by decide) ?_
          refine lv_idiv hx hb dX11_load_33 (by decide) ?_
          refine mcVi C hH [.int (a2 / (100 : Int32))] (fun sz => c_M_isPlace l D Z b σ2 (a2 / (100 : Int32)) _ hw sz) (cwTV 1 hts wd_1249 wd_1251 ws_46 wd_14 wd_1252 rfl rfl (by decide +kernel) ⟨Nat.le_of_ble_eq_true rfl, Nat.le_of_ble_eq_true rfl⟩) rfl hl.1 rfl (Nat.le_of_ble_eq_true rfl) dX11_load_34 ⟨Nat.zero_le _, Nat.zero_le _⟩ (fun r8 σ7 H locs hw hH => ?_)
          refine lv_if_eq (tgt := 85) hx hb dX11_load_37 (by decide) (fun c9 => ?_) (fun c9 => ?_)
          · have hw := ifp c9 hw
            refine lv_iconst (v := -1) hx hb dX11_load_85 (by decide) ?_
            exact mri C hr hk hH hw dX11_load_86
          · have hw := ifn c9 hw
            refine lv_aload_n hx hb dX11_load_40 rfl (lv_at hl 0 rfl) ?_
            refine lv_iload_n hx hb dX11_load_41 rfl (lv_at hl 2 rfl) ?_
            refine lv_bipush (v := 100) hx hb dX11_load_42 (by decide) ?_
            refine lv_irem hx hb dX11_load_44 (by decide) ?_
            refine mcVi C hH [.int (a2 - a2 / (100 : Int32) * (100 : Int32))] (fun sz => c_M_isPlace l D Z b σ7 (a2 - a2 / (100 : Int32) * (100 : Int32)) _ hw sz) (cwTV 1 hts wd_1249 wd_1251 ws_46 wd_14 wd_1252 rfl rfl (by decide +kernel) ⟨Nat.le_of_ble_eq_true rfl, Nat.le_of_ble_eq_true rfl⟩) rfl hl.1 rfl (Nat.le_of_ble_eq_true rfl) dX11_load_45 ⟨Nat.zero_le _, Nat.zero_le _⟩ (fun r11 σ10 H locs hw hH => ?_)
            refine lv_if_eq (tgt := 85) hx hb dX11_load_48 (by decide) (fun c12 => ?_) (fun c12 => ?_)
            · have hw := ifp c12 hw
              refine lv_iconst (v := -1) hx hb dX11_load_85 (by decide) ?_
              exact mri C hr hk hH hw dX11_load_86
            · have hw := ifn c12 hw
              refine lv_iload_n hx hb dX11_load_51 rfl (lv_at hl 2 rfl) ?_
              refine lv_bipush (v := 100) hx hb dX11_load_52 (by decide) ?_
              refine lv_idiv hx hb dX11_load_54 (by decide) ?_
              refine lv_iload_n hx hb dX11_load_55 rfl (lv_at hl 2 rfl) ?_
              refine lv_bipush (v := 100) hx hb dX11_load_56 (by decide) ?_
              refine lv_irem hx hb dX11_load_58 (by decide) ?_
              refine lv_icmp_eq (tgt := 85) hx hb dX11_load_59 (by decide) (fun c13 => ?_) (fun c13 => ?_)
              · have hw := ifp c13 hw
                refine lv_iconst (v := -1) hx hb dX11_load_85 (by decide) ?_
                exact mri C hr hk hH hw dX11_load_86
              · have hw := ifn c13 hw
                refine lv_iload_n hx hb dX11_load_62 rfl (lv_at hl 3 rfl) ?_
                refine lv_iconst (v := 0) hx hb dX11_load_63 (by decide) ?_
                refine lv_sipush (v := 9999) hx hb dX11_load_64 (by decide) ?_
                refine mcSi C hH [.int a3, .int (0 : Int32), .int (9999 : Int32)] (fun sz => c_M_in l D Z b σ10 a3 (0 : Int32) (9999 : Int32) _ hw sz) (cwTS 3 hts wd_1242 wd_1243 wd_14 wd_1244 rfl rfl (by decide +kernel) ⟨Nat.le_of_ble_eq_true rfl, Nat.le_of_ble_eq_true rfl⟩) rfl hl.1 rfl (Nat.le_of_ble_eq_true rfl) dX11_load_67 ⟨Nat.zero_le _, Nat.zero_le _⟩ (fun r15 σ14 H locs hw hH => ?_)
                refine lv_if_eq (tgt := 85) hx hb dX11_load_70 (by decide) (fun c16 => ?_) (fun c16 => ?_)
                · have hw := ifp c16 hw
                  refine lv_iconst (v := -1) hx hb dX11_load_85 (by decide) ?_
                  exact mri C hr hk hH hw dX11_load_86
                · have hw := ifn c16 hw
                  refine lv_iload hx hb dX11_load_73 (lv_at hl 4 rfl) ?_
                  refine lv_iconst (v := 0) hx hb dX11_load_75 (by decide) ?_
                  refine lv_ldcw (own := RX11) (index := 370) (v := 200000) hx hb hown (hts _ wd_1449) dX11_load_76 ?_
                  refine mcSi C hH [.int a4, .int (0 : Int32), .int (200000 : Int32)] (fun sz => c_M_in l D Z b σ14 a4 (0 : Int32) (200000 : Int32) _ hw sz) (cwTS 3 hts wd_1242 wd_1243 wd_14 wd_1244 rfl rfl (by decide +kernel) ⟨Nat.le_of_ble_eq_true rfl, Nat.le_of_ble_eq_true rfl⟩) rfl hl.1 rfl (Nat.le_of_ble_eq_true rfl) dX11_load_79 ⟨Nat.zero_le _, Nat.zero_le _⟩ (fun r18 σ17 H locs hw hH => ?_)
                  refine lv_if_ne (tgt := 87) hx hb dX11_load_82 (by decide) (fun c19 => ?_) (fun c19 => ?_)
                  · have hw := ifn c19 hw
                    refine lv_aload_n hx hb dX11_load_87 rfl (lv_at hl 0 rfl) ?_
                    refine mg C hH 43 (by decide) rfl wd_1072 rfl dX11_load_88 ?_
                    refine lv_sipush (v := 200) hx hb dX11_load_91 (by decide) ?_
                    refine lv_icmp_ne (tgt := 100) hx hb dX11_load_94 (by decide) (fun c20 => ?_) (fun c20 => ?_)
                    · have hw := ifn c20 hw
                      refine lv_aload_n hx hb dX11_load_100 rfl (lv_at hl 0 rfl) ?_
                      refine mg C hH 43 (by decide) rfl wd_1072 rfl dX11_load_101 ?_
                      refine lv_topi (fun x21 ex21 => ?_)
                      have hw := hw x21 ex21
                      refine lv_istore (lv' := [(5, .int x21), (0, .ref (b 69)), (1, .int a1), (2, .int a2), (3, .int a3), (4, .int a4)]) hx hb dX11_load_104 hl (by decide) rfl (fun ls hl => ?_)
                      refine lv_aload_n hx hb dX11_load_106 rfl (lv_at hl 1 rfl) ?_
                      refine mg C hH 44 (by decide) rfl wd_1073 rfl dX11_load_107 ?_
                      refine lv_iload hx hb dX11_load_110 (lv_at hl 0 rfl) ?_
                      refine lv_iload_n hx hb dX11_load_112 rfl (lv_at hl 2 rfl) ?_
                      refine lv_sipush (v := 1000) hx hb dX11_load_113 (by decide) ?_
                      refine lv_idiv hx hb dX11_load_116 (by decide) ?_
                      obtain ⟨h22, hw⟩ := hw
                      refine msi C hH 31 44 rfl (mast_44 Z b σ17 _ _) h22 dX11_load_117 (fun H locs hH => ?_)
                      have hw := hw _ rfl
                      generalize up2 σ17 44 x21.toNatClampNeg (a1 / (1000 : Int32)) = σ23 at hw hH
                      refine lv_aload_n hx hb dX11_load_118 rfl (lv_at hl 1 rfl) ?_
                      refine mg C hH 45 (by decide) rfl wd_1074 rfl dX11_load_119 ?_
                      refine lv_iload hx hb dX11_load_122 (lv_at hl 0 rfl) ?_
                      refine lv_iload_n hx hb dX11_load_124 rfl (lv_at hl 2 rfl) ?_
                      refine lv_sipush (v := 1000) hx hb dX11_load_125 (by decide) ?_
                      refine lv_irem hx hb dX11_load_128 (by decide) ?_
                      obtain ⟨h24, hw⟩ := hw
                      refine msi C hH 32 45 rfl (mast_45 Z b σ23 _ _) h24 dX11_load_129 (fun H locs hH => ?_)
                      have hw := hw _ rfl
                      generalize up2 σ23 45 x21.toNatClampNeg (a1 - a1 / (1000 : Int32) * (1000 : Int32)) = σ25 at hw hH
                      refine lv_aload_n hx hb dX11_load_130 rfl (lv_at hl 1 rfl) ?_
                      refine mg C hH 46 (by decide) rfl wd_1075 rfl dX11_load_131 ?_
                      refine lv_iload hx hb dX11_load_134 (lv_at hl 0 rfl) ?_
                      refine lv_iload_n hx hb dX11_load_136 rfl (lv_at hl 3 rfl) ?_
                      refine lv_bipush (v := 100) hx hb dX11_load_137 (by decide) ?_
                      refine lv_idiv hx hb dX11_load_139 (by decide) ?_
                      obtain ⟨h26, hw⟩ := hw
                      refine msi C hH 33 46 rfl (mast_46 Z b σ25 _ _) h26 dX11_load_140 (fun H locs hH => ?_)
                      have hw := hw _ rfl
                      generalize up2 σ25 46 x21.toNatClampNeg (a2 / (100 : Int32)) = σ27 at hw hH
                      refine lv_aload_n hx hb dX11_load_141 rfl (lv_at hl 1 rfl) ?_
                      refine mg C hH 47 (by decide) rfl wd_1076 rfl dX11_load_142 ?_
                      refine lv_iload hx hb dX11_load_145 (lv_at hl 0 rfl) ?_
                      refine lv_iload_n hx hb dX11_load_147 rfl (lv_at hl 3 rfl) ?_
                      refine lv_bipush (v := 100) hx hb dX11_load_148 (by decide) ?_
                      refine lv_irem hx hb dX11_load_150 (by decide) ?_
                      obtain ⟨h28, hw⟩ := hw
                      refine msi C hH 34 47 rfl (mast_47 Z b σ27 _ _) h28 dX11_load_151 (fun H locs hH => ?_)
                      have hw := hw _ rfl
                      generalize up2 σ27 47 x21.toNatClampNeg (a2 - a2 / (100 : Int32) * (100 : Int32)) = σ29 at hw hH
                      refine lv_aload_n hx hb dX11_load_152 rfl (lv_at hl 1 rfl) ?_
                      refine mg C hH 48 (by decide) rfl wd_1077 rfl dX11_load_153 ?_
                      refine lv_iload hx hb dX11_load_156 (lv_at hl 0 rfl) ?_
                      refine lv_iload_n hx hb dX11_load_158 rfl (lv_at hl 4 rfl) ?_
                      obtain ⟨h30, hw⟩ := hw
                      refine msi C hH 35 48 rfl (mast_48 Z b σ29 _ _) h30 dX11_load_159 (fun H locs hH => ?_)
                      have hw := hw _ rfl
                      generalize up2 σ29 48 x21.toNatClampNeg a3 = σ31 at hw hH
                      refine lv_aload_n hx hb dX11_load_160 rfl (lv_at hl 1 rfl) ?_
                      refine mg C hH 49 (by decide) rfl wd_1078 rfl dX11_load_161 ?_
                      refine lv_iload hx hb dX11_load_164 (lv_at hl 0 rfl) ?_
                      refine lv_iload hx hb dX11_load_166 (lv_at hl 5 rfl) ?_
                      obtain ⟨h32, hw⟩ := hw
                      refine msi C hH 36 49 rfl (mast_49 Z b σ31 _ _) h32 dX11_load_168 (fun H locs hH => ?_)
                      have hw := hw _ rfl
                      generalize up2 σ31 49 x21.toNatClampNeg a4 = σ33 at hw hH
                      refine lv_aload_n hx hb dX11_load_169 rfl (lv_at hl 1 rfl) ?_
                      refine mg C hH 50 (by decide) rfl wd_1079 rfl dX11_load_170 ?_
                      refine lv_iload hx hb dX11_load_173 (lv_at hl 0 rfl) ?_
                      refine lv_iconst (v := 0) hx hb dX11_load_175 (by decide) ?_
                      obtain ⟨h34, hw⟩ := hw
                      refine msi C hH 37 50 rfl (mast_50 Z b σ33 _ _) h34 dX11_load_176 (fun H locs hH => ?_)
                      have hw := hw _ rfl
                      generalize up2 σ33 50 x21.toNatClampNeg (0 : Int32) = σ35 at hw hH
                      refine lv_aload_n hx hb dX11_load_177 rfl (lv_at hl 1 rfl) ?_
                      refine mg C hH 51 (by decide) rfl wd_1080 rfl dX11_load_178 ?_
                      refine lv_iload hx hb dX11_load_181 (lv_at hl 0 rfl) ?_
                      refine lv_aload_n hx hb dX11_load_183 rfl (lv_at hl 1 rfl) ?_
                      refine mg C hH 1 (by decide) rfl wd_1030 rfl dX11_load_184 ?_
                      obtain ⟨h36, hw⟩ := hw
                      refine msi C hH 38 51 rfl (mast_51 Z b σ35 _ _) h36 dX11_load_187 (fun H locs hH => ?_)
                      have hw := hw _ rfl
                      generalize up2 σ35 51 x21.toNatClampNeg (σ35 1 0) = σ37 at hw hH
                      refine lv_aload_n hx hb dX11_load_188 rfl (lv_at hl 1 rfl) ?_
                      refine mg C hH 53 (by decide) rfl wd_1082 rfl dX11_load_189 ?_
                      refine lv_iload hx hb dX11_load_192 (lv_at hl 0 rfl) ?_
                      refine lv_iconst (v := -1) hx hb dX11_load_194 (by decide) ?_
                      obtain ⟨h38, hw⟩ := hw
                      refine msi C hH 40 53 rfl (mast_53 Z b σ37 _ _) h38 dX11_load_195 (fun H locs hH => ?_)
                      have hw := hw _ rfl
                      generalize up2 σ37 53 x21.toNatClampNeg (-1 : Int32) = σ39 at hw hH
                      refine lv_aload_n hx hb dX11_load_196 rfl (lv_at hl 1 rfl) ?_
                      refine mg C hH 54 (by decide) rfl wd_1083 rfl dX11_load_197 ?_
                      refine lv_iload hx hb dX11_load_200 (lv_at hl 0 rfl) ?_
                      refine lv_iconst (v := -1) hx hb dX11_load_202 (by decide) ?_
                      obtain ⟨h40, hw⟩ := hw
                      refine msi C hH 41 54 rfl (mast_54 Z b σ39 _ _) h40 dX11_load_203 (fun H locs hH => ?_)
                      have hw := hw _ rfl
                      generalize up2 σ39 54 x21.toNatClampNeg (-1 : Int32) = σ41 at hw hH
                      refine lv_aload_n hx hb dX11_load_204 rfl (lv_at hl 1 rfl) ?_
                      refine lv_dup hx hb dX11_load_205 rfl ?_
                      refine mg C hH 43 (by decide) rfl wd_1072 rfl dX11_load_206 ?_
                      refine lv_iconst (v := 1) hx hb dX11_load_209 (by decide) ?_
                      refine lv_iadd hx hb dX11_load_210 ?_
                      refine mp C hH 43 (by decide) rfl wd_1072 (mset_43 Z b σ41 _) dX11_load_211 (fun H locs hH => ?_)
                      have hw := hw _ rfl
                      generalize up2 σ41 43 0 ((σ41 43 0) + (1 : Int32)) = σ42 at hw hH
                      refine lv_iload hx hb dX11_load_214 (lv_at hl 0 rfl) ?_
                      exact mri C hr hk hH hw dX11_load_216
                    · have hw := ifp c20 hw
                      refine lv_bipush (v := -3) hx hb dX11_load_97 (by decide) ?_
                      exact mri C hr hk hH hw dX11_load_99
                  · have hw := ifp c19 hw
                    refine lv_iconst (v := -1) hx hb dX11_load_85 (by decide) ?_
                    exact mri C hr hk hH hw dX11_load_86
/-! whoseNow -/
abbrev rm_M_whoseNow : Room := { frames := 3, cells := 0, slots := 0, locals := 71 }
def wp_M_whoseNow_31 (k4 : MS → Int32 → Int32 → Int32 → Prop) (post : Int32 → MS → Prop) (σ : MS) (x1_ : Int32) (x2_ : Int32) (x3_ : Int32) : Prop := ∀ x1 : Int32, x1 = x3_ + (1 : Int32) → (k4 σ x1_ x2_ x1)
set_option maxHeartbeats 4000000 in
set_option maxRecDepth 100000 in
theorem b_M_whoseNow_31 {p : Program} {l : Launch} {e : Env} {s : State} {m : MethodId} {args : Array Value} {below : List Frame} {meth : Method} {c : Code} {D : va_G} {Z : Nat → ClassId} {b : Nat → Nat} (C : MC p s m args c cX11_whoseNow 4 D Z) (hr : meth.sig.returnType = some .int) (hk : meth.locks = false) {post : Int32 → MS → Prop} {k4 : MS → Int32 → Int32 → Int32 → Prop} (hk4 : ∀ (σ : MS) (y1 : Int32) (y2 : Int32) (y3 : Int32), k4 σ y1 y2 y3 → ∀ (H : Heap) (locs : List Loc) (ls : Array Slot), MH D Z b s.heap σ H locs → lv_has ls 4 [(0, .ref (b 69)), (1, .int y1), (2, .int y2), (3, .int y3)] → MWi p l e rm_M_whoseNow s m args below meth c D Z b post H locs (F0 m 4 ls [])) : ∀ (σ : MS) (x1_ : Int32) (x2_ : Int32) (x3_ : Int32), wp_M_whoseNow_31 k4 post σ x1_ x2_ x3_ → ∀ (H : Heap) (locs : List Loc) (ls : Array Slot), MH D Z b s.heap σ H locs → lv_has ls 4 [(0, .ref (b 69)), (1, .int x1_), (2, .int x2_), (3, .int x3_)] → MWi p l e rm_M_whoseNow s m args below meth c D Z b post H locs (F0 m 31 ls []) := by
  obtain ⟨⟨hx, hb, hml, hown, hts⟩, hK⟩ := id C
  intro σ x1_ x2_ x3_ hw H locs ls hH hl
  unfold wp_M_whoseNow_31 at hw
  obtain ⟨x1, ex1⟩ : ∃ y : Int32, y = x3_ + (1 : Int32) := ⟨_, rfl⟩
  have hw := hw x1 ex1
  refine lv_iinc (v := x1) (lv' := [(3, .int x1), (0, .ref (b 69)), (1, .int x1_), (2, .int x2_)]) hx hb dX11_whoseNow_31 hl (k := 3) rfl (by rw [ex1]; rfl) (by decide) rfl (fun ls hl => ?_)
  refine lv_goto (tgt := 4) hx hb dX11_whoseNow_34 (by decide) ?_
  exact hk4 σ x1_ x2_ x1 hw _ _ _ hH (lv_sub hl [1, 2, 3, 0] rfl)
def wp_M_whoseNow_30 (k4 : MS → Int32 → Int32 → Int32 → Prop) (post : Int32 → MS → Prop) (σ : MS) (x1_ : Int32) (x3_ : Int32) (t0_ : Int32) : Prop := wp_M_whoseNow_31 (k4) post σ x1_ t0_ x3_
set_option maxHeartbeats 4000000 in
set_option maxRecDepth 100000 in
theorem b_M_whoseNow_30 {p : Program} {l : Launch} {e : Env} {s : State} {m : MethodId} {args : Array Value} {below : List Frame} {meth : Method} {c : Code} {D : va_G} {Z : Nat → ClassId} {b : Nat → Nat} (C : MC p s m args c cX11_whoseNow 4 D Z) (hr : meth.sig.returnType = some .int) (hk : meth.locks = false) {post : Int32 → MS → Prop} {k4 : MS → Int32 → Int32 → Int32 → Prop} (hk4 : ∀ (σ : MS) (y1 : Int32) (y2 : Int32) (y3 : Int32), k4 σ y1 y2 y3 → ∀ (H : Heap) (locs : List Loc) (ls : Array Slot), MH D Z b s.heap σ H locs → lv_has ls 4 [(0, .ref (b 69)), (1, .int y1), (2, .int y2), (3, .int y3)] → MWi p l e rm_M_whoseNow s m args below meth c D Z b post H locs (F0 m 4 ls [])) : ∀ (σ : MS) (x1_ : Int32) (x3_ : Int32) (t0_ : Int32), wp_M_whoseNow_30 k4 post σ x1_ x3_ t0_ → ∀ (H : Heap) (locs : List Loc) (ls : Array Slot), MH D Z b s.heap σ H locs → lv_has ls 4 [(0, .ref (b 69)), (1, .int x1_), (3, .int x3_)] → MWi p l e rm_M_whoseNow s m args below meth c D Z b post H locs (F0 m 30 ls [.int t0_]) := by
  obtain ⟨⟨hx, hb, hml, hown, hts⟩, hK⟩ := id C
  intro σ x1_ x3_ t0_ hw H locs ls hH hl
  unfold wp_M_whoseNow_30 at hw
  refine lv_istore_n (lv' := [(2, .int t0_), (0, .ref (b 69)), (1, .int x1_), (3, .int x3_)]) hx hb dX11_whoseNow_30 rfl hl (by decide) rfl (fun ls hl => ?_)
  exact b_M_whoseNow_31 C hr hk hk4 σ x1_ t0_ x3_ hw _ _ _ hH (lv_sub hl [1, 2, 0, 3] rfl)
def wp_M_whoseNow_4 (post : Int32 → MS → Prop) : Nat → MS → Int32 → Int32 → Int32 → Prop
  | 0 => fun _ _ _ _ => False
  | n + 1 => fun σ x1_ x2_ x3_ => if (4 : Int32) ≤ x3_ then (post x2_ σ) else (wp_M_saysNow σ x3_ (0 : Int32) x1_ (-1 : Int32) (fun r4 σ3 => if r4 = 0 then (wp_M_whoseNow_31 (wp_M_whoseNow_4 post n) post σ3 x1_ x2_ x3_) else (if x2_ = (4 : Int32) then (wp_M_whoseNow_30 (wp_M_whoseNow_4 post n) post σ3 x1_ x3_ x3_) else (wp_M_whoseNow_30 (wp_M_whoseNow_4 post n) post σ3 x1_ x3_ (5 : Int32)))))
set_option maxHeartbeats 4000000 in
set_option maxRecDepth 100000 in
theorem b_M_whoseNow_4 {p : Program} {l : Launch} {e : Env} {s : State} {m : MethodId} {args : Array Value} {below : List Frame} {meth : Method} {c : Code} {D : va_G} {Z : Nat → ClassId} {b : Nat → Nat} (C : MC p s m args c cX11_whoseNow 4 D Z) (hr : meth.sig.returnType = some .int) (hk : meth.locks = false) {post : Int32 → MS → Prop} : ∀ (n : Nat) (σ : MS) (x1_ : Int32) (x2_ : Int32) (x3_ : Int32), wp_M_whoseNow_4  post n σ x1_ x2_ x3_ → ∀ (H : Heap) (locs : List Loc) (ls : Array Slot), MH D Z b s.heap σ H locs → lv_has ls 4 [(0, .ref (b 69)), (1, .int x1_), (2, .int x2_), (3, .int x3_)] → MWi p l e rm_M_whoseNow s m args below meth c D Z b post H locs (F0 m 4 ls []) := by
  obtain ⟨⟨hx, hb, hml, hown, hts⟩, hK⟩ := id C
  intro n
  induction n with
  | zero => intro σ x1_ x2_ x3_ hw; exact hw.elim
  | succ n ih =>
    intro σ x1_ x2_ x3_ hw H locs ls hH hl
    unfold wp_M_whoseNow_4 at hw
    refine lv_iload_n hx hb dX11_whoseNow_4 rfl (lv_at hl 3 rfl) ?_
    refine lv_iconst (v := 4) hx hb dX11_whoseNow_5 (by decide) ?_
    refine lv_icmp_ge (tgt := 37) hx hb dX11_whoseNow_6 (by decide) (fun c2 => ?_) (fun c2 => ?_)
    · have hw := ifp c2 hw
      refine lv_iload_n hx hb dX11_whoseNow_37 rfl (lv_at hl 2 rfl) ?_
      exact mri C hr hk hH hw dX11_whoseNow_38
    · have hw := ifn c2 hw
      refine lv_aload_n hx hb dX11_whoseNow_9 rfl (lv_at hl 0 rfl) ?_
      refine lv_iload_n hx hb dX11_whoseNow_10 rfl (lv_at hl 3 rfl) ?_
      refine lv_iconst (v := 0) hx hb dX11_whoseNow_11 (by decide) ?_
      refine lv_iload_n hx hb dX11_whoseNow_12 rfl (lv_at hl 1 rfl) ?_
      refine lv_iconst (v := -1) hx hb dX11_whoseNow_13 (by decide) ?_
      refine mcVi C hH [.int x3_, .int (0 : Int32), .int x1_, .int (-1 : Int32)] (fun sz => c_M_saysNow l D Z b σ x3_ (0 : Int32) x1_ (-1 : Int32) _ hw sz) (cwTV 4 hts wd_1426 wd_1428 ws_65 wd_14 wd_1429 rfl rfl (by decide +kernel) ⟨Nat.le_of_ble_eq_true rfl, Nat.le_of_ble_eq_true rfl⟩) rfl hl.1 rfl (Nat.le_of_ble_eq_true rfl) dX11_whoseNow_14 ⟨Nat.zero_le _, Nat.zero_le _⟩ (fun r4 σ3 H locs hw hH => ?_)
      refine lv_if_eq (tgt := 31) hx hb dX11_whoseNow_17 (by decide) (fun c5 => ?_) (fun c5 => ?_)
      · have hw := ifp c5 hw
        exact b_M_whoseNow_31 C hr hk ih σ3 x1_ x2_ x3_ hw _ _ _ hH (lv_sub hl [0, 1, 2, 3] rfl)
      · have hw := ifn c5 hw
        refine lv_iload_n hx hb dX11_whoseNow_20 rfl (lv_at hl 2 rfl) ?_
        refine lv_iconst (v := 4) hx hb dX11_whoseNow_21 (by decide) ?_
        refine lv_icmp_ne (tgt := 29) hx hb dX11_whoseNow_22 (by decide) (fun c6 => ?_) (fun c6 => ?_)
        · have hw := ifn c6 hw
          refine lv_iconst (v := 5) hx hb dX11_whoseNow_29 (by decide) ?_
          exact b_M_whoseNow_30 C hr hk ih σ3 x1_ x3_ (5 : Int32) hw _ _ _ hH (lv_sub hl [0, 1, 3] rfl)
        · have hw := ifp c6 hw
          refine lv_iload_n hx hb dX11_whoseNow_25 rfl (lv_at hl 3 rfl) ?_
          refine lv_goto (tgt := 30) hx hb dX11_whoseNow_26 (by decide) ?_
          exact b_M_whoseNow_30 C hr hk ih σ3 x1_ x3_ x3_ hw _ _ _ hH (lv_sub hl [0, 1, 3] rfl)
def wp_M_whoseNow (σ : MS) (a1 : Int32) (post : Int32 → MS → Prop) : Prop := ∃ nn : Nat, wp_M_whoseNow_4  post nn σ a1 (4 : Int32) (0 : Int32)
set_option maxHeartbeats 4000000 in
set_option maxRecDepth 100000 in
theorem c_M_whoseNow (l : Launch) (D : va_G) (Z : Nat → ClassId) (b : Nat → Nat) (σ : MS) (a1 : Int32) (post : Int32 → MS → Prop) (hw : wp_M_whoseNow σ a1 post) (sz : Nat) : Met l yX11_whoseNow (Wd yX11_whoseNow cX11_whoseNow 4 (some .int)) rm_M_whoseNow (va_Pc [.ref (b 69), .int a1] (mPre D Z b sz σ)) (va_Qi post (mPost D Z b) (mA b sz)) 0 0 (mA b sz) := by
  refine mMi (by decide) rfl _ (Nat.le_of_ble_eq_true rfl) (fun p e s m args below meth c C hr hk ls hl hH => ?_) sz
  obtain ⟨⟨hx, hb, hml, hown, hts⟩, hK⟩ := id C
  have hl : lv_has ls 4 [(0, .ref (b 69)), (1, .int a1)] := hl
  unfold wp_M_whoseNow at hw
  refine lv_iconst (v := 4) hx hb dX11_whoseNow_0 (by decide) ?_
  refine lv_istore_n (lv' := [(2, .int (4 : Int32)), (0, .ref (b 69)), (1, .int a1)]) hx hb dX11_whoseNow_1 rfl hl (by decide) rfl (fun ls hl => ?_)
  refine lv_iconst (v := 0) hx hb dX11_whoseNow_2 (by decide) ?_
  refine lv_istore_n (lv' := [(3, .int (0 : Int32)), (2, .int (4 : Int32)), (0, .ref (b 69)), (1, .int a1)]) hx hb dX11_whoseNow_3 rfl hl (by decide) rfl (fun ls hl => ?_)
  obtain ⟨nn, hw⟩ := hw
  exact b_M_whoseNow_4 C hr hk  nn σ a1 (4 : Int32) (0 : Int32) hw _ _ _ hH (lv_sub hl [2, 3, 1, 0] rfl)
/-! whose -/
abbrev rm_M_whose : Room := { frames := 4, cells := 0, slots := 0, locals := 94 }
def wp_M_whose (σ : MS) (a1 : Int32) (post : Int32 → MS → Prop) : Prop := wp_M_isLoad σ a1 (fun r2 σ1 => if r2 = 0 then (post (-1 : Int32) σ1) else (wp_M_whoseNow σ1 a1 (fun r5 σ4 => post r5 σ4)))
set_option maxHeartbeats 4000000 in
set_option maxRecDepth 100000 in
theorem c_M_whose (l : Launch) (D : va_G) (Z : Nat → ClassId) (b : Nat → Nat) (σ : MS) (a1 : Int32) (post : Int32 → MS → Prop) (hw : wp_M_whose σ a1 post) (sz : Nat) : Met l yX11_whose (Wd yX11_whose cX11_whose 2 (some .int)) rm_M_whose (va_Pc [.ref (b 69), .int a1] (mPre D Z b sz σ)) (va_Qi post (mPost D Z b) (mA b sz)) 0 0 (mA b sz) := by
  refine mMi (by decide) rfl _ (Nat.le_of_ble_eq_true rfl) (fun p e s m args below meth c C hr hk ls hl hH => ?_) sz
  obtain ⟨⟨hx, hb, hml, hown, hts⟩, hK⟩ := id C
  have hl : lv_has ls 2 [(0, .ref (b 69)), (1, .int a1)] := hl
  unfold wp_M_whose at hw
  refine lv_aload_n hx hb dX11_whose_0 rfl (lv_at hl 0 rfl) ?_
  refine lv_iload_n hx hb dX11_whose_1 rfl (lv_at hl 1 rfl) ?_
  refine mcVi C hH [.int a1] (fun sz => c_M_isLoad l D Z b σ a1 _ hw sz) (cwTV 1 hts wd_1421 wd_1423 ws_64 wd_14 wd_1424 rfl rfl (by decide +kernel) ⟨Nat.le_of_ble_eq_true rfl, Nat.le_of_ble_eq_true rfl⟩) rfl hl.1 rfl (Nat.le_of_ble_eq_true rfl) dX11_whose_2 ⟨Nat.zero_le _, Nat.zero_le _⟩ (fun r2 σ1 H locs hw hH => ?_)
  refine lv_if_eq (tgt := 16) hx hb dX11_whose_5 (by decide) (fun c3 => ?_) (fun c3 => ?_)
  · have hw := ifp c3 hw
    refine lv_iconst (v := -1) hx hb dX11_whose_16 (by decide) ?_
    exact mri C hr hk hH hw dX11_whose_17
  · have hw := ifn c3 hw
    refine lv_aload_n hx hb dX11_whose_8 rfl (lv_at hl 0 rfl) ?_
    refine lv_iload_n hx hb dX11_whose_9 rfl (lv_at hl 1 rfl) ?_
    refine mcVi C hH [.int a1] (fun sz => c_M_whoseNow l D Z b σ1 a1 _ hw sz) (cwTV 1 hts wd_1454 wd_1456 ws_69 wd_14 wd_1457 rfl rfl (by decide +kernel) ⟨Nat.le_of_ble_eq_true rfl, Nat.le_of_ble_eq_true rfl⟩) rfl hl.1 rfl (Nat.le_of_ble_eq_true rfl) dX11_whose_10 ⟨Nat.zero_le _, Nat.zero_le _⟩ (fun r5 σ4 H locs hw hH => ?_)
    refine lv_goto (tgt := 17) hx hb dX11_whose_13 (by decide) ?_
    exact mri C hr hk hH hw dX11_whose_17
/-! mayGo -/
abbrev rm_M_mayGo : Room := { frames := 0, cells := 0, slots := 0, locals := 0 }
def wp_M_mayGo_63 (post : Int32 → MS → Prop) (σ : MS) (t0_ : Int32) (t1_ : Int32) : Prop := if t1_ < t0_ then (post (0 : Int32) σ) else (post (1 : Int32) σ)
set_option maxHeartbeats 4000000 in
set_option maxRecDepth 100000 in
theorem b_M_mayGo_63 {p : Program} {l : Launch} {e : Env} {s : State} {m : MethodId} {args : Array Value} {below : List Frame} {meth : Method} {c : Code} {D : va_G} {Z : Nat → ClassId} {b : Nat → Nat} (C : MC p s m args c cX11_mayGo 3 D Z) (hr : meth.sig.returnType = some .boolean) (hk : meth.locks = false) {post : Int32 → MS → Prop} : ∀ (σ : MS) (t0_ : Int32) (t1_ : Int32), wp_M_mayGo_63  post σ t0_ t1_ → ∀ (H : Heap) (locs : List Loc) (ls : Array Slot), MH D Z b s.heap σ H locs → lv_has ls 3 [] → MWi p l e rm_M_mayGo s m args below meth c D Z b post H locs (F0 m 63 ls [.int t1_, .int t0_]) := by
  obtain ⟨⟨hx, hb, hml, hown, hts⟩, hK⟩ := id C
  intro σ t0_ t1_ hw H locs ls hH hl
  unfold wp_M_mayGo_63 at hw
  refine lv_icmp_gt (tgt := 70) hx hb dX11_mayGo_63 (by decide) (fun c1 => ?_) (fun c1 => ?_)
  · have hw := ifp c1 hw
    refine lv_iconst (v := 0) hx hb dX11_mayGo_70 (by decide) ?_
    exact mrz C hr hk hH bz0 hw dX11_mayGo_71
  · have hw := ifn c1 hw
    refine lv_iconst (v := 1) hx hb dX11_mayGo_66 (by decide) ?_
    refine lv_goto (tgt := 71) hx hb dX11_mayGo_67 (by decide) ?_
    exact mrz C hr hk hH bz1 hw dX11_mayGo_71
def wp_M_mayGo (σ : MS) (a1 : Int32) (a2 : Int32) (post : Int32 → MS → Prop) : Prop := vp_in a1 60 ∧ (if (σ 62 a1.toNatClampNeg) = 0 then (vp_in a1 60 ∧ (if (σ 1 0) < (σ 16 a1.toNatClampNeg) then (post (0 : Int32) σ) else (vp_in a1 60 ∧ (if (σ 1 0) < (σ 17 a1.toNatClampNeg) then (post (0 : Int32) σ) else (vp_in a1 60 ∧ (vp_in a1 60 ∧ (if (σ 13 a1.toNatClampNeg) < (60 : Int32) then (wp_M_mayGo_63 post σ ((σ 15 a1.toNatClampNeg) + a2) (480 : Int32)) else (wp_M_mayGo_63 post σ ((σ 15 a1.toNatClampNeg) + a2) (240 : Int32))))))))) else (post (0 : Int32) σ))
set_option maxHeartbeats 4000000 in
set_option maxRecDepth 100000 in
theorem c_M_mayGo (l : Launch) (D : va_G) (Z : Nat → ClassId) (b : Nat → Nat) (σ : MS) (a1 : Int32) (a2 : Int32) (post : Int32 → MS → Prop) (hw : wp_M_mayGo σ a1 a2 post) (sz : Nat) : Met l yX11_mayGo (Wd yX11_mayGo cX11_mayGo 3 (some .boolean)) rm_M_mayGo (va_Pc [.ref (b 69), .int a1, .int a2] (mPre D Z b sz σ)) (va_Qi post (mPost D Z b) (mA b sz)) 0 0 (mA b sz) := by
  refine mMi (by decide) rfl _ (Nat.le_of_ble_eq_true rfl) (fun p e s m args below meth c C hr hk ls hl hH => ?_) sz
  obtain ⟨⟨hx, hb, hml, hown, hts⟩, hK⟩ := id C
  have hl : lv_has ls 3 [(0, .ref (b 69)), (1, .int a1), (2, .int a2)] := hl
  unfold wp_M_mayGo at hw
  refine lv_aload_n hx hb dX11_mayGo_0 rfl (lv_at hl 0 rfl) ?_
  refine mg C hH 62 (by decide) rfl wd_1091 rfl dX11_mayGo_1 ?_
  refine lv_iload_n hx hb dX11_mayGo_4 rfl (lv_at hl 1 rfl) ?_
  obtain ⟨h2, hw⟩ := hw
  refine maz C hH 48 62 rfl h2 dX11_mayGo_5 ?_
  refine lv_if_ne (tgt := 70) hx hb dX11_mayGo_6 (by decide) (fun c3 => ?_) (fun c3 => ?_)
  · have hw := ifn c3 hw
    refine lv_iconst (v := 0) hx hb dX11_mayGo_70 (by decide) ?_
    exact mrz C hr hk hH bz0 hw dX11_mayGo_71
  · have hw := ifp c3 hw
    refine lv_aload_n hx hb dX11_mayGo_9 rfl (lv_at hl 0 rfl) ?_
    refine mg C hH 16 (by decide) rfl wd_1045 rfl dX11_mayGo_10 ?_
    refine lv_iload_n hx hb dX11_mayGo_13 rfl (lv_at hl 1 rfl) ?_
    obtain ⟨h4, hw⟩ := hw
    refine mai C hH 12 16 rfl h4 dX11_mayGo_14 ?_
    refine lv_aload_n hx hb dX11_mayGo_15 rfl (lv_at hl 0 rfl) ?_
    refine mg C hH 1 (by decide) rfl wd_1030 rfl dX11_mayGo_16 ?_
    refine lv_icmp_gt (tgt := 70) hx hb dX11_mayGo_19 (by decide) (fun c5 => ?_) (fun c5 => ?_)
    · have hw := ifp c5 hw
      refine lv_iconst (v := 0) hx hb dX11_mayGo_70 (by decide) ?_
      exact mrz C hr hk hH bz0 hw dX11_mayGo_71
    · have hw := ifn c5 hw
      refine lv_aload_n hx hb dX11_mayGo_22 rfl (lv_at hl 0 rfl) ?_
      refine mg C hH 17 (by decide) rfl wd_1046 rfl dX11_mayGo_23 ?_
      refine lv_iload_n hx hb dX11_mayGo_26 rfl (lv_at hl 1 rfl) ?_
      obtain ⟨h6, hw⟩ := hw
      refine mai C hH 13 17 rfl h6 dX11_mayGo_27 ?_
      refine lv_aload_n hx hb dX11_mayGo_28 rfl (lv_at hl 0 rfl) ?_
      refine mg C hH 1 (by decide) rfl wd_1030 rfl dX11_mayGo_29 ?_
      refine lv_icmp_gt (tgt := 70) hx hb dX11_mayGo_32 (by decide) (fun c7 => ?_) (fun c7 => ?_)
      · have hw := ifp c7 hw
        refine lv_iconst (v := 0) hx hb dX11_mayGo_70 (by decide) ?_
        exact mrz C hr hk hH bz0 hw dX11_mayGo_71
      · have hw := ifn c7 hw
        refine lv_aload_n hx hb dX11_mayGo_35 rfl (lv_at hl 0 rfl) ?_
        refine mg C hH 15 (by decide) rfl wd_1044 rfl dX11_mayGo_36 ?_
        refine lv_iload_n hx hb dX11_mayGo_39 rfl (lv_at hl 1 rfl) ?_
        obtain ⟨h8, hw⟩ := hw
        refine mai C hH 11 15 rfl h8 dX11_mayGo_40 ?_
        refine lv_iload_n hx hb dX11_mayGo_41 rfl (lv_at hl 2 rfl) ?_
        refine lv_iadd hx hb dX11_mayGo_42 ?_
        refine lv_aload_n hx hb dX11_mayGo_43 rfl (lv_at hl 0 rfl) ?_
        refine mg C hH 13 (by decide) rfl wd_1042 rfl dX11_mayGo_44 ?_
        refine lv_iload_n hx hb dX11_mayGo_47 rfl (lv_at hl 1 rfl) ?_
        obtain ⟨h9, hw⟩ := hw
        refine mai C hH 9 13 rfl h9 dX11_mayGo_48 ?_
        refine lv_bipush (v := 60) hx hb dX11_mayGo_49 (by decide) ?_
        refine lv_icmp_lt (tgt := 60) hx hb dX11_mayGo_51 (by decide) (fun c10 => ?_) (fun c10 => ?_)
        · have hw := ifp c10 hw
          refine lv_sipush (v := 480) hx hb dX11_mayGo_60 (by decide) ?_
          exact b_M_mayGo_63 C hr hk  σ ((σ 15 a1.toNatClampNeg) + a2) (480 : Int32) hw _ _ _ hH (lv_sub hl [] rfl)
        · have hw := ifn c10 hw
          refine lv_sipush (v := 240) hx hb dX11_mayGo_54 (by decide) ?_
          refine lv_goto (tgt := 63) hx hb dX11_mayGo_57 (by decide) ?_
          exact b_M_mayGo_63 C hr hk  σ ((σ 15 a1.toNatClampNeg) + a2) (240 : Int32) hw _ _ _ hH (lv_sub hl [] rfl)
/-! isEnough -/
abbrev rm_M_isEnough : Room := { frames := 1, cells := 0, slots := 0, locals := 22 }
def wp_M_isEnough_5 (post : Int32 → MS → Prop) : Nat → MS → Int32 → Int32 → Int32 → Int32 → Prop
  | 0 => fun _ _ _ _ _ => False
  | n + 1 => fun σ x1_ x2_ x3_ x4_ => if (σ 60 0) ≤ x4_ then (if (σ 60 0) < x2_ then (post (0 : Int32) σ) else (vp_in x1_ 200 ∧ (vp_in x1_ 200 ∧ (vp_in x1_ 200 ∧ (wp_M_up σ (σ 46 x1_.toNatClampNeg) (σ 47 x1_.toNatClampNeg) (fun r7 σ6 => if ((4 : Int32) * x3_) < ((σ 45 x1_.toNatClampNeg) + r7) then (post (0 : Int32) σ6) else (post (1 : Int32) σ6))))))) else (vp_in x4_ 8 ∧ (vp_in (σ 61 x4_.toNatClampNeg) 60 ∧ (∀ x11 : Int32, x11 = (x3_ + (σ 12 (σ 61 x4_.toNatClampNeg).toNatClampNeg)) → (∀ x12 : Int32, x12 = x4_ + (1 : Int32) → (wp_M_isEnough_5  post n σ x1_ x2_ x11 x12)))))
set_option maxHeartbeats 4000000 in
set_option maxRecDepth 100000 in
theorem b_M_isEnough_5 {p : Program} {l : Launch} {e : Env} {s : State} {m : MethodId} {args : Array Value} {below : List Frame} {meth : Method} {c : Code} {D : va_G} {Z : Nat → ClassId} {b : Nat → Nat} (C : MC p s m args c cX11_isEnough 5 D Z) (hr : meth.sig.returnType = some .boolean) (hk : meth.locks = false) {post : Int32 → MS → Prop} : ∀ (n : Nat) (σ : MS) (x1_ : Int32) (x2_ : Int32) (x3_ : Int32) (x4_ : Int32), wp_M_isEnough_5  post n σ x1_ x2_ x3_ x4_ → ∀ (H : Heap) (locs : List Loc) (ls : Array Slot), MH D Z b s.heap σ H locs → lv_has ls 5 [(0, .ref (b 69)), (1, .int x1_), (2, .int x2_), (3, .int x3_), (4, .int x4_)] → MWi p l e rm_M_isEnough s m args below meth c D Z b post H locs (F0 m 5 ls []) := by
  obtain ⟨⟨hx, hb, hml, hown, hts⟩, hK⟩ := id C
  intro n
  induction n with
  | zero => intro σ x1_ x2_ x3_ x4_ hw; exact hw.elim
  | succ n ih =>
    intro σ x1_ x2_ x3_ x4_ hw H locs ls hH hl
    unfold wp_M_isEnough_5 at hw
    refine lv_iload hx hb dX11_isEnough_5 (lv_at hl 4 rfl) ?_
    refine lv_aload_n hx hb dX11_isEnough_7 rfl (lv_at hl 0 rfl) ?_
    refine mg C hH 60 (by decide) rfl wd_1089 rfl dX11_isEnough_8 ?_
    refine lv_icmp_ge (tgt := 35) hx hb dX11_isEnough_11 (by decide) (fun c1 => ?_) (fun c1 => ?_)
    · have hw := ifp c1 hw
      refine lv_aload_n hx hb dX11_isEnough_35 rfl (lv_at hl 0 rfl) ?_
      refine mg C hH 60 (by decide) rfl wd_1089 rfl dX11_isEnough_36 ?_
      refine lv_iload_n hx hb dX11_isEnough_39 rfl (lv_at hl 2 rfl) ?_
      refine lv_icmp_lt (tgt := 76) hx hb dX11_isEnough_40 (by decide) (fun c2 => ?_) (fun c2 => ?_)
      · have hw := ifp c2 hw
        refine lv_iconst (v := 0) hx hb dX11_isEnough_76 (by decide) ?_
        exact mrz C hr hk hH bz0 hw dX11_isEnough_77
      · have hw := ifn c2 hw
        refine lv_iconst (v := 4) hx hb dX11_isEnough_43 (by decide) ?_
        refine lv_iload_n hx hb dX11_isEnough_44 rfl (lv_at hl 3 rfl) ?_
        refine lv_imul hx hb dX11_isEnough_45 ?_
        refine lv_aload_n hx hb dX11_isEnough_46 rfl (lv_at hl 0 rfl) ?_
        refine mg C hH 45 (by decide) rfl wd_1074 rfl dX11_isEnough_47 ?_
        refine lv_iload_n hx hb dX11_isEnough_50 rfl (lv_at hl 1 rfl) ?_
        obtain ⟨h3, hw⟩ := hw
        refine mai C hH 32 45 rfl h3 dX11_isEnough_51 ?_
        refine lv_aload_n hx hb dX11_isEnough_52 rfl (lv_at hl 0 rfl) ?_
        refine lv_aload_n hx hb dX11_isEnough_53 rfl (lv_at hl 0 rfl) ?_
        refine mg C hH 46 (by decide) rfl wd_1075 rfl dX11_isEnough_54 ?_
        refine lv_iload_n hx hb dX11_isEnough_57 rfl (lv_at hl 1 rfl) ?_
        obtain ⟨h4, hw⟩ := hw
        refine mai C hH 33 46 rfl h4 dX11_isEnough_58 ?_
        refine lv_aload_n hx hb dX11_isEnough_59 rfl (lv_at hl 0 rfl) ?_
        refine mg C hH 47 (by decide) rfl wd_1076 rfl dX11_isEnough_60 ?_
        refine lv_iload_n hx hb dX11_isEnough_63 rfl (lv_at hl 1 rfl) ?_
        obtain ⟨h5, hw⟩ := hw
        refine mai C hH 34 47 rfl h5 dX11_isEnough_64 ?_
        refine mcVi C hH [.int (σ 46 x1_.toNatClampNeg), .int (σ 47 x1_.toNatClampNeg)] (fun sz => c_M_up l D Z b σ (σ 46 x1_.toNatClampNeg) (σ 47 x1_.toNatClampNeg) _ hw sz) (cwTV 2 hts wd_1267 wd_1269 ws_48 wd_14 wd_1270 rfl rfl (by decide +kernel) ⟨Nat.le_of_ble_eq_true rfl, Nat.le_of_ble_eq_true rfl⟩) rfl hl.1 rfl (Nat.le_of_ble_eq_true rfl) dX11_isEnough_65 ⟨Nat.zero_le _, Nat.zero_le _⟩ (fun r7 σ6 H locs hw hH => ?_)
        refine lv_iadd hx hb dX11_isEnough_68 ?_
        refine lv_icmp_lt (tgt := 76) hx hb dX11_isEnough_69 (by decide) (fun c8 => ?_) (fun c8 => ?_)
        · have hw := ifp c8 hw
          refine lv_iconst (v := 0) hx hb dX11_isEnough_76 (by decide) ?_
          exact mrz C hr hk hH bz0 hw dX11_isEnough_77
        · have hw := ifn c8 hw
          refine lv_iconst (v := 1) hx hb dX11_isEnough_72 (by decide) ?_
          refine lv_goto (tgt := 77) hx hb dX11_isEnough_73 (by decide) ?_
          exact mrz C hr hk hH bz1 hw dX11_isEnough_77
    · have hw := ifn c1 hw
      refine lv_iload_n hx hb dX11_isEnough_14 rfl (lv_at hl 3 rfl) ?_
      refine lv_aload_n hx hb dX11_isEnough_15 rfl (lv_at hl 0 rfl) ?_
      refine mg C hH 12 (by decide) rfl wd_1041 rfl dX11_isEnough_16 ?_
      refine lv_aload_n hx hb dX11_isEnough_19 rfl (lv_at hl 0 rfl) ?_
      refine mg C hH 61 (by decide) rfl wd_1090 rfl dX11_isEnough_20 ?_
      refine lv_iload hx hb dX11_isEnough_23 (lv_at hl 4 rfl) ?_
      obtain ⟨h9, hw⟩ := hw
      refine mai C hH 47 61 rfl h9 dX11_isEnough_25 ?_
      obtain ⟨h10, hw⟩ := hw
      refine mai C hH 8 12 rfl h10 dX11_isEnough_26 ?_
      refine lv_iadd hx hb dX11_isEnough_27 ?_
      refine lv_topi (fun x11 ex11 => ?_)
      have hw := hw x11 ex11
      refine lv_istore_n (lv' := [(3, .int x11), (0, .ref (b 69)), (1, .int x1_), (2, .int x2_), (4, .int x4_)]) hx hb dX11_isEnough_28 rfl hl (by decide) rfl (fun ls hl => ?_)
      obtain ⟨x12, ex12⟩ : ∃ y : Int32, y = x4_ + (1 : Int32) := ⟨_, rfl⟩
      have hw := hw x12 ex12
      refine lv_iinc (v := x12) (lv' := [(4, .int x12), (3, .int x11), (0, .ref (b 69)), (1, .int x1_), (2, .int x2_)]) hx hb dX11_isEnough_29 hl (k := 4) rfl (by rw [ex12]; rfl) (by decide) rfl (fun ls hl => ?_)
      refine lv_goto (tgt := 5) hx hb dX11_isEnough_32 (by decide) ?_
      exact ih σ x1_ x2_ x11 x12 hw _ _ _ hH (lv_sub hl [2, 3, 4, 1, 0] rfl)
def wp_M_isEnough (σ : MS) (a1 : Int32) (a2 : Int32) (post : Int32 → MS → Prop) : Prop := ∃ nn : Nat, wp_M_isEnough_5  post nn σ a1 a2 (0 : Int32) (0 : Int32)
set_option maxHeartbeats 4000000 in
set_option maxRecDepth 100000 in
theorem c_M_isEnough (l : Launch) (D : va_G) (Z : Nat → ClassId) (b : Nat → Nat) (σ : MS) (a1 : Int32) (a2 : Int32) (post : Int32 → MS → Prop) (hw : wp_M_isEnough σ a1 a2 post) (sz : Nat) : Met l yX11_isEnough (Wd yX11_isEnough cX11_isEnough 5 (some .boolean)) rm_M_isEnough (va_Pc [.ref (b 69), .int a1, .int a2] (mPre D Z b sz σ)) (va_Qi post (mPost D Z b) (mA b sz)) 0 0 (mA b sz) := by
  refine mMi (by decide) rfl _ (Nat.le_of_ble_eq_true rfl) (fun p e s m args below meth c C hr hk ls hl hH => ?_) sz
  obtain ⟨⟨hx, hb, hml, hown, hts⟩, hK⟩ := id C
  have hl : lv_has ls 5 [(0, .ref (b 69)), (1, .int a1), (2, .int a2)] := hl
  unfold wp_M_isEnough at hw
  refine lv_iconst (v := 0) hx hb dX11_isEnough_0 (by decide) ?_
  refine lv_istore_n (lv' := [(3, .int (0 : Int32)), (0, .ref (b 69)), (1, .int a1), (2, .int a2)]) hx hb dX11_isEnough_1 rfl hl (by decide) rfl (fun ls hl => ?_)
  refine lv_iconst (v := 0) hx hb dX11_isEnough_2 (by decide) ?_
  refine lv_istore (lv' := [(4, .int (0 : Int32)), (3, .int (0 : Int32)), (0, .ref (b 69)), (1, .int a1), (2, .int a2)]) hx hb dX11_isEnough_3 hl (by decide) rfl (fun ls hl => ?_)
  obtain ⟨nn, hw⟩ := hw
  exact b_M_isEnough_5 C hr hk  nn σ a1 a2 (0 : Int32) (0 : Int32) hw _ _ _ hH (lv_sub hl [2, 3, 4, 1, 0] rfl)
