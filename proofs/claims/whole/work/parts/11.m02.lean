/-! parse -/
abbrev rm_M_parse : Room := { frames := 2, cells := 0, slots := 0, locals := 45 }
def wp_M_parse_681 (k26 : MS → Int32 → Int32 → Int32 → Int32 → Prop) (post : Int32 → MS → Prop) (σ : MS) (x1_ : Int32) (x2_ : Int32) (x3_ : Int32) (x4_ : Int32) : Prop := wp_M_advance σ  (fun σ1 => k26 σ1 x1_ x2_ x3_ x4_)
set_option maxHeartbeats 4000000 in
set_option maxRecDepth 100000 in
theorem b_M_parse_681 {p : Program} {l : Launch} {e : Env} {s : State} {m : MethodId} {args : Array Value} {below : List Frame} {meth : Method} {c : Code} {D : va_G} {Z : Nat → ClassId} {b : Nat → Nat} (C : MC p s m args c cX11_parse 6 D Z) (hr : meth.sig.returnType = some .int) (hk : meth.locks = false) {post : Int32 → MS → Prop} {k26 : MS → Int32 → Int32 → Int32 → Int32 → Prop} (hk26 : ∀ (σ : MS) (y1 : Int32) (y2 : Int32) (y3 : Int32) (y4 : Int32), k26 σ y1 y2 y3 y4 → ∀ (H : Heap) (locs : List Loc) (ls : Array Slot), MH D Z b s.heap σ H locs → lv_has ls 6 [(0, .ref (b 69)), (1, .int y1), (2, .int y2), (3, .int y3), (4, .int y4)] → MWi p l e rm_M_parse s m args below meth c D Z b post H locs (F0 m 26 ls [])) : ∀ (σ : MS) (x1_ : Int32) (x2_ : Int32) (x3_ : Int32) (x4_ : Int32), wp_M_parse_681 k26 post σ x1_ x2_ x3_ x4_ → ∀ (H : Heap) (locs : List Loc) (ls : Array Slot), MH D Z b s.heap σ H locs → lv_has ls 6 [(0, .ref (b 69)), (1, .int x1_), (2, .int x2_), (3, .int x3_), (4, .int x4_)] → MWi p l e rm_M_parse s m args below meth c D Z b post H locs (F0 m 681 ls []) := by
  obtain ⟨⟨hx, hb, hml, hown, hts⟩, hK⟩ := id C
  intro σ x1_ x2_ x3_ x4_ hw H locs ls hH hl
  unfold wp_M_parse_681 at hw
  refine lv_aload_n hx hb dX11_parse_681 rfl (lv_at hl 0 rfl) ?_
  refine mcVv C hH [] (fun sz => c_M_advance l D Z b σ  _ hw sz) (cwTV 0 hts wd_1349 wd_1351 ws_57 wd_14 wd_1352 rfl rfl (by decide +kernel) ⟨Nat.le_of_ble_eq_true rfl, Nat.le_of_ble_eq_true rfl⟩) rfl hl.1 rfl (Nat.le_of_ble_eq_true rfl) dX11_parse_682 ⟨Nat.zero_le _, Nat.zero_le _⟩ (fun  σ1 H locs hw hH => ?_)
  refine lv_goto (tgt := 26) hx hb dX11_parse_685 (by decide) ?_
  exact hk26 σ1 x1_ x2_ x3_ x4_ hw _ _ _ hH (lv_sub hl [0, 1, 2, 3, 4] rfl)
def wp_M_parse_680 (k26 : MS → Int32 → Int32 → Int32 → Int32 → Prop) (post : Int32 → MS → Prop) (σ : MS) (x1_ : Int32) (x2_ : Int32) (x4_ : Int32) (t0_ : Int32) : Prop := wp_M_parse_681 (k26) post σ x1_ x2_ t0_ x4_
set_option maxHeartbeats 4000000 in
set_option maxRecDepth 100000 in
theorem b_M_parse_680 {p : Program} {l : Launch} {e : Env} {s : State} {m : MethodId} {args : Array Value} {below : List Frame} {meth : Method} {c : Code} {D : va_G} {Z : Nat → ClassId} {b : Nat → Nat} (C : MC p s m args c cX11_parse 6 D Z) (hr : meth.sig.returnType = some .int) (hk : meth.locks = false) {post : Int32 → MS → Prop} {k26 : MS → Int32 → Int32 → Int32 → Int32 → Prop} (hk26 : ∀ (σ : MS) (y1 : Int32) (y2 : Int32) (y3 : Int32) (y4 : Int32), k26 σ y1 y2 y3 y4 → ∀ (H : Heap) (locs : List Loc) (ls : Array Slot), MH D Z b s.heap σ H locs → lv_has ls 6 [(0, .ref (b 69)), (1, .int y1), (2, .int y2), (3, .int y3), (4, .int y4)] → MWi p l e rm_M_parse s m args below meth c D Z b post H locs (F0 m 26 ls [])) : ∀ (σ : MS) (x1_ : Int32) (x2_ : Int32) (x4_ : Int32) (t0_ : Int32), wp_M_parse_680 k26 post σ x1_ x2_ x4_ t0_ → ∀ (H : Heap) (locs : List Loc) (ls : Array Slot), MH D Z b s.heap σ H locs → lv_has ls 6 [(0, .ref (b 69)), (1, .int x1_), (2, .int x2_), (4, .int x4_)] → MWi p l e rm_M_parse s m args below meth c D Z b post H locs (F0 m 680 ls [.int t0_]) := by
  obtain ⟨⟨hx, hb, hml, hown, hts⟩, hK⟩ := id C
  intro σ x1_ x2_ x4_ t0_ hw H locs ls hH hl
  unfold wp_M_parse_680 at hw
  refine lv_istore_n (lv' := [(3, .int t0_), (0, .ref (b 69)), (1, .int x1_), (2, .int x2_), (4, .int x4_)]) hx hb dX11_parse_680 rfl hl (by decide) rfl (fun ls hl => ?_)
  exact b_M_parse_681 C hr hk hk26 σ x1_ x2_ t0_ x4_ hw _ _ _ hH (lv_sub hl [1, 2, 3, 0, 4] rfl)
def wp_M_parse_641 (k26 : MS → Int32 → Int32 → Int32 → Int32 → Prop) (post : Int32 → MS → Prop) (σ : MS) (x1_ : Int32) (x4_ : Int32) : Prop := vp_in (σ 39 0) 220 ∧ (∀ σ3 : MS, σ3 = up2 σ 38 (σ 39 0).toNatClampNeg (σ 35 0) → (∀ σ4 : MS, σ4 = up2 σ3 39 0 ((σ3 39 0) + (1 : Int32)) → (if (40 : Int32) ≤ (σ4 35 0) then (wp_M_parse_680 (k26) post σ4 x1_ (1 : Int32) x4_ (0 : Int32)) else (wp_M_parse_680 (k26) post σ4 x1_ (1 : Int32) x4_ (1 : Int32)))))
set_option maxHeartbeats 4000000 in
set_option maxRecDepth 100000 in
theorem b_M_parse_641 {p : Program} {l : Launch} {e : Env} {s : State} {m : MethodId} {args : Array Value} {below : List Frame} {meth : Method} {c : Code} {D : va_G} {Z : Nat → ClassId} {b : Nat → Nat} (C : MC p s m args c cX11_parse 6 D Z) (hr : meth.sig.returnType = some .int) (hk : meth.locks = false) {post : Int32 → MS → Prop} {k26 : MS → Int32 → Int32 → Int32 → Int32 → Prop} (hk26 : ∀ (σ : MS) (y1 : Int32) (y2 : Int32) (y3 : Int32) (y4 : Int32), k26 σ y1 y2 y3 y4 → ∀ (H : Heap) (locs : List Loc) (ls : Array Slot), MH D Z b s.heap σ H locs → lv_has ls 6 [(0, .ref (b 69)), (1, .int y1), (2, .int y2), (3, .int y3), (4, .int y4)] → MWi p l e rm_M_parse s m args below meth c D Z b post H locs (F0 m 26 ls [])) : ∀ (σ : MS) (x1_ : Int32) (x4_ : Int32), wp_M_parse_641 k26 post σ x1_ x4_ → ∀ (H : Heap) (locs : List Loc) (ls : Array Slot), MH D Z b s.heap σ H locs → lv_has ls 6 [(0, .ref (b 69)), (1, .int x1_), (4, .int x4_)] → MWi p l e rm_M_parse s m args below meth c D Z b post H locs (F0 m 641 ls []) := by
  obtain ⟨⟨hx, hb, hml, hown, hts⟩, hK⟩ := id C
  intro σ x1_ x4_ hw H locs ls hH hl
  unfold wp_M_parse_641 at hw
  refine lv_aload_n hx hb dX11_parse_641 rfl (lv_at hl 0 rfl) ?_
  refine mg C hH 38 (by decide) rfl wd_1067 rfl dX11_parse_642 ?_
  refine lv_aload_n hx hb dX11_parse_645 rfl (lv_at hl 0 rfl) ?_
  refine mg C hH 39 (by decide) rfl wd_1068 rfl dX11_parse_646 ?_
  refine lv_aload_n hx hb dX11_parse_649 rfl (lv_at hl 0 rfl) ?_
  refine mg C hH 35 (by decide) rfl wd_1064 rfl dX11_parse_650 ?_
  obtain ⟨h2, hw⟩ := hw
  refine msi C hH 28 38 rfl (mast_38 Z b σ _ _) h2 dX11_parse_653 (fun H locs hH => ?_)
  have hw := hw _ rfl
  generalize up2 σ 38 (σ 39 0).toNatClampNeg (σ 35 0) = σ3 at hw hH
  refine lv_aload_n hx hb dX11_parse_654 rfl (lv_at hl 0 rfl) ?_
  refine lv_dup hx hb dX11_parse_655 rfl ?_
  refine mg C hH 39 (by decide) rfl wd_1068 rfl dX11_parse_656 ?_
  refine lv_iconst (v := 1) hx hb dX11_parse_659 (by decide) ?_
  refine lv_iadd hx hb dX11_parse_660 ?_
  refine mp C hH 39 (by decide) rfl wd_1068 (mset_39 Z b σ3 _) dX11_parse_661 (fun H locs hH => ?_)
  have hw := hw _ rfl
  generalize up2 σ3 39 0 ((σ3 39 0) + (1 : Int32)) = σ4 at hw hH
  refine lv_iconst (v := 1) hx hb dX11_parse_664 (by decide) ?_
  refine lv_istore_n (lv' := [(2, .int (1 : Int32)), (0, .ref (b 69)), (1, .int x1_), (4, .int x4_)]) hx hb dX11_parse_665 rfl hl (by decide) rfl (fun ls hl => ?_)
  refine lv_aload_n hx hb dX11_parse_666 rfl (lv_at hl 1 rfl) ?_
  refine mg C hH 35 (by decide) rfl wd_1064 rfl dX11_parse_667 ?_
  refine lv_bipush (v := 40) hx hb dX11_parse_670 (by decide) ?_
  refine lv_icmp_ge (tgt := 679) hx hb dX11_parse_672 (by decide) (fun c5 => ?_) (fun c5 => ?_)
  · have hw := ifp c5 hw
    refine lv_iconst (v := 0) hx hb dX11_parse_679 (by decide) ?_
    exact b_M_parse_680 C hr hk hk26 σ4 x1_ (1 : Int32) x4_ (0 : Int32) hw _ _ _ hH (lv_sub hl [1, 2, 0, 3] rfl)
  · have hw := ifn c5 hw
    refine lv_iconst (v := 1) hx hb dX11_parse_675 (by decide) ?_
    refine lv_goto (tgt := 680) hx hb dX11_parse_676 (by decide) ?_
    exact b_M_parse_680 C hr hk hk26 σ4 x1_ (1 : Int32) x4_ (1 : Int32) hw _ _ _ hH (lv_sub hl [1, 2, 0, 3] rfl)
def wp_M_parse_603 (k26 : MS → Int32 → Int32 → Int32 → Int32 → Prop) (post : Int32 → MS → Prop) (σ : MS) (x1_ : Int32) (x4_ : Int32) (x5_ : Int32) (t1_ : Int32) (t2_ : Int32) : Prop := wp_M_done σ t1_ t2_ (fun σ6 => if x5_ = 0 then (wp_M_parse_641 (k26) post σ6 x1_ x4_) else (if (σ6 39 0) ≤ 0 then (wp_M_parse_641 (k26) post σ6 x1_ x4_) else (vp_in ((σ6 39 0) - (1 : Int32)) 220 ∧ (wp_M_tight σ6 (σ6 38 ((σ6 39 0) - (1 : Int32)).toNatClampNeg) (fun r11 σ10 => if r11 = (4 : Int32) then (post (σ10 36 0) σ10) else (wp_M_parse_641 (k26) post σ10 x1_ x4_))))))
set_option maxHeartbeats 4000000 in
set_option maxRecDepth 100000 in
theorem b_M_parse_603 {p : Program} {l : Launch} {e : Env} {s : State} {m : MethodId} {args : Array Value} {below : List Frame} {meth : Method} {c : Code} {D : va_G} {Z : Nat → ClassId} {b : Nat → Nat} (C : MC p s m args c cX11_parse 6 D Z) (hr : meth.sig.returnType = some .int) (hk : meth.locks = false) {post : Int32 → MS → Prop} {k26 : MS → Int32 → Int32 → Int32 → Int32 → Prop} (hk26 : ∀ (σ : MS) (y1 : Int32) (y2 : Int32) (y3 : Int32) (y4 : Int32), k26 σ y1 y2 y3 y4 → ∀ (H : Heap) (locs : List Loc) (ls : Array Slot), MH D Z b s.heap σ H locs → lv_has ls 6 [(0, .ref (b 69)), (1, .int y1), (2, .int y2), (3, .int y3), (4, .int y4)] → MWi p l e rm_M_parse s m args below meth c D Z b post H locs (F0 m 26 ls [])) : ∀ (σ : MS) (x1_ : Int32) (x4_ : Int32) (x5_ : Int32) (t1_ : Int32) (t2_ : Int32), wp_M_parse_603 k26 post σ x1_ x4_ x5_ t1_ t2_ → ∀ (H : Heap) (locs : List Loc) (ls : Array Slot), MH D Z b s.heap σ H locs → lv_has ls 6 [(0, .ref (b 69)), (1, .int x1_), (4, .int x4_), (5, .int x5_)] → MWi p l e rm_M_parse s m args below meth c D Z b post H locs (F0 m 603 ls [.int t2_, .int t1_, .ref (b 69)]) := by
  obtain ⟨⟨hx, hb, hml, hown, hts⟩, hK⟩ := id C
  intro σ x1_ x4_ x5_ t1_ t2_ hw H locs ls hH hl
  unfold wp_M_parse_603 at hw
  refine mcVv C hH [.int t1_, .int t2_] (fun sz => c_M_done l D Z b σ t1_ t2_ _ hw sz) (cwTV 2 hts wd_1394 wd_1396 ws_60 wd_14 wd_1397 rfl rfl (by decide +kernel) ⟨Nat.le_of_ble_eq_true rfl, Nat.le_of_ble_eq_true rfl⟩) rfl hl.1 rfl (Nat.le_of_ble_eq_true rfl) dX11_parse_603 ⟨Nat.zero_le _, Nat.zero_le _⟩ (fun  σ6 H locs hw hH => ?_)
  refine lv_iload hx hb dX11_parse_606 (lv_at hl 3 rfl) ?_
  refine lv_if_eq (tgt := 641) hx hb dX11_parse_608 (by decide) (fun c7 => ?_) (fun c7 => ?_)
  · have hw := ifp c7 hw
    exact b_M_parse_641 C hr hk hk26 σ6 x1_ x4_ hw _ _ _ hH (lv_sub hl [0, 1, 2] rfl)
  · have hw := ifn c7 hw
    refine lv_aload_n hx hb dX11_parse_611 rfl (lv_at hl 0 rfl) ?_
    refine mg C hH 39 (by decide) rfl wd_1068 rfl dX11_parse_612 ?_
    refine lv_if_le (tgt := 641) hx hb dX11_parse_615 (by decide) (fun c8 => ?_) (fun c8 => ?_)
    · have hw := ifp c8 hw
      exact b_M_parse_641 C hr hk hk26 σ6 x1_ x4_ hw _ _ _ hH (lv_sub hl [0, 1, 2] rfl)
    · have hw := ifn c8 hw
      refine lv_aload_n hx hb dX11_parse_618 rfl (lv_at hl 0 rfl) ?_
      refine mg C hH 38 (by decide) rfl wd_1067 rfl dX11_parse_619 ?_
      refine lv_aload_n hx hb dX11_parse_622 rfl (lv_at hl 0 rfl) ?_
      refine mg C hH 39 (by decide) rfl wd_1068 rfl dX11_parse_623 ?_
      refine lv_iconst (v := 1) hx hb dX11_parse_626 (by decide) ?_
      refine lv_isub hx hb dX11_parse_627 ?_
      obtain ⟨h9, hw⟩ := hw
      refine mai C hH 28 38 rfl h9 dX11_parse_628 ?_
      refine mcSi C hH [.int (σ6 38 ((σ6 39 0) - (1 : Int32)).toNatClampNeg)] (fun sz => c_M_tight l D Z b σ6 (σ6 38 ((σ6 39 0) - (1 : Int32)).toNatClampNeg) _ hw sz) (cwTS 1 hts wd_1398 wd_1399 wd_14 wd_1400 rfl rfl (by decide +kernel) ⟨Nat.le_of_ble_eq_true rfl, Nat.le_of_ble_eq_true rfl⟩) rfl hl.1 rfl (Nat.le_of_ble_eq_true rfl) dX11_parse_629 ⟨Nat.zero_le _, Nat.zero_le _⟩ (fun r11 σ10 H locs hw hH => ?_)
      refine lv_iconst (v := 4) hx hb dX11_parse_632 (by decide) ?_
      refine lv_icmp_ne (tgt := 641) hx hb dX11_parse_633 (by decide) (fun c12 => ?_) (fun c12 => ?_)
      · have hw := ifn c12 hw
        exact b_M_parse_641 C hr hk hk26 σ10 x1_ x4_ hw _ _ _ hH (lv_sub hl [0, 1, 2] rfl)
      · have hw := ifp c12 hw
        refine lv_aload_n hx hb dX11_parse_636 rfl (lv_at hl 0 rfl) ?_
        refine mg C hH 36 (by decide) rfl wd_1065 rfl dX11_parse_637 ?_
        exact mri C hr hk hH hw dX11_parse_640
def wp_M_parse_583 (k26 : MS → Int32 → Int32 → Int32 → Int32 → Prop) (post : Int32 → MS → Prop) (σ : MS) (x1_ : Int32) (x4_ : Int32) (t0_ : Int32) : Prop := if t0_ = 0 then (wp_M_tight σ (σ 35 0) (fun r15 σ14 => wp_M_parse_603 (k26) post σ14 x1_ x4_ t0_ x1_ r15)) else (wp_M_parse_603 (k26) post σ x1_ x4_ t0_ x1_ (5 : Int32))
set_option maxHeartbeats 4000000 in
set_option maxRecDepth 100000 in
theorem b_M_parse_583 {p : Program} {l : Launch} {e : Env} {s : State} {m : MethodId} {args : Array Value} {below : List Frame} {meth : Method} {c : Code} {D : va_G} {Z : Nat → ClassId} {b : Nat → Nat} (C : MC p s m args c cX11_parse 6 D Z) (hr : meth.sig.returnType = some .int) (hk : meth.locks = false) {post : Int32 → MS → Prop} {k26 : MS → Int32 → Int32 → Int32 → Int32 → Prop} (hk26 : ∀ (σ : MS) (y1 : Int32) (y2 : Int32) (y3 : Int32) (y4 : Int32), k26 σ y1 y2 y3 y4 → ∀ (H : Heap) (locs : List Loc) (ls : Array Slot), MH D Z b s.heap σ H locs → lv_has ls 6 [(0, .ref (b 69)), (1, .int y1), (2, .int y2), (3, .int y3), (4, .int y4)] → MWi p l e rm_M_parse s m args below meth c D Z b post H locs (F0 m 26 ls [])) : ∀ (σ : MS) (x1_ : Int32) (x4_ : Int32) (t0_ : Int32), wp_M_parse_583 k26 post σ x1_ x4_ t0_ → ∀ (H : Heap) (locs : List Loc) (ls : Array Slot), MH D Z b s.heap σ H locs → lv_has ls 6 [(0, .ref (b 69)), (1, .int x1_), (4, .int x4_)] → MWi p l e rm_M_parse s m args below meth c D Z b post H locs (F0 m 583 ls [.int t0_]) := by
  obtain ⟨⟨hx, hb, hml, hown, hts⟩, hK⟩ := id C
  intro σ x1_ x4_ t0_ hw H locs ls hH hl
  unfold wp_M_parse_583 at hw
  refine lv_istore (lv' := [(5, .int t0_), (0, .ref (b 69)), (1, .int x1_), (4, .int x4_)]) hx hb dX11_parse_583 hl (by decide) rfl (fun ls hl => ?_)
  refine lv_aload_n hx hb dX11_parse_585 rfl (lv_at hl 1 rfl) ?_
  refine lv_iload_n hx hb dX11_parse_586 rfl (lv_at hl 2 rfl) ?_
  refine lv_iload hx hb dX11_parse_587 (lv_at hl 0 rfl) ?_
  refine lv_if_eq (tgt := 596) hx hb dX11_parse_589 (by decide) (fun c13 => ?_) (fun c13 => ?_)
  · have hw := ifp c13 hw
    refine lv_aload_n hx hb dX11_parse_596 rfl (lv_at hl 1 rfl) ?_
    refine mg C hH 35 (by decide) rfl wd_1064 rfl dX11_parse_597 ?_
    refine mcSi C hH [.int (σ 35 0)] (fun sz => c_M_tight l D Z b σ (σ 35 0) _ hw sz) (cwTS 1 hts wd_1398 wd_1399 wd_14 wd_1400 rfl rfl (by decide +kernel) ⟨Nat.le_of_ble_eq_true rfl, Nat.le_of_ble_eq_true rfl⟩) rfl hl.1 rfl (Nat.le_of_ble_eq_true rfl) dX11_parse_600 ⟨Nat.zero_le _, Nat.zero_le _⟩ (fun r15 σ14 H locs hw hH => ?_)
    exact b_M_parse_603 C hr hk hk26 σ14 x1_ x4_ t0_ x1_ r15 hw _ _ _ hH (lv_sub hl [1, 2, 3, 0] rfl)
  · have hw := ifn c13 hw
    refine lv_iconst (v := 5) hx hb dX11_parse_592 (by decide) ?_
    refine lv_goto (tgt := 603) hx hb dX11_parse_593 (by decide) ?_
    exact b_M_parse_603 C hr hk hk26 σ x1_ x4_ t0_ x1_ (5 : Int32) hw _ _ _ hH (lv_sub hl [1, 2, 3, 0] rfl)
def wp_M_parse_567 (k26 : MS → Int32 → Int32 → Int32 → Int32 → Prop) (post : Int32 → MS → Prop) (σ : MS) (x1_ : Int32) (x4_ : Int32) : Prop := wp_M_tight σ (σ 35 0) (fun r17 σ16 => if r17 = (4 : Int32) then (wp_M_parse_583 (k26) post σ16 x1_ x4_ (1 : Int32)) else (wp_M_parse_583 (k26) post σ16 x1_ x4_ (0 : Int32)))
set_option maxHeartbeats 4000000 in
set_option maxRecDepth 100000 in
theorem b_M_parse_567 {p : Program} {l : Launch} {e : Env} {s : State} {m : MethodId} {args : Array Value} {below : List Frame} {meth : Method} {c : Code} {D : va_G} {Z : Nat → ClassId} {b : Nat → Nat} (C : MC p s m args c cX11_parse 6 D Z) (hr : meth.sig.returnType = some .int) (hk : meth.locks = false) {post : Int32 → MS → Prop} {k26 : MS → Int32 → Int32 → Int32 → Int32 → Prop} (hk26 : ∀ (σ : MS) (y1 : Int32) (y2 : Int32) (y3 : Int32) (y4 : Int32), k26 σ y1 y2 y3 y4 → ∀ (H : Heap) (locs : List Loc) (ls : Array Slot), MH D Z b s.heap σ H locs → lv_has ls 6 [(0, .ref (b 69)), (1, .int y1), (2, .int y2), (3, .int y3), (4, .int y4)] → MWi p l e rm_M_parse s m args below meth c D Z b post H locs (F0 m 26 ls [])) : ∀ (σ : MS) (x1_ : Int32) (x4_ : Int32), wp_M_parse_567 k26 post σ x1_ x4_ → ∀ (H : Heap) (locs : List Loc) (ls : Array Slot), MH D Z b s.heap σ H locs → lv_has ls 6 [(0, .ref (b 69)), (1, .int x1_), (4, .int x4_)] → MWi p l e rm_M_parse s m args below meth c D Z b post H locs (F0 m 567 ls []) := by
  obtain ⟨⟨hx, hb, hml, hown, hts⟩, hK⟩ := id C
  intro σ x1_ x4_ hw H locs ls hH hl
  unfold wp_M_parse_567 at hw
  refine lv_aload_n hx hb dX11_parse_567 rfl (lv_at hl 0 rfl) ?_
  refine mg C hH 35 (by decide) rfl wd_1064 rfl dX11_parse_568 ?_
  refine mcSi C hH [.int (σ 35 0)] (fun sz => c_M_tight l D Z b σ (σ 35 0) _ hw sz) (cwTS 1 hts wd_1398 wd_1399 wd_14 wd_1400 rfl rfl (by decide +kernel) ⟨Nat.le_of_ble_eq_true rfl, Nat.le_of_ble_eq_true rfl⟩) rfl hl.1 rfl (Nat.le_of_ble_eq_true rfl) dX11_parse_571 ⟨Nat.zero_le _, Nat.zero_le _⟩ (fun r17 σ16 H locs hw hH => ?_)
  refine lv_iconst (v := 4) hx hb dX11_parse_574 (by decide) ?_
  refine lv_icmp_ne (tgt := 582) hx hb dX11_parse_575 (by decide) (fun c18 => ?_) (fun c18 => ?_)
  · have hw := ifn c18 hw
    refine lv_iconst (v := 0) hx hb dX11_parse_582 (by decide) ?_
    exact b_M_parse_583 C hr hk hk26 σ16 x1_ x4_ (0 : Int32) hw _ _ _ hH (lv_sub hl [0, 1, 2] rfl)
  · have hw := ifp c18 hw
    refine lv_iconst (v := 1) hx hb dX11_parse_578 (by decide) ?_
    refine lv_goto (tgt := 583) hx hb dX11_parse_579 (by decide) ?_
    exact b_M_parse_583 C hr hk hk26 σ16 x1_ x4_ (1 : Int32) hw _ _ _ hH (lv_sub hl [0, 1, 2] rfl)
def wp_M_parse_452 (k26 : MS → Int32 → Int32 → Int32 → Int32 → Prop) (post : Int32 → MS → Prop) (σ : MS) (x1_ : Int32) (t1_ : Int32) (t2_ : Int32) : Prop := wp_M_lay σ t1_ t2_ (0 : Int32) (fun σ19 => if (σ19 35 0) = 0 then (post (-1 : Int32) σ19) else (wp_M_parse_681 (k26) post σ19 x1_ (1 : Int32) (0 : Int32) (0 : Int32)))
set_option maxHeartbeats 4000000 in
set_option maxRecDepth 100000 in
theorem b_M_parse_452 {p : Program} {l : Launch} {e : Env} {s : State} {m : MethodId} {args : Array Value} {below : List Frame} {meth : Method} {c : Code} {D : va_G} {Z : Nat → ClassId} {b : Nat → Nat} (C : MC p s m args c cX11_parse 6 D Z) (hr : meth.sig.returnType = some .int) (hk : meth.locks = false) {post : Int32 → MS → Prop} {k26 : MS → Int32 → Int32 → Int32 → Int32 → Prop} (hk26 : ∀ (σ : MS) (y1 : Int32) (y2 : Int32) (y3 : Int32) (y4 : Int32), k26 σ y1 y2 y3 y4 → ∀ (H : Heap) (locs : List Loc) (ls : Array Slot), MH D Z b s.heap σ H locs → lv_has ls 6 [(0, .ref (b 69)), (1, .int y1), (2, .int y2), (3, .int y3), (4, .int y4)] → MWi p l e rm_M_parse s m args below meth c D Z b post H locs (F0 m 26 ls [])) : ∀ (σ : MS) (x1_ : Int32) (t1_ : Int32) (t2_ : Int32), wp_M_parse_452 k26 post σ x1_ t1_ t2_ → ∀ (H : Heap) (locs : List Loc) (ls : Array Slot), MH D Z b s.heap σ H locs → lv_has ls 6 [(0, .ref (b 69)), (1, .int x1_)] → MWi p l e rm_M_parse s m args below meth c D Z b post H locs (F0 m 452 ls [.int t2_, .int t1_, .ref (b 69)]) := by
  obtain ⟨⟨hx, hb, hml, hown, hts⟩, hK⟩ := id C
  intro σ x1_ t1_ t2_ hw H locs ls hH hl
  unfold wp_M_parse_452 at hw
  refine lv_iconst (v := 0) hx hb dX11_parse_452 (by decide) ?_
  refine mcVv C hH [.int t1_, .int t2_, .int (0 : Int32)] (fun sz => c_M_lay l D Z b σ t1_ t2_ (0 : Int32) _ hw sz) (cwTV 3 hts wd_1390 wd_1392 ws_59 wd_14 wd_1393 rfl rfl (by decide +kernel) ⟨Nat.le_of_ble_eq_true rfl, Nat.le_of_ble_eq_true rfl⟩) rfl hl.1 rfl (Nat.le_of_ble_eq_true rfl) dX11_parse_453 ⟨Nat.zero_le _, Nat.zero_le _⟩ (fun  σ19 H locs hw hH => ?_)
  refine lv_aload_n hx hb dX11_parse_456 rfl (lv_at hl 0 rfl) ?_
  refine mg C hH 35 (by decide) rfl wd_1064 rfl dX11_parse_457 ?_
  refine lv_if_ne (tgt := 465) hx hb dX11_parse_460 (by decide) (fun c20 => ?_) (fun c20 => ?_)
  · have hw := ifn c20 hw
    refine lv_iconst (v := 0) hx hb dX11_parse_465 (by decide) ?_
    refine lv_istore (lv' := [(4, .int (0 : Int32)), (0, .ref (b 69)), (1, .int x1_)]) hx hb dX11_parse_466 hl (by decide) rfl (fun ls hl => ?_)
    refine lv_iconst (v := 1) hx hb dX11_parse_468 (by decide) ?_
    refine lv_istore_n (lv' := [(2, .int (1 : Int32)), (4, .int (0 : Int32)), (0, .ref (b 69)), (1, .int x1_)]) hx hb dX11_parse_469 rfl hl (by decide) rfl (fun ls hl => ?_)
    refine lv_iconst (v := 0) hx hb dX11_parse_470 (by decide) ?_
    refine lv_istore_n (lv' := [(3, .int (0 : Int32)), (2, .int (1 : Int32)), (4, .int (0 : Int32)), (0, .ref (b 69)), (1, .int x1_)]) hx hb dX11_parse_471 rfl hl (by decide) rfl (fun ls hl => ?_)
    refine lv_goto (tgt := 681) hx hb dX11_parse_472 (by decide) ?_
    exact b_M_parse_681 C hr hk hk26 σ19 x1_ (1 : Int32) (0 : Int32) (0 : Int32) hw _ _ _ hH (lv_sub hl [3, 4, 1, 0, 2] rfl)
  · have hw := ifp c20 hw
    refine lv_iconst (v := -1) hx hb dX11_parse_463 (by decide) ?_
    exact mri C hr hk hH hw dX11_parse_464
def wp_M_parse_420 (k26 : MS → Int32 → Int32 → Int32 → Int32 → Prop) (post : Int32 → MS → Prop) (σ : MS) (x1_ : Int32) (x4_ : Int32) : Prop := wp_M_done σ x1_ (1 : Int32) (fun σ21 => if (σ21 39 0) ≤ 0 then (if x4_ = 0 then (wp_M_parse_452 (k26) post σ21 x1_ x1_ (9 : Int32)) else (wp_M_parse_452 (k26) post σ21 x1_ x1_ (8 : Int32))) else (post (σ21 36 0) σ21))
set_option maxHeartbeats 4000000 in
set_option maxRecDepth 100000 in
theorem b_M_parse_420 {p : Program} {l : Launch} {e : Env} {s : State} {m : MethodId} {args : Array Value} {below : List Frame} {meth : Method} {c : Code} {D : va_G} {Z : Nat → ClassId} {b : Nat → Nat} (C : MC p s m args c cX11_parse 6 D Z) (hr : meth.sig.returnType = some .int) (hk : meth.locks = false) {post : Int32 → MS → Prop} {k26 : MS → Int32 → Int32 → Int32 → Int32 → Prop} (hk26 : ∀ (σ : MS) (y1 : Int32) (y2 : Int32) (y3 : Int32) (y4 : Int32), k26 σ y1 y2 y3 y4 → ∀ (H : Heap) (locs : List Loc) (ls : Array Slot), MH D Z b s.heap σ H locs → lv_has ls 6 [(0, .ref (b 69)), (1, .int y1), (2, .int y2), (3, .int y3), (4, .int y4)] → MWi p l e rm_M_parse s m args below meth c D Z b post H locs (F0 m 26 ls [])) : ∀ (σ : MS) (x1_ : Int32) (x4_ : Int32), wp_M_parse_420 k26 post σ x1_ x4_ → ∀ (H : Heap) (locs : List Loc) (ls : Array Slot), MH D Z b s.heap σ H locs → lv_has ls 6 [(0, .ref (b 69)), (1, .int x1_), (4, .int x4_)] → MWi p l e rm_M_parse s m args below meth c D Z b post H locs (F0 m 420 ls []) := by
  obtain ⟨⟨hx, hb, hml, hown, hts⟩, hK⟩ := id C
  intro σ x1_ x4_ hw H locs ls hH hl
  unfold wp_M_parse_420 at hw
  refine lv_aload_n hx hb dX11_parse_420 rfl (lv_at hl 0 rfl) ?_
  refine lv_iload_n hx hb dX11_parse_421 rfl (lv_at hl 1 rfl) ?_
  refine lv_iconst (v := 1) hx hb dX11_parse_422 (by decide) ?_
  refine mcVv C hH [.int x1_, .int (1 : Int32)] (fun sz => c_M_done l D Z b σ x1_ (1 : Int32) _ hw sz) (cwTV 2 hts wd_1394 wd_1396 ws_60 wd_14 wd_1397 rfl rfl (by decide +kernel) ⟨Nat.le_of_ble_eq_true rfl, Nat.le_of_ble_eq_true rfl⟩) rfl hl.1 rfl (Nat.le_of_ble_eq_true rfl) dX11_parse_423 ⟨Nat.zero_le _, Nat.zero_le _⟩ (fun  σ21 H locs hw hH => ?_)
  refine lv_aload_n hx hb dX11_parse_426 rfl (lv_at hl 0 rfl) ?_
  refine mg C hH 39 (by decide) rfl wd_1068 rfl dX11_parse_427 ?_
  refine lv_if_le (tgt := 438) hx hb dX11_parse_430 (by decide) (fun c22 => ?_) (fun c22 => ?_)
  · have hw := ifp c22 hw
    refine lv_aload_n hx hb dX11_parse_438 rfl (lv_at hl 0 rfl) ?_
    refine lv_iload_n hx hb dX11_parse_439 rfl (lv_at hl 1 rfl) ?_
    refine lv_iload hx hb dX11_parse_440 (lv_at hl 2 rfl) ?_
    refine lv_if_eq (tgt := 450) hx hb dX11_parse_442 (by decide) (fun c23 => ?_) (fun c23 => ?_)
    · have hw := ifp c23 hw
      refine lv_bipush (v := 9) hx hb dX11_parse_450 (by decide) ?_
      exact b_M_parse_452 C hr hk hk26 σ21 x1_ x1_ (9 : Int32) hw _ _ _ hH (lv_sub hl [0, 1] rfl)
    · have hw := ifn c23 hw
      refine lv_bipush (v := 8) hx hb dX11_parse_445 (by decide) ?_
      refine lv_goto (tgt := 452) hx hb dX11_parse_447 (by decide) ?_
      exact b_M_parse_452 C hr hk hk26 σ21 x1_ x1_ (8 : Int32) hw _ _ _ hH (lv_sub hl [0, 1] rfl)
  · have hw := ifn c22 hw
    refine lv_aload_n hx hb dX11_parse_433 rfl (lv_at hl 0 rfl) ?_
    refine mg C hH 36 (by decide) rfl wd_1065 rfl dX11_parse_434 ?_
    exact mri C hr hk hH hw dX11_parse_437
def wp_M_parse_274 (k26 : MS → Int32 → Int32 → Int32 → Int32 → Prop) (post : Int32 → MS → Prop) (σ : MS) (x1_ : Int32) (x2_ : Int32) (x3_ : Int32) (x4_ : Int32) : Prop := ∀ σ24 : MS, σ24 = up2 σ 39 0 ((σ 39 0) - (1 : Int32)) → (vp_in (σ24 39 0) 220 ∧ (if (σ24 38 (σ24 39 0).toNatClampNeg) < (2000 : Int32) then (wp_M_parse_681 (k26) post σ24 x1_ x2_ x3_ x4_) else (vp_in (σ24 39 0) 220 ∧ (wp_M_lay σ24 x1_ ((σ24 38 (σ24 39 0).toNatClampNeg) - (2000 : Int32)) (0 : Int32) (fun σ28 => wp_M_parse_681 (k26) post σ28 x1_ x2_ x3_ x4_)))))
set_option maxHeartbeats 4000000 in
set_option maxRecDepth 100000 in
theorem b_M_parse_274 {p : Program} {l : Launch} {e : Env} {s : State} {m : MethodId} {args : Array Value} {below : List Frame} {meth : Method} {c : Code} {D : va_G} {Z : Nat → ClassId} {b : Nat → Nat} (C : MC p s m args c cX11_parse 6 D Z) (hr : meth.sig.returnType = some .int) (hk : meth.locks = false) {post : Int32 → MS → Prop} {k26 : MS → Int32 → Int32 → Int32 → Int32 → Prop} (hk26 : ∀ (σ : MS) (y1 : Int32) (y2 : Int32) (y3 : Int32) (y4 : Int32), k26 σ y1 y2 y3 y4 → ∀ (H : Heap) (locs : List Loc) (ls : Array Slot), MH D Z b s.heap σ H locs → lv_has ls 6 [(0, .ref (b 69)), (1, .int y1), (2, .int y2), (3, .int y3), (4, .int y4)] → MWi p l e rm_M_parse s m args below meth c D Z b post H locs (F0 m 26 ls [])) : ∀ (σ : MS) (x1_ : Int32) (x2_ : Int32) (x3_ : Int32) (x4_ : Int32), wp_M_parse_274 k26 post σ x1_ x2_ x3_ x4_ → ∀ (H : Heap) (locs : List Loc) (ls : Array Slot), MH D Z b s.heap σ H locs → lv_has ls 6 [(0, .ref (b 69)), (1, .int x1_), (2, .int x2_), (3, .int x3_), (4, .int x4_)] → MWi p l e rm_M_parse s m args below meth c D Z b post H locs (F0 m 274 ls []) := by
  obtain ⟨⟨hx, hb, hml, hown, hts⟩, hK⟩ := id C
  intro σ x1_ x2_ x3_ x4_ hw H locs ls hH hl
  unfold wp_M_parse_274 at hw
  refine lv_aload_n hx hb dX11_parse_274 rfl (lv_at hl 0 rfl) ?_
  refine lv_dup hx hb dX11_parse_275 rfl ?_
  refine mg C hH 39 (by decide) rfl wd_1068 rfl dX11_parse_276 ?_
  refine lv_iconst (v := 1) hx hb dX11_parse_279 (by decide) ?_
  refine lv_isub hx hb dX11_parse_280 ?_
  refine mp C hH 39 (by decide) rfl wd_1068 (mset_39 Z b σ _) dX11_parse_281 (fun H locs hH => ?_)
  have hw := hw _ rfl
  generalize up2 σ 39 0 ((σ 39 0) - (1 : Int32)) = σ24 at hw hH
  refine lv_aload_n hx hb dX11_parse_284 rfl (lv_at hl 0 rfl) ?_
  refine mg C hH 38 (by decide) rfl wd_1067 rfl dX11_parse_285 ?_
  refine lv_aload_n hx hb dX11_parse_288 rfl (lv_at hl 0 rfl) ?_
  refine mg C hH 39 (by decide) rfl wd_1068 rfl dX11_parse_289 ?_
  obtain ⟨h25, hw⟩ := hw
  refine mai C hH 28 38 rfl h25 dX11_parse_292 ?_
  refine lv_sipush (v := 2000) hx hb dX11_parse_293 (by decide) ?_
  refine lv_icmp_lt (tgt := 681) hx hb dX11_parse_296 (by decide) (fun c26 => ?_) (fun c26 => ?_)
  · have hw := ifp c26 hw
    exact b_M_parse_681 C hr hk hk26 σ24 x1_ x2_ x3_ x4_ hw _ _ _ hH (lv_sub hl [0, 1, 2, 3, 4] rfl)
  · have hw := ifn c26 hw
    refine lv_aload_n hx hb dX11_parse_299 rfl (lv_at hl 0 rfl) ?_
    refine lv_iload_n hx hb dX11_parse_300 rfl (lv_at hl 1 rfl) ?_
    refine lv_aload_n hx hb dX11_parse_301 rfl (lv_at hl 0 rfl) ?_
    refine mg C hH 38 (by decide) rfl wd_1067 rfl dX11_parse_302 ?_
    refine lv_aload_n hx hb dX11_parse_305 rfl (lv_at hl 0 rfl) ?_
    refine mg C hH 39 (by decide) rfl wd_1068 rfl dX11_parse_306 ?_
    obtain ⟨h27, hw⟩ := hw
    refine mai C hH 28 38 rfl h27 dX11_parse_309 ?_
    refine lv_sipush (v := 2000) hx hb dX11_parse_310 (by decide) ?_
    refine lv_isub hx hb dX11_parse_313 ?_
    refine lv_iconst (v := 0) hx hb dX11_parse_314 (by decide) ?_
    refine mcVv C hH [.int x1_, .int ((σ24 38 (σ24 39 0).toNatClampNeg) - (2000 : Int32)), .int (0 : Int32)] (fun sz => c_M_lay l D Z b σ24 x1_ ((σ24 38 (σ24 39 0).toNatClampNeg) - (2000 : Int32)) (0 : Int32) _ hw sz) (cwTV 3 hts wd_1390 wd_1392 ws_59 wd_14 wd_1393 rfl rfl (by decide +kernel) ⟨Nat.le_of_ble_eq_true rfl, Nat.le_of_ble_eq_true rfl⟩) rfl hl.1 rfl (Nat.le_of_ble_eq_true rfl) dX11_parse_315 ⟨Nat.zero_le _, Nat.zero_le _⟩ (fun  σ28 H locs hw hH => ?_)
    refine lv_goto (tgt := 681) hx hb dX11_parse_318 (by decide) ?_
    exact b_M_parse_681 C hr hk hk26 σ28 x1_ x2_ x3_ x4_ hw _ _ _ hH (lv_sub hl [0, 1, 2, 3, 4] rfl)
def wp_M_parse_190 (k26 : MS → Int32 → Int32 → Int32 → Int32 → Prop) (post : Int32 → MS → Prop) (σ : MS) (x1_ : Int32) (x3_ : Int32) (x4_ : Int32) : Prop := wp_M_lay σ x1_ (σ 35 0) (σ 37 0) (fun σ29 => wp_M_parse_681 (k26) post σ29 x1_ (0 : Int32) x3_ x4_)
set_option maxHeartbeats 4000000 in
set_option maxRecDepth 100000 in
theorem b_M_parse_190 {p : Program} {l : Launch} {e : Env} {s : State} {m : MethodId} {args : Array Value} {below : List Frame} {meth : Method} {c : Code} {D : va_G} {Z : Nat → ClassId} {b : Nat → Nat} (C : MC p s m args c cX11_parse 6 D Z) (hr : meth.sig.returnType = some .int) (hk : meth.locks = false) {post : Int32 → MS → Prop} {k26 : MS → Int32 → Int32 → Int32 → Int32 → Prop} (hk26 : ∀ (σ : MS) (y1 : Int32) (y2 : Int32) (y3 : Int32) (y4 : Int32), k26 σ y1 y2 y3 y4 → ∀ (H : Heap) (locs : List Loc) (ls : Array Slot), MH D Z b s.heap σ H locs → lv_has ls 6 [(0, .ref (b 69)), (1, .int y1), (2, .int y2), (3, .int y3), (4, .int y4)] → MWi p l e rm_M_parse s m args below meth c D Z b post H locs (F0 m 26 ls [])) : ∀ (σ : MS) (x1_ : Int32) (x3_ : Int32) (x4_ : Int32), wp_M_parse_190 k26 post σ x1_ x3_ x4_ → ∀ (H : Heap) (locs : List Loc) (ls : Array Slot), MH D Z b s.heap σ H locs → lv_has ls 6 [(0, .ref (b 69)), (1, .int x1_), (3, .int x3_), (4, .int x4_)] → MWi p l e rm_M_parse s m args below meth c D Z b post H locs (F0 m 190 ls []) := by
  obtain ⟨⟨hx, hb, hml, hown, hts⟩, hK⟩ := id C
  intro σ x1_ x3_ x4_ hw H locs ls hH hl
  unfold wp_M_parse_190 at hw
  refine lv_aload_n hx hb dX11_parse_190 rfl (lv_at hl 0 rfl) ?_
  refine lv_iload_n hx hb dX11_parse_191 rfl (lv_at hl 1 rfl) ?_
  refine lv_aload_n hx hb dX11_parse_192 rfl (lv_at hl 0 rfl) ?_
  refine mg C hH 35 (by decide) rfl wd_1064 rfl dX11_parse_193 ?_
  refine lv_aload_n hx hb dX11_parse_196 rfl (lv_at hl 0 rfl) ?_
  refine mg C hH 37 (by decide) rfl wd_1066 rfl dX11_parse_197 ?_
  refine mcVv C hH [.int x1_, .int (σ 35 0), .int (σ 37 0)] (fun sz => c_M_lay l D Z b σ x1_ (σ 35 0) (σ 37 0) _ hw sz) (cwTV 3 hts wd_1390 wd_1392 ws_59 wd_14 wd_1393 rfl rfl (by decide +kernel) ⟨Nat.le_of_ble_eq_true rfl, Nat.le_of_ble_eq_true rfl⟩) rfl hl.1 rfl (Nat.le_of_ble_eq_true rfl) dX11_parse_200 ⟨Nat.zero_le _, Nat.zero_le _⟩ (fun  σ29 H locs hw hH => ?_)
  refine lv_iconst (v := 0) hx hb dX11_parse_203 (by decide) ?_
  refine lv_istore_n (lv' := [(2, .int (0 : Int32)), (0, .ref (b 69)), (1, .int x1_), (3, .int x3_), (4, .int x4_)]) hx hb dX11_parse_204 rfl hl (by decide) rfl (fun ls hl => ?_)
  refine lv_goto (tgt := 681) hx hb dX11_parse_205 (by decide) ?_
  exact b_M_parse_681 C hr hk hk26 σ29 x1_ (0 : Int32) x3_ x4_ hw _ _ _ hH (lv_sub hl [1, 2, 0, 3, 4] rfl)
def wp_M_parse_111 (k26 : MS → Int32 → Int32 → Int32 → Int32 → Prop) (post : Int32 → MS → Prop) (σ : MS) (x1_ : Int32) (x2_ : Int32) (x4_ : Int32) : Prop := ∀ x30 : Int32, x30 = (σ 35 0) → (wp_M_advance σ  (fun σ31 => if (σ31 35 0) = (5 : Int32) then (wp_M_opened σ31  (fun r34 σ33 => if r34 = (12 : Int32) then (post (σ33 36 0) σ33) else (vp_in (σ33 39 0) 220 ∧ (∀ σ37 : MS, σ37 = up2 σ33 38 (σ33 39 0).toNatClampNeg ((1000 : Int32) + x30) → (∀ σ38 : MS, σ38 = up2 σ37 39 0 ((σ37 39 0) + (1 : Int32)) → (wp_M_parse_681 (k26) post σ38 x1_ x2_ (0 : Int32) x4_)))))) else (post (σ31 36 0) σ31)))
set_option maxHeartbeats 4000000 in
set_option maxRecDepth 100000 in
theorem b_M_parse_111 {p : Program} {l : Launch} {e : Env} {s : State} {m : MethodId} {args : Array Value} {below : List Frame} {meth : Method} {c : Code} {D : va_G} {Z : Nat → ClassId} {b : Nat → Nat} (C : MC p s m args c cX11_parse 6 D Z) (hr : meth.sig.returnType = some .int) (hk : meth.locks = false) {post : Int32 → MS → Prop} {k26 : MS → Int32 → Int32 → Int32 → Int32 → Prop} (hk26 : ∀ (σ : MS) (y1 : Int32) (y2 : Int32) (y3 : Int32) (y4 : Int32), k26 σ y1 y2 y3 y4 → ∀ (H : Heap) (locs : List Loc) (ls : Array Slot), MH D Z b s.heap σ H locs → lv_has ls 6 [(0, .ref (b 69)), (1, .int y1), (2, .int y2), (3, .int y3), (4, .int y4)] → MWi p l e rm_M_parse s m args below meth c D Z b post H locs (F0 m 26 ls [])) : ∀ (σ : MS) (x1_ : Int32) (x2_ : Int32) (x4_ : Int32), wp_M_parse_111 k26 post σ x1_ x2_ x4_ → ∀ (H : Heap) (locs : List Loc) (ls : Array Slot), MH D Z b s.heap σ H locs → lv_has ls 6 [(0, .ref (b 69)), (1, .int x1_), (2, .int x2_), (4, .int x4_)] → MWi p l e rm_M_parse s m args below meth c D Z b post H locs (F0 m 111 ls []) := by
  obtain ⟨⟨hx, hb, hml, hown, hts⟩, hK⟩ := id C
  intro σ x1_ x2_ x4_ hw H locs ls hH hl
  unfold wp_M_parse_111 at hw
  refine lv_aload_n hx hb dX11_parse_111 rfl (lv_at hl 0 rfl) ?_
  refine mg C hH 35 (by decide) rfl wd_1064 rfl dX11_parse_112 ?_
  refine lv_topi (fun x30 ex30 => ?_)
  have hw := hw x30 ex30
  refine lv_istore (lv' := [(5, .int x30), (0, .ref (b 69)), (1, .int x1_), (2, .int x2_), (4, .int x4_)]) hx hb dX11_parse_115 hl (by decide) rfl (fun ls hl => ?_)
  refine lv_aload_n hx hb dX11_parse_117 rfl (lv_at hl 1 rfl) ?_
  refine mcVv C hH [] (fun sz => c_M_advance l D Z b σ  _ hw sz) (cwTV 0 hts wd_1349 wd_1351 ws_57 wd_14 wd_1352 rfl rfl (by decide +kernel) ⟨Nat.le_of_ble_eq_true rfl, Nat.le_of_ble_eq_true rfl⟩) rfl hl.1 rfl (Nat.le_of_ble_eq_true rfl) dX11_parse_118 ⟨Nat.zero_le _, Nat.zero_le _⟩ (fun  σ31 H locs hw hH => ?_)
  refine lv_aload_n hx hb dX11_parse_121 rfl (lv_at hl 1 rfl) ?_
  refine mg C hH 35 (by decide) rfl wd_1064 rfl dX11_parse_122 ?_
  refine lv_iconst (v := 5) hx hb dX11_parse_125 (by decide) ?_
  refine lv_icmp_ne (tgt := 138) hx hb dX11_parse_126 (by decide) (fun c32 => ?_) (fun c32 => ?_)
  · have hw := ifn c32 hw
    refine lv_aload_n hx hb dX11_parse_138 rfl (lv_at hl 1 rfl) ?_
    refine mg C hH 36 (by decide) rfl wd_1065 rfl dX11_parse_139 ?_
    exact mri C hr hk hH hw dX11_parse_142
  · have hw := ifp c32 hw
    refine lv_aload_n hx hb dX11_parse_129 rfl (lv_at hl 1 rfl) ?_
    refine mcVi C hH [] (fun sz => c_M_opened l D Z b σ31  _ hw sz) (cwTV 0 hts wd_1386 wd_1388 ws_58 wd_14 wd_1389 rfl rfl (by decide +kernel) ⟨Nat.le_of_ble_eq_true rfl, Nat.le_of_ble_eq_true rfl⟩) rfl hl.1 rfl (Nat.le_of_ble_eq_true rfl) dX11_parse_130 ⟨Nat.zero_le _, Nat.zero_le _⟩ (fun r34 σ33 H locs hw hH => ?_)
    refine lv_bipush (v := 12) hx hb dX11_parse_133 (by decide) ?_
    refine lv_icmp_ne (tgt := 143) hx hb dX11_parse_135 (by decide) (fun c35 => ?_) (fun c35 => ?_)
    · have hw := ifn c35 hw
      refine lv_aload_n hx hb dX11_parse_143 rfl (lv_at hl 1 rfl) ?_
      refine mg C hH 38 (by decide) rfl wd_1067 rfl dX11_parse_144 ?_
      refine lv_aload_n hx hb dX11_parse_147 rfl (lv_at hl 1 rfl) ?_
      refine mg C hH 39 (by decide) rfl wd_1068 rfl dX11_parse_148 ?_
      refine lv_sipush (v := 1000) hx hb dX11_parse_151 (by decide) ?_
      refine lv_iload hx hb dX11_parse_154 (lv_at hl 0 rfl) ?_
      refine lv_iadd hx hb dX11_parse_156 ?_
      obtain ⟨h36, hw⟩ := hw
      refine msi C hH 28 38 rfl (mast_38 Z b σ33 _ _) h36 dX11_parse_157 (fun H locs hH => ?_)
      have hw := hw _ rfl
      generalize up2 σ33 38 (σ33 39 0).toNatClampNeg ((1000 : Int32) + x30) = σ37 at hw hH
      refine lv_aload_n hx hb dX11_parse_158 rfl (lv_at hl 1 rfl) ?_
      refine lv_dup hx hb dX11_parse_159 rfl ?_
      refine mg C hH 39 (by decide) rfl wd_1068 rfl dX11_parse_160 ?_
      refine lv_iconst (v := 1) hx hb dX11_parse_163 (by decide) ?_
      refine lv_iadd hx hb dX11_parse_164 ?_
      refine mp C hH 39 (by decide) rfl wd_1068 (mset_39 Z b σ37 _) dX11_parse_165 (fun H locs hH => ?_)
      have hw := hw _ rfl
      generalize up2 σ37 39 0 ((σ37 39 0) + (1 : Int32)) = σ38 at hw hH
      refine lv_iconst (v := 0) hx hb dX11_parse_168 (by decide) ?_
      refine lv_istore_n (lv' := [(3, .int (0 : Int32)), (5, .int x30), (0, .ref (b 69)), (1, .int x1_), (2, .int x2_), (4, .int x4_)]) hx hb dX11_parse_169 rfl hl (by decide) rfl (fun ls hl => ?_)
      refine lv_goto (tgt := 681) hx hb dX11_parse_170 (by decide) ?_
      exact b_M_parse_681 C hr hk hk26 σ38 x1_ x2_ (0 : Int32) x4_ hw _ _ _ hH (lv_sub hl [2, 3, 4, 0, 5] rfl)
    · have hw := ifp c35 hw
      refine lv_aload_n hx hb dX11_parse_138 rfl (lv_at hl 1 rfl) ?_
      refine mg C hH 36 (by decide) rfl wd_1065 rfl dX11_parse_139 ?_
      exact mri C hr hk hH hw dX11_parse_142
def wp_M_parse_51 (k26 : MS → Int32 → Int32 → Int32 → Int32 → Prop) (post : Int32 → MS → Prop) (σ : MS) (x1_ : Int32) (x2_ : Int32) (x4_ : Int32) : Prop := wp_M_opened σ  (fun r40 σ39 => if r40 = (12 : Int32) then (post (σ39 36 0) σ39) else (vp_in (σ39 39 0) 220 ∧ (∀ σ43 : MS, σ43 = up2 σ39 38 (σ39 39 0).toNatClampNeg (σ39 35 0) → (∀ σ44 : MS, σ44 = up2 σ43 39 0 ((σ43 39 0) + (1 : Int32)) → (wp_M_parse_681 (k26) post σ44 x1_ x2_ (1 : Int32) x4_)))))
set_option maxHeartbeats 4000000 in
set_option maxRecDepth 100000 in
theorem b_M_parse_51 {p : Program} {l : Launch} {e : Env} {s : State} {m : MethodId} {args : Array Value} {below : List Frame} {meth : Method} {c : Code} {D : va_G} {Z : Nat → ClassId} {b : Nat → Nat} (C : MC p s m args c cX11_parse 6 D Z) (hr : meth.sig.returnType = some .int) (hk : meth.locks = false) {post : Int32 → MS → Prop} {k26 : MS → Int32 → Int32 → Int32 → Int32 → Prop} (hk26 : ∀ (σ : MS) (y1 : Int32) (y2 : Int32) (y3 : Int32) (y4 : Int32), k26 σ y1 y2 y3 y4 → ∀ (H : Heap) (locs : List Loc) (ls : Array Slot), MH D Z b s.heap σ H locs → lv_has ls 6 [(0, .ref (b 69)), (1, .int y1), (2, .int y2), (3, .int y3), (4, .int y4)] → MWi p l e rm_M_parse s m args below meth c D Z b post H locs (F0 m 26 ls [])) : ∀ (σ : MS) (x1_ : Int32) (x2_ : Int32) (x4_ : Int32), wp_M_parse_51 k26 post σ x1_ x2_ x4_ → ∀ (H : Heap) (locs : List Loc) (ls : Array Slot), MH D Z b s.heap σ H locs → lv_has ls 6 [(0, .ref (b 69)), (1, .int x1_), (2, .int x2_), (4, .int x4_)] → MWi p l e rm_M_parse s m args below meth c D Z b post H locs (F0 m 51 ls []) := by
  obtain ⟨⟨hx, hb, hml, hown, hts⟩, hK⟩ := id C
  intro σ x1_ x2_ x4_ hw H locs ls hH hl
  unfold wp_M_parse_51 at hw
  refine lv_aload_n hx hb dX11_parse_51 rfl (lv_at hl 0 rfl) ?_
  refine mcVi C hH [] (fun sz => c_M_opened l D Z b σ  _ hw sz) (cwTV 0 hts wd_1386 wd_1388 ws_58 wd_14 wd_1389 rfl rfl (by decide +kernel) ⟨Nat.le_of_ble_eq_true rfl, Nat.le_of_ble_eq_true rfl⟩) rfl hl.1 rfl (Nat.le_of_ble_eq_true rfl) dX11_parse_52 ⟨Nat.zero_le _, Nat.zero_le _⟩ (fun r40 σ39 H locs hw hH => ?_)
  refine lv_bipush (v := 12) hx hb dX11_parse_55 (by decide) ?_
  refine lv_icmp_ne (tgt := 65) hx hb dX11_parse_57 (by decide) (fun c41 => ?_) (fun c41 => ?_)
  · have hw := ifn c41 hw
    refine lv_aload_n hx hb dX11_parse_65 rfl (lv_at hl 0 rfl) ?_
    refine mg C hH 38 (by decide) rfl wd_1067 rfl dX11_parse_66 ?_
    refine lv_aload_n hx hb dX11_parse_69 rfl (lv_at hl 0 rfl) ?_
    refine mg C hH 39 (by decide) rfl wd_1068 rfl dX11_parse_70 ?_
    refine lv_aload_n hx hb dX11_parse_73 rfl (lv_at hl 0 rfl) ?_
    refine mg C hH 35 (by decide) rfl wd_1064 rfl dX11_parse_74 ?_
    obtain ⟨h42, hw⟩ := hw
    refine msi C hH 28 38 rfl (mast_38 Z b σ39 _ _) h42 dX11_parse_77 (fun H locs hH => ?_)
    have hw := hw _ rfl
    generalize up2 σ39 38 (σ39 39 0).toNatClampNeg (σ39 35 0) = σ43 at hw hH
    refine lv_aload_n hx hb dX11_parse_78 rfl (lv_at hl 0 rfl) ?_
    refine lv_dup hx hb dX11_parse_79 rfl ?_
    refine mg C hH 39 (by decide) rfl wd_1068 rfl dX11_parse_80 ?_
    refine lv_iconst (v := 1) hx hb dX11_parse_83 (by decide) ?_
    refine lv_iadd hx hb dX11_parse_84 ?_
    refine mp C hH 39 (by decide) rfl wd_1068 (mset_39 Z b σ43 _) dX11_parse_85 (fun H locs hH => ?_)
    have hw := hw _ rfl
    generalize up2 σ43 39 0 ((σ43 39 0) + (1 : Int32)) = σ44 at hw hH
    refine lv_iconst (v := 1) hx hb dX11_parse_88 (by decide) ?_
    refine lv_istore_n (lv' := [(3, .int (1 : Int32)), (0, .ref (b 69)), (1, .int x1_), (2, .int x2_), (4, .int x4_)]) hx hb dX11_parse_89 rfl hl (by decide) rfl (fun ls hl => ?_)
    refine lv_goto (tgt := 681) hx hb dX11_parse_90 (by decide) ?_
    exact b_M_parse_681 C hr hk hk26 σ44 x1_ x2_ (1 : Int32) x4_ hw _ _ _ hH (lv_sub hl [1, 2, 3, 0, 4] rfl)
  · have hw := ifp c41 hw
    refine lv_aload_n hx hb dX11_parse_60 rfl (lv_at hl 0 rfl) ?_
    refine mg C hH 36 (by decide) rfl wd_1065 rfl dX11_parse_61 ?_
    exact mri C hr hk hH hw dX11_parse_64
def wp_M_parse_43 (k26 : MS → Int32 → Int32 → Int32 → Int32 → Prop) (post : Int32 → MS → Prop) (σ : MS) (x1_ : Int32) (x2_ : Int32) (x3_ : Int32) (x4_ : Int32) : Prop := if (σ 35 0) = (5 : Int32) then (wp_M_parse_51 (k26) post σ x1_ x2_ x4_) else (if (σ 35 0) = (70 : Int32) then (wp_M_parse_111 (k26) post σ x1_ x2_ x4_) else (if (σ 35 0) = (71 : Int32) then (wp_M_parse_111 (k26) post σ x1_ x2_ x4_) else (if (σ 35 0) = (1 : Int32) then (wp_M_parse_190 (k26) post σ x1_ x3_ x4_) else (if (σ 35 0) < (100 : Int32) then (post (σ 36 0) σ) else (wp_M_parse_190 (k26) post σ x1_ x3_ x4_)))))
set_option maxHeartbeats 4000000 in
set_option maxRecDepth 100000 in
theorem b_M_parse_43 {p : Program} {l : Launch} {e : Env} {s : State} {m : MethodId} {args : Array Value} {below : List Frame} {meth : Method} {c : Code} {D : va_G} {Z : Nat → ClassId} {b : Nat → Nat} (C : MC p s m args c cX11_parse 6 D Z) (hr : meth.sig.returnType = some .int) (hk : meth.locks = false) {post : Int32 → MS → Prop} {k26 : MS → Int32 → Int32 → Int32 → Int32 → Prop} (hk26 : ∀ (σ : MS) (y1 : Int32) (y2 : Int32) (y3 : Int32) (y4 : Int32), k26 σ y1 y2 y3 y4 → ∀ (H : Heap) (locs : List Loc) (ls : Array Slot), MH D Z b s.heap σ H locs → lv_has ls 6 [(0, .ref (b 69)), (1, .int y1), (2, .int y2), (3, .int y3), (4, .int y4)] → MWi p l e rm_M_parse s m args below meth c D Z b post H locs (F0 m 26 ls [])) : ∀ (σ : MS) (x1_ : Int32) (x2_ : Int32) (x3_ : Int32) (x4_ : Int32), wp_M_parse_43 k26 post σ x1_ x2_ x3_ x4_ → ∀ (H : Heap) (locs : List Loc) (ls : Array Slot), MH D Z b s.heap σ H locs → lv_has ls 6 [(0, .ref (b 69)), (1, .int x1_), (2, .int x2_), (3, .int x3_), (4, .int x4_)] → MWi p l e rm_M_parse s m args below meth c D Z b post H locs (F0 m 43 ls []) := by
  obtain ⟨⟨hx, hb, hml, hown, hts⟩, hK⟩ := id C
  intro σ x1_ x2_ x3_ x4_ hw H locs ls hH hl
  unfold wp_M_parse_43 at hw
  refine lv_aload_n hx hb dX11_parse_43 rfl (lv_at hl 0 rfl) ?_
  refine mg C hH 35 (by decide) rfl wd_1064 rfl dX11_parse_44 ?_
  refine lv_iconst (v := 5) hx hb dX11_parse_47 (by decide) ?_
  refine lv_icmp_ne (tgt := 93) hx hb dX11_parse_48 (by decide) (fun c45 => ?_) (fun c45 => ?_)
  · have hw := ifn c45 hw
    refine lv_aload_n hx hb dX11_parse_93 rfl (lv_at hl 0 rfl) ?_
    refine mg C hH 35 (by decide) rfl wd_1064 rfl dX11_parse_94 ?_
    refine lv_bipush (v := 70) hx hb dX11_parse_97 (by decide) ?_
    refine lv_icmp_eq (tgt := 111) hx hb dX11_parse_99 (by decide) (fun c46 => ?_) (fun c46 => ?_)
    · have hw := ifp c46 hw
      exact b_M_parse_111 C hr hk hk26 σ x1_ x2_ x4_ hw _ _ _ hH (lv_sub hl [0, 1, 2, 4] rfl)
    · have hw := ifn c46 hw
      refine lv_aload_n hx hb dX11_parse_102 rfl (lv_at hl 0 rfl) ?_
      refine mg C hH 35 (by decide) rfl wd_1064 rfl dX11_parse_103 ?_
      refine lv_bipush (v := 71) hx hb dX11_parse_106 (by decide) ?_
      refine lv_icmp_ne (tgt := 173) hx hb dX11_parse_108 (by decide) (fun c47 => ?_) (fun c47 => ?_)
      · have hw := ifn c47 hw
        refine lv_aload_n hx hb dX11_parse_173 rfl (lv_at hl 0 rfl) ?_
        refine mg C hH 35 (by decide) rfl wd_1064 rfl dX11_parse_174 ?_
        refine lv_iconst (v := 1) hx hb dX11_parse_177 (by decide) ?_
        refine lv_icmp_eq (tgt := 190) hx hb dX11_parse_178 (by decide) (fun c48 => ?_) (fun c48 => ?_)
        · have hw := ifp c48 hw
          exact b_M_parse_190 C hr hk hk26 σ x1_ x3_ x4_ hw _ _ _ hH (lv_sub hl [0, 1, 3, 4] rfl)
        · have hw := ifn c48 hw
          refine lv_aload_n hx hb dX11_parse_181 rfl (lv_at hl 0 rfl) ?_
          refine mg C hH 35 (by decide) rfl wd_1064 rfl dX11_parse_182 ?_
          refine lv_bipush (v := 100) hx hb dX11_parse_185 (by decide) ?_
          refine lv_icmp_lt (tgt := 208) hx hb dX11_parse_187 (by decide) (fun c49 => ?_) (fun c49 => ?_)
          · have hw := ifp c49 hw
            refine lv_aload_n hx hb dX11_parse_208 rfl (lv_at hl 0 rfl) ?_
            refine mg C hH 36 (by decide) rfl wd_1065 rfl dX11_parse_209 ?_
            exact mri C hr hk hH hw dX11_parse_212
          · have hw := ifn c49 hw
            exact b_M_parse_190 C hr hk hk26 σ x1_ x3_ x4_ hw _ _ _ hH (lv_sub hl [0, 1, 3, 4] rfl)
      · have hw := ifp c47 hw
        exact b_M_parse_111 C hr hk hk26 σ x1_ x2_ x4_ hw _ _ _ hH (lv_sub hl [0, 1, 2, 4] rfl)
  · have hw := ifp c45 hw
    exact b_M_parse_51 C hr hk hk26 σ x1_ x2_ x4_ hw _ _ _ hH (lv_sub hl [0, 1, 2, 4] rfl)
def wp_M_parse_26 (post : Int32 → MS → Prop) : Nat → MS → Int32 → Int32 → Int32 → Int32 → Prop
  | 0 => fun _ _ _ _ _ => False
  | n + 1 => fun σ x1_ x2_ x3_ x4_ => if x2_ = 0 then (if (σ 35 0) = (6 : Int32) then (wp_M_done σ x1_ (1 : Int32) (fun σ75 => if (σ75 39 0) = 0 then (post (σ75 36 0) σ75) else (vp_in ((σ75 39 0) - (1 : Int32)) 220 ∧ (if (σ75 38 ((σ75 39 0) - (1 : Int32)).toNatClampNeg) < (1000 : Int32) then (wp_M_parse_274 (wp_M_parse_26 post n) post σ75 x1_ x2_ x3_ x4_) else (vp_in ((σ75 39 0) - (1 : Int32)) 220 ∧ (if (2000 : Int32) ≤ (σ75 38 ((σ75 39 0) - (1 : Int32)).toNatClampNeg) then (wp_M_parse_274 (wp_M_parse_26 post n) post σ75 x1_ x2_ x3_ x4_) else (post (σ75 36 0) σ75))))))) else (if (σ 35 0) = (4 : Int32) then (wp_M_done σ x1_ (1 : Int32) (fun σ66 => if (σ66 39 0) = 0 then (post (σ66 36 0) σ66) else (vp_in ((σ66 39 0) - (1 : Int32)) 220 ∧ (if (σ66 38 ((σ66 39 0) - (1 : Int32)).toNatClampNeg) < (1000 : Int32) then (post (σ66 36 0) σ66) else (vp_in ((σ66 39 0) - (1 : Int32)) 220 ∧ (if (σ66 38 ((σ66 39 0) - (1 : Int32)).toNatClampNeg) < (2000 : Int32) then (vp_in ((σ66 39 0) - (1 : Int32)) 220 ∧ (vp_in ((σ66 39 0) - (1 : Int32)) 220 ∧ (∀ σ74 : MS, σ74 = up2 σ66 38 ((σ66 39 0) - (1 : Int32)).toNatClampNeg ((σ66 38 ((σ66 39 0) - (1 : Int32)).toNatClampNeg) + (1000 : Int32)) → (wp_M_parse_681 (wp_M_parse_26 post n) post σ74 x1_ (1 : Int32) (0 : Int32) x4_)))) else (post (σ66 36 0) σ66))))))) else (if (σ 35 0) = 0 then (wp_M_parse_420 (wp_M_parse_26 post n) post σ x1_ x4_) else (if (σ 35 0) = (3 : Int32) then (wp_M_parse_420 (wp_M_parse_26 post n) post σ x1_ x4_) else (if (σ 35 0) = (7 : Int32) then (wp_M_done σ x1_ (1 : Int32) (fun σ63 => if 0 < (σ63 39 0) then (post (σ63 36 0) σ63) else (if x4_ = 0 then (wp_M_parse_681 (wp_M_parse_26 post n) post σ63 x1_ (1 : Int32) (1 : Int32) (1 : Int32)) else (post (σ63 36 0) σ63)))) else (if (σ 35 0) < (10 : Int32) then (post (σ 36 0) σ) else (if (70 : Int32) ≤ (σ 35 0) then (post (σ 36 0) σ) else (if (σ 35 0) = (30 : Int32) then (post (σ 36 0) σ) else (if (40 : Int32) ≤ (σ 35 0) then (wp_M_parse_567 (wp_M_parse_26 post n) post σ x1_ x4_) else (wp_M_mayLogic σ x4_ (fun r61 σ60 => if r61 = 0 then (post (σ60 36 0) σ60) else (wp_M_parse_567 (wp_M_parse_26 post n) post σ60 x1_ x4_)))))))))))) else (if (σ 35 0) = (30 : Int32) then (if x3_ = 0 then (wp_M_parse_43 (wp_M_parse_26 post n) post σ x1_ x2_ x3_ x4_) else (wp_M_parse_51 (wp_M_parse_26 post n) post σ x1_ x2_ x4_)) else (wp_M_parse_43 (wp_M_parse_26 post n) post σ x1_ x2_ x3_ x4_))
set_option maxHeartbeats 4000000 in
set_option maxRecDepth 100000 in
theorem b_M_parse_26 {p : Program} {l : Launch} {e : Env} {s : State} {m : MethodId} {args : Array Value} {below : List Frame} {meth : Method} {c : Code} {D : va_G} {Z : Nat → ClassId} {b : Nat → Nat} (C : MC p s m args c cX11_parse 6 D Z) (hr : meth.sig.returnType = some .int) (hk : meth.locks = false) {post : Int32 → MS → Prop} : ∀ (n : Nat) (σ : MS) (x1_ : Int32) (x2_ : Int32) (x3_ : Int32) (x4_ : Int32), wp_M_parse_26  post n σ x1_ x2_ x3_ x4_ → ∀ (H : Heap) (locs : List Loc) (ls : Array Slot), MH D Z b s.heap σ H locs → lv_has ls 6 [(0, .ref (b 69)), (1, .int x1_), (2, .int x2_), (3, .int x3_), (4, .int x4_)] → MWi p l e rm_M_parse s m args below meth c D Z b post H locs (F0 m 26 ls []) := by
  obtain ⟨⟨hx, hb, hml, hown, hts⟩, hK⟩ := id C
  intro n
  induction n with
  | zero => intro σ x1_ x2_ x3_ x4_ hw; exact hw.elim
  | succ n ih =>
    intro σ x1_ x2_ x3_ x4_ hw H locs ls hH hl
    unfold wp_M_parse_26 at hw
    refine lv_iload_n hx hb dX11_parse_26 rfl (lv_at hl 2 rfl) ?_
    refine lv_if_eq (tgt := 213) hx hb dX11_parse_27 (by decide) (fun c50 => ?_) (fun c50 => ?_)
    · have hw := ifp c50 hw
      refine lv_aload_n hx hb dX11_parse_213 rfl (lv_at hl 0 rfl) ?_
      refine mg C hH 35 (by decide) rfl wd_1064 rfl dX11_parse_214 ?_
      refine lv_bipush (v := 6) hx hb dX11_parse_217 (by decide) ?_
      refine lv_icmp_ne (tgt := 321) hx hb dX11_parse_219 (by decide) (fun c51 => ?_) (fun c51 => ?_)
      · have hw := ifn c51 hw
        refine lv_aload_n hx hb dX11_parse_321 rfl (lv_at hl 0 rfl) ?_
        refine mg C hH 35 (by decide) rfl wd_1064 rfl dX11_parse_322 ?_
        refine lv_iconst (v := 4) hx hb dX11_parse_325 (by decide) ?_
        refine lv_icmp_ne (tgt := 405) hx hb dX11_parse_326 (by decide) (fun c52 => ?_) (fun c52 => ?_)
        · have hw := ifn c52 hw
          refine lv_aload_n hx hb dX11_parse_405 rfl (lv_at hl 0 rfl) ?_
          refine mg C hH 35 (by decide) rfl wd_1064 rfl dX11_parse_406 ?_
          refine lv_if_eq (tgt := 420) hx hb dX11_parse_409 (by decide) (fun c53 => ?_) (fun c53 => ?_)
          · have hw := ifp c53 hw
            exact b_M_parse_420 C hr hk ih σ x1_ x4_ hw _ _ _ hH (lv_sub hl [0, 1, 4] rfl)
          · have hw := ifn c53 hw
            refine lv_aload_n hx hb dX11_parse_412 rfl (lv_at hl 0 rfl) ?_
            refine mg C hH 35 (by decide) rfl wd_1064 rfl dX11_parse_413 ?_
            refine lv_iconst (v := 3) hx hb dX11_parse_416 (by decide) ?_
            refine lv_icmp_ne (tgt := 475) hx hb dX11_parse_417 (by decide) (fun c54 => ?_) (fun c54 => ?_)
            · have hw := ifn c54 hw
              refine lv_aload_n hx hb dX11_parse_475 rfl (lv_at hl 0 rfl) ?_
              refine mg C hH 35 (by decide) rfl wd_1064 rfl dX11_parse_476 ?_
              refine lv_bipush (v := 7) hx hb dX11_parse_479 (by decide) ?_
              refine lv_icmp_ne (tgt := 517) hx hb dX11_parse_481 (by decide) (fun c55 => ?_) (fun c55 => ?_)
              · have hw := ifn c55 hw
                refine lv_aload_n hx hb dX11_parse_517 rfl (lv_at hl 0 rfl) ?_
                refine mg C hH 35 (by decide) rfl wd_1064 rfl dX11_parse_518 ?_
                refine lv_bipush (v := 10) hx hb dX11_parse_521 (by decide) ?_
                refine lv_icmp_lt (tgt := 562) hx hb dX11_parse_523 (by decide) (fun c56 => ?_) (fun c56 => ?_)
                · have hw := ifp c56 hw
                  refine lv_aload_n hx hb dX11_parse_562 rfl (lv_at hl 0 rfl) ?_
                  refine mg C hH 36 (by decide) rfl wd_1065 rfl dX11_parse_563 ?_
                  exact mri C hr hk hH hw dX11_parse_566
                · have hw := ifn c56 hw
                  refine lv_aload_n hx hb dX11_parse_526 rfl (lv_at hl 0 rfl) ?_
                  refine mg C hH 35 (by decide) rfl wd_1064 rfl dX11_parse_527 ?_
                  refine lv_bipush (v := 70) hx hb dX11_parse_530 (by decide) ?_
                  refine lv_icmp_ge (tgt := 562) hx hb dX11_parse_532 (by decide) (fun c57 => ?_) (fun c57 => ?_)
                  · have hw := ifp c57 hw
                    refine lv_aload_n hx hb dX11_parse_562 rfl (lv_at hl 0 rfl) ?_
                    refine mg C hH 36 (by decide) rfl wd_1065 rfl dX11_parse_563 ?_
                    exact mri C hr hk hH hw dX11_parse_566
                  · have hw := ifn c57 hw
                    refine lv_aload_n hx hb dX11_parse_535 rfl (lv_at hl 0 rfl) ?_
                    refine mg C hH 35 (by decide) rfl wd_1064 rfl dX11_parse_536 ?_
                    refine lv_bipush (v := 30) hx hb dX11_parse_539 (by decide) ?_
                    refine lv_icmp_eq (tgt := 562) hx hb dX11_parse_541 (by decide) (fun c58 => ?_) (fun c58 => ?_)
                    · have hw := ifp c58 hw
                      refine lv_aload_n hx hb dX11_parse_562 rfl (lv_at hl 0 rfl) ?_
                      refine mg C hH 36 (by decide) rfl wd_1065 rfl dX11_parse_563 ?_
                      exact mri C hr hk hH hw dX11_parse_566
                    · have hw := ifn c58 hw
                      refine lv_aload_n hx hb dX11_parse_544 rfl (lv_at hl 0 rfl) ?_
                      refine mg C hH 35 (by decide) rfl wd_1064 rfl dX11_parse_545 ?_
                      refine lv_bipush (v := 40) hx hb dX11_parse_548 (by decide) ?_
                      refine lv_icmp_ge (tgt := 567) hx hb dX11_parse_550 (by decide) (fun c59 => ?_) (fun c59 => ?_)
                      · have hw := ifp c59 hw
                        exact b_M_parse_567 C hr hk ih σ x1_ x4_ hw _ _ _ hH (lv_sub hl [0, 1, 4] rfl)
                      · have hw := ifn c59 hw
                        refine lv_aload_n hx hb dX11_parse_553 rfl (lv_at hl 0 rfl) ?_
                        refine lv_iload hx hb dX11_parse_554 (lv_at hl 4 rfl) ?_
                        refine mcVi C hH [.int x4_] (fun sz => c_M_mayLogic l D Z b σ x4_ _ hw sz) (cwTV 1 hts wd_1401 wd_1403 ws_61 wd_14 wd_1404 rfl rfl (by decide +kernel) ⟨Nat.le_of_ble_eq_true rfl, Nat.le_of_ble_eq_true rfl⟩) rfl hl.1 rfl (Nat.le_of_ble_eq_true rfl) dX11_parse_556 ⟨Nat.zero_le _, Nat.zero_le _⟩ (fun r61 σ60 H locs hw hH => ?_)
                        refine lv_if_ne (tgt := 567) hx hb dX11_parse_559 (by decide) (fun c62 => ?_) (fun c62 => ?_)
                        · have hw := ifn c62 hw
                          exact b_M_parse_567 C hr hk ih σ60 x1_ x4_ hw _ _ _ hH (lv_sub hl [0, 1, 4] rfl)
                        · have hw := ifp c62 hw
                          refine lv_aload_n hx hb dX11_parse_562 rfl (lv_at hl 0 rfl) ?_
                          refine mg C hH 36 (by decide) rfl wd_1065 rfl dX11_parse_563 ?_
                          exact mri C hr hk hH hw dX11_parse_566
              · have hw := ifp c55 hw
                refine lv_aload_n hx hb dX11_parse_484 rfl (lv_at hl 0 rfl) ?_
                refine lv_iload_n hx hb dX11_parse_485 rfl (lv_at hl 1 rfl) ?_
                refine lv_iconst (v := 1) hx hb dX11_parse_486 (by decide) ?_
                refine mcVv C hH [.int x1_, .int (1 : Int32)] (fun sz => c_M_done l D Z b σ x1_ (1 : Int32) _ hw sz) (cwTV 2 hts wd_1394 wd_1396 ws_60 wd_14 wd_1397 rfl rfl (by decide +kernel) ⟨Nat.le_of_ble_eq_true rfl, Nat.le_of_ble_eq_true rfl⟩) rfl hl.1 rfl (Nat.le_of_ble_eq_true rfl) dX11_parse_487 ⟨Nat.zero_le _, Nat.zero_le _⟩ (fun  σ63 H locs hw hH => ?_)
                refine lv_aload_n hx hb dX11_parse_490 rfl (lv_at hl 0 rfl) ?_
                refine mg C hH 39 (by decide) rfl wd_1068 rfl dX11_parse_491 ?_
                refine lv_if_gt (tgt := 502) hx hb dX11_parse_494 (by decide) (fun c64 => ?_) (fun c64 => ?_)
                · have hw := ifp c64 hw
                  refine lv_aload_n hx hb dX11_parse_502 rfl (lv_at hl 0 rfl) ?_
                  refine mg C hH 36 (by decide) rfl wd_1065 rfl dX11_parse_503 ?_
                  exact mri C hr hk hH hw dX11_parse_506
                · have hw := ifn c64 hw
                  refine lv_iload hx hb dX11_parse_497 (lv_at hl 4 rfl) ?_
                  refine lv_if_eq (tgt := 507) hx hb dX11_parse_499 (by decide) (fun c65 => ?_) (fun c65 => ?_)
                  · have hw := ifp c65 hw
                    refine lv_iconst (v := 1) hx hb dX11_parse_507 (by decide) ?_
                    refine lv_istore (lv' := [(4, .int (1 : Int32)), (0, .ref (b 69)), (1, .int x1_), (2, .int x2_), (3, .int x3_)]) hx hb dX11_parse_508 hl (by decide) rfl (fun ls hl => ?_)
                    refine lv_iconst (v := 1) hx hb dX11_parse_510 (by decide) ?_
                    refine lv_istore_n (lv' := [(2, .int (1 : Int32)), (4, .int (1 : Int32)), (0, .ref (b 69)), (1, .int x1_), (3, .int x3_)]) hx hb dX11_parse_511 rfl hl (by decide) rfl (fun ls hl => ?_)
                    refine lv_iconst (v := 1) hx hb dX11_parse_512 (by decide) ?_
                    refine lv_istore_n (lv' := [(3, .int (1 : Int32)), (2, .int (1 : Int32)), (4, .int (1 : Int32)), (0, .ref (b 69)), (1, .int x1_)]) hx hb dX11_parse_513 rfl hl (by decide) rfl (fun ls hl => ?_)
                    refine lv_goto (tgt := 681) hx hb dX11_parse_514 (by decide) ?_
                    exact b_M_parse_681 C hr hk ih σ63 x1_ (1 : Int32) (1 : Int32) (1 : Int32) hw _ _ _ hH (lv_sub hl [3, 4, 1, 0, 2] rfl)
                  · have hw := ifn c65 hw
                    refine lv_aload_n hx hb dX11_parse_502 rfl (lv_at hl 0 rfl) ?_
                    refine mg C hH 36 (by decide) rfl wd_1065 rfl dX11_parse_503 ?_
                    exact mri C hr hk hH hw dX11_parse_506
            · have hw := ifp c54 hw
              exact b_M_parse_420 C hr hk ih σ x1_ x4_ hw _ _ _ hH (lv_sub hl [0, 1, 4] rfl)
        · have hw := ifp c52 hw
          refine lv_aload_n hx hb dX11_parse_329 rfl (lv_at hl 0 rfl) ?_
          refine lv_iload_n hx hb dX11_parse_330 rfl (lv_at hl 1 rfl) ?_
          refine lv_iconst (v := 1) hx hb dX11_parse_331 (by decide) ?_
          refine mcVv C hH [.int x1_, .int (1 : Int32)] (fun sz => c_M_done l D Z b σ x1_ (1 : Int32) _ hw sz) (cwTV 2 hts wd_1394 wd_1396 ws_60 wd_14 wd_1397 rfl rfl (by decide +kernel) ⟨Nat.le_of_ble_eq_true rfl, Nat.le_of_ble_eq_true rfl⟩) rfl hl.1 rfl (Nat.le_of_ble_eq_true rfl) dX11_parse_332 ⟨Nat.zero_le _, Nat.zero_le _⟩ (fun  σ66 H locs hw hH => ?_)
          refine lv_aload_n hx hb dX11_parse_335 rfl (lv_at hl 0 rfl) ?_
          refine mg C hH 39 (by decide) rfl wd_1068 rfl dX11_parse_336 ?_
          refine lv_if_eq (tgt := 376) hx hb dX11_parse_339 (by decide) (fun c67 => ?_) (fun c67 => ?_)
          · have hw := ifp c67 hw
            refine lv_aload_n hx hb dX11_parse_376 rfl (lv_at hl 0 rfl) ?_
            refine mg C hH 36 (by decide) rfl wd_1065 rfl dX11_parse_377 ?_
            exact mri C hr hk hH hw dX11_parse_380
          · have hw := ifn c67 hw
            refine lv_aload_n hx hb dX11_parse_342 rfl (lv_at hl 0 rfl) ?_
            refine mg C hH 38 (by decide) rfl wd_1067 rfl dX11_parse_343 ?_
            refine lv_aload_n hx hb dX11_parse_346 rfl (lv_at hl 0 rfl) ?_
            refine mg C hH 39 (by decide) rfl wd_1068 rfl dX11_parse_347 ?_
            refine lv_iconst (v := 1) hx hb dX11_parse_350 (by decide) ?_
            refine lv_isub hx hb dX11_parse_351 ?_
            obtain ⟨h68, hw⟩ := hw
            refine mai C hH 28 38 rfl h68 dX11_parse_352 ?_
            refine lv_sipush (v := 1000) hx hb dX11_parse_353 (by decide) ?_
            refine lv_icmp_lt (tgt := 376) hx hb dX11_parse_356 (by decide) (fun c69 => ?_) (fun c69 => ?_)
            · have hw := ifp c69 hw
              refine lv_aload_n hx hb dX11_parse_376 rfl (lv_at hl 0 rfl) ?_
              refine mg C hH 36 (by decide) rfl wd_1065 rfl dX11_parse_377 ?_
              exact mri C hr hk hH hw dX11_parse_380
            · have hw := ifn c69 hw
              refine lv_aload_n hx hb dX11_parse_359 rfl (lv_at hl 0 rfl) ?_
              refine mg C hH 38 (by decide) rfl wd_1067 rfl dX11_parse_360 ?_
              refine lv_aload_n hx hb dX11_parse_363 rfl (lv_at hl 0 rfl) ?_
              refine mg C hH 39 (by decide) rfl wd_1068 rfl dX11_parse_364 ?_
              refine lv_iconst (v := 1) hx hb dX11_parse_367 (by decide) ?_
              refine lv_isub hx hb dX11_parse_368 ?_
              obtain ⟨h70, hw⟩ := hw
              refine mai C hH 28 38 rfl h70 dX11_parse_369 ?_
              refine lv_sipush (v := 2000) hx hb dX11_parse_370 (by decide) ?_
              refine lv_icmp_lt (tgt := 381) hx hb dX11_parse_373 (by decide) (fun c71 => ?_) (fun c71 => ?_)
              · have hw := ifp c71 hw
                refine lv_aload_n hx hb dX11_parse_381 rfl (lv_at hl 0 rfl) ?_
                refine mg C hH 38 (by decide) rfl wd_1067 rfl dX11_parse_382 ?_
                refine lv_aload_n hx hb dX11_parse_385 rfl (lv_at hl 0 rfl) ?_
                refine mg C hH 39 (by decide) rfl wd_1068 rfl dX11_parse_386 ?_
                refine lv_iconst (v := 1) hx hb dX11_parse_389 (by decide) ?_
                refine lv_isub hx hb dX11_parse_390 ?_
                refine lv_dup2_11 hx hb dX11_parse_391 rfl rfl ?_
                obtain ⟨h72, hw⟩ := hw
                refine mai C hH 28 38 rfl h72 dX11_parse_392 ?_
                refine lv_sipush (v := 1000) hx hb dX11_parse_393 (by decide) ?_
                refine lv_iadd hx hb dX11_parse_396 ?_
                obtain ⟨h73, hw⟩ := hw
                refine msi C hH 28 38 rfl (mast_38 Z b σ66 _ _) h73 dX11_parse_397 (fun H locs hH => ?_)
                have hw := hw _ rfl
                generalize up2 σ66 38 ((σ66 39 0) - (1 : Int32)).toNatClampNeg ((σ66 38 ((σ66 39 0) - (1 : Int32)).toNatClampNeg) + (1000 : Int32)) = σ74 at hw hH
                refine lv_iconst (v := 1) hx hb dX11_parse_398 (by decide) ?_
                refine lv_istore_n (lv' := [(2, .int (1 : Int32)), (0, .ref (b 69)), (1, .int x1_), (3, .int x3_), (4, .int x4_)]) hx hb dX11_parse_399 rfl hl (by decide) rfl (fun ls hl => ?_)
                refine lv_iconst (v := 0) hx hb dX11_parse_400 (by decide) ?_
                refine lv_istore_n (lv' := [(3, .int (0 : Int32)), (2, .int (1 : Int32)), (0, .ref (b 69)), (1, .int x1_), (4, .int x4_)]) hx hb dX11_parse_401 rfl hl (by decide) rfl (fun ls hl => ?_)
                refine lv_goto (tgt := 681) hx hb dX11_parse_402 (by decide) ?_
                exact b_M_parse_681 C hr hk ih σ74 x1_ (1 : Int32) (0 : Int32) x4_ hw _ _ _ hH (lv_sub hl [2, 3, 1, 0, 4] rfl)
              · have hw := ifn c71 hw
                refine lv_aload_n hx hb dX11_parse_376 rfl (lv_at hl 0 rfl) ?_
                refine mg C hH 36 (by decide) rfl wd_1065 rfl dX11_parse_377 ?_
                exact mri C hr hk hH hw dX11_parse_380
      · have hw := ifp c51 hw
        refine lv_aload_n hx hb dX11_parse_222 rfl (lv_at hl 0 rfl) ?_
        refine lv_iload_n hx hb dX11_parse_223 rfl (lv_at hl 1 rfl) ?_
        refine lv_iconst (v := 1) hx hb dX11_parse_224 (by decide) ?_
        refine mcVv C hH [.int x1_, .int (1 : Int32)] (fun sz => c_M_done l D Z b σ x1_ (1 : Int32) _ hw sz) (cwTV 2 hts wd_1394 wd_1396 ws_60 wd_14 wd_1397 rfl rfl (by decide +kernel) ⟨Nat.le_of_ble_eq_true rfl, Nat.le_of_ble_eq_true rfl⟩) rfl hl.1 rfl (Nat.le_of_ble_eq_true rfl) dX11_parse_225 ⟨Nat.zero_le _, Nat.zero_le _⟩ (fun  σ75 H locs hw hH => ?_)
        refine lv_aload_n hx hb dX11_parse_228 rfl (lv_at hl 0 rfl) ?_
        refine mg C hH 39 (by decide) rfl wd_1068 rfl dX11_parse_229 ?_
        refine lv_if_eq (tgt := 269) hx hb dX11_parse_232 (by decide) (fun c76 => ?_) (fun c76 => ?_)
        · have hw := ifp c76 hw
          refine lv_aload_n hx hb dX11_parse_269 rfl (lv_at hl 0 rfl) ?_
          refine mg C hH 36 (by decide) rfl wd_1065 rfl dX11_parse_270 ?_
          exact mri C hr hk hH hw dX11_parse_273
        · have hw := ifn c76 hw
          refine lv_aload_n hx hb dX11_parse_235 rfl (lv_at hl 0 rfl) ?_
          refine mg C hH 38 (by decide) rfl wd_1067 rfl dX11_parse_236 ?_
          refine lv_aload_n hx hb dX11_parse_239 rfl (lv_at hl 0 rfl) ?_
          refine mg C hH 39 (by decide) rfl wd_1068 rfl dX11_parse_240 ?_
          refine lv_iconst (v := 1) hx hb dX11_parse_243 (by decide) ?_
          refine lv_isub hx hb dX11_parse_244 ?_
          obtain ⟨h77, hw⟩ := hw
          refine mai C hH 28 38 rfl h77 dX11_parse_245 ?_
          refine lv_sipush (v := 1000) hx hb dX11_parse_246 (by decide) ?_
          refine lv_icmp_lt (tgt := 274) hx hb dX11_parse_249 (by decide) (fun c78 => ?_) (fun c78 => ?_)
          · have hw := ifp c78 hw
            exact b_M_parse_274 C hr hk ih σ75 x1_ x2_ x3_ x4_ hw _ _ _ hH (lv_sub hl [0, 1, 2, 3, 4] rfl)
          · have hw := ifn c78 hw
            refine lv_aload_n hx hb dX11_parse_252 rfl (lv_at hl 0 rfl) ?_
            refine mg C hH 38 (by decide) rfl wd_1067 rfl dX11_parse_253 ?_
            refine lv_aload_n hx hb dX11_parse_256 rfl (lv_at hl 0 rfl) ?_
            refine mg C hH 39 (by decide) rfl wd_1068 rfl dX11_parse_257 ?_
            refine lv_iconst (v := 1) hx hb dX11_parse_260 (by decide) ?_
            refine lv_isub hx hb dX11_parse_261 ?_
            obtain ⟨h79, hw⟩ := hw
            refine mai C hH 28 38 rfl h79 dX11_parse_262 ?_
            refine lv_sipush (v := 2000) hx hb dX11_parse_263 (by decide) ?_
            refine lv_icmp_ge (tgt := 274) hx hb dX11_parse_266 (by decide) (fun c80 => ?_) (fun c80 => ?_)
            · have hw := ifp c80 hw
              exact b_M_parse_274 C hr hk ih σ75 x1_ x2_ x3_ x4_ hw _ _ _ hH (lv_sub hl [0, 1, 2, 3, 4] rfl)
            · have hw := ifn c80 hw
              refine lv_aload_n hx hb dX11_parse_269 rfl (lv_at hl 0 rfl) ?_
              refine mg C hH 36 (by decide) rfl wd_1065 rfl dX11_parse_270 ?_
              exact mri C hr hk hH hw dX11_parse_273
    · have hw := ifn c50 hw
      refine lv_aload_n hx hb dX11_parse_30 rfl (lv_at hl 0 rfl) ?_
      refine mg C hH 35 (by decide) rfl wd_1064 rfl dX11_parse_31 ?_
      refine lv_bipush (v := 30) hx hb dX11_parse_34 (by decide) ?_
      refine lv_icmp_ne (tgt := 43) hx hb dX11_parse_36 (by decide) (fun c81 => ?_) (fun c81 => ?_)
      · have hw := ifn c81 hw
        exact b_M_parse_43 C hr hk ih σ x1_ x2_ x3_ x4_ hw _ _ _ hH (lv_sub hl [0, 1, 2, 3, 4] rfl)
      · have hw := ifp c81 hw
        refine lv_iload_n hx hb dX11_parse_39 rfl (lv_at hl 3 rfl) ?_
        refine lv_if_ne (tgt := 51) hx hb dX11_parse_40 (by decide) (fun c82 => ?_) (fun c82 => ?_)
        · have hw := ifn c82 hw
          exact b_M_parse_51 C hr hk ih σ x1_ x2_ x4_ hw _ _ _ hH (lv_sub hl [0, 1, 2, 4] rfl)
        · have hw := ifp c82 hw
          exact b_M_parse_43 C hr hk ih σ x1_ x2_ x3_ x4_ hw _ _ _ hH (lv_sub hl [0, 1, 2, 3, 4] rfl)
def wp_M_parse (σ : MS) (a1 : Int32) (post : Int32 → MS → Prop) : Prop := ∀ σ83 : MS, σ83 = up2 σ 34 0 (0 : Int32) → (∀ σ84 : MS, σ84 = up2 σ83 39 0 (0 : Int32) → (∀ σ85 : MS, σ85 = up2 σ84 40 0 (0 : Int32) → (wp_M_advance σ85  (fun σ86 => ∃ nn : Nat, wp_M_parse_26  post nn σ86 a1 (1 : Int32) (0 : Int32) (0 : Int32)))))
set_option maxHeartbeats 4000000 in
set_option maxRecDepth 100000 in
theorem c_M_parse (l : Launch) (D : va_G) (Z : Nat → ClassId) (b : Nat → Nat) (σ : MS) (a1 : Int32) (post : Int32 → MS → Prop) (hw : wp_M_parse σ a1 post) (sz : Nat) : Met l yX11_parse (Wd yX11_parse cX11_parse 6 (some .int)) rm_M_parse (va_Pc [.ref (b 69), .int a1] (mPre D Z b sz σ)) (va_Qi post (mPost D Z b) (mA b sz)) 0 0 (mA b sz) := by
  refine mMi (by decide) rfl _ (Nat.le_of_ble_eq_true rfl) (fun p e s m args below meth c C hr hk ls hl hH => ?_) sz
  obtain ⟨⟨hx, hb, hml, hown, hts⟩, hK⟩ := id C
  have hl : lv_has ls 6 [(0, .ref (b 69)), (1, .int a1)] := hl
  unfold wp_M_parse at hw
  refine lv_aload_n hx hb dX11_parse_0 rfl (lv_at hl 0 rfl) ?_
  refine lv_iconst (v := 0) hx hb dX11_parse_1 (by decide) ?_
  refine mp C hH 34 (by decide) rfl wd_1063 (mset_34 Z b σ _) dX11_parse_2 (fun H locs hH => ?_)
  have hw := hw _ rfl
  generalize up2 σ 34 0 (0 : Int32) = σ83 at hw hH
  refine lv_aload_n hx hb dX11_parse_5 rfl (lv_at hl 0 rfl) ?_
  refine lv_iconst (v := 0) hx hb dX11_parse_6 (by decide) ?_
  refine mp C hH 39 (by decide) rfl wd_1068 (mset_39 Z b σ83 _) dX11_parse_7 (fun H locs hH => ?_)
  have hw := hw _ rfl
  generalize up2 σ83 39 0 (0 : Int32) = σ84 at hw hH
  refine lv_aload_n hx hb dX11_parse_10 rfl (lv_at hl 0 rfl) ?_
  refine lv_iconst (v := 0) hx hb dX11_parse_11 (by decide) ?_
  refine mp C hH 40 (by decide) rfl wd_1069 (mset_40 Z b σ84 _) dX11_parse_12 (fun H locs hH => ?_)
  have hw := hw _ rfl
  generalize up2 σ84 40 0 (0 : Int32) = σ85 at hw hH
  refine lv_iconst (v := 1) hx hb dX11_parse_15 (by decide) ?_
  refine lv_istore_n (lv' := [(2, .int (1 : Int32)), (0, .ref (b 69)), (1, .int a1)]) hx hb dX11_parse_16 rfl hl (by decide) rfl (fun ls hl => ?_)
  refine lv_iconst (v := 0) hx hb dX11_parse_17 (by decide) ?_
  refine lv_istore_n (lv' := [(3, .int (0 : Int32)), (2, .int (1 : Int32)), (0, .ref (b 69)), (1, .int a1)]) hx hb dX11_parse_18 rfl hl (by decide) rfl (fun ls hl => ?_)
  refine lv_iconst (v := 0) hx hb dX11_parse_19 (by decide) ?_
  refine lv_istore (lv' := [(4, .int (0 : Int32)), (3, .int (0 : Int32)), (2, .int (1 : Int32)), (0, .ref (b 69)), (1, .int a1)]) hx hb dX11_parse_20 hl (by decide) rfl (fun ls hl => ?_)
  refine lv_aload_n hx hb dX11_parse_22 rfl (lv_at hl 3 rfl) ?_
  refine mcVv C hH [] (fun sz => c_M_advance l D Z b σ85  _ hw sz) (cwTV 0 hts wd_1349 wd_1351 ws_57 wd_14 wd_1352 rfl rfl (by decide +kernel) ⟨Nat.le_of_ble_eq_true rfl, Nat.le_of_ble_eq_true rfl⟩) rfl hl.1 rfl (Nat.le_of_ble_eq_true rfl) dX11_parse_23 ⟨Nat.zero_le _, Nat.zero_le _⟩ (fun  σ86 H locs hw hH => ?_)
  obtain ⟨nn, hw⟩ := hw
  exact b_M_parse_26 C hr hk  nn σ86 a1 (1 : Int32) (0 : Int32) (0 : Int32) hw _ _ _ hH (lv_sub hl [3, 4, 2, 1, 0] rfl)
/-! isDay -/
abbrev rm_M_isDay : Room := { frames := 1, cells := 0, slots := 0, locals := 22 }
def wp_M_isDay (σ : MS) (a1 : Int32) (post : Int32 → MS → Prop) : Prop := wp_M_in σ a1 (0 : Int32) (166 : Int32) (fun r2 σ1 => bz r2 ∧ post r2 σ1)
set_option maxHeartbeats 4000000 in
set_option maxRecDepth 100000 in
theorem c_M_isDay (l : Launch) (D : va_G) (Z : Nat → ClassId) (b : Nat → Nat) (σ : MS) (a1 : Int32) (post : Int32 → MS → Prop) (hw : wp_M_isDay σ a1 post) (sz : Nat) : Met l yX11_isDay (Wd yX11_isDay cX11_isDay 1 (some .boolean)) rm_M_isDay (va_Pc [.int a1] (mPre D Z b sz σ)) (va_Qi post (mPost D Z b) (mA b sz)) 0 0 (mA b sz) := by
  refine mMi (by decide) rfl _ (Nat.le_of_ble_eq_true rfl) (fun p e s m args below meth c C hr hk ls hl hH => ?_) sz
  obtain ⟨⟨hx, hb, hml, hown, hts⟩, hK⟩ := id C
  have hl : lv_has ls 1 [(0, .int a1)] := hl
  unfold wp_M_isDay at hw
  refine lv_iload_n hx hb dX11_isDay_0 rfl (lv_at hl 0 rfl) ?_
  refine lv_iconst (v := 0) hx hb dX11_isDay_1 (by decide) ?_
  refine lv_sipush (v := 166) hx hb dX11_isDay_2 (by decide) ?_
  refine mcSi C hH [.int a1, .int (0 : Int32), .int (166 : Int32)] (fun sz => c_M_in l D Z b σ a1 (0 : Int32) (166 : Int32) _ hw sz) (cwTS 3 hts wd_1242 wd_1243 wd_14 wd_1244 rfl rfl (by decide +kernel) ⟨Nat.le_of_ble_eq_true rfl, Nat.le_of_ble_eq_true rfl⟩) rfl hl.1 rfl (Nat.le_of_ble_eq_true rfl) dX11_isDay_5 ⟨Nat.zero_le _, Nat.zero_le _⟩ (fun r2 σ1 H locs hw hH => ?_)
  exact mrz C hr hk hH hw.1 hw.2 dX11_isDay_8
/-! law -/
abbrev rm_M_law : Room := { frames := 3, cells := 0, slots := 0, locals := 70 }
def wp_M_law (σ : MS) (a1 : Int32) (a2 : Int32) (a3 : Int32) (post : Int32 → MS → Prop) : Prop := wp_M_isFellowship σ a1 (fun r2 σ1 => if r2 = 0 then (post (-1 : Int32) σ1) else (wp_M_in σ1 a2 (0 : Int32) (4 : Int32) (fun r5 σ4 => if r5 = 0 then (post (-1 : Int32) σ4) else (wp_M_isDay σ4 a3 (fun r8 σ7 => if r8 = 0 then (post (-1 : Int32) σ7) else (if (σ7 26 0) = (40 : Int32) then (post (-3 : Int32) σ7) else (wp_M_parse σ7 (σ7 26 0) (fun r12 σ11 => ∀ σ13 : MS, σ13 = up2 σ11 25 0 (0 : Int32) → (if r12 < 0 then (vp_in (σ13 26 0) 40 ∧ (∀ σ16 : MS, σ16 = up2 σ13 27 (σ13 26 0).toNatClampNeg a1 → (vp_in (σ16 26 0) 40 ∧ (∀ σ18 : MS, σ18 = up2 σ16 28 (σ16 26 0).toNatClampNeg a2 → (wp_M_today σ18  (fun r20 σ19 => vp_in (σ18 26 0) 40 ∧ (∀ σ22 : MS, σ22 = up2 σ19 29 (σ18 26 0).toNatClampNeg r20 → (vp_in (σ22 26 0) 40 ∧ (∀ σ24 : MS, σ24 = up2 σ22 30 (σ22 26 0).toNatClampNeg a3 → (vp_in (σ24 26 0) 40 ∧ (∀ σ26 : MS, σ26 = up2 σ24 31 (σ24 26 0).toNatClampNeg (σ24 40 0) → (∀ σ27 : MS, σ27 = up2 σ26 26 0 ((σ26 26 0) + (1 : Int32)) → (post ((σ27 26 0) - (1 : Int32)) σ27))))))))))))) else (post ((-100 : Int32) - r12) σ13))))))))))
set_option maxHeartbeats 4000000 in
set_option maxRecDepth 100000 in
theorem c_M_law (l : Launch) (D : va_G) (Z : Nat → ClassId) (b : Nat → Nat) (σ : MS) (a1 : Int32) (a2 : Int32) (a3 : Int32) (post : Int32 → MS → Prop) (hw : wp_M_law σ a1 a2 a3 post) (sz : Nat) : Met l yX11_law (Wd yX11_law cX11_law 5 (some .int)) rm_M_law (va_Pc [.ref (b 69), .int a1, .int a2, .int a3] (mPre D Z b sz σ)) (va_Qi post (mPost D Z b) (mA b sz)) 0 0 (mA b sz) := by
  refine mMi (by decide) rfl _ (Nat.le_of_ble_eq_true rfl) (fun p e s m args below meth c C hr hk ls hl hH => ?_) sz
  obtain ⟨⟨hx, hb, hml, hown, hts⟩, hK⟩ := id C
  have hl : lv_has ls 5 [(0, .ref (b 69)), (1, .int a1), (2, .int a2), (3, .int a3)] := hl
  unfold wp_M_law at hw
  refine lv_iload_n hx hb dX11_law_0 rfl (lv_at hl 1 rfl) ?_
  refine mcSi C hH [.int a1] (fun sz => c_M_isFellowship l D Z b σ a1 _ hw sz) (cwTS 1 hts wd_1283 wd_1284 wd_14 wd_1285 rfl rfl (by decide +kernel) ⟨Nat.le_of_ble_eq_true rfl, Nat.le_of_ble_eq_true rfl⟩) rfl hl.1 rfl (Nat.le_of_ble_eq_true rfl) dX11_law_1 ⟨Nat.zero_le _, Nat.zero_le _⟩ (fun r2 σ1 H locs hw hH => ?_)
  refine lv_if_eq (tgt := 23) hx hb dX11_law_4 (by decide) (fun c3 => ?_) (fun c3 => ?_)
  · have hw := ifp c3 hw
    refine lv_iconst (v := -1) hx hb dX11_law_23 (by decide) ?_
    exact mri C hr hk hH hw dX11_law_24
  · have hw := ifn c3 hw
    refine lv_iload_n hx hb dX11_law_7 rfl (lv_at hl 2 rfl) ?_
    refine lv_iconst (v := 0) hx hb dX11_law_8 (by decide) ?_
    refine lv_iconst (v := 4) hx hb dX11_law_9 (by decide) ?_
    refine mcSi C hH [.int a2, .int (0 : Int32), .int (4 : Int32)] (fun sz => c_M_in l D Z b σ1 a2 (0 : Int32) (4 : Int32) _ hw sz) (cwTS 3 hts wd_1242 wd_1243 wd_14 wd_1244 rfl rfl (by decide +kernel) ⟨Nat.le_of_ble_eq_true rfl, Nat.le_of_ble_eq_true rfl⟩) rfl hl.1 rfl (Nat.le_of_ble_eq_true rfl) dX11_law_10 ⟨Nat.zero_le _, Nat.zero_le _⟩ (fun r5 σ4 H locs hw hH => ?_)
    refine lv_if_eq (tgt := 23) hx hb dX11_law_13 (by decide) (fun c6 => ?_) (fun c6 => ?_)
    · have hw := ifp c6 hw
      refine lv_iconst (v := -1) hx hb dX11_law_23 (by decide) ?_
      exact mri C hr hk hH hw dX11_law_24
    · have hw := ifn c6 hw
      refine lv_iload_n hx hb dX11_law_16 rfl (lv_at hl 3 rfl) ?_
      refine mcSi C hH [.int a3] (fun sz => c_M_isDay l D Z b σ4 a3 _ hw sz) (cwTS 1 hts wd_1342 wd_1343 wd_14 wd_1344 rfl rfl (by decide +kernel) ⟨Nat.le_of_ble_eq_true rfl, Nat.le_of_ble_eq_true rfl⟩) rfl hl.1 rfl (Nat.le_of_ble_eq_true rfl) dX11_law_17 ⟨Nat.zero_le _, Nat.zero_le _⟩ (fun r8 σ7 H locs hw hH => ?_)
      refine lv_if_ne (tgt := 25) hx hb dX11_law_20 (by decide) (fun c9 => ?_) (fun c9 => ?_)
      · have hw := ifn c9 hw
        refine lv_aload_n hx hb dX11_law_25 rfl (lv_at hl 0 rfl) ?_
        refine mg C hH 26 (by decide) rfl wd_1055 rfl dX11_law_26 ?_
        refine lv_bipush (v := 40) hx hb dX11_law_29 (by decide) ?_
        refine lv_icmp_ne (tgt := 37) hx hb dX11_law_31 (by decide) (fun c10 => ?_) (fun c10 => ?_)
        · have hw := ifn c10 hw
          refine lv_aload_n hx hb dX11_law_37 rfl (lv_at hl 0 rfl) ?_
          refine lv_aload_n hx hb dX11_law_38 rfl (lv_at hl 0 rfl) ?_
          refine mg C hH 26 (by decide) rfl wd_1055 rfl dX11_law_39 ?_
          refine mcVi C hH [.int (σ7 26 0)] (fun sz => c_M_parse l D Z b σ7 (σ7 26 0) _ hw sz) (cwTV 1 hts wd_1345 wd_1347 ws_56 wd_14 wd_1348 rfl rfl (by decide +kernel) ⟨Nat.le_of_ble_eq_true rfl, Nat.le_of_ble_eq_true rfl⟩) rfl hl.1 rfl (Nat.le_of_ble_eq_true rfl) dX11_law_42 ⟨Nat.zero_le _, Nat.zero_le _⟩ (fun r12 σ11 H locs hw hH => ?_)
          refine lv_istore (lv' := [(4, .int r12), (0, .ref (b 69)), (1, .int a1), (2, .int a2), (3, .int a3)]) hx hb dX11_law_45 hl (by decide) rfl (fun ls hl => ?_)
          refine lv_aload_n hx hb dX11_law_47 rfl (lv_at hl 1 rfl) ?_
          refine lv_iconst (v := 0) hx hb dX11_law_48 (by decide) ?_
          refine mp C hH 25 (by decide) rfl wd_1054 (mset_25 Z b σ11 _) dX11_law_49 (fun H locs hH => ?_)
          have hw := hw _ rfl
          generalize up2 σ11 25 0 (0 : Int32) = σ13 at hw hH
          refine lv_iload hx hb dX11_law_52 (lv_at hl 0 rfl) ?_
          refine lv_if_lt (tgt := 63) hx hb dX11_law_54 (by decide) (fun c14 => ?_) (fun c14 => ?_)
          · have hw := ifp c14 hw
            refine lv_aload_n hx hb dX11_law_63 rfl (lv_at hl 1 rfl) ?_
            refine mg C hH 27 (by decide) rfl wd_1056 rfl dX11_law_64 ?_
            refine lv_aload_n hx hb dX11_law_67 rfl (lv_at hl 1 rfl) ?_
            refine mg C hH 26 (by decide) rfl wd_1055 rfl dX11_law_68 ?_
            refine lv_iload_n hx hb dX11_law_71 rfl (lv_at hl 2 rfl) ?_
            obtain ⟨h15, hw⟩ := hw
            refine msi C hH 21 27 rfl (mast_27 Z b σ13 _ _) h15 dX11_law_72 (fun H locs hH => ?_)
            have hw := hw _ rfl
            generalize up2 σ13 27 (σ13 26 0).toNatClampNeg a1 = σ16 at hw hH
            refine lv_aload_n hx hb dX11_law_73 rfl (lv_at hl 1 rfl) ?_
            refine mg C hH 28 (by decide) rfl wd_1057 rfl dX11_law_74 ?_
            refine lv_aload_n hx hb dX11_law_77 rfl (lv_at hl 1 rfl) ?_
            refine mg C hH 26 (by decide) rfl wd_1055 rfl dX11_law_78 ?_
            refine lv_iload_n hx hb dX11_law_81 rfl (lv_at hl 3 rfl) ?_
            obtain ⟨h17, hw⟩ := hw
            refine msi C hH 22 28 rfl (mast_28 Z b σ16 _ _) h17 dX11_law_82 (fun H locs hH => ?_)
            have hw := hw _ rfl
            generalize up2 σ16 28 (σ16 26 0).toNatClampNeg a2 = σ18 at hw hH
            refine lv_aload_n hx hb dX11_law_83 rfl (lv_at hl 1 rfl) ?_
            refine mg C hH 29 (by decide) rfl wd_1058 rfl dX11_law_84 ?_
            refine lv_aload_n hx hb dX11_law_87 rfl (lv_at hl 1 rfl) ?_
            refine mg C hH 26 (by decide) rfl wd_1055 rfl dX11_law_88 ?_
            refine lv_aload_n hx hb dX11_law_91 rfl (lv_at hl 1 rfl) ?_
            refine mcVi C hH [] (fun sz => c_M_today l D Z b σ18  _ hw sz) (cwTV 0 hts wd_1405 wd_1407 ws_62 wd_14 wd_1408 rfl rfl (by decide +kernel) ⟨Nat.le_of_ble_eq_true rfl, Nat.le_of_ble_eq_true rfl⟩) rfl hl.1 rfl (Nat.le_of_ble_eq_true rfl) dX11_law_92 ⟨Nat.zero_le _, Nat.zero_le _⟩ (fun r20 σ19 H locs hw hH => ?_)
            obtain ⟨h21, hw⟩ := hw
            refine msi C hH 23 29 rfl (mast_29 Z b σ19 _ _) h21 dX11_law_95 (fun H locs hH => ?_)
            have hw := hw _ rfl
            generalize up2 σ19 29 (σ18 26 0).toNatClampNeg r20 = σ22 at hw hH
            refine lv_aload_n hx hb dX11_law_96 rfl (lv_at hl 1 rfl) ?_
            refine mg C hH 30 (by decide) rfl wd_1059 rfl dX11_law_97 ?_
            refine lv_aload_n hx hb dX11_law_100 rfl (lv_at hl 1 rfl) ?_
            refine mg C hH 26 (by decide) rfl wd_1055 rfl dX11_law_101 ?_
            refine lv_iload_n hx hb dX11_law_104 rfl (lv_at hl 4 rfl) ?_
            obtain ⟨h23, hw⟩ := hw
            refine msi C hH 24 30 rfl (mast_30 Z b σ22 _ _) h23 dX11_law_105 (fun H locs hH => ?_)
            have hw := hw _ rfl
            generalize up2 σ22 30 (σ22 26 0).toNatClampNeg a3 = σ24 at hw hH
            refine lv_aload_n hx hb dX11_law_106 rfl (lv_at hl 1 rfl) ?_
            refine mg C hH 31 (by decide) rfl wd_1060 rfl dX11_law_107 ?_
            refine lv_aload_n hx hb dX11_law_110 rfl (lv_at hl 1 rfl) ?_
            refine mg C hH 26 (by decide) rfl wd_1055 rfl dX11_law_111 ?_
            refine lv_aload_n hx hb dX11_law_114 rfl (lv_at hl 1 rfl) ?_
            refine mg C hH 40 (by decide) rfl wd_1069 rfl dX11_law_115 ?_
            obtain ⟨h25, hw⟩ := hw
            refine msi C hH 25 31 rfl (mast_31 Z b σ24 _ _) h25 dX11_law_118 (fun H locs hH => ?_)
            have hw := hw _ rfl
            generalize up2 σ24 31 (σ24 26 0).toNatClampNeg (σ24 40 0) = σ26 at hw hH
            refine lv_aload_n hx hb dX11_law_119 rfl (lv_at hl 1 rfl) ?_
            refine lv_dup hx hb dX11_law_120 rfl ?_
            refine mg C hH 26 (by decide) rfl wd_1055 rfl dX11_law_121 ?_
            refine lv_iconst (v := 1) hx hb dX11_law_124 (by decide) ?_
            refine lv_iadd hx hb dX11_law_125 ?_
            refine mp C hH 26 (by decide) rfl wd_1055 (mset_26 Z b σ26 _) dX11_law_126 (fun H locs hH => ?_)
            have hw := hw _ rfl
            generalize up2 σ26 26 0 ((σ26 26 0) + (1 : Int32)) = σ27 at hw hH
            refine lv_aload_n hx hb dX11_law_129 rfl (lv_at hl 1 rfl) ?_
            refine mg C hH 26 (by decide) rfl wd_1055 rfl dX11_law_130 ?_
            refine lv_iconst (v := 1) hx hb dX11_law_133 (by decide) ?_
            refine lv_isub hx hb dX11_law_134 ?_
            exact mri C hr hk hH hw dX11_law_135
          · have hw := ifn c14 hw
            refine lv_bipush (v := -100) hx hb dX11_law_57 (by decide) ?_
            refine lv_iload hx hb dX11_law_59 (lv_at hl 0 rfl) ?_
            refine lv_isub hx hb dX11_law_61 ?_
            exact mri C hr hk hH hw dX11_law_62
        · have hw := ifp c10 hw
          refine lv_bipush (v := -3) hx hb dX11_law_34 (by decide) ?_
          exact mri C hr hk hH hw dX11_law_36
      · have hw := ifp c9 hw
        refine lv_iconst (v := -1) hx hb dX11_law_23 (by decide) ?_
        exact mri C hr hk hH hw dX11_law_24
/-! forceOn -/
abbrev rm_M_forceOn : Room := { frames := 0, cells := 0, slots := 0, locals := 0 }
def wp_M_forceOn_61 (k8 : MS → Int32 → Int32 → Int32 → Int32 → Int32 → Prop) (post : Int32 → MS → Prop) (σ : MS) (x1_ : Int32) (x2_ : Int32) (x3_ : Int32) (x4_ : Int32) (x5_ : Int32) : Prop := ∀ x1 : Int32, x1 = x5_ + (-1 : Int32) → (k8 σ x1_ x2_ x3_ x4_ x1)
set_option maxHeartbeats 4000000 in
set_option maxRecDepth 100000 in
theorem b_M_forceOn_61 {p : Program} {l : Launch} {e : Env} {s : State} {m : MethodId} {args : Array Value} {below : List Frame} {meth : Method} {c : Code} {D : va_G} {Z : Nat → ClassId} {b : Nat → Nat} (C : MC p s m args c cX11_forceOn 6 D Z) (hr : meth.sig.returnType = some .int) (hk : meth.locks = false) {post : Int32 → MS → Prop} {k8 : MS → Int32 → Int32 → Int32 → Int32 → Int32 → Prop} (hk8 : ∀ (σ : MS) (y1 : Int32) (y2 : Int32) (y3 : Int32) (y4 : Int32) (y5 : Int32), k8 σ y1 y2 y3 y4 y5 → ∀ (H : Heap) (locs : List Loc) (ls : Array Slot), MH D Z b s.heap σ H locs → lv_has ls 6 [(0, .ref (b 69)), (1, .int y1), (2, .int y2), (3, .int y3), (4, .int y4), (5, .int y5)] → MWi p l e rm_M_forceOn s m args below meth c D Z b post H locs (F0 m 8 ls [])) : ∀ (σ : MS) (x1_ : Int32) (x2_ : Int32) (x3_ : Int32) (x4_ : Int32) (x5_ : Int32), wp_M_forceOn_61 k8 post σ x1_ x2_ x3_ x4_ x5_ → ∀ (H : Heap) (locs : List Loc) (ls : Array Slot), MH D Z b s.heap σ H locs → lv_has ls 6 [(0, .ref (b 69)), (1, .int x1_), (2, .int x2_), (3, .int x3_), (4, .int x4_), (5, .int x5_)] → MWi p l e rm_M_forceOn s m args below meth c D Z b post H locs (F0 m 61 ls []) := by
  obtain ⟨⟨hx, hb, hml, hown, hts⟩, hK⟩ := id C
  intro σ x1_ x2_ x3_ x4_ x5_ hw H locs ls hH hl
  unfold wp_M_forceOn_61 at hw
  obtain ⟨x1, ex1⟩ : ∃ y : Int32, y = x5_ + (-1 : Int32) := ⟨_, rfl⟩
  have hw := hw x1 ex1
  refine lv_iinc (v := x1) (lv' := [(5, .int x1), (0, .ref (b 69)), (1, .int x1_), (2, .int x2_), (3, .int x3_), (4, .int x4_)]) hx hb dX11_forceOn_61 hl (k := 5) rfl (by rw [ex1]; rfl) (by decide) rfl (fun ls hl => ?_)
  refine lv_goto (tgt := 8) hx hb dX11_forceOn_64 (by decide) ?_
  exact hk8 σ x1_ x2_ x3_ x4_ x1 hw _ _ _ hH (lv_sub hl [1, 2, 3, 4, 5, 0] rfl)
def wp_M_forceOn_8 (post : Int32 → MS → Prop) : Nat → MS → Int32 → Int32 → Int32 → Int32 → Int32 → Prop
  | 0 => fun _ _ _ _ _ _ => False
  | n + 1 => fun σ x1_ x2_ x3_ x4_ x5_ => if x5_ < 0 then (post (-2 : Int32) σ) else (vp_in x5_ 40 ∧ (if (σ 27 x5_.toNatClampNeg) = x1_ then (vp_in x5_ 40 ∧ (if (σ 28 x5_.toNatClampNeg) = x2_ then (vp_in x5_ 40 ∧ (if x4_ < (σ 29 x5_.toNatClampNeg) then (wp_M_forceOn_61 (wp_M_forceOn_8 post n) post σ x1_ x2_ x3_ x4_ x5_) else (vp_in x5_ 40 ∧ (if x3_ < (σ 30 x5_.toNatClampNeg) then (wp_M_forceOn_61 (wp_M_forceOn_8 post n) post σ x1_ x2_ x3_ x4_ x5_) else (post x5_ σ))))) else (wp_M_forceOn_61 (wp_M_forceOn_8 post n) post σ x1_ x2_ x3_ x4_ x5_))) else (wp_M_forceOn_61 (wp_M_forceOn_8 post n) post σ x1_ x2_ x3_ x4_ x5_)))
set_option maxHeartbeats 4000000 in
set_option maxRecDepth 100000 in
theorem b_M_forceOn_8 {p : Program} {l : Launch} {e : Env} {s : State} {m : MethodId} {args : Array Value} {below : List Frame} {meth : Method} {c : Code} {D : va_G} {Z : Nat → ClassId} {b : Nat → Nat} (C : MC p s m args c cX11_forceOn 6 D Z) (hr : meth.sig.returnType = some .int) (hk : meth.locks = false) {post : Int32 → MS → Prop} : ∀ (n : Nat) (σ : MS) (x1_ : Int32) (x2_ : Int32) (x3_ : Int32) (x4_ : Int32) (x5_ : Int32), wp_M_forceOn_8  post n σ x1_ x2_ x3_ x4_ x5_ → ∀ (H : Heap) (locs : List Loc) (ls : Array Slot), MH D Z b s.heap σ H locs → lv_has ls 6 [(0, .ref (b 69)), (1, .int x1_), (2, .int x2_), (3, .int x3_), (4, .int x4_), (5, .int x5_)] → MWi p l e rm_M_forceOn s m args below meth c D Z b post H locs (F0 m 8 ls []) := by
  obtain ⟨⟨hx, hb, hml, hown, hts⟩, hK⟩ := id C
  intro n
  induction n with
  | zero => intro σ x1_ x2_ x3_ x4_ x5_ hw; exact hw.elim
  | succ n ih =>
    intro σ x1_ x2_ x3_ x4_ x5_ hw H locs ls hH hl
    unfold wp_M_forceOn_8 at hw
    refine lv_iload hx hb dX11_forceOn_8 (lv_at hl 5 rfl) ?_
    refine lv_if_lt (tgt := 67) hx hb dX11_forceOn_10 (by decide) (fun c2 => ?_) (fun c2 => ?_)
    · have hw := ifp c2 hw
      refine lv_bipush (v := -2) hx hb dX11_forceOn_67 (by decide) ?_
      exact mri C hr hk hH hw dX11_forceOn_69
    · have hw := ifn c2 hw
      refine lv_aload_n hx hb dX11_forceOn_13 rfl (lv_at hl 0 rfl) ?_
      refine mg C hH 27 (by decide) rfl wd_1056 rfl dX11_forceOn_14 ?_
      refine lv_iload hx hb dX11_forceOn_17 (lv_at hl 5 rfl) ?_
      obtain ⟨h3, hw⟩ := hw
      refine mai C hH 21 27 rfl h3 dX11_forceOn_19 ?_
      refine lv_iload_n hx hb dX11_forceOn_20 rfl (lv_at hl 1 rfl) ?_
      refine lv_icmp_ne (tgt := 61) hx hb dX11_forceOn_21 (by decide) (fun c4 => ?_) (fun c4 => ?_)
      · have hw := ifn c4 hw
        exact b_M_forceOn_61 C hr hk ih σ x1_ x2_ x3_ x4_ x5_ hw _ _ _ hH (lv_sub hl [0, 1, 2, 3, 4, 5] rfl)
      · have hw := ifp c4 hw
        refine lv_aload_n hx hb dX11_forceOn_24 rfl (lv_at hl 0 rfl) ?_
        refine mg C hH 28 (by decide) rfl wd_1057 rfl dX11_forceOn_25 ?_
        refine lv_iload hx hb dX11_forceOn_28 (lv_at hl 5 rfl) ?_
        obtain ⟨h5, hw⟩ := hw
        refine mai C hH 22 28 rfl h5 dX11_forceOn_30 ?_
        refine lv_iload_n hx hb dX11_forceOn_31 rfl (lv_at hl 2 rfl) ?_
        refine lv_icmp_ne (tgt := 61) hx hb dX11_forceOn_32 (by decide) (fun c6 => ?_) (fun c6 => ?_)
        · have hw := ifn c6 hw
          exact b_M_forceOn_61 C hr hk ih σ x1_ x2_ x3_ x4_ x5_ hw _ _ _ hH (lv_sub hl [0, 1, 2, 3, 4, 5] rfl)
        · have hw := ifp c6 hw
          refine lv_aload_n hx hb dX11_forceOn_35 rfl (lv_at hl 0 rfl) ?_
          refine mg C hH 29 (by decide) rfl wd_1058 rfl dX11_forceOn_36 ?_
          refine lv_iload hx hb dX11_forceOn_39 (lv_at hl 5 rfl) ?_
          obtain ⟨h7, hw⟩ := hw
          refine mai C hH 23 29 rfl h7 dX11_forceOn_41 ?_
          refine lv_iload hx hb dX11_forceOn_42 (lv_at hl 4 rfl) ?_
          refine lv_icmp_gt (tgt := 61) hx hb dX11_forceOn_44 (by decide) (fun c8 => ?_) (fun c8 => ?_)
          · have hw := ifp c8 hw
            exact b_M_forceOn_61 C hr hk ih σ x1_ x2_ x3_ x4_ x5_ hw _ _ _ hH (lv_sub hl [0, 1, 2, 3, 4, 5] rfl)
          · have hw := ifn c8 hw
            refine lv_aload_n hx hb dX11_forceOn_47 rfl (lv_at hl 0 rfl) ?_
            refine mg C hH 30 (by decide) rfl wd_1059 rfl dX11_forceOn_48 ?_
            refine lv_iload hx hb dX11_forceOn_51 (lv_at hl 5 rfl) ?_
            obtain ⟨h9, hw⟩ := hw
            refine mai C hH 24 30 rfl h9 dX11_forceOn_53 ?_
            refine lv_iload_n hx hb dX11_forceOn_54 rfl (lv_at hl 3 rfl) ?_
            refine lv_icmp_gt (tgt := 61) hx hb dX11_forceOn_55 (by decide) (fun c10 => ?_) (fun c10 => ?_)
            · have hw := ifp c10 hw
              exact b_M_forceOn_61 C hr hk ih σ x1_ x2_ x3_ x4_ x5_ hw _ _ _ hH (lv_sub hl [0, 1, 2, 3, 4, 5] rfl)
            · have hw := ifn c10 hw
              refine lv_iload hx hb dX11_forceOn_58 (lv_at hl 5 rfl) ?_
              exact mri C hr hk hH hw dX11_forceOn_60
def wp_M_forceOn (σ : MS) (a1 : Int32) (a2 : Int32) (a3 : Int32) (a4 : Int32) (post : Int32 → MS → Prop) : Prop := ∀ x11 : Int32, x11 = ((σ 26 0) - (1 : Int32)) → (∃ nn : Nat, wp_M_forceOn_8  post nn σ a1 a2 a3 a4 x11)
set_option maxHeartbeats 4000000 in
set_option maxRecDepth 100000 in
theorem c_M_forceOn (l : Launch) (D : va_G) (Z : Nat → ClassId) (b : Nat → Nat) (σ : MS) (a1 : Int32) (a2 : Int32) (a3 : Int32) (a4 : Int32) (post : Int32 → MS → Prop) (hw : wp_M_forceOn σ a1 a2 a3 a4 post) (sz : Nat) : Met l yX11_forceOn (Wd yX11_forceOn cX11_forceOn 6 (some .int)) rm_M_forceOn (va_Pc [.ref (b 69), .int a1, .int a2, .int a3, .int a4] (mPre D Z b sz σ)) (va_Qi post (mPost D Z b) (mA b sz)) 0 0 (mA b sz) := by
  refine mMi (by decide) rfl _ (Nat.le_of_ble_eq_true rfl) (fun p e s m args below meth c C hr hk ls hl hH => ?_) sz
  obtain ⟨⟨hx, hb, hml, hown, hts⟩, hK⟩ := id C
  have hl : lv_has ls 6 [(0, .ref (b 69)), (1, .int a1), (2, .int a2), (3, .int a3), (4, .int a4)] := hl
  unfold wp_M_forceOn at hw
  refine lv_aload_n hx hb dX11_forceOn_0 rfl (lv_at hl 0 rfl) ?_
  refine mg C hH 26 (by decide) rfl wd_1055 rfl dX11_forceOn_1 ?_
  refine lv_iconst (v := 1) hx hb dX11_forceOn_4 (by decide) ?_
  refine lv_isub hx hb dX11_forceOn_5 ?_
  refine lv_topi (fun x11 ex11 => ?_)
  have hw := hw x11 ex11
  refine lv_istore (lv' := [(5, .int x11), (0, .ref (b 69)), (1, .int a1), (2, .int a2), (3, .int a3), (4, .int a4)]) hx hb dX11_forceOn_6 hl (by decide) rfl (fun ls hl => ?_)
  obtain ⟨nn, hw⟩ := hw
  exact b_M_forceOn_8 C hr hk  nn σ a1 a2 a3 a4 x11 hw _ _ _ hH (lv_sub hl [1, 2, 3, 4, 5, 0] rfl)
/-! inForce -/
abbrev rm_M_inForce : Room := { frames := 2, cells := 0, slots := 0, locals := 42 }
def wp_M_inForce (σ : MS) (a1 : Int32) (a2 : Int32) (a3 : Int32) (a4 : Int32) (post : Int32 → MS → Prop) : Prop := wp_M_isFellowship σ a1 (fun r2 σ1 => if r2 = 0 then (post (-1 : Int32) σ1) else (wp_M_in σ1 a2 (0 : Int32) (4 : Int32) (fun r5 σ4 => if r5 = 0 then (post (-1 : Int32) σ4) else (wp_M_isDay σ4 a3 (fun r8 σ7 => if r8 = 0 then (post (-1 : Int32) σ7) else (wp_M_isDay σ7 a4 (fun r11 σ10 => if r11 = 0 then (post (-1 : Int32) σ10) else (wp_M_forceOn σ10 a1 a2 a3 a4 (fun r14 σ13 => post r14 σ13)))))))))
set_option maxHeartbeats 4000000 in
set_option maxRecDepth 100000 in
theorem c_M_inForce (l : Launch) (D : va_G) (Z : Nat → ClassId) (b : Nat → Nat) (σ : MS) (a1 : Int32) (a2 : Int32) (a3 : Int32) (a4 : Int32) (post : Int32 → MS → Prop) (hw : wp_M_inForce σ a1 a2 a3 a4 post) (sz : Nat) : Met l yX11_inForce (Wd yX11_inForce cX11_inForce 5 (some .int)) rm_M_inForce (va_Pc [.ref (b 69), .int a1, .int a2, .int a3, .int a4] (mPre D Z b sz σ)) (va_Qi post (mPost D Z b) (mA b sz)) 0 0 (mA b sz) := by
  refine mMi (by decide) rfl _ (Nat.le_of_ble_eq_true rfl) (fun p e s m args below meth c C hr hk ls hl hH => ?_) sz
  obtain ⟨⟨hx, hb, hml, hown, hts⟩, hK⟩ := id C
  have hl : lv_has ls 5 [(0, .ref (b 69)), (1, .int a1), (2, .int a2), (3, .int a3), (4, .int a4)] := hl
  unfold wp_M_inForce at hw
  refine lv_iload_n hx hb dX11_inForce_0 rfl (lv_at hl 1 rfl) ?_
  refine mcSi C hH [.int a1] (fun sz => c_M_isFellowship l D Z b σ a1 _ hw sz) (cwTS 1 hts wd_1283 wd_1284 wd_14 wd_1285 rfl rfl (by decide +kernel) ⟨Nat.le_of_ble_eq_true rfl, Nat.le_of_ble_eq_true rfl⟩) rfl hl.1 rfl (Nat.le_of_ble_eq_true rfl) dX11_inForce_1 ⟨Nat.zero_le _, Nat.zero_le _⟩ (fun r2 σ1 H locs hw hH => ?_)
  refine lv_if_eq (tgt := 43) hx hb dX11_inForce_4 (by decide) (fun c3 => ?_) (fun c3 => ?_)
  · have hw := ifp c3 hw
    refine lv_iconst (v := -1) hx hb dX11_inForce_43 (by decide) ?_
    exact mri C hr hk hH hw dX11_inForce_44
  · have hw := ifn c3 hw
    refine lv_iload_n hx hb dX11_inForce_7 rfl (lv_at hl 2 rfl) ?_
    refine lv_iconst (v := 0) hx hb dX11_inForce_8 (by decide) ?_
    refine lv_iconst (v := 4) hx hb dX11_inForce_9 (by decide) ?_
    refine mcSi C hH [.int a2, .int (0 : Int32), .int (4 : Int32)] (fun sz => c_M_in l D Z b σ1 a2 (0 : Int32) (4 : Int32) _ hw sz) (cwTS 3 hts wd_1242 wd_1243 wd_14 wd_1244 rfl rfl (by decide +kernel) ⟨Nat.le_of_ble_eq_true rfl, Nat.le_of_ble_eq_true rfl⟩) rfl hl.1 rfl (Nat.le_of_ble_eq_true rfl) dX11_inForce_10 ⟨Nat.zero_le _, Nat.zero_le _⟩ (fun r5 σ4 H locs hw hH => ?_)
    refine lv_if_eq (tgt := 43) hx hb dX11_inForce_13 (by decide) (fun c6 => ?_) (fun c6 => ?_)
    · have hw := ifp c6 hw
      refine lv_iconst (v := -1) hx hb dX11_inForce_43 (by decide) ?_
      exact mri C hr hk hH hw dX11_inForce_44
    · have hw := ifn c6 hw
      refine lv_iload_n hx hb dX11_inForce_16 rfl (lv_at hl 3 rfl) ?_
      refine mcSi C hH [.int a3] (fun sz => c_M_isDay l D Z b σ4 a3 _ hw sz) (cwTS 1 hts wd_1342 wd_1343 wd_14 wd_1344 rfl rfl (by decide +kernel) ⟨Nat.le_of_ble_eq_true rfl, Nat.le_of_ble_eq_true rfl⟩) rfl hl.1 rfl (Nat.le_of_ble_eq_true rfl) dX11_inForce_17 ⟨Nat.zero_le _, Nat.zero_le _⟩ (fun r8 σ7 H locs hw hH => ?_)
      refine lv_if_eq (tgt := 43) hx hb dX11_inForce_20 (by decide) (fun c9 => ?_) (fun c9 => ?_)
      · have hw := ifp c9 hw
        refine lv_iconst (v := -1) hx hb dX11_inForce_43 (by decide) ?_
        exact mri C hr hk hH hw dX11_inForce_44
      · have hw := ifn c9 hw
        refine lv_iload hx hb dX11_inForce_23 (lv_at hl 4 rfl) ?_
        refine mcSi C hH [.int a4] (fun sz => c_M_isDay l D Z b σ7 a4 _ hw sz) (cwTS 1 hts wd_1342 wd_1343 wd_14 wd_1344 rfl rfl (by decide +kernel) ⟨Nat.le_of_ble_eq_true rfl, Nat.le_of_ble_eq_true rfl⟩) rfl hl.1 rfl (Nat.le_of_ble_eq_true rfl) dX11_inForce_25 ⟨Nat.zero_le _, Nat.zero_le _⟩ (fun r11 σ10 H locs hw hH => ?_)
        refine lv_if_eq (tgt := 43) hx hb dX11_inForce_28 (by decide) (fun c12 => ?_) (fun c12 => ?_)
        · have hw := ifp c12 hw
          refine lv_iconst (v := -1) hx hb dX11_inForce_43 (by decide) ?_
          exact mri C hr hk hH hw dX11_inForce_44
        · have hw := ifn c12 hw
          refine lv_aload_n hx hb dX11_inForce_31 rfl (lv_at hl 0 rfl) ?_
          refine lv_iload_n hx hb dX11_inForce_32 rfl (lv_at hl 1 rfl) ?_
          refine lv_iload_n hx hb dX11_inForce_33 rfl (lv_at hl 2 rfl) ?_
          refine lv_iload_n hx hb dX11_inForce_34 rfl (lv_at hl 3 rfl) ?_
          refine lv_iload hx hb dX11_inForce_35 (lv_at hl 4 rfl) ?_
          refine mcVi C hH [.int a1, .int a2, .int a3, .int a4] (fun sz => c_M_forceOn l D Z b σ10 a1 a2 a3 a4 _ hw sz) (cwTV 4 hts wd_1413 wd_1415 ws_63 wd_14 wd_1416 rfl rfl (by decide +kernel) ⟨Nat.le_of_ble_eq_true rfl, Nat.le_of_ble_eq_true rfl⟩) rfl hl.1 rfl (Nat.le_of_ble_eq_true rfl) dX11_inForce_37 ⟨Nat.zero_le _, Nat.zero_le _⟩ (fun r14 σ13 H locs hw hH => ?_)
          refine lv_goto (tgt := 44) hx hb dX11_inForce_40 (by decide) ?_
          exact mri C hr hk hH hw dX11_inForce_44
/-! both -/
abbrev rm_M_both : Room := { frames := 0, cells := 0, slots := 0, locals := 0 }
def wp_M_both (σ : MS) (a1 : Int32) (a2 : Int32) (a3 : Int32) (post : Int32 → MS → Prop) : Prop := if a1 = (10 : Int32) then (if a2 = 0 then (if a3 = 0 then (post (0 : Int32) σ) else (post (1 : Int32) σ)) else (post (1 : Int32) σ)) else (if a1 = (20 : Int32) then (if a2 = 0 then (post (0 : Int32) σ) else (if a3 = 0 then (post (0 : Int32) σ) else (post (1 : Int32) σ))) else (if a1 = (40 : Int32) then (if a3 ≤ a2 then (post (0 : Int32) σ) else (post (1 : Int32) σ)) else (if a1 = (41 : Int32) then (if a2 = a3 then (post (1 : Int32) σ) else (post (0 : Int32) σ)) else (if a1 = (42 : Int32) then (if a2 ≤ a3 then (post (0 : Int32) σ) else (post (1 : Int32) σ)) else (if a1 = (50 : Int32) then (post (a2 + a3) σ) else (if a1 = (51 : Int32) then (post (a2 - a3) σ) else (if a1 = (60 : Int32) then (post (a2 * a3) σ) else (if a1 = (70 : Int32) then (if a3 ≤ a2 then (post a3 σ) else (post a2 σ)) else (if a1 = (71 : Int32) then (if a2 ≤ a3 then (post a3 σ) else (post a2 σ)) else (if a3 = 0 then (post (0 : Int32) σ) else (if a3 = (-1 : Int32) then (post (-a2) σ) else (¬ a3 = 0 ∧ (post (a2 / a3) σ)))))))))))))
set_option maxHeartbeats 4000000 in
set_option maxRecDepth 100000 in
theorem c_M_both (l : Launch) (D : va_G) (Z : Nat → ClassId) (b : Nat → Nat) (σ : MS) (a1 : Int32) (a2 : Int32) (a3 : Int32) (post : Int32 → MS → Prop) (hw : wp_M_both σ a1 a2 a3 post) (sz : Nat) : Met l yX11_both (Wd yX11_both cX11_both 3 (some .int)) rm_M_both (va_Pc [.int a1, .int a2, .int a3] (mPre D Z b sz σ)) (va_Qi post (mPost D Z b) (mA b sz)) 0 0 (mA b sz) := by
  refine mMi (by decide) rfl _ (Nat.le_of_ble_eq_true rfl) (fun p e s m args below meth c C hr hk ls hl hH => ?_) sz
  obtain ⟨⟨hx, hb, hml, hown, hts⟩, hK⟩ := id C
  have hl : lv_has ls 3 [(0, .int a1), (1, .int a2), (2, .int a3)] := hl
  unfold wp_M_both at hw
  refine lv_iload_n hx hb dX11_both_0 rfl (lv_at hl 0 rfl) ?_
  by_cases c1 : a1 = (10 : Int32)
  · have hw := ifp c1 hw
    refine lv_lookup (off := 91) (tgt := 92) hx hb dX11_both_1 (by decide) (by rw [c1]; try rfl) (by decide) ?_
    refine lv_iload_n hx hb dX11_both_92 rfl (lv_at hl 1 rfl) ?_
    refine lv_if_ne (tgt := 100) hx hb dX11_both_93 (by decide) (fun c2 => ?_) (fun c2 => ?_)
    · have hw := ifn c2 hw
      refine lv_iconst (v := 1) hx hb dX11_both_100 (by decide) ?_
      refine lv_goto (tgt := 105) hx hb dX11_both_101 (by decide) ?_
      exact mri C hr hk hH hw dX11_both_105
    · have hw := ifp c2 hw
      refine lv_iload_n hx hb dX11_both_96 rfl (lv_at hl 2 rfl) ?_
      refine lv_if_eq (tgt := 104) hx hb dX11_both_97 (by decide) (fun c3 => ?_) (fun c3 => ?_)
      · have hw := ifp c3 hw
        refine lv_iconst (v := 0) hx hb dX11_both_104 (by decide) ?_
        exact mri C hr hk hH hw dX11_both_105
      · have hw := ifn c3 hw
        refine lv_iconst (v := 1) hx hb dX11_both_100 (by decide) ?_
        refine lv_goto (tgt := 105) hx hb dX11_both_101 (by decide) ?_
        exact mri C hr hk hH hw dX11_both_105
  have hw := ifn c1 hw
  by_cases c4 : a1 = (20 : Int32)
  · have hw := ifp c4 hw
    refine lv_lookup (off := 105) (tgt := 106) hx hb dX11_both_1 (by decide) (by rw [c4]; try rfl) (by decide) ?_
    refine lv_iload_n hx hb dX11_both_106 rfl (lv_at hl 1 rfl) ?_
    refine lv_if_eq (tgt := 118) hx hb dX11_both_107 (by decide) (fun c5 => ?_) (fun c5 => ?_)
    · have hw := ifp c5 hw
      refine lv_iconst (v := 0) hx hb dX11_both_118 (by decide) ?_
      exact mri C hr hk hH hw dX11_both_119
    · have hw := ifn c5 hw
      refine lv_iload_n hx hb dX11_both_110 rfl (lv_at hl 2 rfl) ?_
      refine lv_if_eq (tgt := 118) hx hb dX11_both_111 (by decide) (fun c6 => ?_) (fun c6 => ?_)
      · have hw := ifp c6 hw
        refine lv_iconst (v := 0) hx hb dX11_both_118 (by decide) ?_
        exact mri C hr hk hH hw dX11_both_119
      · have hw := ifn c6 hw
        refine lv_iconst (v := 1) hx hb dX11_both_114 (by decide) ?_
        refine lv_goto (tgt := 119) hx hb dX11_both_115 (by decide) ?_
        exact mri C hr hk hH hw dX11_both_119
  have hw := ifn c4 hw
  by_cases c7 : a1 = (40 : Int32)
  · have hw := ifp c7 hw
    refine lv_lookup (off := 119) (tgt := 120) hx hb dX11_both_1 (by decide) (by rw [c7]; try rfl) (by decide) ?_
    refine lv_iload_n hx hb dX11_both_120 rfl (lv_at hl 1 rfl) ?_
    refine lv_iload_n hx hb dX11_both_121 rfl (lv_at hl 2 rfl) ?_
    refine lv_icmp_ge (tgt := 129) hx hb dX11_both_122 (by decide) (fun c8 => ?_) (fun c8 => ?_)
    · have hw := ifp c8 hw
      refine lv_iconst (v := 0) hx hb dX11_both_129 (by decide) ?_
      exact mri C hr hk hH hw dX11_both_130
    · have hw := ifn c8 hw
      refine lv_iconst (v := 1) hx hb dX11_both_125 (by decide) ?_
      refine lv_goto (tgt := 130) hx hb dX11_both_126 (by decide) ?_
      exact mri C hr hk hH hw dX11_both_130
  have hw := ifn c7 hw
  by_cases c9 : a1 = (41 : Int32)
  · have hw := ifp c9 hw
    refine lv_lookup (off := 130) (tgt := 131) hx hb dX11_both_1 (by decide) (by rw [c9]; try rfl) (by decide) ?_
    refine lv_iload_n hx hb dX11_both_131 rfl (lv_at hl 1 rfl) ?_
    refine lv_iload_n hx hb dX11_both_132 rfl (lv_at hl 2 rfl) ?_
    refine lv_icmp_ne (tgt := 140) hx hb dX11_both_133 (by decide) (fun c10 => ?_) (fun c10 => ?_)
    · have hw := ifn c10 hw
      refine lv_iconst (v := 0) hx hb dX11_both_140 (by decide) ?_
      exact mri C hr hk hH hw dX11_both_141
    · have hw := ifp c10 hw
      refine lv_iconst (v := 1) hx hb dX11_both_136 (by decide) ?_
      refine lv_goto (tgt := 141) hx hb dX11_both_137 (by decide) ?_
      exact mri C hr hk hH hw dX11_both_141
  have hw := ifn c9 hw
  by_cases c11 : a1 = (42 : Int32)
  · have hw := ifp c11 hw
    refine lv_lookup (off := 141) (tgt := 142) hx hb dX11_both_1 (by decide) (by rw [c11]; try rfl) (by decide) ?_
    refine lv_iload_n hx hb dX11_both_142 rfl (lv_at hl 1 rfl) ?_
    refine lv_iload_n hx hb dX11_both_143 rfl (lv_at hl 2 rfl) ?_
    refine lv_icmp_le (tgt := 151) hx hb dX11_both_144 (by decide) (fun c12 => ?_) (fun c12 => ?_)
    · have hw := ifp c12 hw
      refine lv_iconst (v := 0) hx hb dX11_both_151 (by decide) ?_
      exact mri C hr hk hH hw dX11_both_152
    · have hw := ifn c12 hw
      refine lv_iconst (v := 1) hx hb dX11_both_147 (by decide) ?_
      refine lv_goto (tgt := 152) hx hb dX11_both_148 (by decide) ?_
      exact mri C hr hk hH hw dX11_both_152
  have hw := ifn c11 hw
  by_cases c13 : a1 = (50 : Int32)
  · have hw := ifp c13 hw
    refine lv_lookup (off := 152) (tgt := 153) hx hb dX11_both_1 (by decide) (by rw [c13]; try rfl) (by decide) ?_
    refine lv_iload_n hx hb dX11_both_153 rfl (lv_at hl 1 rfl) ?_
    refine lv_iload_n hx hb dX11_both_154 rfl (lv_at hl 2 rfl) ?_
    refine lv_iadd hx hb dX11_both_155 ?_
    exact mri C hr hk hH hw dX11_both_156
  have hw := ifn c13 hw
  by_cases c14 : a1 = (51 : Int32)
  · have hw := ifp c14 hw
    refine lv_lookup (off := 156) (tgt := 157) hx hb dX11_both_1 (by decide) (by rw [c14]; try rfl) (by decide) ?_
    refine lv_iload_n hx hb dX11_both_157 rfl (lv_at hl 1 rfl) ?_
    refine lv_iload_n hx hb dX11_both_158 rfl (lv_at hl 2 rfl) ?_
    refine lv_isub hx hb dX11_both_159 ?_
    exact mri C hr hk hH hw dX11_both_160
  have hw := ifn c14 hw
  by_cases c15 : a1 = (60 : Int32)
  · have hw := ifp c15 hw
    refine lv_lookup (off := 160) (tgt := 161) hx hb dX11_both_1 (by decide) (by rw [c15]; try rfl) (by decide) ?_
    refine lv_iload_n hx hb dX11_both_161 rfl (lv_at hl 1 rfl) ?_
    refine lv_iload_n hx hb dX11_both_162 rfl (lv_at hl 2 rfl) ?_
    refine lv_imul hx hb dX11_both_163 ?_
    exact mri C hr hk hH hw dX11_both_164
  have hw := ifn c15 hw
  by_cases c16 : a1 = (70 : Int32)
  · have hw := ifp c16 hw
    refine lv_lookup (off := 164) (tgt := 165) hx hb dX11_both_1 (by decide) (by rw [c16]; try rfl) (by decide) ?_
    refine lv_iload_n hx hb dX11_both_165 rfl (lv_at hl 1 rfl) ?_
    refine lv_iload_n hx hb dX11_both_166 rfl (lv_at hl 2 rfl) ?_
    refine lv_icmp_ge (tgt := 174) hx hb dX11_both_167 (by decide) (fun c17 => ?_) (fun c17 => ?_)
    · have hw := ifp c17 hw
      refine lv_iload_n hx hb dX11_both_174 rfl (lv_at hl 2 rfl) ?_
      exact mri C hr hk hH hw dX11_both_175
    · have hw := ifn c17 hw
      refine lv_iload_n hx hb dX11_both_170 rfl (lv_at hl 1 rfl) ?_
      refine lv_goto (tgt := 175) hx hb dX11_both_171 (by decide) ?_
      exact mri C hr hk hH hw dX11_both_175
  have hw := ifn c16 hw
  by_cases c18 : a1 = (71 : Int32)
  · have hw := ifp c18 hw
    refine lv_lookup (off := 175) (tgt := 176) hx hb dX11_both_1 (by decide) (by rw [c18]; try rfl) (by decide) ?_
    refine lv_iload_n hx hb dX11_both_176 rfl (lv_at hl 1 rfl) ?_
    refine lv_iload_n hx hb dX11_both_177 rfl (lv_at hl 2 rfl) ?_
    refine lv_icmp_le (tgt := 185) hx hb dX11_both_178 (by decide) (fun c19 => ?_) (fun c19 => ?_)
    · have hw := ifp c19 hw
      refine lv_iload_n hx hb dX11_both_185 rfl (lv_at hl 2 rfl) ?_
      exact mri C hr hk hH hw dX11_both_186
    · have hw := ifn c19 hw
      refine lv_iload_n hx hb dX11_both_181 rfl (lv_at hl 1 rfl) ?_
      refine lv_goto (tgt := 186) hx hb dX11_both_182 (by decide) ?_
      exact mri C hr hk hH hw dX11_both_186
  have hw := ifn c18 hw
  refine lv_lookup (off := 186) (tgt := 187) hx hb dX11_both_1 (by decide) (by simp [Op.lookupswitch.offset, sw_en c1 10 (by decide), sw_en c4 20 (by decide), sw_en c7 40 (by decide), sw_en c9 41 (by decide), sw_en c11 42 (by decide), sw_en c13 50 (by decide), sw_en c14 51 (by decide), sw_en c15 60 (by decide), sw_en c16 70 (by decide), sw_en c18 71 (by decide)]) (by decide) ?_
  refine lv_iload_n hx hb dX11_both_187 rfl (lv_at hl 2 rfl) ?_
  refine lv_if_ne (tgt := 195) hx hb dX11_both_188 (by decide) (fun c20 => ?_) (fun c20 => ?_)
  · have hw := ifn c20 hw
    refine lv_iload_n hx hb dX11_both_195 rfl (lv_at hl 2 rfl) ?_
    refine lv_iconst (v := -1) hx hb dX11_both_196 (by decide) ?_
    refine lv_icmp_ne (tgt := 205) hx hb dX11_both_197 (by decide) (fun c21 => ?_) (fun c21 => ?_)
    · have hw := ifn c21 hw
      refine lv_iload_n hx hb dX11_both_205 rfl (lv_at hl 1 rfl) ?_
      refine lv_iload_n hx hb dX11_both_206 rfl (lv_at hl 2 rfl) ?_
      obtain ⟨h22, hw⟩ := hw
      refine lv_idiv hx hb dX11_both_207 h22 ?_
      exact mri C hr hk hH hw dX11_both_208
    · have hw := ifp c21 hw
      refine lv_iload_n hx hb dX11_both_200 rfl (lv_at hl 1 rfl) ?_
      refine lv_ineg hx hb dX11_both_201 ?_
      refine lv_goto (tgt := 208) hx hb dX11_both_202 (by decide) ?_
      exact mri C hr hk hH hw dX11_both_208
  · have hw := ifp c20 hw
    refine lv_iconst (v := 0) hx hb dX11_both_191 (by decide) ?_
    refine lv_goto (tgt := 208) hx hb dX11_both_192 (by decide) ?_
    exact mri C hr hk hH hw dX11_both_208
