/-! take -/
abbrev rm_M_take : Room := { frames := 3, cells := 0, slots := 0, locals := 71 }
def wp_M_take_321 (post : Int32 → MS → Prop) (σ : MS) (x2_ : Int32) (x5_ : Int32) : Prop := wp_M_isEnough σ x2_ x5_ (fun r2 σ1 => bz r2 ∧ post r2 σ1)
set_option maxHeartbeats 4000000 in
set_option maxRecDepth 100000 in
theorem b_M_take_321 {p : Program} {l : Launch} {e : Env} {s : State} {m : MethodId} {args : Array Value} {below : List Frame} {meth : Method} {c : Code} {D : va_G} {Z : Nat → ClassId} {b : Nat → Nat} (C : MC p s m args c cX11_take 9 D Z) (hr : meth.sig.returnType = some .boolean) (hk : meth.locks = false) {post : Int32 → MS → Prop} : ∀ (σ : MS) (x2_ : Int32) (x5_ : Int32), wp_M_take_321  post σ x2_ x5_ → ∀ (H : Heap) (locs : List Loc) (ls : Array Slot), MH D Z b s.heap σ H locs → lv_has ls 9 [(0, .ref (b 69)), (2, .int x2_), (5, .int x5_)] → MWi p l e rm_M_take s m args below meth c D Z b post H locs (F0 m 321 ls []) := by
  obtain ⟨⟨hx, hb, hml, hown, hts⟩, hK⟩ := id C
  intro σ x2_ x5_ hw H locs ls hH hl
  unfold wp_M_take_321 at hw
  refine lv_aload_n hx hb dX11_take_321 rfl (lv_at hl 0 rfl) ?_
  refine lv_iload_n hx hb dX11_take_322 rfl (lv_at hl 1 rfl) ?_
  refine lv_iload hx hb dX11_take_323 (lv_at hl 2 rfl) ?_
  refine mcVi C hH [.int x2_, .int x5_] (fun sz => c_M_isEnough l D Z b σ x2_ x5_ _ hw sz) (cwTV 2 hts wd_1474 wd_1476 ws_73 wd_14 wd_1477 rfl rfl (by decide +kernel) ⟨Nat.le_of_ble_eq_true rfl, Nat.le_of_ble_eq_true rfl⟩) rfl hl.1 rfl (Nat.le_of_ble_eq_true rfl) dX11_take_325 ⟨Nat.zero_le _, Nat.zero_le _⟩ (fun r2 σ1 H locs hw hH => ?_)
  exact mrz C hr hk hH hw.1 hw.2 dX11_take_328
def wp_M_take_263 (k85 : MS → Int32 → Int32 → Int32 → Int32 → Int32 → Prop) (k209 : MS → Int32 → Int32 → Int32 → Int32 → Int32 → Int32 → Int32 → Prop) (post : Int32 → MS → Prop) (σ : MS) (x1_ : Int32) (x2_ : Int32) (x3_ : Int32) (x4_ : Int32) (x5_ : Int32) (x8_ : Int32) (t0_ : Int32) (t1_ : Int32) : Prop := ∀ x3 : Int32, x3 = (t0_ - t1_) → (∀ x4 : Int32, x4 = x8_ + (1 : Int32) → (k209 σ x1_ x2_ x3_ x4_ x5_ x3 x4))
set_option maxHeartbeats 4000000 in
set_option maxRecDepth 100000 in
theorem b_M_take_263 {p : Program} {l : Launch} {e : Env} {s : State} {m : MethodId} {args : Array Value} {below : List Frame} {meth : Method} {c : Code} {D : va_G} {Z : Nat → ClassId} {b : Nat → Nat} (C : MC p s m args c cX11_take 9 D Z) (hr : meth.sig.returnType = some .boolean) (hk : meth.locks = false) {post : Int32 → MS → Prop} {k85 : MS → Int32 → Int32 → Int32 → Int32 → Int32 → Prop} (hk85 : ∀ (σ : MS) (y1 : Int32) (y2 : Int32) (y3 : Int32) (y4 : Int32) (y5 : Int32), k85 σ y1 y2 y3 y4 y5 → ∀ (H : Heap) (locs : List Loc) (ls : Array Slot), MH D Z b s.heap σ H locs → lv_has ls 9 [(0, .ref (b 69)), (1, .int y1), (2, .int y2), (3, .int y3), (4, .int y4), (5, .int y5)] → MWi p l e rm_M_take s m args below meth c D Z b post H locs (F0 m 85 ls [])) {k209 : MS → Int32 → Int32 → Int32 → Int32 → Int32 → Int32 → Int32 → Prop} (hk209 : ∀ (σ : MS) (y1 : Int32) (y2 : Int32) (y3 : Int32) (y4 : Int32) (y5 : Int32) (y7 : Int32) (y8 : Int32), k209 σ y1 y2 y3 y4 y5 y7 y8 → ∀ (H : Heap) (locs : List Loc) (ls : Array Slot), MH D Z b s.heap σ H locs → lv_has ls 9 [(0, .ref (b 69)), (1, .int y1), (2, .int y2), (3, .int y3), (4, .int y4), (5, .int y5), (7, .int y7), (8, .int y8)] → MWi p l e rm_M_take s m args below meth c D Z b post H locs (F0 m 209 ls [])) : ∀ (σ : MS) (x1_ : Int32) (x2_ : Int32) (x3_ : Int32) (x4_ : Int32) (x5_ : Int32) (x8_ : Int32) (t0_ : Int32) (t1_ : Int32), wp_M_take_263 k85 k209 post σ x1_ x2_ x3_ x4_ x5_ x8_ t0_ t1_ → ∀ (H : Heap) (locs : List Loc) (ls : Array Slot), MH D Z b s.heap σ H locs → lv_has ls 9 [(0, .ref (b 69)), (1, .int x1_), (2, .int x2_), (3, .int x3_), (4, .int x4_), (5, .int x5_), (8, .int x8_)] → MWi p l e rm_M_take s m args below meth c D Z b post H locs (F0 m 263 ls [.int t1_, .int t0_]) := by
  obtain ⟨⟨hx, hb, hml, hown, hts⟩, hK⟩ := id C
  intro σ x1_ x2_ x3_ x4_ x5_ x8_ t0_ t1_ hw H locs ls hH hl
  unfold wp_M_take_263 at hw
  refine lv_isub hx hb dX11_take_263 ?_
  refine lv_topi (fun x3 ex3 => ?_)
  have hw := hw x3 ex3
  refine lv_istore (lv' := [(7, .int x3), (0, .ref (b 69)), (1, .int x1_), (2, .int x2_), (3, .int x3_), (4, .int x4_), (5, .int x5_), (8, .int x8_)]) hx hb dX11_take_264 hl (by decide) rfl (fun ls hl => ?_)
  obtain ⟨x4, ex4⟩ : ∃ y : Int32, y = x8_ + (1 : Int32) := ⟨_, rfl⟩
  have hw := hw x4 ex4
  refine lv_iinc (v := x4) (lv' := [(8, .int x4), (7, .int x3), (0, .ref (b 69)), (1, .int x1_), (2, .int x2_), (3, .int x3_), (4, .int x4_), (5, .int x5_)]) hx hb dX11_take_266 hl (k := 7) rfl (by rw [ex4]; rfl) (by decide) rfl (fun ls hl => ?_)
  refine lv_goto (tgt := 209) hx hb dX11_take_269 (by decide) ?_
  exact hk209 σ x1_ x2_ x3_ x4_ x5_ x3 x4 hw _ _ _ hH (lv_sub hl [2, 3, 4, 5, 6, 7, 1, 0] rfl)
def wp_M_take_235 (k85 : MS → Int32 → Int32 → Int32 → Int32 → Int32 → Prop) (k209 : MS → Int32 → Int32 → Int32 → Int32 → Int32 → Int32 → Int32 → Prop) (post : Int32 → MS → Prop) (σ : MS) (x1_ : Int32) (x2_ : Int32) (x3_ : Int32) (x4_ : Int32) (x5_ : Int32) (x7_ : Int32) (x8_ : Int32) : Prop := vp_in (((60 : Int32) * x1_) + x8_) 240 ∧ (wp_M_mayGo σ (σ 21 (((60 : Int32) * x1_) + x8_).toNatClampNeg) x4_ (fun r7 σ6 => if r7 = 0 then (wp_M_take_263 (k85) (k209) post σ6 x1_ x2_ x3_ x4_ x5_ x8_ x7_ (0 : Int32)) else (wp_M_take_263 (k85) (k209) post σ6 x1_ x2_ x3_ x4_ x5_ x8_ x7_ (1 : Int32))))
set_option maxHeartbeats 4000000 in
set_option maxRecDepth 100000 in
theorem b_M_take_235 {p : Program} {l : Launch} {e : Env} {s : State} {m : MethodId} {args : Array Value} {below : List Frame} {meth : Method} {c : Code} {D : va_G} {Z : Nat → ClassId} {b : Nat → Nat} (C : MC p s m args c cX11_take 9 D Z) (hr : meth.sig.returnType = some .boolean) (hk : meth.locks = false) {post : Int32 → MS → Prop} {k85 : MS → Int32 → Int32 → Int32 → Int32 → Int32 → Prop} (hk85 : ∀ (σ : MS) (y1 : Int32) (y2 : Int32) (y3 : Int32) (y4 : Int32) (y5 : Int32), k85 σ y1 y2 y3 y4 y5 → ∀ (H : Heap) (locs : List Loc) (ls : Array Slot), MH D Z b s.heap σ H locs → lv_has ls 9 [(0, .ref (b 69)), (1, .int y1), (2, .int y2), (3, .int y3), (4, .int y4), (5, .int y5)] → MWi p l e rm_M_take s m args below meth c D Z b post H locs (F0 m 85 ls [])) {k209 : MS → Int32 → Int32 → Int32 → Int32 → Int32 → Int32 → Int32 → Prop} (hk209 : ∀ (σ : MS) (y1 : Int32) (y2 : Int32) (y3 : Int32) (y4 : Int32) (y5 : Int32) (y7 : Int32) (y8 : Int32), k209 σ y1 y2 y3 y4 y5 y7 y8 → ∀ (H : Heap) (locs : List Loc) (ls : Array Slot), MH D Z b s.heap σ H locs → lv_has ls 9 [(0, .ref (b 69)), (1, .int y1), (2, .int y2), (3, .int y3), (4, .int y4), (5, .int y5), (7, .int y7), (8, .int y8)] → MWi p l e rm_M_take s m args below meth c D Z b post H locs (F0 m 209 ls [])) : ∀ (σ : MS) (x1_ : Int32) (x2_ : Int32) (x3_ : Int32) (x4_ : Int32) (x5_ : Int32) (x7_ : Int32) (x8_ : Int32), wp_M_take_235 k85 k209 post σ x1_ x2_ x3_ x4_ x5_ x7_ x8_ → ∀ (H : Heap) (locs : List Loc) (ls : Array Slot), MH D Z b s.heap σ H locs → lv_has ls 9 [(0, .ref (b 69)), (1, .int x1_), (2, .int x2_), (3, .int x3_), (4, .int x4_), (5, .int x5_), (7, .int x7_), (8, .int x8_)] → MWi p l e rm_M_take s m args below meth c D Z b post H locs (F0 m 235 ls []) := by
  obtain ⟨⟨hx, hb, hml, hown, hts⟩, hK⟩ := id C
  intro σ x1_ x2_ x3_ x4_ x5_ x7_ x8_ hw H locs ls hH hl
  unfold wp_M_take_235 at hw
  refine lv_iload hx hb dX11_take_235 (lv_at hl 6 rfl) ?_
  refine lv_aload_n hx hb dX11_take_237 rfl (lv_at hl 0 rfl) ?_
  refine lv_aload_n hx hb dX11_take_238 rfl (lv_at hl 0 rfl) ?_
  refine mg C hH 21 (by decide) rfl wd_1050 rfl dX11_take_239 ?_
  refine lv_bipush (v := 60) hx hb dX11_take_242 (by decide) ?_
  refine lv_iload_n hx hb dX11_take_244 rfl (lv_at hl 1 rfl) ?_
  refine lv_imul hx hb dX11_take_245 ?_
  refine lv_iload hx hb dX11_take_246 (lv_at hl 7 rfl) ?_
  refine lv_iadd hx hb dX11_take_248 ?_
  obtain ⟨h5, hw⟩ := hw
  refine mai C hH 17 21 rfl h5 dX11_take_249 ?_
  refine lv_iload hx hb dX11_take_250 (lv_at hl 4 rfl) ?_
  refine mcVi C hH [.int (σ 21 (((60 : Int32) * x1_) + x8_).toNatClampNeg), .int x4_] (fun sz => c_M_mayGo l D Z b σ (σ 21 (((60 : Int32) * x1_) + x8_).toNatClampNeg) x4_ _ hw sz) (cwTV 2 hts wd_1478 wd_1480 ws_74 wd_14 wd_1481 rfl rfl (by decide +kernel) ⟨Nat.le_of_ble_eq_true rfl, Nat.le_of_ble_eq_true rfl⟩) rfl hl.1 rfl (Nat.le_of_ble_eq_true rfl) dX11_take_252 ⟨Nat.zero_le _, Nat.zero_le _⟩ (fun r7 σ6 H locs hw hH => ?_)
  refine lv_if_eq (tgt := 262) hx hb dX11_take_255 (by decide) (fun c8 => ?_) (fun c8 => ?_)
  · have hw := ifp c8 hw
    refine lv_iconst (v := 0) hx hb dX11_take_262 (by decide) ?_
    exact b_M_take_263 C hr hk hk85 hk209 σ6 x1_ x2_ x3_ x4_ x5_ x8_ x7_ (0 : Int32) hw _ _ _ hH (lv_sub hl [0, 1, 2, 3, 4, 5, 7] rfl)
  · have hw := ifn c8 hw
    refine lv_iconst (v := 1) hx hb dX11_take_258 (by decide) ?_
    refine lv_goto (tgt := 263) hx hb dX11_take_259 (by decide) ?_
    exact b_M_take_263 C hr hk hk85 hk209 σ6 x1_ x2_ x3_ x4_ x5_ x8_ x7_ (1 : Int32) hw _ _ _ hH (lv_sub hl [0, 1, 2, 3, 4, 5, 7] rfl)
def wp_M_take_209 (k85 : MS → Int32 → Int32 → Int32 → Int32 → Int32 → Prop) (post : Int32 → MS → Prop) : Nat → MS → Int32 → Int32 → Int32 → Int32 → Int32 → Int32 → Int32 → Prop
  | 0 => fun _ _ _ _ _ _ _ _ => False
  | n + 1 => fun σ x1_ x2_ x3_ x4_ x5_ x7_ x8_ => vp_in (((60 : Int32) * x1_) + x8_) 240 ∧ (wp_M_mayGo σ (σ 21 (((60 : Int32) * x1_) + x8_).toNatClampNeg) x4_ (fun r11 σ10 => if r11 = 0 then (wp_M_take_235 (k85) (wp_M_take_209 k85 post n) post σ10 x1_ x2_ x3_ x4_ x5_ x7_ x8_) else (if x7_ ≤ 0 then (vp_in (((60 : Int32) * x1_) + x8_) 240 ∧ (vp_in (σ10 60 0) 8 ∧ (∀ σ16 : MS, σ16 = up2 σ10 61 (σ10 60 0).toNatClampNeg (σ10 21 (((60 : Int32) * x1_) + x8_).toNatClampNeg) → (vp_in (σ16 60 0) 8 ∧ (vp_in (σ16 61 (σ16 60 0).toNatClampNeg) 60 ∧ (∀ σ19 : MS, σ19 = up2 σ16 62 (σ16 61 (σ16 60 0).toNatClampNeg).toNatClampNeg (vp_nar .boolean (1 : Int32)) → (∀ σ20 : MS, σ20 = up2 σ19 60 0 ((σ19 60 0) + (1 : Int32)) → (k85 σ20 x1_ x2_ x3_ x4_ x5_)))))))) else (wp_M_take_235 (k85) (wp_M_take_209 k85 post n) post σ10 x1_ x2_ x3_ x4_ x5_ x7_ x8_))))
set_option maxHeartbeats 4000000 in
set_option maxRecDepth 100000 in
theorem b_M_take_209 {p : Program} {l : Launch} {e : Env} {s : State} {m : MethodId} {args : Array Value} {below : List Frame} {meth : Method} {c : Code} {D : va_G} {Z : Nat → ClassId} {b : Nat → Nat} (C : MC p s m args c cX11_take 9 D Z) (hr : meth.sig.returnType = some .boolean) (hk : meth.locks = false) {post : Int32 → MS → Prop} {k85 : MS → Int32 → Int32 → Int32 → Int32 → Int32 → Prop} (hk85 : ∀ (σ : MS) (y1 : Int32) (y2 : Int32) (y3 : Int32) (y4 : Int32) (y5 : Int32), k85 σ y1 y2 y3 y4 y5 → ∀ (H : Heap) (locs : List Loc) (ls : Array Slot), MH D Z b s.heap σ H locs → lv_has ls 9 [(0, .ref (b 69)), (1, .int y1), (2, .int y2), (3, .int y3), (4, .int y4), (5, .int y5)] → MWi p l e rm_M_take s m args below meth c D Z b post H locs (F0 m 85 ls [])) : ∀ (n : Nat) (σ : MS) (x1_ : Int32) (x2_ : Int32) (x3_ : Int32) (x4_ : Int32) (x5_ : Int32) (x7_ : Int32) (x8_ : Int32), wp_M_take_209 k85 post n σ x1_ x2_ x3_ x4_ x5_ x7_ x8_ → ∀ (H : Heap) (locs : List Loc) (ls : Array Slot), MH D Z b s.heap σ H locs → lv_has ls 9 [(0, .ref (b 69)), (1, .int x1_), (2, .int x2_), (3, .int x3_), (4, .int x4_), (5, .int x5_), (7, .int x7_), (8, .int x8_)] → MWi p l e rm_M_take s m args below meth c D Z b post H locs (F0 m 209 ls []) := by
  obtain ⟨⟨hx, hb, hml, hown, hts⟩, hK⟩ := id C
  intro n
  induction n with
  | zero => intro σ x1_ x2_ x3_ x4_ x5_ x7_ x8_ hw; exact hw.elim
  | succ n ih =>
    intro σ x1_ x2_ x3_ x4_ x5_ x7_ x8_ hw H locs ls hH hl
    unfold wp_M_take_209 at hw
    refine lv_aload_n hx hb dX11_take_209 rfl (lv_at hl 0 rfl) ?_
    refine lv_aload_n hx hb dX11_take_210 rfl (lv_at hl 0 rfl) ?_
    refine mg C hH 21 (by decide) rfl wd_1050 rfl dX11_take_211 ?_
    refine lv_bipush (v := 60) hx hb dX11_take_214 (by decide) ?_
    refine lv_iload_n hx hb dX11_take_216 rfl (lv_at hl 1 rfl) ?_
    refine lv_imul hx hb dX11_take_217 ?_
    refine lv_iload hx hb dX11_take_218 (lv_at hl 7 rfl) ?_
    refine lv_iadd hx hb dX11_take_220 ?_
    obtain ⟨h9, hw⟩ := hw
    refine mai C hH 17 21 rfl h9 dX11_take_221 ?_
    refine lv_iload hx hb dX11_take_222 (lv_at hl 4 rfl) ?_
    refine mcVi C hH [.int (σ 21 (((60 : Int32) * x1_) + x8_).toNatClampNeg), .int x4_] (fun sz => c_M_mayGo l D Z b σ (σ 21 (((60 : Int32) * x1_) + x8_).toNatClampNeg) x4_ _ hw sz) (cwTV 2 hts wd_1478 wd_1480 ws_74 wd_14 wd_1481 rfl rfl (by decide +kernel) ⟨Nat.le_of_ble_eq_true rfl, Nat.le_of_ble_eq_true rfl⟩) rfl hl.1 rfl (Nat.le_of_ble_eq_true rfl) dX11_take_224 ⟨Nat.zero_le _, Nat.zero_le _⟩ (fun r11 σ10 H locs hw hH => ?_)
    refine lv_if_eq (tgt := 235) hx hb dX11_take_227 (by decide) (fun c12 => ?_) (fun c12 => ?_)
    · have hw := ifp c12 hw
      exact b_M_take_235 C hr hk hk85 ih σ10 x1_ x2_ x3_ x4_ x5_ x7_ x8_ hw _ _ _ hH (lv_sub hl [0, 1, 2, 3, 4, 5, 6, 7] rfl)
    · have hw := ifn c12 hw
      refine lv_iload hx hb dX11_take_230 (lv_at hl 6 rfl) ?_
      refine lv_if_le (tgt := 272) hx hb dX11_take_232 (by decide) (fun c13 => ?_) (fun c13 => ?_)
      · have hw := ifp c13 hw
        refine lv_aload_n hx hb dX11_take_272 rfl (lv_at hl 0 rfl) ?_
        refine mg C hH 61 (by decide) rfl wd_1090 rfl dX11_take_273 ?_
        refine lv_aload_n hx hb dX11_take_276 rfl (lv_at hl 0 rfl) ?_
        refine mg C hH 60 (by decide) rfl wd_1089 rfl dX11_take_277 ?_
        refine lv_aload_n hx hb dX11_take_280 rfl (lv_at hl 0 rfl) ?_
        refine mg C hH 21 (by decide) rfl wd_1050 rfl dX11_take_281 ?_
        refine lv_bipush (v := 60) hx hb dX11_take_284 (by decide) ?_
        refine lv_iload_n hx hb dX11_take_286 rfl (lv_at hl 1 rfl) ?_
        refine lv_imul hx hb dX11_take_287 ?_
        refine lv_iload hx hb dX11_take_288 (lv_at hl 7 rfl) ?_
        refine lv_iadd hx hb dX11_take_290 ?_
        obtain ⟨h14, hw⟩ := hw
        refine mai C hH 17 21 rfl h14 dX11_take_291 ?_
        obtain ⟨h15, hw⟩ := hw
        refine msi C hH 47 61 rfl (mast_61 Z b σ10 _ _) h15 dX11_take_292 (fun H locs hH => ?_)
        have hw := hw _ rfl
        generalize up2 σ10 61 (σ10 60 0).toNatClampNeg (σ10 21 (((60 : Int32) * x1_) + x8_).toNatClampNeg) = σ16 at hw hH
        refine lv_aload_n hx hb dX11_take_293 rfl (lv_at hl 0 rfl) ?_
        refine mg C hH 62 (by decide) rfl wd_1091 rfl dX11_take_294 ?_
        refine lv_aload_n hx hb dX11_take_297 rfl (lv_at hl 0 rfl) ?_
        refine mg C hH 61 (by decide) rfl wd_1090 rfl dX11_take_298 ?_
        refine lv_aload_n hx hb dX11_take_301 rfl (lv_at hl 0 rfl) ?_
        refine mg C hH 60 (by decide) rfl wd_1089 rfl dX11_take_302 ?_
        obtain ⟨h17, hw⟩ := hw
        refine mai C hH 47 61 rfl h17 dX11_take_305 ?_
        refine lv_iconst (v := 1) hx hb dX11_take_306 (by decide) ?_
        obtain ⟨h18, hw⟩ := hw
        refine msz C hH 48 62 rfl (mast_62 Z b σ16 _ _) h18 dX11_take_307 (fun H locs hH => ?_)
        have hw := hw _ rfl
        generalize up2 σ16 62 (σ16 61 (σ16 60 0).toNatClampNeg).toNatClampNeg (vp_nar .boolean (1 : Int32)) = σ19 at hw hH
        refine lv_aload_n hx hb dX11_take_308 rfl (lv_at hl 0 rfl) ?_
        refine lv_dup hx hb dX11_take_309 rfl ?_
        refine mg C hH 60 (by decide) rfl wd_1089 rfl dX11_take_310 ?_
        refine lv_iconst (v := 1) hx hb dX11_take_313 (by decide) ?_
        refine lv_iadd hx hb dX11_take_314 ?_
        refine mp C hH 60 (by decide) rfl wd_1089 (mset_60 Z b σ19 _) dX11_take_315 (fun H locs hH => ?_)
        have hw := hw _ rfl
        generalize up2 σ19 60 0 ((σ19 60 0) + (1 : Int32)) = σ20 at hw hH
        refine lv_goto (tgt := 85) hx hb dX11_take_318 (by decide) ?_
        exact hk85 σ20 x1_ x2_ x3_ x4_ x5_ hw _ _ _ hH (lv_sub hl [0, 1, 2, 3, 4, 5] rfl)
      · have hw := ifn c13 hw
        exact b_M_take_235 C hr hk hk85 ih σ10 x1_ x2_ x3_ x4_ x5_ x7_ x8_ hw _ _ _ hH (lv_sub hl [0, 1, 2, 3, 4, 5, 6, 7] rfl)
def wp_M_take_206 (k85 : MS → Int32 → Int32 → Int32 → Int32 → Int32 → Prop) (post : Int32 → MS → Prop) (σ : MS) (x1_ : Int32) (x2_ : Int32) (x3_ : Int32) (x4_ : Int32) (x5_ : Int32) (x7_ : Int32) : Prop := ∃ nn : Nat, wp_M_take_209 (k85) post nn σ x1_ x2_ x3_ x4_ x5_ x7_ (0 : Int32)
set_option maxHeartbeats 4000000 in
set_option maxRecDepth 100000 in
theorem b_M_take_206 {p : Program} {l : Launch} {e : Env} {s : State} {m : MethodId} {args : Array Value} {below : List Frame} {meth : Method} {c : Code} {D : va_G} {Z : Nat → ClassId} {b : Nat → Nat} (C : MC p s m args c cX11_take 9 D Z) (hr : meth.sig.returnType = some .boolean) (hk : meth.locks = false) {post : Int32 → MS → Prop} {k85 : MS → Int32 → Int32 → Int32 → Int32 → Int32 → Prop} (hk85 : ∀ (σ : MS) (y1 : Int32) (y2 : Int32) (y3 : Int32) (y4 : Int32) (y5 : Int32), k85 σ y1 y2 y3 y4 y5 → ∀ (H : Heap) (locs : List Loc) (ls : Array Slot), MH D Z b s.heap σ H locs → lv_has ls 9 [(0, .ref (b 69)), (1, .int y1), (2, .int y2), (3, .int y3), (4, .int y4), (5, .int y5)] → MWi p l e rm_M_take s m args below meth c D Z b post H locs (F0 m 85 ls [])) : ∀ (σ : MS) (x1_ : Int32) (x2_ : Int32) (x3_ : Int32) (x4_ : Int32) (x5_ : Int32) (x7_ : Int32), wp_M_take_206 k85 post σ x1_ x2_ x3_ x4_ x5_ x7_ → ∀ (H : Heap) (locs : List Loc) (ls : Array Slot), MH D Z b s.heap σ H locs → lv_has ls 9 [(0, .ref (b 69)), (1, .int x1_), (2, .int x2_), (3, .int x3_), (4, .int x4_), (5, .int x5_), (7, .int x7_)] → MWi p l e rm_M_take s m args below meth c D Z b post H locs (F0 m 206 ls []) := by
  obtain ⟨⟨hx, hb, hml, hown, hts⟩, hK⟩ := id C
  intro σ x1_ x2_ x3_ x4_ x5_ x7_ hw H locs ls hH hl
  unfold wp_M_take_206 at hw
  refine lv_iconst (v := 0) hx hb dX11_take_206 (by decide) ?_
  refine lv_istore (lv' := [(8, .int (0 : Int32)), (0, .ref (b 69)), (1, .int x1_), (2, .int x2_), (3, .int x3_), (4, .int x4_), (5, .int x5_), (7, .int x7_)]) hx hb dX11_take_207 hl (by decide) rfl (fun ls hl => ?_)
  obtain ⟨nn, hw⟩ := hw
  exact b_M_take_209 C hr hk hk85 nn σ x1_ x2_ x3_ x4_ x5_ x7_ (0 : Int32) hw _ _ _ hH (lv_sub hl [1, 2, 3, 4, 5, 6, 7, 0] rfl)
def wp_M_take_149 (k85 : MS → Int32 → Int32 → Int32 → Int32 → Int32 → Prop) (k110 : MS → Int32 → Int32 → Int32 → Int32 → Int32 → Int32 → Int32 → Prop) (post : Int32 → MS → Prop) (σ : MS) (x1_ : Int32) (x2_ : Int32) (x3_ : Int32) (x4_ : Int32) (x5_ : Int32) (x7_ : Int32) (t0_ : Int32) (t1_ : Int32) : Prop := ∀ x21 : Int32, x21 = (t0_ + t1_) → (∀ x22 : Int32, x22 = x7_ + (1 : Int32) → (k110 σ x1_ x2_ x3_ x4_ x5_ x21 x22))
set_option maxHeartbeats 4000000 in
set_option maxRecDepth 100000 in
theorem b_M_take_149 {p : Program} {l : Launch} {e : Env} {s : State} {m : MethodId} {args : Array Value} {below : List Frame} {meth : Method} {c : Code} {D : va_G} {Z : Nat → ClassId} {b : Nat → Nat} (C : MC p s m args c cX11_take 9 D Z) (hr : meth.sig.returnType = some .boolean) (hk : meth.locks = false) {post : Int32 → MS → Prop} {k85 : MS → Int32 → Int32 → Int32 → Int32 → Int32 → Prop} (hk85 : ∀ (σ : MS) (y1 : Int32) (y2 : Int32) (y3 : Int32) (y4 : Int32) (y5 : Int32), k85 σ y1 y2 y3 y4 y5 → ∀ (H : Heap) (locs : List Loc) (ls : Array Slot), MH D Z b s.heap σ H locs → lv_has ls 9 [(0, .ref (b 69)), (1, .int y1), (2, .int y2), (3, .int y3), (4, .int y4), (5, .int y5)] → MWi p l e rm_M_take s m args below meth c D Z b post H locs (F0 m 85 ls [])) {k110 : MS → Int32 → Int32 → Int32 → Int32 → Int32 → Int32 → Int32 → Prop} (hk110 : ∀ (σ : MS) (y1 : Int32) (y2 : Int32) (y3 : Int32) (y4 : Int32) (y5 : Int32) (y6 : Int32) (y7 : Int32), k110 σ y1 y2 y3 y4 y5 y6 y7 → ∀ (H : Heap) (locs : List Loc) (ls : Array Slot), MH D Z b s.heap σ H locs → lv_has ls 9 [(0, .ref (b 69)), (1, .int y1), (2, .int y2), (3, .int y3), (4, .int y4), (5, .int y5), (6, .int y6), (7, .int y7)] → MWi p l e rm_M_take s m args below meth c D Z b post H locs (F0 m 110 ls [])) : ∀ (σ : MS) (x1_ : Int32) (x2_ : Int32) (x3_ : Int32) (x4_ : Int32) (x5_ : Int32) (x7_ : Int32) (t0_ : Int32) (t1_ : Int32), wp_M_take_149 k85 k110 post σ x1_ x2_ x3_ x4_ x5_ x7_ t0_ t1_ → ∀ (H : Heap) (locs : List Loc) (ls : Array Slot), MH D Z b s.heap σ H locs → lv_has ls 9 [(0, .ref (b 69)), (1, .int x1_), (2, .int x2_), (3, .int x3_), (4, .int x4_), (5, .int x5_), (7, .int x7_)] → MWi p l e rm_M_take s m args below meth c D Z b post H locs (F0 m 149 ls [.int t1_, .int t0_]) := by
  obtain ⟨⟨hx, hb, hml, hown, hts⟩, hK⟩ := id C
  intro σ x1_ x2_ x3_ x4_ x5_ x7_ t0_ t1_ hw H locs ls hH hl
  unfold wp_M_take_149 at hw
  refine lv_iadd hx hb dX11_take_149 ?_
  refine lv_topi (fun x21 ex21 => ?_)
  have hw := hw x21 ex21
  refine lv_istore (lv' := [(6, .int x21), (0, .ref (b 69)), (1, .int x1_), (2, .int x2_), (3, .int x3_), (4, .int x4_), (5, .int x5_), (7, .int x7_)]) hx hb dX11_take_150 hl (by decide) rfl (fun ls hl => ?_)
  obtain ⟨x22, ex22⟩ : ∃ y : Int32, y = x7_ + (1 : Int32) := ⟨_, rfl⟩
  have hw := hw x22 ex22
  refine lv_iinc (v := x22) (lv' := [(7, .int x22), (6, .int x21), (0, .ref (b 69)), (1, .int x1_), (2, .int x2_), (3, .int x3_), (4, .int x4_), (5, .int x5_)]) hx hb dX11_take_152 hl (k := 7) rfl (by rw [ex22]; rfl) (by decide) rfl (fun ls hl => ?_)
  refine lv_goto (tgt := 110) hx hb dX11_take_155 (by decide) ?_
  exact hk110 σ x1_ x2_ x3_ x4_ x5_ x21 x22 hw _ _ _ hH (lv_sub hl [2, 3, 4, 5, 6, 7, 1, 0] rfl)
def wp_M_take_110 (k85 : MS → Int32 → Int32 → Int32 → Int32 → Int32 → Prop) (post : Int32 → MS → Prop) : Nat → MS → Int32 → Int32 → Int32 → Int32 → Int32 → Int32 → Int32 → Prop
  | 0 => fun _ _ _ _ _ _ _ _ => False
  | n + 1 => fun σ x1_ x2_ x3_ x4_ x5_ x6_ x7_ => vp_in x1_ 4 ∧ (if (σ 20 x1_.toNatClampNeg) ≤ x7_ then (if x6_ = 0 then (post (0 : Int32) σ) else (if x3_ = 0 then (wp_M_take_206 (k85) post σ x1_ x2_ x3_ x4_ x5_ (0 : Int32)) else (vp_in x1_ 4 ∧ (vp_in x1_ 4 ∧ (∀ σ29 : MS, σ29 = up2 σ 23 x1_.toNatClampNeg (((σ 23 x1_.toNatClampNeg) * (1103515245 : Int32)) + (12345 : Int32)) → (vp_in x1_ 4 ∧ (¬ x6_ = 0 ∧ (∀ x32 : Int32, x32 = ((((σ29 23 x1_.toNatClampNeg).toUInt32 >>> ((8 : Int32).toUInt32 &&& Int32.toUInt32 31)).toInt32) - (((σ29 23 x1_.toNatClampNeg).toUInt32 >>> ((8 : Int32).toUInt32 &&& Int32.toUInt32 31)).toInt32) / x6_ * x6_) → (wp_M_take_206 (k85) post σ29 x1_ x2_ x3_ x4_ x5_ x32))))))))) else (vp_in (((60 : Int32) * x1_) + x7_) 240 ∧ (wp_M_mayGo σ (σ 21 (((60 : Int32) * x1_) + x7_).toNatClampNeg) x4_ (fun r35 σ34 => if r35 = 0 then (wp_M_take_149 (k85) (wp_M_take_110 k85 post n) post σ34 x1_ x2_ x3_ x4_ x5_ x7_ x6_ (0 : Int32)) else (wp_M_take_149 (k85) (wp_M_take_110 k85 post n) post σ34 x1_ x2_ x3_ x4_ x5_ x7_ x6_ (1 : Int32))))))
set_option maxHeartbeats 4000000 in
set_option maxRecDepth 100000 in
theorem b_M_take_110 {p : Program} {l : Launch} {e : Env} {s : State} {m : MethodId} {args : Array Value} {below : List Frame} {meth : Method} {c : Code} {D : va_G} {Z : Nat → ClassId} {b : Nat → Nat} (C : MC p s m args c cX11_take 9 D Z) (hr : meth.sig.returnType = some .boolean) (hk : meth.locks = false) {post : Int32 → MS → Prop} {k85 : MS → Int32 → Int32 → Int32 → Int32 → Int32 → Prop} (hk85 : ∀ (σ : MS) (y1 : Int32) (y2 : Int32) (y3 : Int32) (y4 : Int32) (y5 : Int32), k85 σ y1 y2 y3 y4 y5 → ∀ (H : Heap) (locs : List Loc) (ls : Array Slot), MH D Z b s.heap σ H locs → lv_has ls 9 [(0, .ref (b 69)), (1, .int y1), (2, .int y2), (3, .int y3), (4, .int y4), (5, .int y5)] → MWi p l e rm_M_take s m args below meth c D Z b post H locs (F0 m 85 ls [])) : ∀ (n : Nat) (σ : MS) (x1_ : Int32) (x2_ : Int32) (x3_ : Int32) (x4_ : Int32) (x5_ : Int32) (x6_ : Int32) (x7_ : Int32), wp_M_take_110 k85 post n σ x1_ x2_ x3_ x4_ x5_ x6_ x7_ → ∀ (H : Heap) (locs : List Loc) (ls : Array Slot), MH D Z b s.heap σ H locs → lv_has ls 9 [(0, .ref (b 69)), (1, .int x1_), (2, .int x2_), (3, .int x3_), (4, .int x4_), (5, .int x5_), (6, .int x6_), (7, .int x7_)] → MWi p l e rm_M_take s m args below meth c D Z b post H locs (F0 m 110 ls []) := by
  obtain ⟨⟨hx, hb, hml, hown, hts⟩, hK⟩ := id C
  intro n
  induction n with
  | zero => intro σ x1_ x2_ x3_ x4_ x5_ x6_ x7_ hw; exact hw.elim
  | succ n ih =>
    intro σ x1_ x2_ x3_ x4_ x5_ x6_ x7_ hw H locs ls hH hl
    unfold wp_M_take_110 at hw
    refine lv_iload hx hb dX11_take_110 (lv_at hl 7 rfl) ?_
    refine lv_aload_n hx hb dX11_take_112 rfl (lv_at hl 0 rfl) ?_
    refine mg C hH 20 (by decide) rfl wd_1049 rfl dX11_take_113 ?_
    refine lv_iload_n hx hb dX11_take_116 rfl (lv_at hl 1 rfl) ?_
    obtain ⟨h23, hw⟩ := hw
    refine mai C hH 16 20 rfl h23 dX11_take_117 ?_
    refine lv_icmp_ge (tgt := 158) hx hb dX11_take_118 (by decide) (fun c24 => ?_) (fun c24 => ?_)
    · have hw := ifp c24 hw
      refine lv_iload hx hb dX11_take_158 (lv_at hl 6 rfl) ?_
      refine lv_if_ne (tgt := 165) hx hb dX11_take_160 (by decide) (fun c25 => ?_) (fun c25 => ?_)
      · have hw := ifn c25 hw
        refine lv_iconst (v := 0) hx hb dX11_take_165 (by decide) ?_
        refine lv_istore (lv' := [(7, .int (0 : Int32)), (0, .ref (b 69)), (1, .int x1_), (2, .int x2_), (3, .int x3_), (4, .int x4_), (5, .int x5_), (6, .int x6_)]) hx hb dX11_take_166 hl (by decide) rfl (fun ls hl => ?_)
        refine lv_iload_n hx hb dX11_take_168 rfl (lv_at hl 4 rfl) ?_
        refine lv_if_eq (tgt := 206) hx hb dX11_take_169 (by decide) (fun c26 => ?_) (fun c26 => ?_)
        · have hw := ifp c26 hw
          exact b_M_take_206 C hr hk hk85 σ x1_ x2_ x3_ x4_ x5_ (0 : Int32) hw _ _ _ hH (lv_sub hl [1, 2, 3, 4, 5, 6, 0] rfl)
        · have hw := ifn c26 hw
          refine lv_aload_n hx hb dX11_take_172 rfl (lv_at hl 1 rfl) ?_
          refine mg C hH 23 (by decide) rfl wd_1052 rfl dX11_take_173 ?_
          refine lv_iload_n hx hb dX11_take_176 rfl (lv_at hl 2 rfl) ?_
          refine lv_aload_n hx hb dX11_take_177 rfl (lv_at hl 1 rfl) ?_
          refine mg C hH 23 (by decide) rfl wd_1052 rfl dX11_take_178 ?_
          refine lv_iload_n hx hb dX11_take_181 rfl (lv_at hl 2 rfl) ?_
          obtain ⟨h27, hw⟩ := hw
          refine mai C hH 19 23 rfl h27 dX11_take_182 ?_
          refine lv_ldcw (own := RX11) (index := 384) (v := 1103515245) hx hb hown (hts _ wd_1482) dX11_take_183 ?_
          refine lv_imul hx hb dX11_take_186 ?_
          refine lv_sipush (v := 12345) hx hb dX11_take_187 (by decide) ?_
          refine lv_iadd hx hb dX11_take_190 ?_
          obtain ⟨h28, hw⟩ := hw
          refine msi C hH 19 23 rfl (mast_23 Z b σ _ _) h28 dX11_take_191 (fun H locs hH => ?_)
          have hw := hw _ rfl
          generalize up2 σ 23 x1_.toNatClampNeg (((σ 23 x1_.toNatClampNeg) * (1103515245 : Int32)) + (12345 : Int32)) = σ29 at hw hH
          refine lv_aload_n hx hb dX11_take_192 rfl (lv_at hl 1 rfl) ?_
          refine mg C hH 23 (by decide) rfl wd_1052 rfl dX11_take_193 ?_
          refine lv_iload_n hx hb dX11_take_196 rfl (lv_at hl 2 rfl) ?_
          obtain ⟨h30, hw⟩ := hw
          refine mai C hH 19 23 rfl h30 dX11_take_197 ?_
          refine lv_bipush (v := 8) hx hb dX11_take_198 (by decide) ?_
          refine lv_iushr hx hb dX11_take_200 rfl ?_
          refine lv_iload hx hb dX11_take_201 (lv_at hl 7 rfl) ?_
          obtain ⟨h31, hw⟩ := hw
          refine lv_irem hx hb dX11_take_203 h31 ?_
          refine lv_topi (fun x32 ex32 => ?_)
          have hw := hw x32 ex32
          refine lv_istore (lv' := [(7, .int x32), (0, .ref (b 69)), (1, .int x1_), (2, .int x2_), (3, .int x3_), (4, .int x4_), (5, .int x5_), (6, .int x6_)]) hx hb dX11_take_204 hl (by decide) rfl (fun ls hl => ?_)
          exact b_M_take_206 C hr hk hk85 σ29 x1_ x2_ x3_ x4_ x5_ x32 hw _ _ _ hH (lv_sub hl [1, 2, 3, 4, 5, 6, 0] rfl)
      · have hw := ifp c25 hw
        refine lv_iconst (v := 0) hx hb dX11_take_163 (by decide) ?_
        exact mrz C hr hk hH bz0 hw dX11_take_164
    · have hw := ifn c24 hw
      refine lv_iload hx hb dX11_take_121 (lv_at hl 6 rfl) ?_
      refine lv_aload_n hx hb dX11_take_123 rfl (lv_at hl 0 rfl) ?_
      refine lv_aload_n hx hb dX11_take_124 rfl (lv_at hl 0 rfl) ?_
      refine mg C hH 21 (by decide) rfl wd_1050 rfl dX11_take_125 ?_
      refine lv_bipush (v := 60) hx hb dX11_take_128 (by decide) ?_
      refine lv_iload_n hx hb dX11_take_130 rfl (lv_at hl 1 rfl) ?_
      refine lv_imul hx hb dX11_take_131 ?_
      refine lv_iload hx hb dX11_take_132 (lv_at hl 7 rfl) ?_
      refine lv_iadd hx hb dX11_take_134 ?_
      obtain ⟨h33, hw⟩ := hw
      refine mai C hH 17 21 rfl h33 dX11_take_135 ?_
      refine lv_iload hx hb dX11_take_136 (lv_at hl 4 rfl) ?_
      refine mcVi C hH [.int (σ 21 (((60 : Int32) * x1_) + x7_).toNatClampNeg), .int x4_] (fun sz => c_M_mayGo l D Z b σ (σ 21 (((60 : Int32) * x1_) + x7_).toNatClampNeg) x4_ _ hw sz) (cwTV 2 hts wd_1478 wd_1480 ws_74 wd_14 wd_1481 rfl rfl (by decide +kernel) ⟨Nat.le_of_ble_eq_true rfl, Nat.le_of_ble_eq_true rfl⟩) rfl hl.1 rfl (Nat.le_of_ble_eq_true rfl) dX11_take_138 ⟨Nat.zero_le _, Nat.zero_le _⟩ (fun r35 σ34 H locs hw hH => ?_)
      refine lv_if_eq (tgt := 148) hx hb dX11_take_141 (by decide) (fun c36 => ?_) (fun c36 => ?_)
      · have hw := ifp c36 hw
        refine lv_iconst (v := 0) hx hb dX11_take_148 (by decide) ?_
        exact b_M_take_149 C hr hk hk85 ih σ34 x1_ x2_ x3_ x4_ x5_ x7_ x6_ (0 : Int32) hw _ _ _ hH (lv_sub hl [0, 1, 2, 3, 4, 5, 7] rfl)
      · have hw := ifn c36 hw
        refine lv_iconst (v := 1) hx hb dX11_take_144 (by decide) ?_
        refine lv_goto (tgt := 149) hx hb dX11_take_145 (by decide) ?_
        exact b_M_take_149 C hr hk hk85 ih σ34 x1_ x2_ x3_ x4_ x5_ x7_ x6_ (1 : Int32) hw _ _ _ hH (lv_sub hl [0, 1, 2, 3, 4, 5, 7] rfl)
def wp_M_take_85 (post : Int32 → MS → Prop) : Nat → MS → Int32 → Int32 → Int32 → Int32 → Int32 → Prop
  | 0 => fun _ _ _ _ _ _ => False
  | n + 1 => fun σ x1_ x2_ x3_ x4_ x5_ => if (8 : Int32) ≤ (σ 60 0) then (wp_M_take_321 post σ x2_ x5_) else (wp_M_isEnough σ x2_ x5_ (fun r39 σ38 => if r39 = 0 then (∃ nn : Nat, wp_M_take_110 (wp_M_take_85  post n) post nn σ38 x1_ x2_ x3_ x4_ x5_ (0 : Int32) (0 : Int32)) else (wp_M_take_321 post σ38 x2_ x5_)))
set_option maxHeartbeats 4000000 in
set_option maxRecDepth 100000 in
theorem b_M_take_85 {p : Program} {l : Launch} {e : Env} {s : State} {m : MethodId} {args : Array Value} {below : List Frame} {meth : Method} {c : Code} {D : va_G} {Z : Nat → ClassId} {b : Nat → Nat} (C : MC p s m args c cX11_take 9 D Z) (hr : meth.sig.returnType = some .boolean) (hk : meth.locks = false) {post : Int32 → MS → Prop} : ∀ (n : Nat) (σ : MS) (x1_ : Int32) (x2_ : Int32) (x3_ : Int32) (x4_ : Int32) (x5_ : Int32), wp_M_take_85  post n σ x1_ x2_ x3_ x4_ x5_ → ∀ (H : Heap) (locs : List Loc) (ls : Array Slot), MH D Z b s.heap σ H locs → lv_has ls 9 [(0, .ref (b 69)), (1, .int x1_), (2, .int x2_), (3, .int x3_), (4, .int x4_), (5, .int x5_)] → MWi p l e rm_M_take s m args below meth c D Z b post H locs (F0 m 85 ls []) := by
  obtain ⟨⟨hx, hb, hml, hown, hts⟩, hK⟩ := id C
  intro n
  induction n with
  | zero => intro σ x1_ x2_ x3_ x4_ x5_ hw; exact hw.elim
  | succ n ih =>
    intro σ x1_ x2_ x3_ x4_ x5_ hw H locs ls hH hl
    unfold wp_M_take_85 at hw
    refine lv_aload_n hx hb dX11_take_85 rfl (lv_at hl 0 rfl) ?_
    refine mg C hH 60 (by decide) rfl wd_1089 rfl dX11_take_86 ?_
    refine lv_bipush (v := 8) hx hb dX11_take_89 (by decide) ?_
    refine lv_icmp_ge (tgt := 321) hx hb dX11_take_91 (by decide) (fun c37 => ?_) (fun c37 => ?_)
    · have hw := ifp c37 hw
      exact b_M_take_321 C hr hk  σ x2_ x5_ hw _ _ _ hH (lv_sub hl [0, 2, 5] rfl)
    · have hw := ifn c37 hw
      refine lv_aload_n hx hb dX11_take_94 rfl (lv_at hl 0 rfl) ?_
      refine lv_iload_n hx hb dX11_take_95 rfl (lv_at hl 2 rfl) ?_
      refine lv_iload hx hb dX11_take_96 (lv_at hl 5 rfl) ?_
      refine mcVi C hH [.int x2_, .int x5_] (fun sz => c_M_isEnough l D Z b σ x2_ x5_ _ hw sz) (cwTV 2 hts wd_1474 wd_1476 ws_73 wd_14 wd_1477 rfl rfl (by decide +kernel) ⟨Nat.le_of_ble_eq_true rfl, Nat.le_of_ble_eq_true rfl⟩) rfl hl.1 rfl (Nat.le_of_ble_eq_true rfl) dX11_take_98 ⟨Nat.zero_le _, Nat.zero_le _⟩ (fun r39 σ38 H locs hw hH => ?_)
      refine lv_if_ne (tgt := 321) hx hb dX11_take_101 (by decide) (fun c40 => ?_) (fun c40 => ?_)
      · have hw := ifn c40 hw
        exact b_M_take_321 C hr hk  σ38 x2_ x5_ hw _ _ _ hH (lv_sub hl [0, 2, 5] rfl)
      · have hw := ifp c40 hw
        refine lv_iconst (v := 0) hx hb dX11_take_104 (by decide) ?_
        refine lv_istore (lv' := [(6, .int (0 : Int32)), (0, .ref (b 69)), (1, .int x1_), (2, .int x2_), (3, .int x3_), (4, .int x4_), (5, .int x5_)]) hx hb dX11_take_105 hl (by decide) rfl (fun ls hl => ?_)
        refine lv_iconst (v := 0) hx hb dX11_take_107 (by decide) ?_
        refine lv_istore (lv' := [(7, .int (0 : Int32)), (6, .int (0 : Int32)), (0, .ref (b 69)), (1, .int x1_), (2, .int x2_), (3, .int x3_), (4, .int x4_), (5, .int x5_)]) hx hb dX11_take_108 hl (by decide) rfl (fun ls hl => ?_)
        obtain ⟨nn, hw⟩ := hw
        exact b_M_take_110 C hr hk ih nn σ38 x1_ x2_ x3_ x4_ x5_ (0 : Int32) (0 : Int32) hw _ _ _ hH (lv_sub hl [2, 3, 4, 5, 6, 7, 1, 0] rfl)
def wp_M_take_62 (post : Int32 → MS → Prop) : Nat → MS → Int32 → Int32 → Int32 → Int32 → Int32 → Int32 → Prop
  | 0 => fun _ _ _ _ _ _ _ => False
  | n + 1 => fun σ x1_ x2_ x3_ x4_ x5_ x6_ => if (σ 10 0) ≤ x6_ then (∃ nn : Nat, wp_M_take_85  post nn σ x1_ x2_ x3_ x4_ x5_) else (vp_in x6_ 60 ∧ (∀ σ43 : MS, σ43 = up2 σ 62 x6_.toNatClampNeg (vp_nar .boolean (0 : Int32)) → (∀ x44 : Int32, x44 = x6_ + (1 : Int32) → (wp_M_take_62  post n σ43 x1_ x2_ x3_ x4_ x5_ x44))))
set_option maxHeartbeats 4000000 in
set_option maxRecDepth 100000 in
theorem b_M_take_62 {p : Program} {l : Launch} {e : Env} {s : State} {m : MethodId} {args : Array Value} {below : List Frame} {meth : Method} {c : Code} {D : va_G} {Z : Nat → ClassId} {b : Nat → Nat} (C : MC p s m args c cX11_take 9 D Z) (hr : meth.sig.returnType = some .boolean) (hk : meth.locks = false) {post : Int32 → MS → Prop} : ∀ (n : Nat) (σ : MS) (x1_ : Int32) (x2_ : Int32) (x3_ : Int32) (x4_ : Int32) (x5_ : Int32) (x6_ : Int32), wp_M_take_62  post n σ x1_ x2_ x3_ x4_ x5_ x6_ → ∀ (H : Heap) (locs : List Loc) (ls : Array Slot), MH D Z b s.heap σ H locs → lv_has ls 9 [(0, .ref (b 69)), (1, .int x1_), (2, .int x2_), (3, .int x3_), (4, .int x4_), (5, .int x5_), (6, .int x6_)] → MWi p l e rm_M_take s m args below meth c D Z b post H locs (F0 m 62 ls []) := by
  obtain ⟨⟨hx, hb, hml, hown, hts⟩, hK⟩ := id C
  intro n
  induction n with
  | zero => intro σ x1_ x2_ x3_ x4_ x5_ x6_ hw; exact hw.elim
  | succ n ih =>
    intro σ x1_ x2_ x3_ x4_ x5_ x6_ hw H locs ls hH hl
    unfold wp_M_take_62 at hw
    refine lv_iload hx hb dX11_take_62 (lv_at hl 6 rfl) ?_
    refine lv_aload_n hx hb dX11_take_64 rfl (lv_at hl 0 rfl) ?_
    refine mg C hH 10 (by decide) rfl wd_1039 rfl dX11_take_65 ?_
    refine lv_icmp_ge (tgt := 85) hx hb dX11_take_68 (by decide) (fun c41 => ?_) (fun c41 => ?_)
    · have hw := ifp c41 hw
      obtain ⟨nn, hw⟩ := hw
      exact b_M_take_85 C hr hk  nn σ x1_ x2_ x3_ x4_ x5_ hw _ _ _ hH (lv_sub hl [0, 1, 2, 3, 4, 5] rfl)
    · have hw := ifn c41 hw
      refine lv_aload_n hx hb dX11_take_71 rfl (lv_at hl 0 rfl) ?_
      refine mg C hH 62 (by decide) rfl wd_1091 rfl dX11_take_72 ?_
      refine lv_iload hx hb dX11_take_75 (lv_at hl 6 rfl) ?_
      refine lv_iconst (v := 0) hx hb dX11_take_77 (by decide) ?_
      obtain ⟨h42, hw⟩ := hw
      refine msz C hH 48 62 rfl (mast_62 Z b σ _ _) h42 dX11_take_78 (fun H locs hH => ?_)
      have hw := hw _ rfl
      generalize up2 σ 62 x6_.toNatClampNeg (vp_nar .boolean (0 : Int32)) = σ43 at hw hH
      obtain ⟨x44, ex44⟩ : ∃ y : Int32, y = x6_ + (1 : Int32) := ⟨_, rfl⟩
      have hw := hw x44 ex44
      refine lv_iinc (v := x44) (lv' := [(6, .int x44), (0, .ref (b 69)), (1, .int x1_), (2, .int x2_), (3, .int x3_), (4, .int x4_), (5, .int x5_)]) hx hb dX11_take_79 hl (k := 6) rfl (by rw [ex44]; rfl) (by decide) rfl (fun ls hl => ?_)
      refine lv_goto (tgt := 62) hx hb dX11_take_82 (by decide) ?_
      exact ih σ43 x1_ x2_ x3_ x4_ x5_ x44 hw _ _ _ hH (lv_sub hl [1, 2, 3, 4, 5, 6, 0] rfl)
def wp_M_take_52 (post : Int32 → MS → Prop) (σ : MS) (x1_ : Int32) (x2_ : Int32) (x3_ : Int32) (x4_ : Int32) (t0_ : Int32) : Prop := ∀ σ45 : MS, σ45 = up2 σ 60 0 (0 : Int32) → (∃ nn : Nat, wp_M_take_62  post nn σ45 x1_ x2_ x3_ x4_ t0_ (0 : Int32))
set_option maxHeartbeats 4000000 in
set_option maxRecDepth 100000 in
theorem b_M_take_52 {p : Program} {l : Launch} {e : Env} {s : State} {m : MethodId} {args : Array Value} {below : List Frame} {meth : Method} {c : Code} {D : va_G} {Z : Nat → ClassId} {b : Nat → Nat} (C : MC p s m args c cX11_take 9 D Z) (hr : meth.sig.returnType = some .boolean) (hk : meth.locks = false) {post : Int32 → MS → Prop} : ∀ (σ : MS) (x1_ : Int32) (x2_ : Int32) (x3_ : Int32) (x4_ : Int32) (t0_ : Int32), wp_M_take_52  post σ x1_ x2_ x3_ x4_ t0_ → ∀ (H : Heap) (locs : List Loc) (ls : Array Slot), MH D Z b s.heap σ H locs → lv_has ls 9 [(0, .ref (b 69)), (1, .int x1_), (2, .int x2_), (3, .int x3_), (4, .int x4_)] → MWi p l e rm_M_take s m args below meth c D Z b post H locs (F0 m 52 ls [.int t0_]) := by
  obtain ⟨⟨hx, hb, hml, hown, hts⟩, hK⟩ := id C
  intro σ x1_ x2_ x3_ x4_ t0_ hw H locs ls hH hl
  unfold wp_M_take_52 at hw
  refine lv_istore (lv' := [(5, .int t0_), (0, .ref (b 69)), (1, .int x1_), (2, .int x2_), (3, .int x3_), (4, .int x4_)]) hx hb dX11_take_52 hl (by decide) rfl (fun ls hl => ?_)
  refine lv_aload_n hx hb dX11_take_54 rfl (lv_at hl 1 rfl) ?_
  refine lv_iconst (v := 0) hx hb dX11_take_55 (by decide) ?_
  refine mp C hH 60 (by decide) rfl wd_1089 (mset_60 Z b σ _) dX11_take_56 (fun H locs hH => ?_)
  have hw := hw _ rfl
  generalize up2 σ 60 0 (0 : Int32) = σ45 at hw hH
  refine lv_iconst (v := 0) hx hb dX11_take_59 (by decide) ?_
  refine lv_istore (lv' := [(6, .int (0 : Int32)), (5, .int t0_), (0, .ref (b 69)), (1, .int x1_), (2, .int x2_), (3, .int x3_), (4, .int x4_)]) hx hb dX11_take_60 hl (by decide) rfl (fun ls hl => ?_)
  obtain ⟨nn, hw⟩ := hw
  exact b_M_take_62 C hr hk  nn σ45 x1_ x2_ x3_ x4_ t0_ (0 : Int32) hw _ _ _ hH (lv_sub hl [2, 3, 4, 5, 6, 1, 0] rfl)
def wp_M_take (σ : MS) (a1 : Int32) (a2 : Int32) (a3 : Int32) (post : Int32 → MS → Prop) : Prop := vp_in a2 200 ∧ (vp_in a2 200 ∧ (wp_M_wayNow σ (σ 46 a2.toNatClampNeg) (σ 47 a2.toNatClampNeg) (fun r49 σ48 => wp_M_saysNow σ48 a1 (2 : Int32) a2 (-1 : Int32) (fun r51 σ50 => if (1 : Int32) ≤ r51 then (if r51 ≤ (8 : Int32) then (wp_M_take_52 post σ50 a1 a2 a3 r49 r51) else (wp_M_take_52 post σ50 a1 a2 a3 r49 (8 : Int32))) else (wp_M_take_52 post σ50 a1 a2 a3 r49 (1 : Int32))))))
set_option maxHeartbeats 4000000 in
set_option maxRecDepth 100000 in
theorem c_M_take (l : Launch) (D : va_G) (Z : Nat → ClassId) (b : Nat → Nat) (σ : MS) (a1 : Int32) (a2 : Int32) (a3 : Int32) (post : Int32 → MS → Prop) (hw : wp_M_take σ a1 a2 a3 post) (sz : Nat) : Met l yX11_take (Wd yX11_take cX11_take 9 (some .boolean)) rm_M_take (va_Pc [.ref (b 69), .int a1, .int a2, .int a3] (mPre D Z b sz σ)) (va_Qi post (mPost D Z b) (mA b sz)) 0 0 (mA b sz) := by
  refine mMi (by decide) rfl _ (Nat.le_of_ble_eq_true rfl) (fun p e s m args below meth c C hr hk ls hl hH => ?_) sz
  obtain ⟨⟨hx, hb, hml, hown, hts⟩, hK⟩ := id C
  have hl : lv_has ls 9 [(0, .ref (b 69)), (1, .int a1), (2, .int a2), (3, .int a3)] := hl
  unfold wp_M_take at hw
  refine lv_aload_n hx hb dX11_take_0 rfl (lv_at hl 0 rfl) ?_
  refine lv_aload_n hx hb dX11_take_1 rfl (lv_at hl 0 rfl) ?_
  refine mg C hH 46 (by decide) rfl wd_1075 rfl dX11_take_2 ?_
  refine lv_iload_n hx hb dX11_take_5 rfl (lv_at hl 2 rfl) ?_
  obtain ⟨h46, hw⟩ := hw
  refine mai C hH 33 46 rfl h46 dX11_take_6 ?_
  refine lv_aload_n hx hb dX11_take_7 rfl (lv_at hl 0 rfl) ?_
  refine mg C hH 47 (by decide) rfl wd_1076 rfl dX11_take_8 ?_
  refine lv_iload_n hx hb dX11_take_11 rfl (lv_at hl 2 rfl) ?_
  obtain ⟨h47, hw⟩ := hw
  refine mai C hH 34 47 rfl h47 dX11_take_12 ?_
  refine mcVi C hH [.int (σ 46 a2.toNatClampNeg), .int (σ 47 a2.toNatClampNeg)] (fun sz => c_M_wayNow l D Z b σ (σ 46 a2.toNatClampNeg) (σ 47 a2.toNatClampNeg) _ hw sz) (cwTV 2 hts wd_1271 wd_1273 ws_49 wd_14 wd_1274 rfl rfl (by decide +kernel) ⟨Nat.le_of_ble_eq_true rfl, Nat.le_of_ble_eq_true rfl⟩) rfl hl.1 rfl (Nat.le_of_ble_eq_true rfl) dX11_take_13 ⟨Nat.zero_le _, Nat.zero_le _⟩ (fun r49 σ48 H locs hw hH => ?_)
  refine lv_istore (lv' := [(4, .int r49), (0, .ref (b 69)), (1, .int a1), (2, .int a2), (3, .int a3)]) hx hb dX11_take_16 hl (by decide) rfl (fun ls hl => ?_)
  refine lv_aload_n hx hb dX11_take_18 rfl (lv_at hl 1 rfl) ?_
  refine lv_iload_n hx hb dX11_take_19 rfl (lv_at hl 2 rfl) ?_
  refine lv_iconst (v := 2) hx hb dX11_take_20 (by decide) ?_
  refine lv_iload_n hx hb dX11_take_21 rfl (lv_at hl 3 rfl) ?_
  refine lv_iconst (v := -1) hx hb dX11_take_22 (by decide) ?_
  refine mcVi C hH [.int a1, .int (2 : Int32), .int a2, .int (-1 : Int32)] (fun sz => c_M_saysNow l D Z b σ48 a1 (2 : Int32) a2 (-1 : Int32) _ hw sz) (cwTV 4 hts wd_1426 wd_1428 ws_65 wd_14 wd_1429 rfl rfl (by decide +kernel) ⟨Nat.le_of_ble_eq_true rfl, Nat.le_of_ble_eq_true rfl⟩) rfl hl.1 rfl (Nat.le_of_ble_eq_true rfl) dX11_take_23 ⟨Nat.zero_le _, Nat.zero_le _⟩ (fun r51 σ50 H locs hw hH => ?_)
  refine lv_istore (lv' := [(5, .int r51), (4, .int r49), (0, .ref (b 69)), (1, .int a1), (2, .int a2), (3, .int a3)]) hx hb dX11_take_26 hl (by decide) rfl (fun ls hl => ?_)
  refine lv_iload hx hb dX11_take_28 (lv_at hl 0 rfl) ?_
  refine lv_iconst (v := 1) hx hb dX11_take_30 (by decide) ?_
  refine lv_icmp_ge (tgt := 38) hx hb dX11_take_31 (by decide) (fun c52 => ?_) (fun c52 => ?_)
  · have hw := ifp c52 hw
    refine lv_iload hx hb dX11_take_38 (lv_at hl 0 rfl) ?_
    refine lv_bipush (v := 8) hx hb dX11_take_40 (by decide) ?_
    refine lv_icmp_le (tgt := 50) hx hb dX11_take_42 (by decide) (fun c53 => ?_) (fun c53 => ?_)
    · have hw := ifp c53 hw
      refine lv_iload hx hb dX11_take_50 (lv_at hl 0 rfl) ?_
      exact b_M_take_52 C hr hk  σ50 a1 a2 a3 r49 r51 hw _ _ _ hH (lv_sub hl [2, 3, 4, 5, 1] rfl)
    · have hw := ifn c53 hw
      refine lv_bipush (v := 8) hx hb dX11_take_45 (by decide) ?_
      refine lv_goto (tgt := 52) hx hb dX11_take_47 (by decide) ?_
      exact b_M_take_52 C hr hk  σ50 a1 a2 a3 r49 (8 : Int32) hw _ _ _ hH (lv_sub hl [2, 3, 4, 5, 1] rfl)
  · have hw := ifn c52 hw
    refine lv_iconst (v := 1) hx hb dX11_take_34 (by decide) ?_
    refine lv_goto (tgt := 52) hx hb dX11_take_35 (by decide) ?_
    exact b_M_take_52 C hr hk  σ50 a1 a2 a3 r49 (1 : Int32) hw _ _ _ hH (lv_sub hl [2, 3, 4, 5, 1] rfl)
/-! isWet -/
abbrev rm_M_isWet : Room := { frames := 1, cells := 0, slots := 0, locals := 22 }
def wp_M_isWet (σ : MS) (a1 : Int32) (post : Int32 → MS → Prop) : Prop := vp_in a1 20 ∧ (vp_in a1 20 ∧ (wp_M_in σ ((σ 1 0) - (σ 1 0) / (600 : Int32) * (600 : Int32)) (σ 8 a1.toNatClampNeg) ((σ 9 a1.toNatClampNeg) - (1 : Int32)) (fun r4 σ3 => bz r4 ∧ post r4 σ3)))
set_option maxHeartbeats 4000000 in
set_option maxRecDepth 100000 in
theorem c_M_isWet (l : Launch) (D : va_G) (Z : Nat → ClassId) (b : Nat → Nat) (σ : MS) (a1 : Int32) (post : Int32 → MS → Prop) (hw : wp_M_isWet σ a1 post) (sz : Nat) : Met l yX11_isWet (Wd yX11_isWet cX11_isWet 2 (some .boolean)) rm_M_isWet (va_Pc [.ref (b 69), .int a1] (mPre D Z b sz σ)) (va_Qi post (mPost D Z b) (mA b sz)) 0 0 (mA b sz) := by
  refine mMi (by decide) rfl _ (Nat.le_of_ble_eq_true rfl) (fun p e s m args below meth c C hr hk ls hl hH => ?_) sz
  obtain ⟨⟨hx, hb, hml, hown, hts⟩, hK⟩ := id C
  have hl : lv_has ls 2 [(0, .ref (b 69)), (1, .int a1)] := hl
  unfold wp_M_isWet at hw
  refine lv_aload_n hx hb dX11_isWet_0 rfl (lv_at hl 0 rfl) ?_
  refine mg C hH 1 (by decide) rfl wd_1030 rfl dX11_isWet_1 ?_
  refine lv_sipush (v := 600) hx hb dX11_isWet_4 (by decide) ?_
  refine lv_irem hx hb dX11_isWet_7 (by decide) ?_
  refine lv_aload_n hx hb dX11_isWet_8 rfl (lv_at hl 0 rfl) ?_
  refine mg C hH 8 (by decide) rfl wd_1037 rfl dX11_isWet_9 ?_
  refine lv_iload_n hx hb dX11_isWet_12 rfl (lv_at hl 1 rfl) ?_
  obtain ⟨h1, hw⟩ := hw
  refine mai C hH 5 8 rfl h1 dX11_isWet_13 ?_
  refine lv_aload_n hx hb dX11_isWet_14 rfl (lv_at hl 0 rfl) ?_
  refine mg C hH 9 (by decide) rfl wd_1038 rfl dX11_isWet_15 ?_
  refine lv_iload_n hx hb dX11_isWet_18 rfl (lv_at hl 1 rfl) ?_
  obtain ⟨h2, hw⟩ := hw
  refine mai C hH 6 9 rfl h2 dX11_isWet_19 ?_
  refine lv_iconst (v := 1) hx hb dX11_isWet_20 (by decide) ?_
  refine lv_isub hx hb dX11_isWet_21 ?_
  refine mcSi C hH [.int ((σ 1 0) - (σ 1 0) / (600 : Int32) * (600 : Int32)), .int (σ 8 a1.toNatClampNeg), .int ((σ 9 a1.toNatClampNeg) - (1 : Int32))] (fun sz => c_M_in l D Z b σ ((σ 1 0) - (σ 1 0) / (600 : Int32) * (600 : Int32)) (σ 8 a1.toNatClampNeg) ((σ 9 a1.toNatClampNeg) - (1 : Int32)) _ hw sz) (cwTS 3 hts wd_1242 wd_1243 wd_14 wd_1244 rfl rfl (by decide +kernel) ⟨Nat.le_of_ble_eq_true rfl, Nat.le_of_ble_eq_true rfl⟩) rfl hl.1 rfl (Nat.le_of_ble_eq_true rfl) dX11_isWet_22 ⟨Nat.zero_le _, Nat.zero_le _⟩ (fun r4 σ3 H locs hw hH => ?_)
  exact mrz C hr hk hH hw.1 hw.2 dX11_isWet_25
/-! hinders -/
abbrev rm_M_hinders : Room := { frames := 4, cells := 0, slots := 0, locals := 94 }
def wp_M_hinders_36 (post : Int32 → MS → Prop) (σ : MS) (x2_ : Int32) : Prop := vp_in x2_ 200 ∧ (wp_M_isWet σ (σ 46 x2_.toNatClampNeg) (fun r3 σ2 => if r3 = 0 then (vp_in x2_ 200 ∧ (if (σ2 44 x2_.toNatClampNeg) = 0 then (wp_M_rainsAt σ2 (σ2 1 0) (fun r8 σ7 => if r8 = 0 then (post (0 : Int32) σ7) else (post (5 : Int32) σ7))) else (post (0 : Int32) σ2))) else (post (4 : Int32) σ2)))
set_option maxHeartbeats 4000000 in
set_option maxRecDepth 100000 in
theorem b_M_hinders_36 {p : Program} {l : Launch} {e : Env} {s : State} {m : MethodId} {args : Array Value} {below : List Frame} {meth : Method} {c : Code} {D : va_G} {Z : Nat → ClassId} {b : Nat → Nat} (C : MC p s m args c cX11_hinders 4 D Z) (hr : meth.sig.returnType = some .int) (hk : meth.locks = false) {post : Int32 → MS → Prop} : ∀ (σ : MS) (x2_ : Int32), wp_M_hinders_36  post σ x2_ → ∀ (H : Heap) (locs : List Loc) (ls : Array Slot), MH D Z b s.heap σ H locs → lv_has ls 4 [(0, .ref (b 69)), (2, .int x2_)] → MWi p l e rm_M_hinders s m args below meth c D Z b post H locs (F0 m 36 ls []) := by
  obtain ⟨⟨hx, hb, hml, hown, hts⟩, hK⟩ := id C
  intro σ x2_ hw H locs ls hH hl
  unfold wp_M_hinders_36 at hw
  refine lv_aload_n hx hb dX11_hinders_36 rfl (lv_at hl 0 rfl) ?_
  refine lv_aload_n hx hb dX11_hinders_37 rfl (lv_at hl 0 rfl) ?_
  refine mg C hH 46 (by decide) rfl wd_1075 rfl dX11_hinders_38 ?_
  refine lv_iload_n hx hb dX11_hinders_41 rfl (lv_at hl 1 rfl) ?_
  obtain ⟨h1, hw⟩ := hw
  refine mai C hH 33 46 rfl h1 dX11_hinders_42 ?_
  refine mcVi C hH [.int (σ 46 x2_.toNatClampNeg)] (fun sz => c_M_isWet l D Z b σ (σ 46 x2_.toNatClampNeg) _ hw sz) (cwTV 1 hts wd_1466 wd_1468 ws_71 wd_14 wd_1469 rfl rfl (by decide +kernel) ⟨Nat.le_of_ble_eq_true rfl, Nat.le_of_ble_eq_true rfl⟩) rfl hl.1 rfl (Nat.le_of_ble_eq_true rfl) dX11_hinders_43 ⟨Nat.zero_le _, Nat.zero_le _⟩ (fun r3 σ2 H locs hw hH => ?_)
  refine lv_if_eq (tgt := 51) hx hb dX11_hinders_46 (by decide) (fun c4 => ?_) (fun c4 => ?_)
  · have hw := ifp c4 hw
    refine lv_aload_n hx hb dX11_hinders_51 rfl (lv_at hl 0 rfl) ?_
    refine mg C hH 44 (by decide) rfl wd_1073 rfl dX11_hinders_52 ?_
    refine lv_iload_n hx hb dX11_hinders_55 rfl (lv_at hl 1 rfl) ?_
    obtain ⟨h5, hw⟩ := hw
    refine mai C hH 31 44 rfl h5 dX11_hinders_56 ?_
    refine lv_if_ne (tgt := 75) hx hb dX11_hinders_57 (by decide) (fun c6 => ?_) (fun c6 => ?_)
    · have hw := ifn c6 hw
      refine lv_iconst (v := 0) hx hb dX11_hinders_75 (by decide) ?_
      exact mri C hr hk hH hw dX11_hinders_76
    · have hw := ifp c6 hw
      refine lv_aload_n hx hb dX11_hinders_60 rfl (lv_at hl 0 rfl) ?_
      refine lv_aload_n hx hb dX11_hinders_61 rfl (lv_at hl 0 rfl) ?_
      refine mg C hH 1 (by decide) rfl wd_1030 rfl dX11_hinders_62 ?_
      refine mcVi C hH [.int (σ2 1 0)] (fun sz => c_M_rainsAt l D Z b σ2 (σ2 1 0) _ hw sz) (cwTV 1 hts wd_1275 wd_1277 ws_50 wd_14 wd_1278 rfl rfl (by decide +kernel) ⟨Nat.le_of_ble_eq_true rfl, Nat.le_of_ble_eq_true rfl⟩) rfl hl.1 rfl (Nat.le_of_ble_eq_true rfl) dX11_hinders_65 ⟨Nat.zero_le _, Nat.zero_le _⟩ (fun r8 σ7 H locs hw hH => ?_)
      refine lv_if_eq (tgt := 75) hx hb dX11_hinders_68 (by decide) (fun c9 => ?_) (fun c9 => ?_)
      · have hw := ifp c9 hw
        refine lv_iconst (v := 0) hx hb dX11_hinders_75 (by decide) ?_
        exact mri C hr hk hH hw dX11_hinders_76
      · have hw := ifn c9 hw
        refine lv_iconst (v := 5) hx hb dX11_hinders_71 (by decide) ?_
        refine lv_goto (tgt := 76) hx hb dX11_hinders_72 (by decide) ?_
        exact mri C hr hk hH hw dX11_hinders_76
  · have hw := ifn c4 hw
    refine lv_iconst (v := 4) hx hb dX11_hinders_49 (by decide) ?_
    exact mri C hr hk hH hw dX11_hinders_50
def wp_M_hinders (σ : MS) (a1 : Int32) (a2 : Int32) (post : Int32 → MS → Prop) : Prop := vp_in a2 200 ∧ (if (σ 50 a2.toNatClampNeg) = 0 then (wp_M_whoseNow σ a2 (fun r13 σ12 => if r13 = (5 : Int32) then (post (2 : Int32) σ12) else (if r13 = (4 : Int32) then (wp_M_hinders_36 post σ12 a2) else (if r13 = a1 then (wp_M_hinders_36 post σ12 a2) else (post (3 : Int32) σ12))))) else (post (1 : Int32) σ))
set_option maxHeartbeats 4000000 in
set_option maxRecDepth 100000 in
theorem c_M_hinders (l : Launch) (D : va_G) (Z : Nat → ClassId) (b : Nat → Nat) (σ : MS) (a1 : Int32) (a2 : Int32) (post : Int32 → MS → Prop) (hw : wp_M_hinders σ a1 a2 post) (sz : Nat) : Met l yX11_hinders (Wd yX11_hinders cX11_hinders 4 (some .int)) rm_M_hinders (va_Pc [.ref (b 69), .int a1, .int a2] (mPre D Z b sz σ)) (va_Qi post (mPost D Z b) (mA b sz)) 0 0 (mA b sz) := by
  refine mMi (by decide) rfl _ (Nat.le_of_ble_eq_true rfl) (fun p e s m args below meth c C hr hk ls hl hH => ?_) sz
  obtain ⟨⟨hx, hb, hml, hown, hts⟩, hK⟩ := id C
  have hl : lv_has ls 4 [(0, .ref (b 69)), (1, .int a1), (2, .int a2)] := hl
  unfold wp_M_hinders at hw
  refine lv_aload_n hx hb dX11_hinders_0 rfl (lv_at hl 0 rfl) ?_
  refine mg C hH 50 (by decide) rfl wd_1079 rfl dX11_hinders_1 ?_
  refine lv_iload_n hx hb dX11_hinders_4 rfl (lv_at hl 2 rfl) ?_
  obtain ⟨h10, hw⟩ := hw
  refine mai C hH 37 50 rfl h10 dX11_hinders_5 ?_
  refine lv_if_eq (tgt := 11) hx hb dX11_hinders_6 (by decide) (fun c11 => ?_) (fun c11 => ?_)
  · have hw := ifp c11 hw
    refine lv_aload_n hx hb dX11_hinders_11 rfl (lv_at hl 0 rfl) ?_
    refine lv_iload_n hx hb dX11_hinders_12 rfl (lv_at hl 2 rfl) ?_
    refine mcVi C hH [.int a2] (fun sz => c_M_whoseNow l D Z b σ a2 _ hw sz) (cwTV 1 hts wd_1454 wd_1456 ws_69 wd_14 wd_1457 rfl rfl (by decide +kernel) ⟨Nat.le_of_ble_eq_true rfl, Nat.le_of_ble_eq_true rfl⟩) rfl hl.1 rfl (Nat.le_of_ble_eq_true rfl) dX11_hinders_13 ⟨Nat.zero_le _, Nat.zero_le _⟩ (fun r13 σ12 H locs hw hH => ?_)
    refine lv_istore_n (lv' := [(3, .int r13), (0, .ref (b 69)), (1, .int a1), (2, .int a2)]) hx hb dX11_hinders_16 rfl hl (by decide) rfl (fun ls hl => ?_)
    refine lv_iload_n hx hb dX11_hinders_17 rfl (lv_at hl 0 rfl) ?_
    refine lv_iconst (v := 5) hx hb dX11_hinders_18 (by decide) ?_
    refine lv_icmp_ne (tgt := 24) hx hb dX11_hinders_19 (by decide) (fun c14 => ?_) (fun c14 => ?_)
    · have hw := ifn c14 hw
      refine lv_iload_n hx hb dX11_hinders_24 rfl (lv_at hl 0 rfl) ?_
      refine lv_iconst (v := 4) hx hb dX11_hinders_25 (by decide) ?_
      refine lv_icmp_eq (tgt := 36) hx hb dX11_hinders_26 (by decide) (fun c15 => ?_) (fun c15 => ?_)
      · have hw := ifp c15 hw
        exact b_M_hinders_36 C hr hk  σ12 a2 hw _ _ _ hH (lv_sub hl [1, 3] rfl)
      · have hw := ifn c15 hw
        refine lv_iload_n hx hb dX11_hinders_29 rfl (lv_at hl 0 rfl) ?_
        refine lv_iload_n hx hb dX11_hinders_30 rfl (lv_at hl 2 rfl) ?_
        refine lv_icmp_eq (tgt := 36) hx hb dX11_hinders_31 (by decide) (fun c16 => ?_) (fun c16 => ?_)
        · have hw := ifp c16 hw
          exact b_M_hinders_36 C hr hk  σ12 a2 hw _ _ _ hH (lv_sub hl [1, 3] rfl)
        · have hw := ifn c16 hw
          refine lv_iconst (v := 3) hx hb dX11_hinders_34 (by decide) ?_
          exact mri C hr hk hH hw dX11_hinders_35
    · have hw := ifp c14 hw
      refine lv_iconst (v := 2) hx hb dX11_hinders_22 (by decide) ?_
      exact mri C hr hk hH hw dX11_hinders_23
  · have hw := ifn c11 hw
    refine lv_iconst (v := 1) hx hb dX11_hinders_9 (by decide) ?_
    exact mri C hr hk hH hw dX11_hinders_10
/-! why -/
abbrev rm_M_why : Room := { frames := 5, cells := 0, slots := 0, locals := 117 }
def wp_M_why (σ : MS) (a1 : Int32) (a2 : Int32) (post : Int32 → MS → Prop) : Prop := wp_M_isFellowship σ a1 (fun r2 σ1 => if r2 = 0 then (post (-1 : Int32) σ1) else (wp_M_isLoad σ1 a2 (fun r5 σ4 => if r5 = 0 then (post (-1 : Int32) σ4) else (wp_M_hinders σ4 a1 a2 (fun r8 σ7 => if r8 ≤ 0 then (wp_M_take σ7 a1 a2 (0 : Int32) (fun r11 σ10 => if r11 = 0 then (post (6 : Int32) σ10) else (post (0 : Int32) σ10))) else (post r8 σ7))))))
set_option maxHeartbeats 4000000 in
set_option maxRecDepth 100000 in
theorem c_M_why (l : Launch) (D : va_G) (Z : Nat → ClassId) (b : Nat → Nat) (σ : MS) (a1 : Int32) (a2 : Int32) (post : Int32 → MS → Prop) (hw : wp_M_why σ a1 a2 post) (sz : Nat) : Met l yX11_why (Wd yX11_why cX11_why 4 (some .int)) rm_M_why (va_Pc [.ref (b 69), .int a1, .int a2] (mPre D Z b sz σ)) (va_Qi post (mPost D Z b) (mA b sz)) 0 0 (mA b sz) := by
  refine mMi (by decide) rfl _ (Nat.le_of_ble_eq_true rfl) (fun p e s m args below meth c C hr hk ls hl hH => ?_) sz
  obtain ⟨⟨hx, hb, hml, hown, hts⟩, hK⟩ := id C
  have hl : lv_has ls 4 [(0, .ref (b 69)), (1, .int a1), (2, .int a2)] := hl
  unfold wp_M_why at hw
  refine lv_iload_n hx hb dX11_why_0 rfl (lv_at hl 1 rfl) ?_
  refine mcSi C hH [.int a1] (fun sz => c_M_isFellowship l D Z b σ a1 _ hw sz) (cwTS 1 hts wd_1283 wd_1284 wd_14 wd_1285 rfl rfl (by decide +kernel) ⟨Nat.le_of_ble_eq_true rfl, Nat.le_of_ble_eq_true rfl⟩) rfl hl.1 rfl (Nat.le_of_ble_eq_true rfl) dX11_why_1 ⟨Nat.zero_le _, Nat.zero_le _⟩ (fun r2 σ1 H locs hw hH => ?_)
  refine lv_if_eq (tgt := 15) hx hb dX11_why_4 (by decide) (fun c3 => ?_) (fun c3 => ?_)
  · have hw := ifp c3 hw
    refine lv_iconst (v := -1) hx hb dX11_why_15 (by decide) ?_
    exact mri C hr hk hH hw dX11_why_16
  · have hw := ifn c3 hw
    refine lv_aload_n hx hb dX11_why_7 rfl (lv_at hl 0 rfl) ?_
    refine lv_iload_n hx hb dX11_why_8 rfl (lv_at hl 2 rfl) ?_
    refine mcVi C hH [.int a2] (fun sz => c_M_isLoad l D Z b σ1 a2 _ hw sz) (cwTV 1 hts wd_1421 wd_1423 ws_64 wd_14 wd_1424 rfl rfl (by decide +kernel) ⟨Nat.le_of_ble_eq_true rfl, Nat.le_of_ble_eq_true rfl⟩) rfl hl.1 rfl (Nat.le_of_ble_eq_true rfl) dX11_why_9 ⟨Nat.zero_le _, Nat.zero_le _⟩ (fun r5 σ4 H locs hw hH => ?_)
    refine lv_if_ne (tgt := 17) hx hb dX11_why_12 (by decide) (fun c6 => ?_) (fun c6 => ?_)
    · have hw := ifn c6 hw
      refine lv_aload_n hx hb dX11_why_17 rfl (lv_at hl 0 rfl) ?_
      refine lv_iload_n hx hb dX11_why_18 rfl (lv_at hl 1 rfl) ?_
      refine lv_iload_n hx hb dX11_why_19 rfl (lv_at hl 2 rfl) ?_
      refine mcVi C hH [.int a1, .int a2] (fun sz => c_M_hinders l D Z b σ4 a1 a2 _ hw sz) (cwTV 2 hts wd_1462 wd_1464 ws_70 wd_14 wd_1465 rfl rfl (by decide +kernel) ⟨Nat.le_of_ble_eq_true rfl, Nat.le_of_ble_eq_true rfl⟩) rfl hl.1 rfl (Nat.le_of_ble_eq_true rfl) dX11_why_20 ⟨Nat.zero_le _, Nat.zero_le _⟩ (fun r8 σ7 H locs hw hH => ?_)
      refine lv_istore_n (lv' := [(3, .int r8), (0, .ref (b 69)), (1, .int a1), (2, .int a2)]) hx hb dX11_why_23 rfl hl (by decide) rfl (fun ls hl => ?_)
      refine lv_iload_n hx hb dX11_why_24 rfl (lv_at hl 0 rfl) ?_
      refine lv_if_le (tgt := 32) hx hb dX11_why_25 (by decide) (fun c9 => ?_) (fun c9 => ?_)
      · have hw := ifp c9 hw
        refine lv_aload_n hx hb dX11_why_32 rfl (lv_at hl 1 rfl) ?_
        refine lv_iload_n hx hb dX11_why_33 rfl (lv_at hl 2 rfl) ?_
        refine lv_iload_n hx hb dX11_why_34 rfl (lv_at hl 3 rfl) ?_
        refine lv_iconst (v := 0) hx hb dX11_why_35 (by decide) ?_
        refine mcVi C hH [.int a1, .int a2, .int (0 : Int32)] (fun sz => c_M_take l D Z b σ7 a1 a2 (0 : Int32) _ hw sz) (cwTV 3 hts wd_1470 wd_1472 ws_72 wd_14 wd_1473 rfl rfl (by decide +kernel) ⟨Nat.le_of_ble_eq_true rfl, Nat.le_of_ble_eq_true rfl⟩) rfl hl.1 rfl (Nat.le_of_ble_eq_true rfl) dX11_why_36 ⟨Nat.zero_le _, Nat.zero_le _⟩ (fun r11 σ10 H locs hw hH => ?_)
        refine lv_if_eq (tgt := 46) hx hb dX11_why_39 (by decide) (fun c12 => ?_) (fun c12 => ?_)
        · have hw := ifp c12 hw
          refine lv_bipush (v := 6) hx hb dX11_why_46 (by decide) ?_
          exact mri C hr hk hH hw dX11_why_48
        · have hw := ifn c12 hw
          refine lv_iconst (v := 0) hx hb dX11_why_42 (by decide) ?_
          refine lv_goto (tgt := 48) hx hb dX11_why_43 (by decide) ?_
          exact mri C hr hk hH hw dX11_why_48
      · have hw := ifn c9 hw
        refine lv_iload_n hx hb dX11_why_28 rfl (lv_at hl 0 rfl) ?_
        refine lv_goto (tgt := 48) hx hb dX11_why_29 (by decide) ?_
        exact mri C hr hk hH hw dX11_why_48
    · have hw := ifp c6 hw
      refine lv_iconst (v := -1) hx hb dX11_why_15 (by decide) ?_
      exact mri C hr hk hH hw dX11_why_16
/-! clamp -/
abbrev rm_M_clamp : Room := { frames := 0, cells := 0, slots := 0, locals := 0 }
def wp_M_clamp (σ : MS) (a1 : Int32) (a2 : Int32) (post : Int32 → MS → Prop) : Prop := if 0 ≤ a1 then (if a1 ≤ a2 then (post a1 σ) else (post a2 σ)) else (post (0 : Int32) σ)
set_option maxHeartbeats 4000000 in
set_option maxRecDepth 100000 in
theorem c_M_clamp (l : Launch) (D : va_G) (Z : Nat → ClassId) (b : Nat → Nat) (σ : MS) (a1 : Int32) (a2 : Int32) (post : Int32 → MS → Prop) (hw : wp_M_clamp σ a1 a2 post) (sz : Nat) : Met l yX11_clamp (Wd yX11_clamp cX11_clamp 2 (some .int)) rm_M_clamp (va_Pc [.int a1, .int a2] (mPre D Z b sz σ)) (va_Qi post (mPost D Z b) (mA b sz)) 0 0 (mA b sz) := by
  refine mMi (by decide) rfl _ (Nat.le_of_ble_eq_true rfl) (fun p e s m args below meth c C hr hk ls hl hH => ?_) sz
  obtain ⟨⟨hx, hb, hml, hown, hts⟩, hK⟩ := id C
  have hl : lv_has ls 2 [(0, .int a1), (1, .int a2)] := hl
  unfold wp_M_clamp at hw
  refine lv_iload_n hx hb dX11_clamp_0 rfl (lv_at hl 0 rfl) ?_
  refine lv_if_ge (tgt := 8) hx hb dX11_clamp_1 (by decide) (fun c1 => ?_) (fun c1 => ?_)
  · have hw := ifp c1 hw
    refine lv_iload_n hx hb dX11_clamp_8 rfl (lv_at hl 0 rfl) ?_
    refine lv_iload_n hx hb dX11_clamp_9 rfl (lv_at hl 1 rfl) ?_
    refine lv_icmp_le (tgt := 17) hx hb dX11_clamp_10 (by decide) (fun c2 => ?_) (fun c2 => ?_)
    · have hw := ifp c2 hw
      refine lv_iload_n hx hb dX11_clamp_17 rfl (lv_at hl 0 rfl) ?_
      exact mri C hr hk hH hw dX11_clamp_18
    · have hw := ifn c2 hw
      refine lv_iload_n hx hb dX11_clamp_13 rfl (lv_at hl 1 rfl) ?_
      refine lv_goto (tgt := 18) hx hb dX11_clamp_14 (by decide) ?_
      exact mri C hr hk hH hw dX11_clamp_18
  · have hw := ifn c1 hw
    refine lv_iconst (v := 0) hx hb dX11_clamp_4 (by decide) ?_
    refine lv_goto (tgt := 18) hx hb dX11_clamp_5 (by decide) ?_
    exact mri C hr hk hH hw dX11_clamp_18
/-! send -/
abbrev rm_M_send : Room := { frames := 5, cells := 0, slots := 0, locals := 117 }
def wp_M_send_173 (post : Int32 → MS → Prop) : Nat → MS → Int32 → Int32 → Int32 → Prop
  | 0 => fun _ _ _ _ => False
  | n + 1 => fun σ x2_ x5_ x6_ => if (σ 60 0) ≤ x6_ then (post (σ 60 0) σ) else (vp_in x6_ 8 ∧ (∀ x3 : Int32, x3 = (σ 61 x6_.toNatClampNeg) → (vp_in (((8 : Int32) * x2_) + x6_) 1600 ∧ (∀ σ5 : MS, σ5 = up2 σ 59 (((8 : Int32) * x2_) + x6_).toNatClampNeg x3 → (wp_M_goesOut σ5 x3 (fun σ6 => vp_in x3 60 ∧ (∀ σ8 : MS, σ8 = up2 σ6 16 x3.toNatClampNeg ((σ6 1 0) + x5_) → (vp_in x3 60 ∧ (vp_in x3 60 ∧ (∀ σ11 : MS, σ11 = up2 σ8 15 x3.toNatClampNeg ((σ8 15 x3.toNatClampNeg) + x5_) → (vp_in x3 60 ∧ (∀ σ13 : MS, σ13 = up2 σ11 18 x3.toNatClampNeg x2_ → (∀ x14 : Int32, x14 = x6_ + (1 : Int32) → (wp_M_send_173  post n σ13 x2_ x5_ x14))))))))))))))
set_option maxHeartbeats 4000000 in
set_option maxRecDepth 100000 in
theorem b_M_send_173 {p : Program} {l : Launch} {e : Env} {s : State} {m : MethodId} {args : Array Value} {below : List Frame} {meth : Method} {c : Code} {D : va_G} {Z : Nat → ClassId} {b : Nat → Nat} (C : MC p s m args c cX11_send 8 D Z) (hr : meth.sig.returnType = some .int) (hk : meth.locks = false) {post : Int32 → MS → Prop} : ∀ (n : Nat) (σ : MS) (x2_ : Int32) (x5_ : Int32) (x6_ : Int32), wp_M_send_173  post n σ x2_ x5_ x6_ → ∀ (H : Heap) (locs : List Loc) (ls : Array Slot), MH D Z b s.heap σ H locs → lv_has ls 8 [(0, .ref (b 69)), (2, .int x2_), (5, .int x5_), (6, .int x6_)] → MWi p l e rm_M_send s m args below meth c D Z b post H locs (F0 m 173 ls []) := by
  obtain ⟨⟨hx, hb, hml, hown, hts⟩, hK⟩ := id C
  intro n
  induction n with
  | zero => intro σ x2_ x5_ x6_ hw; exact hw.elim
  | succ n ih =>
    intro σ x2_ x5_ x6_ hw H locs ls hH hl
    unfold wp_M_send_173 at hw
    refine lv_iload hx hb dX11_send_173 (lv_at hl 3 rfl) ?_
    refine lv_aload_n hx hb dX11_send_175 rfl (lv_at hl 0 rfl) ?_
    refine mg C hH 60 (by decide) rfl wd_1089 rfl dX11_send_176 ?_
    refine lv_icmp_ge (tgt := 251) hx hb dX11_send_179 (by decide) (fun c1 => ?_) (fun c1 => ?_)
    · have hw := ifp c1 hw
      refine lv_aload_n hx hb dX11_send_251 rfl (lv_at hl 0 rfl) ?_
      refine mg C hH 60 (by decide) rfl wd_1089 rfl dX11_send_252 ?_
      exact mri C hr hk hH hw dX11_send_255
    · have hw := ifn c1 hw
      refine lv_aload_n hx hb dX11_send_182 rfl (lv_at hl 0 rfl) ?_
      refine mg C hH 61 (by decide) rfl wd_1090 rfl dX11_send_183 ?_
      refine lv_iload hx hb dX11_send_186 (lv_at hl 3 rfl) ?_
      obtain ⟨h2, hw⟩ := hw
      refine mai C hH 47 61 rfl h2 dX11_send_188 ?_
      refine lv_topi (fun x3 ex3 => ?_)
      have hw := hw x3 ex3
      refine lv_istore (lv' := [(7, .int x3), (0, .ref (b 69)), (2, .int x2_), (5, .int x5_), (6, .int x6_)]) hx hb dX11_send_189 hl (by decide) rfl (fun ls hl => ?_)
      refine lv_aload_n hx hb dX11_send_191 rfl (lv_at hl 1 rfl) ?_
      refine mg C hH 59 (by decide) rfl wd_1088 rfl dX11_send_192 ?_
      refine lv_bipush (v := 8) hx hb dX11_send_195 (by decide) ?_
      refine lv_iload_n hx hb dX11_send_197 rfl (lv_at hl 2 rfl) ?_
      refine lv_imul hx hb dX11_send_198 ?_
      refine lv_iload hx hb dX11_send_199 (lv_at hl 4 rfl) ?_
      refine lv_iadd hx hb dX11_send_201 ?_
      refine lv_iload hx hb dX11_send_202 (lv_at hl 0 rfl) ?_
      obtain ⟨h4, hw⟩ := hw
      refine msi C hH 46 59 rfl (mast_59 Z b σ _ _) h4 dX11_send_204 (fun H locs hH => ?_)
      have hw := hw _ rfl
      generalize up2 σ 59 (((8 : Int32) * x2_) + x6_).toNatClampNeg x3 = σ5 at hw hH
      refine lv_aload_n hx hb dX11_send_205 rfl (lv_at hl 1 rfl) ?_
      refine lv_iload hx hb dX11_send_206 (lv_at hl 0 rfl) ?_
      refine mcVv C hH [.int x3] (fun sz => c_M_goesOut l D Z b σ5 x3 _ hw sz) (cwTV 1 hts wd_1306 wd_1308 ws_54 wd_14 wd_1309 rfl rfl (by decide +kernel) ⟨Nat.le_of_ble_eq_true rfl, Nat.le_of_ble_eq_true rfl⟩) rfl hl.1 rfl (Nat.le_of_ble_eq_true rfl) dX11_send_208 ⟨Nat.zero_le _, Nat.zero_le _⟩ (fun  σ6 H locs hw hH => ?_)
      refine lv_aload_n hx hb dX11_send_211 rfl (lv_at hl 1 rfl) ?_
      refine mg C hH 16 (by decide) rfl wd_1045 rfl dX11_send_212 ?_
      refine lv_iload hx hb dX11_send_215 (lv_at hl 0 rfl) ?_
      refine lv_aload_n hx hb dX11_send_217 rfl (lv_at hl 1 rfl) ?_
      refine mg C hH 1 (by decide) rfl wd_1030 rfl dX11_send_218 ?_
      refine lv_iload hx hb dX11_send_221 (lv_at hl 3 rfl) ?_
      refine lv_iadd hx hb dX11_send_223 ?_
      obtain ⟨h7, hw⟩ := hw
      refine msi C hH 12 16 rfl (mast_16 Z b σ6 _ _) h7 dX11_send_224 (fun H locs hH => ?_)
      have hw := hw _ rfl
      generalize up2 σ6 16 x3.toNatClampNeg ((σ6 1 0) + x5_) = σ8 at hw hH
      refine lv_aload_n hx hb dX11_send_225 rfl (lv_at hl 1 rfl) ?_
      refine mg C hH 15 (by decide) rfl wd_1044 rfl dX11_send_226 ?_
      refine lv_iload hx hb dX11_send_229 (lv_at hl 0 rfl) ?_
      refine lv_dup2_11 hx hb dX11_send_231 rfl rfl ?_
      obtain ⟨h9, hw⟩ := hw
      refine mai C hH 11 15 rfl h9 dX11_send_232 ?_
      refine lv_iload hx hb dX11_send_233 (lv_at hl 3 rfl) ?_
      refine lv_iadd hx hb dX11_send_235 ?_
      obtain ⟨h10, hw⟩ := hw
      refine msi C hH 11 15 rfl (mast_15 Z b σ8 _ _) h10 dX11_send_236 (fun H locs hH => ?_)
      have hw := hw _ rfl
      generalize up2 σ8 15 x3.toNatClampNeg ((σ8 15 x3.toNatClampNeg) + x5_) = σ11 at hw hH
      refine lv_aload_n hx hb dX11_send_237 rfl (lv_at hl 1 rfl) ?_
      refine mg C hH 18 (by decide) rfl wd_1047 rfl dX11_send_238 ?_
      refine lv_iload hx hb dX11_send_241 (lv_at hl 0 rfl) ?_
      refine lv_iload_n hx hb dX11_send_243 rfl (lv_at hl 2 rfl) ?_
      obtain ⟨h12, hw⟩ := hw
      refine msi C hH 14 18 rfl (mast_18 Z b σ11 _ _) h12 dX11_send_244 (fun H locs hH => ?_)
      have hw := hw _ rfl
      generalize up2 σ11 18 x3.toNatClampNeg x2_ = σ13 at hw hH
      obtain ⟨x14, ex14⟩ : ∃ y : Int32, y = x6_ + (1 : Int32) := ⟨_, rfl⟩
      have hw := hw x14 ex14
      refine lv_iinc (v := x14) (lv' := [(6, .int x14), (7, .int x3), (0, .ref (b 69)), (2, .int x2_), (5, .int x5_)]) hx hb dX11_send_245 hl (k := 4) rfl (by rw [ex14]; rfl) (by decide) rfl (fun ls hl => ?_)
      refine lv_goto (tgt := 173) hx hb dX11_send_248 (by decide) ?_
      exact ih σ13 x2_ x5_ x14 hw _ _ _ hH (lv_sub hl [2, 3, 4, 0] rfl)
def wp_M_send (σ : MS) (a1 : Int32) (a2 : Int32) (post : Int32 → MS → Prop) : Prop := wp_M_isFellowship σ a1 (fun r16 σ15 => if r16 = 0 then (post (-1 : Int32) σ15) else (wp_M_isLoad σ15 a2 (fun r19 σ18 => if r19 = 0 then (post (-1 : Int32) σ18) else (wp_M_hinders σ18 a1 a2 (fun r22 σ21 => if r22 ≤ 0 then (vp_in a1 4 ∧ (∀ x25 : Int32, x25 = (σ21 23 a1.toNatClampNeg) → (vp_in a1 4 ∧ (wp_M_take σ21 a1 a2 (σ21 22 a1.toNatClampNeg) (fun r28 σ27 => if r28 = 0 then (vp_in a1 4 ∧ (∀ σ57 : MS, σ57 = up2 σ27 23 a1.toNatClampNeg x25 → (post (-16 : Int32) σ57))) else (vp_in a2 200 ∧ (vp_in a2 200 ∧ (wp_M_wayNow σ27 (σ27 46 a2.toNatClampNeg) (σ27 47 a2.toNatClampNeg) (fun r33 σ32 => wp_M_saysNow σ32 a1 (1 : Int32) a2 (-1 : Int32) (fun r35 σ34 => wp_M_clamp σ34 r35 (100000 : Int32) (fun r37 σ36 => vp_in a2 200 ∧ (∀ σ39 : MS, σ39 = up2 σ36 55 a2.toNatClampNeg r37 → (wp_M_saysNow σ39 a1 (4 : Int32) a2 (-1 : Int32) (fun r41 σ40 => wp_M_clamp σ40 r41 (100 : Int32) (fun r43 σ42 => vp_in a2 200 ∧ (∀ σ45 : MS, σ45 = up2 σ42 56 a2.toNatClampNeg r43 → (vp_in a2 200 ∧ (∀ σ47 : MS, σ47 = up2 σ45 50 a2.toNatClampNeg (1 : Int32) → (vp_in a2 200 ∧ (∀ σ49 : MS, σ49 = up2 σ47 52 a2.toNatClampNeg (σ47 1 0) → (vp_in a2 200 ∧ (∀ σ51 : MS, σ51 = up2 σ49 53 a2.toNatClampNeg a1 → (vp_in a2 200 ∧ (∀ σ53 : MS, σ53 = up2 σ51 54 a2.toNatClampNeg ((σ51 1 0) + r33) → (vp_in a2 200 ∧ (∀ σ55 : MS, σ55 = up2 σ53 58 a2.toNatClampNeg (σ53 60 0) → (∃ nn : Nat, wp_M_send_173  post nn σ55 a2 r33 (0 : Int32)))))))))))))))))))))))))))) else (post ((-10 : Int32) - r22) σ21))))))
set_option maxHeartbeats 4000000 in
set_option maxRecDepth 100000 in
theorem c_M_send (l : Launch) (D : va_G) (Z : Nat → ClassId) (b : Nat → Nat) (σ : MS) (a1 : Int32) (a2 : Int32) (post : Int32 → MS → Prop) (hw : wp_M_send σ a1 a2 post) (sz : Nat) : Met l yX11_send (Wd yX11_send cX11_send 8 (some .int)) rm_M_send (va_Pc [.ref (b 69), .int a1, .int a2] (mPre D Z b sz σ)) (va_Qi post (mPost D Z b) (mA b sz)) 0 0 (mA b sz) := by
  refine mMi (by decide) rfl _ (Nat.le_of_ble_eq_true rfl) (fun p e s m args below meth c C hr hk ls hl hH => ?_) sz
  obtain ⟨⟨hx, hb, hml, hown, hts⟩, hK⟩ := id C
  have hl : lv_has ls 8 [(0, .ref (b 69)), (1, .int a1), (2, .int a2)] := hl
  unfold wp_M_send at hw
  refine lv_iload_n hx hb dX11_send_0 rfl (lv_at hl 1 rfl) ?_
  refine mcSi C hH [.int a1] (fun sz => c_M_isFellowship l D Z b σ a1 _ hw sz) (cwTS 1 hts wd_1283 wd_1284 wd_14 wd_1285 rfl rfl (by decide +kernel) ⟨Nat.le_of_ble_eq_true rfl, Nat.le_of_ble_eq_true rfl⟩) rfl hl.1 rfl (Nat.le_of_ble_eq_true rfl) dX11_send_1 ⟨Nat.zero_le _, Nat.zero_le _⟩ (fun r16 σ15 H locs hw hH => ?_)
  refine lv_if_eq (tgt := 15) hx hb dX11_send_4 (by decide) (fun c17 => ?_) (fun c17 => ?_)
  · have hw := ifp c17 hw
    refine lv_iconst (v := -1) hx hb dX11_send_15 (by decide) ?_
    exact mri C hr hk hH hw dX11_send_16
  · have hw := ifn c17 hw
    refine lv_aload_n hx hb dX11_send_7 rfl (lv_at hl 0 rfl) ?_
    refine lv_iload_n hx hb dX11_send_8 rfl (lv_at hl 2 rfl) ?_
    refine mcVi C hH [.int a2] (fun sz => c_M_isLoad l D Z b σ15 a2 _ hw sz) (cwTV 1 hts wd_1421 wd_1423 ws_64 wd_14 wd_1424 rfl rfl (by decide +kernel) ⟨Nat.le_of_ble_eq_true rfl, Nat.le_of_ble_eq_true rfl⟩) rfl hl.1 rfl (Nat.le_of_ble_eq_true rfl) dX11_send_9 ⟨Nat.zero_le _, Nat.zero_le _⟩ (fun r19 σ18 H locs hw hH => ?_)
    refine lv_if_ne (tgt := 17) hx hb dX11_send_12 (by decide) (fun c20 => ?_) (fun c20 => ?_)
    · have hw := ifn c20 hw
      refine lv_aload_n hx hb dX11_send_17 rfl (lv_at hl 0 rfl) ?_
      refine lv_iload_n hx hb dX11_send_18 rfl (lv_at hl 1 rfl) ?_
      refine lv_iload_n hx hb dX11_send_19 rfl (lv_at hl 2 rfl) ?_
      refine mcVi C hH [.int a1, .int a2] (fun sz => c_M_hinders l D Z b σ18 a1 a2 _ hw sz) (cwTV 2 hts wd_1462 wd_1464 ws_70 wd_14 wd_1465 rfl rfl (by decide +kernel) ⟨Nat.le_of_ble_eq_true rfl, Nat.le_of_ble_eq_true rfl⟩) rfl hl.1 rfl (Nat.le_of_ble_eq_true rfl) dX11_send_20 ⟨Nat.zero_le _, Nat.zero_le _⟩ (fun r22 σ21 H locs hw hH => ?_)
      refine lv_istore_n (lv' := [(3, .int r22), (0, .ref (b 69)), (1, .int a1), (2, .int a2)]) hx hb dX11_send_23 rfl hl (by decide) rfl (fun ls hl => ?_)
      refine lv_iload_n hx hb dX11_send_24 rfl (lv_at hl 0 rfl) ?_
      refine lv_if_le (tgt := 33) hx hb dX11_send_25 (by decide) (fun c23 => ?_) (fun c23 => ?_)
      · have hw := ifp c23 hw
        refine lv_aload_n hx hb dX11_send_33 rfl (lv_at hl 1 rfl) ?_
        refine mg C hH 23 (by decide) rfl wd_1052 rfl dX11_send_34 ?_
        refine lv_iload_n hx hb dX11_send_37 rfl (lv_at hl 2 rfl) ?_
        obtain ⟨h24, hw⟩ := hw
        refine mai C hH 19 23 rfl h24 dX11_send_38 ?_
        refine lv_topi (fun x25 ex25 => ?_)
        have hw := hw x25 ex25
        refine lv_istore (lv' := [(4, .int x25), (3, .int r22), (0, .ref (b 69)), (1, .int a1), (2, .int a2)]) hx hb dX11_send_39 hl (by decide) rfl (fun ls hl => ?_)
        refine lv_aload_n hx hb dX11_send_41 rfl (lv_at hl 2 rfl) ?_
        refine lv_iload_n hx hb dX11_send_42 rfl (lv_at hl 3 rfl) ?_
        refine lv_iload_n hx hb dX11_send_43 rfl (lv_at hl 4 rfl) ?_
        refine lv_aload_n hx hb dX11_send_44 rfl (lv_at hl 2 rfl) ?_
        refine mg C hH 22 (by decide) rfl wd_1051 rfl dX11_send_45 ?_
        refine lv_iload_n hx hb dX11_send_48 rfl (lv_at hl 3 rfl) ?_
        obtain ⟨h26, hw⟩ := hw
        refine maz C hH 18 22 rfl h26 dX11_send_49 ?_
        refine mcVi C hH [.int a1, .int a2, .int (σ21 22 a1.toNatClampNeg)] (fun sz => c_M_take l D Z b σ21 a1 a2 (σ21 22 a1.toNatClampNeg) _ hw sz) (cwTV 3 hts wd_1470 wd_1472 ws_72 wd_14 wd_1473 rfl rfl (by decide +kernel) ⟨Nat.le_of_ble_eq_true rfl, Nat.le_of_ble_eq_true rfl⟩) rfl hl.1 rfl (Nat.le_of_ble_eq_true rfl) dX11_send_50 ⟨Nat.zero_le _, Nat.zero_le _⟩ (fun r28 σ27 H locs hw hH => ?_)
        refine lv_if_ne (tgt := 67) hx hb dX11_send_53 (by decide) (fun c29 => ?_) (fun c29 => ?_)
        · have hw := ifn c29 hw
          refine lv_aload_n hx hb dX11_send_67 rfl (lv_at hl 2 rfl) ?_
          refine lv_aload_n hx hb dX11_send_68 rfl (lv_at hl 2 rfl) ?_
          refine mg C hH 46 (by decide) rfl wd_1075 rfl dX11_send_69 ?_
          refine lv_iload_n hx hb dX11_send_72 rfl (lv_at hl 4 rfl) ?_
          obtain ⟨h30, hw⟩ := hw
          refine mai C hH 33 46 rfl h30 dX11_send_73 ?_
          refine lv_aload_n hx hb dX11_send_74 rfl (lv_at hl 2 rfl) ?_
          refine mg C hH 47 (by decide) rfl wd_1076 rfl dX11_send_75 ?_
          refine lv_iload_n hx hb dX11_send_78 rfl (lv_at hl 4 rfl) ?_
          obtain ⟨h31, hw⟩ := hw
          refine mai C hH 34 47 rfl h31 dX11_send_79 ?_
          refine mcVi C hH [.int (σ27 46 a2.toNatClampNeg), .int (σ27 47 a2.toNatClampNeg)] (fun sz => c_M_wayNow l D Z b σ27 (σ27 46 a2.toNatClampNeg) (σ27 47 a2.toNatClampNeg) _ hw sz) (cwTV 2 hts wd_1271 wd_1273 ws_49 wd_14 wd_1274 rfl rfl (by decide +kernel) ⟨Nat.le_of_ble_eq_true rfl, Nat.le_of_ble_eq_true rfl⟩) rfl hl.1 rfl (Nat.le_of_ble_eq_true rfl) dX11_send_80 ⟨Nat.zero_le _, Nat.zero_le _⟩ (fun r33 σ32 H locs hw hH => ?_)
          refine lv_istore (lv' := [(5, .int r33), (4, .int x25), (3, .int r22), (0, .ref (b 69)), (1, .int a1), (2, .int a2)]) hx hb dX11_send_83 hl (by decide) rfl (fun ls hl => ?_)
          refine lv_aload_n hx hb dX11_send_85 rfl (lv_at hl 3 rfl) ?_
          refine mg C hH 55 (by decide) rfl wd_1084 rfl dX11_send_86 ?_
          refine lv_iload_n hx hb dX11_send_89 rfl (lv_at hl 5 rfl) ?_
          refine lv_aload_n hx hb dX11_send_90 rfl (lv_at hl 3 rfl) ?_
          refine lv_iload_n hx hb dX11_send_91 rfl (lv_at hl 4 rfl) ?_
          refine lv_iconst (v := 1) hx hb dX11_send_92 (by decide) ?_
          refine lv_iload_n hx hb dX11_send_93 rfl (lv_at hl 5 rfl) ?_
          refine lv_iconst (v := -1) hx hb dX11_send_94 (by decide) ?_
          refine mcVi C hH [.int a1, .int (1 : Int32), .int a2, .int (-1 : Int32)] (fun sz => c_M_saysNow l D Z b σ32 a1 (1 : Int32) a2 (-1 : Int32) _ hw sz) (cwTV 4 hts wd_1426 wd_1428 ws_65 wd_14 wd_1429 rfl rfl (by decide +kernel) ⟨Nat.le_of_ble_eq_true rfl, Nat.le_of_ble_eq_true rfl⟩) rfl hl.1 rfl (Nat.le_of_ble_eq_true rfl) dX11_send_95 ⟨Nat.zero_le _, Nat.zero_le _⟩ (fun r35 σ34 H locs hw hH => ?_)
          refine lv_ldc (own := RX11) (index := 196) (v := 100000) hx hb hown (hts _ wd_1258) dX11_send_98 ?_
          refine mcSi C hH [.int r35, .int (100000 : Int32)] (fun sz => c_M_clamp l D Z b σ34 r35 (100000 : Int32) _ hw sz) (cwTS 2 hts wd_1487 wd_1488 wd_14 wd_1489 rfl rfl (by decide +kernel) ⟨Nat.le_of_ble_eq_true rfl, Nat.le_of_ble_eq_true rfl⟩) rfl hl.1 rfl (Nat.le_of_ble_eq_true rfl) dX11_send_100 ⟨Nat.zero_le _, Nat.zero_le _⟩ (fun r37 σ36 H locs hw hH => ?_)
          obtain ⟨h38, hw⟩ := hw
          refine msi C hH 42 55 rfl (mast_55 Z b σ36 _ _) h38 dX11_send_103 (fun H locs hH => ?_)
          have hw := hw _ rfl
          generalize up2 σ36 55 a2.toNatClampNeg r37 = σ39 at hw hH
          refine lv_aload_n hx hb dX11_send_104 rfl (lv_at hl 3 rfl) ?_
          refine mg C hH 56 (by decide) rfl wd_1085 rfl dX11_send_105 ?_
          refine lv_iload_n hx hb dX11_send_108 rfl (lv_at hl 5 rfl) ?_
          refine lv_aload_n hx hb dX11_send_109 rfl (lv_at hl 3 rfl) ?_
          refine lv_iload_n hx hb dX11_send_110 rfl (lv_at hl 4 rfl) ?_
          refine lv_iconst (v := 4) hx hb dX11_send_111 (by decide) ?_
          refine lv_iload_n hx hb dX11_send_112 rfl (lv_at hl 5 rfl) ?_
          refine lv_iconst (v := -1) hx hb dX11_send_113 (by decide) ?_
          refine mcVi C hH [.int a1, .int (4 : Int32), .int a2, .int (-1 : Int32)] (fun sz => c_M_saysNow l D Z b σ39 a1 (4 : Int32) a2 (-1 : Int32) _ hw sz) (cwTV 4 hts wd_1426 wd_1428 ws_65 wd_14 wd_1429 rfl rfl (by decide +kernel) ⟨Nat.le_of_ble_eq_true rfl, Nat.le_of_ble_eq_true rfl⟩) rfl hl.1 rfl (Nat.le_of_ble_eq_true rfl) dX11_send_114 ⟨Nat.zero_le _, Nat.zero_le _⟩ (fun r41 σ40 H locs hw hH => ?_)
          refine lv_bipush (v := 100) hx hb dX11_send_117 (by decide) ?_
          refine mcSi C hH [.int r41, .int (100 : Int32)] (fun sz => c_M_clamp l D Z b σ40 r41 (100 : Int32) _ hw sz) (cwTS 2 hts wd_1487 wd_1488 wd_14 wd_1489 rfl rfl (by decide +kernel) ⟨Nat.le_of_ble_eq_true rfl, Nat.le_of_ble_eq_true rfl⟩) rfl hl.1 rfl (Nat.le_of_ble_eq_true rfl) dX11_send_119 ⟨Nat.zero_le _, Nat.zero_le _⟩ (fun r43 σ42 H locs hw hH => ?_)
          obtain ⟨h44, hw⟩ := hw
          refine msi C hH 43 56 rfl (mast_56 Z b σ42 _ _) h44 dX11_send_122 (fun H locs hH => ?_)
          have hw := hw _ rfl
          generalize up2 σ42 56 a2.toNatClampNeg r43 = σ45 at hw hH
          refine lv_aload_n hx hb dX11_send_123 rfl (lv_at hl 3 rfl) ?_
          refine mg C hH 50 (by decide) rfl wd_1079 rfl dX11_send_124 ?_
          refine lv_iload_n hx hb dX11_send_127 rfl (lv_at hl 5 rfl) ?_
          refine lv_iconst (v := 1) hx hb dX11_send_128 (by decide) ?_
          obtain ⟨h46, hw⟩ := hw
          refine msi C hH 37 50 rfl (mast_50 Z b σ45 _ _) h46 dX11_send_129 (fun H locs hH => ?_)
          have hw := hw _ rfl
          generalize up2 σ45 50 a2.toNatClampNeg (1 : Int32) = σ47 at hw hH
          refine lv_aload_n hx hb dX11_send_130 rfl (lv_at hl 3 rfl) ?_
          refine mg C hH 52 (by decide) rfl wd_1081 rfl dX11_send_131 ?_
          refine lv_iload_n hx hb dX11_send_134 rfl (lv_at hl 5 rfl) ?_
          refine lv_aload_n hx hb dX11_send_135 rfl (lv_at hl 3 rfl) ?_
          refine mg C hH 1 (by decide) rfl wd_1030 rfl dX11_send_136 ?_
          obtain ⟨h48, hw⟩ := hw
          refine msi C hH 39 52 rfl (mast_52 Z b σ47 _ _) h48 dX11_send_139 (fun H locs hH => ?_)
          have hw := hw _ rfl
          generalize up2 σ47 52 a2.toNatClampNeg (σ47 1 0) = σ49 at hw hH
          refine lv_aload_n hx hb dX11_send_140 rfl (lv_at hl 3 rfl) ?_
          refine mg C hH 53 (by decide) rfl wd_1082 rfl dX11_send_141 ?_
          refine lv_iload_n hx hb dX11_send_144 rfl (lv_at hl 5 rfl) ?_
          refine lv_iload_n hx hb dX11_send_145 rfl (lv_at hl 4 rfl) ?_
          obtain ⟨h50, hw⟩ := hw
          refine msi C hH 40 53 rfl (mast_53 Z b σ49 _ _) h50 dX11_send_146 (fun H locs hH => ?_)
          have hw := hw _ rfl
          generalize up2 σ49 53 a2.toNatClampNeg a1 = σ51 at hw hH
          refine lv_aload_n hx hb dX11_send_147 rfl (lv_at hl 3 rfl) ?_
          refine mg C hH 54 (by decide) rfl wd_1083 rfl dX11_send_148 ?_
          refine lv_iload_n hx hb dX11_send_151 rfl (lv_at hl 5 rfl) ?_
          refine lv_aload_n hx hb dX11_send_152 rfl (lv_at hl 3 rfl) ?_
          refine mg C hH 1 (by decide) rfl wd_1030 rfl dX11_send_153 ?_
          refine lv_iload hx hb dX11_send_156 (lv_at hl 0 rfl) ?_
          refine lv_iadd hx hb dX11_send_158 ?_
          obtain ⟨h52, hw⟩ := hw
          refine msi C hH 41 54 rfl (mast_54 Z b σ51 _ _) h52 dX11_send_159 (fun H locs hH => ?_)
          have hw := hw _ rfl
          generalize up2 σ51 54 a2.toNatClampNeg ((σ51 1 0) + r33) = σ53 at hw hH
          refine lv_aload_n hx hb dX11_send_160 rfl (lv_at hl 3 rfl) ?_
          refine mg C hH 58 (by decide) rfl wd_1087 rfl dX11_send_161 ?_
          refine lv_iload_n hx hb dX11_send_164 rfl (lv_at hl 5 rfl) ?_
          refine lv_aload_n hx hb dX11_send_165 rfl (lv_at hl 3 rfl) ?_
          refine mg C hH 60 (by decide) rfl wd_1089 rfl dX11_send_166 ?_
          obtain ⟨h54, hw⟩ := hw
          refine msi C hH 45 58 rfl (mast_58 Z b σ53 _ _) h54 dX11_send_169 (fun H locs hH => ?_)
          have hw := hw _ rfl
          generalize up2 σ53 58 a2.toNatClampNeg (σ53 60 0) = σ55 at hw hH
          refine lv_iconst (v := 0) hx hb dX11_send_170 (by decide) ?_
          refine lv_istore (lv' := [(6, .int (0 : Int32)), (5, .int r33), (4, .int x25), (3, .int r22), (0, .ref (b 69)), (1, .int a1), (2, .int a2)]) hx hb dX11_send_171 hl (by decide) rfl (fun ls hl => ?_)
          obtain ⟨nn, hw⟩ := hw
          exact b_M_send_173 C hr hk  nn σ55 a2 r33 (0 : Int32) hw _ _ _ hH (lv_sub hl [4, 6, 1, 0] rfl)
        · have hw := ifp c29 hw
          refine lv_aload_n hx hb dX11_send_56 rfl (lv_at hl 2 rfl) ?_
          refine mg C hH 23 (by decide) rfl wd_1052 rfl dX11_send_57 ?_
          refine lv_iload_n hx hb dX11_send_60 rfl (lv_at hl 3 rfl) ?_
          refine lv_iload hx hb dX11_send_61 (lv_at hl 0 rfl) ?_
          obtain ⟨h56, hw⟩ := hw
          refine msi C hH 19 23 rfl (mast_23 Z b σ27 _ _) h56 dX11_send_63 (fun H locs hH => ?_)
          have hw := hw _ rfl
          generalize up2 σ27 23 a1.toNatClampNeg x25 = σ57 at hw hH
          refine lv_bipush (v := -16) hx hb dX11_send_64 (by decide) ?_
          exact mri C hr hk hH hw dX11_send_66
      · have hw := ifn c23 hw
        refine lv_bipush (v := -10) hx hb dX11_send_28 (by decide) ?_
        refine lv_iload_n hx hb dX11_send_30 rfl (lv_at hl 0 rfl) ?_
        refine lv_isub hx hb dX11_send_31 ?_
        exact mri C hr hk hH hw dX11_send_32
    · have hw := ifp c20 hw
      refine lv_iconst (v := -1) hx hb dX11_send_15 (by decide) ?_
      exact mri C hr hk hH hw dX11_send_16
/-! off -/
abbrev rm_M_off : Room := { frames := 2, cells := 0, slots := 0, locals := 43 }
def wp_M_off (σ : MS) (a1 : Int32) (post : Int32 → MS → Prop) : Prop := wp_M_isLoad σ a1 (fun r2 σ1 => if r2 = 0 then (post (-1 : Int32) σ1) else (vp_in a1 200 ∧ (if (σ1 50 a1.toNatClampNeg) = 0 then (vp_in a1 200 ∧ (∀ σ7 : MS, σ7 = up2 σ1 50 a1.toNatClampNeg (4 : Int32) → (vp_in a1 200 ∧ (∀ σ9 : MS, σ9 = up2 σ7 52 a1.toNatClampNeg (σ7 1 0) → (post (1 : Int32) σ9))))) else (post (-2 : Int32) σ1))))
set_option maxHeartbeats 4000000 in
set_option maxRecDepth 100000 in
theorem c_M_off (l : Launch) (D : va_G) (Z : Nat → ClassId) (b : Nat → Nat) (σ : MS) (a1 : Int32) (post : Int32 → MS → Prop) (hw : wp_M_off σ a1 post) (sz : Nat) : Met l yX11_off (Wd yX11_off cX11_off 2 (some .int)) rm_M_off (va_Pc [.ref (b 69), .int a1] (mPre D Z b sz σ)) (va_Qi post (mPost D Z b) (mA b sz)) 0 0 (mA b sz) := by
  refine mMi (by decide) rfl _ (Nat.le_of_ble_eq_true rfl) (fun p e s m args below meth c C hr hk ls hl hH => ?_) sz
  obtain ⟨⟨hx, hb, hml, hown, hts⟩, hK⟩ := id C
  have hl : lv_has ls 2 [(0, .ref (b 69)), (1, .int a1)] := hl
  unfold wp_M_off at hw
  refine lv_aload_n hx hb dX11_off_0 rfl (lv_at hl 0 rfl) ?_
  refine lv_iload_n hx hb dX11_off_1 rfl (lv_at hl 1 rfl) ?_
  refine mcVi C hH [.int a1] (fun sz => c_M_isLoad l D Z b σ a1 _ hw sz) (cwTV 1 hts wd_1421 wd_1423 ws_64 wd_14 wd_1424 rfl rfl (by decide +kernel) ⟨Nat.le_of_ble_eq_true rfl, Nat.le_of_ble_eq_true rfl⟩) rfl hl.1 rfl (Nat.le_of_ble_eq_true rfl) dX11_off_2 ⟨Nat.zero_le _, Nat.zero_le _⟩ (fun r2 σ1 H locs hw hH => ?_)
  refine lv_if_ne (tgt := 10) hx hb dX11_off_5 (by decide) (fun c3 => ?_) (fun c3 => ?_)
  · have hw := ifn c3 hw
    refine lv_aload_n hx hb dX11_off_10 rfl (lv_at hl 0 rfl) ?_
    refine mg C hH 50 (by decide) rfl wd_1079 rfl dX11_off_11 ?_
    refine lv_iload_n hx hb dX11_off_14 rfl (lv_at hl 1 rfl) ?_
    obtain ⟨h4, hw⟩ := hw
    refine mai C hH 37 50 rfl h4 dX11_off_15 ?_
    refine lv_if_eq (tgt := 22) hx hb dX11_off_16 (by decide) (fun c5 => ?_) (fun c5 => ?_)
    · have hw := ifp c5 hw
      refine lv_aload_n hx hb dX11_off_22 rfl (lv_at hl 0 rfl) ?_
      refine mg C hH 50 (by decide) rfl wd_1079 rfl dX11_off_23 ?_
      refine lv_iload_n hx hb dX11_off_26 rfl (lv_at hl 1 rfl) ?_
      refine lv_iconst (v := 4) hx hb dX11_off_27 (by decide) ?_
      obtain ⟨h6, hw⟩ := hw
      refine msi C hH 37 50 rfl (mast_50 Z b σ1 _ _) h6 dX11_off_28 (fun H locs hH => ?_)
      have hw := hw _ rfl
      generalize up2 σ1 50 a1.toNatClampNeg (4 : Int32) = σ7 at hw hH
      refine lv_aload_n hx hb dX11_off_29 rfl (lv_at hl 0 rfl) ?_
      refine mg C hH 52 (by decide) rfl wd_1081 rfl dX11_off_30 ?_
      refine lv_iload_n hx hb dX11_off_33 rfl (lv_at hl 1 rfl) ?_
      refine lv_aload_n hx hb dX11_off_34 rfl (lv_at hl 0 rfl) ?_
      refine mg C hH 1 (by decide) rfl wd_1030 rfl dX11_off_35 ?_
      obtain ⟨h8, hw⟩ := hw
      refine msi C hH 39 52 rfl (mast_52 Z b σ7 _ _) h8 dX11_off_38 (fun H locs hH => ?_)
      have hw := hw _ rfl
      generalize up2 σ7 52 a1.toNatClampNeg (σ7 1 0) = σ9 at hw hH
      refine lv_iconst (v := 1) hx hb dX11_off_39 (by decide) ?_
      exact mri C hr hk hH hw dX11_off_40
    · have hw := ifn c5 hw
      refine lv_bipush (v := -2) hx hb dX11_off_19 (by decide) ?_
      exact mri C hr hk hH hw dX11_off_21
  · have hw := ifp c3 hw
    refine lv_iconst (v := -1) hx hb dX11_off_8 (by decide) ?_
    exact mri C hr hk hH hw dX11_off_9
/-! placeInGang -/
abbrev rm_M_placeInGang : Room := { frames := 0, cells := 0, slots := 0, locals := 0 }
def wp_M_placeInGang_2 (post : Int32 → MS → Prop) : Nat → MS → Int32 → Int32 → Int32 → Prop
  | 0 => fun _ _ _ _ => False
  | n + 1 => fun σ x1_ x2_ x3_ => vp_in x1_ 200 ∧ (if (σ 58 x1_.toNatClampNeg) ≤ x3_ then (post (-1 : Int32) σ) else (vp_in (((8 : Int32) * x1_) + x3_) 1600 ∧ (if (σ 59 (((8 : Int32) * x1_) + x3_).toNatClampNeg) = x2_ then (post x3_ σ) else (∀ x5 : Int32, x5 = x3_ + (1 : Int32) → (wp_M_placeInGang_2  post n σ x1_ x2_ x5)))))
set_option maxHeartbeats 4000000 in
set_option maxRecDepth 100000 in
theorem b_M_placeInGang_2 {p : Program} {l : Launch} {e : Env} {s : State} {m : MethodId} {args : Array Value} {below : List Frame} {meth : Method} {c : Code} {D : va_G} {Z : Nat → ClassId} {b : Nat → Nat} (C : MC p s m args c cX11_placeInGang 4 D Z) (hr : meth.sig.returnType = some .int) (hk : meth.locks = false) {post : Int32 → MS → Prop} : ∀ (n : Nat) (σ : MS) (x1_ : Int32) (x2_ : Int32) (x3_ : Int32), wp_M_placeInGang_2  post n σ x1_ x2_ x3_ → ∀ (H : Heap) (locs : List Loc) (ls : Array Slot), MH D Z b s.heap σ H locs → lv_has ls 4 [(0, .ref (b 69)), (1, .int x1_), (2, .int x2_), (3, .int x3_)] → MWi p l e rm_M_placeInGang s m args below meth c D Z b post H locs (F0 m 2 ls []) := by
  obtain ⟨⟨hx, hb, hml, hown, hts⟩, hK⟩ := id C
  intro n
  induction n with
  | zero => intro σ x1_ x2_ x3_ hw; exact hw.elim
  | succ n ih =>
    intro σ x1_ x2_ x3_ hw H locs ls hH hl
    unfold wp_M_placeInGang_2 at hw
    refine lv_iload_n hx hb dX11_placeInGang_2 rfl (lv_at hl 3 rfl) ?_
    refine lv_aload_n hx hb dX11_placeInGang_3 rfl (lv_at hl 0 rfl) ?_
    refine mg C hH 58 (by decide) rfl wd_1087 rfl dX11_placeInGang_4 ?_
    refine lv_iload_n hx hb dX11_placeInGang_7 rfl (lv_at hl 1 rfl) ?_
    obtain ⟨h1, hw⟩ := hw
    refine mai C hH 45 58 rfl h1 dX11_placeInGang_8 ?_
    refine lv_icmp_ge (tgt := 35) hx hb dX11_placeInGang_9 (by decide) (fun c2 => ?_) (fun c2 => ?_)
    · have hw := ifp c2 hw
      refine lv_iconst (v := -1) hx hb dX11_placeInGang_35 (by decide) ?_
      exact mri C hr hk hH hw dX11_placeInGang_36
    · have hw := ifn c2 hw
      refine lv_aload_n hx hb dX11_placeInGang_12 rfl (lv_at hl 0 rfl) ?_
      refine mg C hH 59 (by decide) rfl wd_1088 rfl dX11_placeInGang_13 ?_
      refine lv_bipush (v := 8) hx hb dX11_placeInGang_16 (by decide) ?_
      refine lv_iload_n hx hb dX11_placeInGang_18 rfl (lv_at hl 1 rfl) ?_
      refine lv_imul hx hb dX11_placeInGang_19 ?_
      refine lv_iload_n hx hb dX11_placeInGang_20 rfl (lv_at hl 3 rfl) ?_
      refine lv_iadd hx hb dX11_placeInGang_21 ?_
      obtain ⟨h3, hw⟩ := hw
      refine mai C hH 46 59 rfl h3 dX11_placeInGang_22 ?_
      refine lv_iload_n hx hb dX11_placeInGang_23 rfl (lv_at hl 2 rfl) ?_
      refine lv_icmp_ne (tgt := 29) hx hb dX11_placeInGang_24 (by decide) (fun c4 => ?_) (fun c4 => ?_)
      · have hw := ifn c4 hw
        obtain ⟨x5, ex5⟩ : ∃ y : Int32, y = x3_ + (1 : Int32) := ⟨_, rfl⟩
        have hw := hw x5 ex5
        refine lv_iinc (v := x5) (lv' := [(3, .int x5), (0, .ref (b 69)), (1, .int x1_), (2, .int x2_)]) hx hb dX11_placeInGang_29 hl (k := 3) rfl (by rw [ex5]; rfl) (by decide) rfl (fun ls hl => ?_)
        refine lv_goto (tgt := 2) hx hb dX11_placeInGang_32 (by decide) ?_
        exact ih σ x1_ x2_ x5 hw _ _ _ hH (lv_sub hl [1, 2, 3, 0] rfl)
      · have hw := ifp c4 hw
        refine lv_iload_n hx hb dX11_placeInGang_27 rfl (lv_at hl 3 rfl) ?_
        exact mri C hr hk hH hw dX11_placeInGang_28
def wp_M_placeInGang (σ : MS) (a1 : Int32) (a2 : Int32) (post : Int32 → MS → Prop) : Prop := ∃ nn : Nat, wp_M_placeInGang_2  post nn σ a1 a2 (0 : Int32)
set_option maxHeartbeats 4000000 in
set_option maxRecDepth 100000 in
theorem c_M_placeInGang (l : Launch) (D : va_G) (Z : Nat → ClassId) (b : Nat → Nat) (σ : MS) (a1 : Int32) (a2 : Int32) (post : Int32 → MS → Prop) (hw : wp_M_placeInGang σ a1 a2 post) (sz : Nat) : Met l yX11_placeInGang (Wd yX11_placeInGang cX11_placeInGang 4 (some .int)) rm_M_placeInGang (va_Pc [.ref (b 69), .int a1, .int a2] (mPre D Z b sz σ)) (va_Qi post (mPost D Z b) (mA b sz)) 0 0 (mA b sz) := by
  refine mMi (by decide) rfl _ (Nat.le_of_ble_eq_true rfl) (fun p e s m args below meth c C hr hk ls hl hH => ?_) sz
  obtain ⟨⟨hx, hb, hml, hown, hts⟩, hK⟩ := id C
  have hl : lv_has ls 4 [(0, .ref (b 69)), (1, .int a1), (2, .int a2)] := hl
  unfold wp_M_placeInGang at hw
  refine lv_iconst (v := 0) hx hb dX11_placeInGang_0 (by decide) ?_
  refine lv_istore_n (lv' := [(3, .int (0 : Int32)), (0, .ref (b 69)), (1, .int a1), (2, .int a2)]) hx hb dX11_placeInGang_1 rfl hl (by decide) rfl (fun ls hl => ?_)
  obtain ⟨nn, hw⟩ := hw
  exact b_M_placeInGang_2 C hr hk  nn σ a1 a2 (0 : Int32) hw _ _ _ hH (lv_sub hl [1, 2, 3, 0] rfl)
/-! comesToFund -/
abbrev rm_M_comesToFund : Room := { frames := 1, cells := 0, slots := 0, locals := 20 }
def wp_M_comesToFund (σ : MS) (a1 : Int32) (a2 : Int32) (post : MS → Prop) : Prop := vp_in a1 4 ∧ (vp_in a1 4 ∧ (∀ σ3 : MS, σ3 = up2 σ 63 a1.toNatClampNeg ((σ 63 a1.toNatClampNeg) + a2) → (vp_in a1 4 ∧ (vp_in a1 4 ∧ (∀ σ6 : MS, σ6 = up2 σ3 64 a1.toNatClampNeg ((σ3 64 a1.toNatClampNeg) + a2) → (wp_M_today σ6  (fun r8 σ7 => vp_in (((167 : Int32) * a1) + r8) 668 ∧ (vp_in (((167 : Int32) * a1) + r8) 668 ∧ (∀ σ11 : MS, σ11 = up2 σ7 68 (((167 : Int32) * a1) + r8).toNatClampNeg ((σ7 68 (((167 : Int32) * a1) + r8).toNatClampNeg) + a2) → (post σ11))))))))))
set_option maxHeartbeats 4000000 in
set_option maxRecDepth 100000 in
theorem c_M_comesToFund (l : Launch) (D : va_G) (Z : Nat → ClassId) (b : Nat → Nat) (σ : MS) (a1 : Int32) (a2 : Int32) (post : MS → Prop) (hw : wp_M_comesToFund σ a1 a2 post) (sz : Nat) : Met l yX11_comesToFund (Wd yX11_comesToFund cX11_comesToFund 3 (none)) rm_M_comesToFund (va_Pc [.ref (b 69), .int a1, .int a2] (mPre D Z b sz σ)) (va_Qv post (mPost D Z b) (mA b sz)) 0 0 (mA b sz) := by
  refine mMv (by decide) rfl _ (Nat.le_of_ble_eq_true rfl) (fun p e s m args below meth c C hr hk ls hl hH => ?_) sz
  obtain ⟨⟨hx, hb, hml, hown, hts⟩, hK⟩ := id C
  have hl : lv_has ls 3 [(0, .ref (b 69)), (1, .int a1), (2, .int a2)] := hl
  unfold wp_M_comesToFund at hw
  refine lv_aload_n hx hb dX11_comesToFund_0 rfl (lv_at hl 0 rfl) ?_
  refine mg C hH 63 (by decide) rfl wd_1092 rfl dX11_comesToFund_1 ?_
  refine lv_iload_n hx hb dX11_comesToFund_4 rfl (lv_at hl 1 rfl) ?_
  refine lv_dup2_11 hx hb dX11_comesToFund_5 rfl rfl ?_
  obtain ⟨h1, hw⟩ := hw
  refine mai C hH 49 63 rfl h1 dX11_comesToFund_6 ?_
  refine lv_iload_n hx hb dX11_comesToFund_7 rfl (lv_at hl 2 rfl) ?_
  refine lv_iadd hx hb dX11_comesToFund_8 ?_
  obtain ⟨h2, hw⟩ := hw
  refine msi C hH 49 63 rfl (mast_63 Z b σ _ _) h2 dX11_comesToFund_9 (fun H locs hH => ?_)
  have hw := hw _ rfl
  generalize up2 σ 63 a1.toNatClampNeg ((σ 63 a1.toNatClampNeg) + a2) = σ3 at hw hH
  refine lv_aload_n hx hb dX11_comesToFund_10 rfl (lv_at hl 0 rfl) ?_
  refine mg C hH 64 (by decide) rfl wd_1093 rfl dX11_comesToFund_11 ?_
  refine lv_iload_n hx hb dX11_comesToFund_14 rfl (lv_at hl 1 rfl) ?_
  refine lv_dup2_11 hx hb dX11_comesToFund_15 rfl rfl ?_
  obtain ⟨h4, hw⟩ := hw
  refine mai C hH 50 64 rfl h4 dX11_comesToFund_16 ?_
  refine lv_iload_n hx hb dX11_comesToFund_17 rfl (lv_at hl 2 rfl) ?_
  refine lv_iadd hx hb dX11_comesToFund_18 ?_
  obtain ⟨h5, hw⟩ := hw
  refine msi C hH 50 64 rfl (mast_64 Z b σ3 _ _) h5 dX11_comesToFund_19 (fun H locs hH => ?_)
  have hw := hw _ rfl
  generalize up2 σ3 64 a1.toNatClampNeg ((σ3 64 a1.toNatClampNeg) + a2) = σ6 at hw hH
  refine lv_aload_n hx hb dX11_comesToFund_20 rfl (lv_at hl 0 rfl) ?_
  refine mg C hH 68 (by decide) rfl wd_1097 rfl dX11_comesToFund_21 ?_
  refine lv_sipush (v := 167) hx hb dX11_comesToFund_24 (by decide) ?_
  refine lv_iload_n hx hb dX11_comesToFund_27 rfl (lv_at hl 1 rfl) ?_
  refine lv_imul hx hb dX11_comesToFund_28 ?_
  refine lv_aload_n hx hb dX11_comesToFund_29 rfl (lv_at hl 0 rfl) ?_
  refine mcVi C hH [] (fun sz => c_M_today l D Z b σ6  _ hw sz) (cwTV 0 hts wd_1405 wd_1407 ws_62 wd_14 wd_1408 rfl rfl (by decide +kernel) ⟨Nat.le_of_ble_eq_true rfl, Nat.le_of_ble_eq_true rfl⟩) rfl hl.1 rfl (Nat.le_of_ble_eq_true rfl) dX11_comesToFund_30 ⟨Nat.zero_le _, Nat.zero_le _⟩ (fun r8 σ7 H locs hw hH => ?_)
  refine lv_iadd hx hb dX11_comesToFund_33 ?_
  refine lv_dup2_11 hx hb dX11_comesToFund_34 rfl rfl ?_
  obtain ⟨h9, hw⟩ := hw
  refine mai C hH 54 68 rfl h9 dX11_comesToFund_35 ?_
  refine lv_iload_n hx hb dX11_comesToFund_36 rfl (lv_at hl 2 rfl) ?_
  refine lv_iadd hx hb dX11_comesToFund_37 ?_
  obtain ⟨h10, hw⟩ := hw
  refine msi C hH 54 68 rfl (mast_68 Z b σ7 _ _) h10 dX11_comesToFund_38 (fun H locs hH => ?_)
  have hw := hw _ rfl
  generalize up2 σ7 68 (((167 : Int32) * a1) + r8).toNatClampNeg ((σ7 68 (((167 : Int32) * a1) + r8).toNatClampNeg) + a2) = σ11 at hw hH
  exact mrv C hr hk hH hw dX11_comesToFund_39
