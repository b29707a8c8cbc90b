/-! tails of place, man, load, law (gen/tails.py) -/
abbrev rmT_place (mc ms : Nat) : Room := { frames := 20, cells := mc, slots := ms, locals := 1500 }
def wpT_place (mc ms : Nat) (t : CS) (x y : Int32) (post : Int32 → CS → Prop) : Prop := (tT t 0).length = tN t 4 ∧ tN t 4 < 2 ^ 20 ∧ tK t 0 < 2 ^ 20 ∧ allOk t ∧ tN t 0 ≤ 4 ∧ (1 + aC (tN t 4) (tK t 0) ≤ mc ∧ 5 + aS (tN t 4) (tK t 0) ≤ ms) ∧ post (nI (tN t 4)) (lAdd (mkPlace t x y) 0 (tN t 4))
set_option maxHeartbeats 8000000 in
set_option maxRecDepth 100000 in
theorem bT_place {p : Program} {l : Launch} {e : Env} {s : State} {m : MethodId} {args : Array Value} {below : List Frame} {meth : Method} {c : Code} {D : va_G} {Z : Nat → ClassId} {E : Nat → Nat} {ad : Nat → Nat → Nat} {A : Nat → Prop} (C : CC p s m args c cX10_place 3 RX10 D Z E A) (hr : meth.sig.returnType = some .int) (hk : meth.locks = false) {mc ms : Nat} {post : Int32 → CS → Prop} (t : CS) (x y : Int32) (hw : wpT_place mc ms t x y post) (H : Heap) (locs : List Loc) (ls : Array Slot) (hH : CH D Z E ad A s.heap t H locs) (hl : lv_has ls 3 [(0, .ref (ad 5 0)), (1, .int x), (2, .int y)]) : CWn (ad 5 0) p l e (rmT_place mc ms) s m args below meth c D Z E A mc ms post H locs 0 0 (F0 m 37 ls []) := by
  obtain ⟨hlen, hn, hcap, hok, h4, hu, hpo⟩ := hw
  obtain ⟨⟨hx, hb, hml, hown, hts⟩, hK⟩ := id C
  have hk0 : 0 < cnt t 6 := Nat.lt_of_lt_of_le (show 0 < 11 by decide) (Nat.le_add_left _ _)
  refine lv_aload_n hx hb dX10_place_37 rfl (lv_at hl 0 rfl) ?_
  refine cg C hH 5 0 (by decide) (Nat.le_of_ble_eq_true rfl) rfl rfl ixX10 0 (by decide) rfl wd_236 rfl dX10_place_38 ?_
  obtain ⟨L, f, hP, hR⟩ := hH
  obtain ⟨a1, a2⟩ := hR.1 5 0 (by decide) (show 0 < 5 by decide)
  obtain ⟨ea, md, h3, -⟩ := id hR.2.2
  obtain ⟨l1, l2, -⟩ := h3 0 hk0
  rw [hlen] at l2
  refine pnewo C hP (ci := 5) (N := 5) (T := TX4) rfl ixX4 tyX4_ok wd_287 wd_288 wd_15 (fs := [.int 0, .int 0, .int 0, .int 0, .int 0]) (fun j hj => by match j, hj with | 0, _ => rfl | 1, _ => rfl | 2, _ => rfl | 3, _ => rfl | 4, _ => rfl) (show 0 + 1 ≤ mc by omega) (show 0 + 5 ≤ ms by omega) dX10_place_41 (fun q H hq hP => ?_)
  have hnq : ∀ x, x ∈ L → x ≠ q := fun x hx e => hq (e ▸ hx)
  obtain ⟨L1, f1, hX, hP⟩ : ∃ (L' : List Nat) (f' : Nat → va_E), FX L f q L' f' [(q, .inr (5, [.int 0, .int 0, .int 0, .int 0, .int 0]))] ∧ PH D A s.heap L' f' H locs := ⟨_, _, FX.new0 hq, hP⟩
  have b1 := hX.1 _ a1
  have b2 : f1 (ad 5 0) = .inr (10, kPorterTurns ad t) := (hX.2.1 _ a1 (hnq _ a1)).trans a2
  have c1 := hX.1 _ l1
  have c2 := (hX.2.1 _ l1 (hnq _ l1)).trans l2
  refine lv_dup hx hb dX10_place_44 rfl ?_
  refine lv_aload_n hx hb dX10_place_45 rfl (lv_at hl 0 rfl) ?_
  refine pg C hP b1 b2 rfl ixX10 0 (by decide) rfl wd_236 (fun _ h => h) rfl dX10_place_46 ?_
  refine pcVi C hP (precv C hP c1 c2 (q := (RJx4a65c, TJx4a65c, 3)) rfl) [] (c_P_size l D Z E L1 f1 c1 c2) (cwTV 0 hts wd_283 wd_284 wd_285 wd_4 wd_286 rfl rfl (by decide +kernel) ⟨Nat.le_of_ble_eq_true rfl, Nat.le_of_ble_eq_true rfl⟩) rfl hl.1 rfl (Nat.le_of_ble_eq_true rfl) dX10_place_49 ⟨(show 0 + 1 + 0 ≤ mc by omega), (show 0 + 5 + 0 ≤ ms by omega)⟩ (fun rr u H locs hu2 hP => ?_)
  obtain ⟨rfl, rfl⟩ := hu2
  have hP : PH D A s.heap L1 f1 H locs := hP
  refine lv_iload_n hx hb dX10_place_52 rfl (lv_at hl 1 rfl) ?_
  refine lv_iload_n hx hb dX10_place_53 rfl (lv_at hl 2 rfl) ?_
  obtain ⟨m1, v1⟩ := hX.2.2.1 0 _ _ rfl
  refine pcIv C hP [.int (nI (tN t 4)), .int x, .int y] (c_I_Place l D Z E L1 f1 _ x y m1 v1) (cwTI 3 hts wd_289 wd_290 wd_15 wd_291 rfl rfl rfl (by decide +kernel) ⟨Nat.le_of_ble_eq_true rfl, Nat.le_of_ble_eq_true rfl⟩) rfl hl.1 rfl (Nat.le_of_ble_eq_true rfl) dX10_place_54 ⟨(show 0 + 1 + 0 + 0 ≤ mc by omega), (show 0 + 5 + 0 + 0 ≤ ms by omega)⟩ (fun u H locs hu2 hP => ?_)
  obtain ⟨L2, f2, hX, hP⟩ : ∃ (L' : List Nat) (f' : Nat → va_E), FX L f q L' f' [(q, .inr (5, [.int (nI (tN t 4)), .int x, .int y, .int 0, .int 0]))] ∧ PH D A s.heap L' f' H locs := by rw [hu2] at hP; exact ⟨_, _, hX.set (i := 0) rfl, hP⟩
  have hR2 := CR_mkPlace x y hR hok h4 hq hX
  obtain ⟨ad', had1, had2, had3, hH⟩ : ∃ ad' : Nat → Nat → Nat, ad' 4 (tN t 4) = q ∧ ad' 6 0 = ad 6 0 ∧ ad' 5 0 = ad 5 0 ∧ CH D Z E ad' A s.heap (mkPlace t x y) H locs := ⟨_, adN_eq, adN_ne (fun e => absurd e.1 (by decide)), adN_ne (fun e => absurd e.1 (by decide)), L2, f2, hP, hR2⟩
  rw [← had2, ← had1]
  have hl : lv_has ls 3 [(0, .ref (ad' 5 0))] := by rw [had3]; exact lv_sub hl [0] rfl
  have hcn : ∀ κ, cnt t κ ≤ cnt (mkPlace t x y) κ := fun κ => cntle_mkPlace t x y κ
  have hTk : tT (mkPlace t x y) 0 = tT t 0 := rfl
  have hKk : tK (mkPlace t x y) 0 = tK t 0 := rfl
  have hb1 : 0 + 1 + 0 + 0 + aC (tT (mkPlace t x y) 0).length (tK (mkPlace t x y) 0) ≤ mc := by rw [hTk, hKk, hlen]; omega
  have hb2 : 0 + 5 + 0 + 0 + aS (tT (mkPlace t x y) 0).length (tK (mkPlace t x y) 0) ≤ ms := by rw [hTk, hKk, hlen]; omega
  refine lAddR C hH 0 (tN t 4) (Nat.lt_of_lt_of_le hk0 (hcn 6)) (by rw [hKk]; exact hcap) (fun x hx => Nat.lt_of_lt_of_le (hok.1 0 hk0 x (hTk ▸ hx)) (hcn _)) (show tN t 4 < cnt (mkPlace t x y) 4 by rw [cnt_mkPlace]; exact Nat.lt_succ_self _) wd_103 hl.1 (Nat.le_of_ble_eq_true rfl) dX10_place_57 ⟨hb1, hb2⟩ ⟨Nat.le_of_ble_eq_true rfl, Nat.le_of_ble_eq_true rfl⟩ (fun H locs hH => ?_)
  refine lv_pop hx hb dX10_place_60 rfl ?_
  refine lv_aload_n hx hb dX10_place_61 rfl (lv_at hl 0 rfl) ?_
  refine cg C hH 5 0 (by decide) (Nat.le_of_ble_eq_true rfl) rfl rfl ixX10 0 (by decide) rfl wd_236 rfl dX10_place_62 ?_
  refine lSize C hH 0 (Nat.lt_of_lt_of_le (show 0 < 11 by decide) (Nat.le_add_left _ _)) wd_283 hl.1 (Nat.le_of_ble_eq_true rfl) dX10_place_65 ⟨hb1, hb2⟩ ⟨Nat.le_of_ble_eq_true rfl, Nat.le_of_ble_eq_true rfl⟩ (fun H locs hH => ?_)
  refine lv_iconst (v := 1) hx hb dX10_place_68 (by decide) ?_
  refine lv_isub hx hb dX10_place_69 ?_
  have hz : tT (lAdd (mkPlace t x y) 0 (tN t 4)) 0 = tT t 0 ++ [tN t 4] := (tT_lAdd _ _ _).trans (congrArg (· ++ [tN t 4]) hTk)
  rw [hz, List.length_append, hlen, show (tN t 4 + [tN t 4].length) = tN t 4 + 1 from rfl, nI_pred]
  exact criN C hr hk hH had3 hb1 hb2 hpo dX10_place_70
abbrev rmT_man (mc ms : Nat) : Room := { frames := 20, cells := mc, slots := ms, locals := 1500 }
def wpT_man (mc ms : Nat) (t : CS) (x y z : Int32) (post : Int32 → CS → Prop) : Prop := (tT t 1).length = tN t 3 ∧ tN t 3 < 2 ^ 20 ∧ tK t 1 < 2 ^ 20 ∧ allOk t ∧ tN t 0 ≤ 4 ∧ (1 + aC (tN t 3) (tK t 1) ≤ mc ∧ 10 + aS (tN t 3) (tK t 1) ≤ ms) ∧ post (nI (tN t 3)) (lAdd (mkMan t x y z) 1 (tN t 3))
set_option maxHeartbeats 8000000 in
set_option maxRecDepth 100000 in
theorem bT_man {p : Program} {l : Launch} {e : Env} {s : State} {m : MethodId} {args : Array Value} {below : List Frame} {meth : Method} {c : Code} {D : va_G} {Z : Nat → ClassId} {E : Nat → Nat} {ad : Nat → Nat → Nat} {A : Nat → Prop} (C : CC p s m args c cX10_man 5 RX10 D Z E A) (hr : meth.sig.returnType = some .int) (hk : meth.locks = false) {mc ms : Nat} {post : Int32 → CS → Prop} (t : CS) (x y z : Int32) (hw : wpT_man mc ms t x y z post) (H : Heap) (locs : List Loc) (ls : Array Slot) (hH : CH D Z E ad A s.heap t H locs) (hl : lv_has ls 5 [(0, .ref (ad 5 0)), (1, .int x), (2, .int y), (3, .int z)]) : CWn (ad 5 0) p l e (rmT_man mc ms) s m args below meth c D Z E A mc ms post H locs 0 0 (F0 m 55 ls []) := by
  obtain ⟨hlen, hn, hcap, hok, h4, hu, hpo⟩ := hw
  obtain ⟨⟨hx, hb, hml, hown, hts⟩, hK⟩ := id C
  have hk0 : 1 < cnt t 6 := Nat.lt_of_lt_of_le (show 1 < 11 by decide) (Nat.le_add_left _ _)
  refine lv_aload_n hx hb dX10_man_55 rfl (lv_at hl 0 rfl) ?_
  refine cg C hH 5 0 (by decide) (Nat.le_of_ble_eq_true rfl) rfl rfl ixX10 1 (by decide) rfl wd_237 rfl dX10_man_56 ?_
  obtain ⟨L, f, hP, hR⟩ := hH
  obtain ⟨a1, a2⟩ := hR.1 5 0 (by decide) (show 0 < 5 by decide)
  obtain ⟨ea, md, h3, -⟩ := id hR.2.2
  obtain ⟨l1, l2, -⟩ := h3 1 hk0
  rw [hlen] at l2
  refine pnewo C hP (ci := 4) (N := 10) (T := TX3) rfl ixX3 tyX3_ok wd_374 wd_375 wd_18 (fs := [.int 0, .int 0, .int 0, .int 0, .int 0, .int 0, .int 0, .int 0, .int 0, .int 0]) (fun j hj => by match j, hj with | 0, _ => rfl | 1, _ => rfl | 2, _ => rfl | 3, _ => rfl | 4, _ => rfl | 5, _ => rfl | 6, _ => rfl | 7, _ => rfl | 8, _ => rfl | 9, _ => rfl) (show 0 + 1 ≤ mc by omega) (show 0 + 10 ≤ ms by omega) dX10_man_59 (fun q H hq hP => ?_)
  have hnq : ∀ x, x ∈ L → x ≠ q := fun x hx e => hq (e ▸ hx)
  obtain ⟨L1, f1, hX, hP⟩ : ∃ (L' : List Nat) (f' : Nat → va_E), FX L f q L' f' [(q, .inr (4, [.int 0, .int 0, .int 0, .int 0, .int 0, .int 0, .int 0, .int 0, .int 0, .int 0]))] ∧ PH D A s.heap L' f' H locs := ⟨_, _, FX.new0 hq, hP⟩
  have b1 := hX.1 _ a1
  have b2 : f1 (ad 5 0) = .inr (10, kPorterTurns ad t) := (hX.2.1 _ a1 (hnq _ a1)).trans a2
  have c1 := hX.1 _ l1
  have c2 := (hX.2.1 _ l1 (hnq _ l1)).trans l2
  refine lv_dup hx hb dX10_man_62 rfl ?_
  refine lv_aload_n hx hb dX10_man_63 rfl (lv_at hl 0 rfl) ?_
  refine pg C hP b1 b2 rfl ixX10 1 (by decide) rfl wd_237 (fun _ h => h) rfl dX10_man_64 ?_
  refine pcVi C hP (precv C hP c1 c2 (q := (RJx4a65c, TJx4a65c, 3)) rfl) [] (c_P_size l D Z E L1 f1 c1 c2) (cwTV 0 hts wd_283 wd_284 wd_285 wd_4 wd_286 rfl rfl (by decide +kernel) ⟨Nat.le_of_ble_eq_true rfl, Nat.le_of_ble_eq_true rfl⟩) rfl hl.1 rfl (Nat.le_of_ble_eq_true rfl) dX10_man_67 ⟨(show 0 + 1 + 0 ≤ mc by omega), (show 0 + 10 + 0 ≤ ms by omega)⟩ (fun rr u H locs hu2 hP => ?_)
  obtain ⟨rfl, rfl⟩ := hu2
  have hP : PH D A s.heap L1 f1 H locs := hP
  refine lv_iload_n hx hb dX10_man_70 rfl (lv_at hl 1 rfl) ?_
  refine lv_iload_n hx hb dX10_man_71 rfl (lv_at hl 2 rfl) ?_
  refine lv_iload_n hx hb dX10_man_72 rfl (lv_at hl 3 rfl) ?_
  obtain ⟨m1, v1⟩ := hX.2.2.1 0 _ _ rfl
  refine pcIv C hP [.int (nI (tN t 3)), .int x, .int y, .int z] (c_I_Man l D Z E L1 f1 _ x y z m1 v1) (cwTI 4 hts wd_376 wd_377 wd_18 wd_378 rfl rfl rfl (by decide +kernel) ⟨Nat.le_of_ble_eq_true rfl, Nat.le_of_ble_eq_true rfl⟩) rfl hl.1 rfl (Nat.le_of_ble_eq_true rfl) dX10_man_73 ⟨(show 0 + 1 + 0 + 0 ≤ mc by omega), (show 0 + 10 + 0 + 0 ≤ ms by omega)⟩ (fun u H locs hu2 hP => ?_)
  obtain ⟨L2, f2, hX, hP⟩ : ∃ (L' : List Nat) (f' : Nat → va_E), FX L f q L' f' [(q, .inr (4, [.int (nI (tN t 3)), .int x, .int y, .int z, .int 0, .int 0, .int 0, .int 0, .int (-1), .int 0]))] ∧ PH D A s.heap L' f' H locs := by rw [hu2] at hP; exact ⟨_, _, hX.set (i := 0) rfl, hP⟩
  have hR2 := CR_mkMan x y z hR hok h4 hq hX
  obtain ⟨ad', had1, had2, had3, hH⟩ : ∃ ad' : Nat → Nat → Nat, ad' 3 (tN t 3) = q ∧ ad' 6 1 = ad 6 1 ∧ ad' 5 0 = ad 5 0 ∧ CH D Z E ad' A s.heap (mkMan t x y z) H locs := ⟨_, adN_eq, adN_ne (fun e => absurd e.1 (by decide)), adN_ne (fun e => absurd e.1 (by decide)), L2, f2, hP, hR2⟩
  rw [← had2, ← had1]
  have hl : lv_has ls 5 [(0, .ref (ad' 5 0))] := by rw [had3]; exact lv_sub hl [0] rfl
  have hcn : ∀ κ, cnt t κ ≤ cnt (mkMan t x y z) κ := fun κ => cntle_mkMan t x y z κ
  have hTk : tT (mkMan t x y z) 1 = tT t 1 := rfl
  have hKk : tK (mkMan t x y z) 1 = tK t 1 := rfl
  have hb1 : 0 + 1 + 0 + 0 + aC (tT (mkMan t x y z) 1).length (tK (mkMan t x y z) 1) ≤ mc := by rw [hTk, hKk, hlen]; omega
  have hb2 : 0 + 10 + 0 + 0 + aS (tT (mkMan t x y z) 1).length (tK (mkMan t x y z) 1) ≤ ms := by rw [hTk, hKk, hlen]; omega
  refine lAddR C hH 1 (tN t 3) (Nat.lt_of_lt_of_le hk0 (hcn 6)) (by rw [hKk]; exact hcap) (fun x hx => Nat.lt_of_lt_of_le (hok.1 1 hk0 x (hTk ▸ hx)) (hcn _)) (show tN t 3 < cnt (mkMan t x y z) 3 by rw [cnt_mkMan]; exact Nat.lt_succ_self _) wd_103 hl.1 (Nat.le_of_ble_eq_true rfl) dX10_man_76 ⟨hb1, hb2⟩ ⟨Nat.le_of_ble_eq_true rfl, Nat.le_of_ble_eq_true rfl⟩ (fun H locs hH => ?_)
  refine lv_pop hx hb dX10_man_79 rfl ?_
  refine lv_aload_n hx hb dX10_man_80 rfl (lv_at hl 0 rfl) ?_
  refine cg C hH 5 0 (by decide) (Nat.le_of_ble_eq_true rfl) rfl rfl ixX10 1 (by decide) rfl wd_237 rfl dX10_man_81 ?_
  refine lSize C hH 1 (Nat.lt_of_lt_of_le (show 1 < 11 by decide) (Nat.le_add_left _ _)) wd_283 hl.1 (Nat.le_of_ble_eq_true rfl) dX10_man_84 ⟨hb1, hb2⟩ ⟨Nat.le_of_ble_eq_true rfl, Nat.le_of_ble_eq_true rfl⟩ (fun H locs hH => ?_)
  refine lv_iconst (v := 1) hx hb dX10_man_87 (by decide) ?_
  refine lv_isub hx hb dX10_man_88 ?_
  have hz : tT (lAdd (mkMan t x y z) 1 (tN t 3)) 1 = tT t 1 ++ [tN t 3] := (tT_lAdd _ _ _).trans (congrArg (· ++ [tN t 3]) hTk)
  rw [hz, List.length_append, hlen, show (tN t 3 + [tN t 3].length) = tN t 3 + 1 from rfl, nI_pred]
  exact criN C hr hk hH had3 hb1 hb2 hpo dX10_man_89
abbrev rmT_load (mc ms : Nat) : Room := { frames := 20, cells := mc, slots := ms, locals := 1500 }
def wpT_load (mc ms : Nat) (t : CS) (wh vl du : Int32) (p1 p2 : Nat) (post : Int32 → CS → Prop) : Prop := p1 < tN t 4 ∧ p2 < tN t 4 ∧ (tT t 2).length = tN t 2 ∧ tN t 2 < 2 ^ 20 ∧ tK t 2 < 2 ^ 20 ∧ allOk t ∧ tN t 0 ≤ 4 ∧ (2 + aC (tN t 2) (tK t 2) ≤ mc ∧ 22 + aS (tN t 2) (tK t 2) ≤ ms) ∧ post (nI (tN t 2)) (lAdd (mkLoad t (wh / (1000 : Int32)) (wh - wh / (1000 : Int32) * (1000 : Int32)) p1 p2 (if 0 ≤ tF t 129 p2 - tF t 129 p1 then tF t 129 p2 - tF t 129 p1 else 0 - (tF t 129 p2 - tF t 129 p1)) (if tF t 130 p2 - tF t 130 p1 < 0 then (-(tF t 130 p2 - tF t 130 p1)) / (2 : Int32) else tF t 130 p2 - tF t 130 p1) vl du (tF t 171 0)) 2 (tN t 2))
set_option maxHeartbeats 8000000 in
set_option maxRecDepth 100000 in
theorem bT_load {p : Program} {l : Launch} {e : Env} {s : State} {m : MethodId} {args : Array Value} {below : List Frame} {meth : Method} {c : Code} {D : va_G} {Z : Nat → ClassId} {E : Nat → Nat} {ad : Nat → Nat → Nat} {A : Nat → Prop} (C : CC p s m args c cX10_load 7 RX10 D Z E A) (hr : meth.sig.returnType = some .int) (hk : meth.locks = false) {mc ms : Nat} {post : Int32 → CS → Prop} (t : CS) (wh vl du : Int32) (p1 p2 : Nat) (hw : wpT_load mc ms t wh vl du p1 p2 post) (H : Heap) (locs : List Loc) (ls : Array Slot) (hH : CH D Z E ad A s.heap t H locs) (hl : lv_has ls 7 [(0, .ref (ad 5 0)), (1, .int wh), (3, .int vl), (4, .int du), (5, .ref (ad 4 p1)), (6, .ref (ad 4 p2))]) : CWn (ad 5 0) p l e (rmT_load mc ms) s m args below meth c D Z E A mc ms post H locs 0 0 (F0 m 108 ls []) := by
  obtain ⟨hp1, hp2, hlen, hn, hcap, hok, h4, hu, hpo⟩ := hw
  obtain ⟨⟨hx, hb, hml, hown, hts⟩, hK⟩ := id C
  have hk0 : 2 < cnt t 6 := Nat.lt_of_lt_of_le (show 2 < 11 by decide) (Nat.le_add_left _ _)
  refine lv_aload_n hx hb dX10_load_108 rfl (lv_at hl 0 rfl) ?_
  refine cg C hH 5 0 (by decide) (Nat.le_of_ble_eq_true rfl) rfl rfl ixX10 2 (by decide) rfl wd_238 rfl dX10_load_109 ?_
  obtain ⟨L, f, hP, hR⟩ := hH
  obtain ⟨a1, a2⟩ := hR.1 5 0 (by decide) (show 0 < 5 by decide)
  obtain ⟨ea, md, h3, -⟩ := id hR.2.2
  obtain ⟨l1, l2, -⟩ := h3 2 hk0
  rw [hlen] at l2
  refine pnewo C hP (ci := 3) (N := 19) (T := TX2) rfl ixX2 tyX2_ok wd_702 wd_770 wd_24 (fs := [.int 0, .int 0, .int 0, .null, .null, .int 0, .int 0, .int 0, .int 0, .int 0, .null, .int 0, .int 0, .int 0, .int 0, .int 0, .int 0, .int 0, .int 0]) (fun j hj => by match j, hj with | 0, _ => rfl | 1, _ => rfl | 2, _ => rfl | 3, _ => rfl | 4, _ => rfl | 5, _ => rfl | 6, _ => rfl | 7, _ => rfl | 8, _ => rfl | 9, _ => rfl | 10, _ => rfl | 11, _ => rfl | 12, _ => rfl | 13, _ => rfl | 14, _ => rfl | 15, _ => rfl | 16, _ => rfl | 17, _ => rfl | 18, _ => rfl | j + 19, hj => exact absurd hj (by omega)) (show 0 + 1 ≤ mc by omega) (show 0 + 19 ≤ ms by omega) dX10_load_112 (fun q H hq hP => ?_)
  have hnq : ∀ x, x ∈ L → x ≠ q := fun x hx e => hq (e ▸ hx)
  obtain ⟨L1, f1, hX, hP⟩ : ∃ (L' : List Nat) (f' : Nat → va_E), FX L f q L' f' [(q, .inr (3, [.int 0, .int 0, .int 0, .null, .null, .int 0, .int 0, .int 0, .int 0, .int 0, .null, .int 0, .int 0, .int 0, .int 0, .int 0, .int 0, .int 0, .int 0]))] ∧ PH D A s.heap L' f' H locs := ⟨_, _, FX.new0 hq, hP⟩
  have b1 := hX.1 _ a1
  have b2 : f1 (ad 5 0) = .inr (10, kPorterTurns ad t) := (hX.2.1 _ a1 (hnq _ a1)).trans a2
  have c1 := hX.1 _ l1
  have c2 := (hX.2.1 _ l1 (hnq _ l1)).trans l2
  refine lv_dup hx hb dX10_load_115 rfl ?_
  refine lv_aload_n hx hb dX10_load_116 rfl (lv_at hl 0 rfl) ?_
  refine pg C hP b1 b2 rfl ixX10 2 (by decide) rfl wd_238 (fun _ h => h) rfl dX10_load_117 ?_
  refine pcVi C hP (precv C hP c1 c2 (q := (RJx4a65c, TJx4a65c, 3)) rfl) [] (c_P_size l D Z E L1 f1 c1 c2) (cwTV 0 hts wd_283 wd_284 wd_285 wd_4 wd_286 rfl rfl (by decide +kernel) ⟨Nat.le_of_ble_eq_true rfl, Nat.le_of_ble_eq_true rfl⟩) rfl hl.1 rfl (Nat.le_of_ble_eq_true rfl) dX10_load_120 ⟨(show 0 + 1 + 0 ≤ mc by omega), (show 0 + 19 + 0 ≤ ms by omega)⟩ (fun rr u H locs hu2 hP => ?_)
  obtain ⟨rfl, rfl⟩ := hu2
  have hP : PH D A s.heap L1 f1 H locs := hP
  refine lv_iload_n hx hb dX10_load_123 rfl (lv_at hl 1 rfl) ?_
  refine lv_aload hx hb dX10_load_124 (lv_at hl 4 rfl) ?_
  refine lv_aload hx hb dX10_load_126 (lv_at hl 5 rfl) ?_
  refine lv_iload_n hx hb dX10_load_128 rfl (lv_at hl 2 rfl) ?_
  refine lv_iload hx hb dX10_load_129 (lv_at hl 3 rfl) ?_
  refine lv_aload_n hx hb dX10_load_131 rfl (lv_at hl 0 rfl) ?_
  refine pg C hP b1 b2 rfl ixX10 11 (by decide) rfl wd_247 (fun _ h => h) rfl dX10_load_132 ?_
  obtain ⟨m1, v1⟩ := hX.2.2.1 0 _ _ rfl
  obtain ⟨e1, g1⟩ := hR.1 4 p1 (by decide) hp1
  have pm1 := hX.1 _ e1
  have pv1 : f1 (ad 4 p1) = .inr (5, kPlace ad t p1) := (hX.2.1 _ e1 (hnq _ e1)).trans g1
  obtain ⟨e2, g2⟩ := hR.1 4 p2 (by decide) hp2
  have pm2 := hX.1 _ e2
  have pv2 : f1 (ad 4 p2) = .inr (5, kPlace ad t p2) := (hX.2.1 _ e2 (hnq _ e2)).trans g2
  refine pcIv C hP [.int (nI (tN t 2)), .int wh, .ref (ad 4 p1), .ref (ad 4 p2), .int vl, .int du, .int (tF t 171 0)] (c_I_Load l D Z E L1 f1 _ wh (ad 4 p1) (ad 4 p2) vl du _ m1 v1 pm1 pv1 (hnq _ e1) pm2 pv2 (hnq _ e2)) (cwTI 7 hts wd_771 wd_772 wd_24 wd_773 rfl rfl rfl (by decide +kernel) ⟨Nat.le_of_ble_eq_true rfl, Nat.le_of_ble_eq_true rfl⟩) rfl hl.1 rfl (Nat.le_of_ble_eq_true rfl) dX10_load_135 ⟨(show 0 + 1 + 0 + 1 ≤ mc by omega), (show 0 + 19 + 0 + 3 ≤ ms by omega)⟩ (fun u H locs hu2 hP => ?_)
  obtain ⟨r, hu2⟩ := hu2
  have hX := hX.call (i := 0) rfl hu2
  obtain ⟨L2, f2⟩ := u
  have hR2 := CR_mkLoad (wh / (1000 : Int32)) (wh - wh / (1000 : Int32) * (1000 : Int32)) p1 p2 (if 0 ≤ tF t 129 p2 - tF t 129 p1 then tF t 129 p2 - tF t 129 p1 else 0 - (tF t 129 p2 - tF t 129 p1)) (if tF t 130 p2 - tF t 130 p1 < 0 then (-(tF t 130 p2 - tF t 130 p1)) / (2 : Int32) else tF t 130 p2 - tF t 130 p1) vl du (tF t 171 0) hR hok h4 hq hp1 hp2 hX
  obtain ⟨ad', had1, had2, had3, hH⟩ : ∃ ad' : Nat → Nat → Nat, ad' 2 (tN t 2) = q ∧ ad' 6 2 = ad 6 2 ∧ ad' 5 0 = ad 5 0 ∧ CH D Z E ad' A s.heap (mkLoad t (wh / (1000 : Int32)) (wh - wh / (1000 : Int32) * (1000 : Int32)) p1 p2 (if 0 ≤ tF t 129 p2 - tF t 129 p1 then tF t 129 p2 - tF t 129 p1 else 0 - (tF t 129 p2 - tF t 129 p1)) (if tF t 130 p2 - tF t 130 p1 < 0 then (-(tF t 130 p2 - tF t 130 p1)) / (2 : Int32) else tF t 130 p2 - tF t 130 p1) vl du (tF t 171 0)) H locs := ⟨_, (adN_ne (fun e => absurd e.1 (by decide))).trans adN_eq, (adN_ne (fun e => by have := e.2; omega)).trans (adN_ne (fun e => absurd e.1 (by decide))), (adN_ne (fun e => absurd e.1 (by decide))).trans (adN_ne (fun e => absurd e.1 (by decide))), L2, f2, hP, hR2⟩
  rw [← had2, ← had1]
  have hl : lv_has ls 7 [(0, .ref (ad' 5 0))] := by rw [had3]; exact lv_sub hl [0] rfl
  have hcn : ∀ κ, cnt t κ ≤ cnt (mkLoad t (wh / (1000 : Int32)) (wh - wh / (1000 : Int32) * (1000 : Int32)) p1 p2 (if 0 ≤ tF t 129 p2 - tF t 129 p1 then tF t 129 p2 - tF t 129 p1 else 0 - (tF t 129 p2 - tF t 129 p1)) (if tF t 130 p2 - tF t 130 p1 < 0 then (-(tF t 130 p2 - tF t 130 p1)) / (2 : Int32) else tF t 130 p2 - tF t 130 p1) vl du (tF t 171 0)) κ := fun κ => cntle_mkLoad t (wh / (1000 : Int32)) (wh - wh / (1000 : Int32) * (1000 : Int32)) p1 p2 (if 0 ≤ tF t 129 p2 - tF t 129 p1 then tF t 129 p2 - tF t 129 p1 else 0 - (tF t 129 p2 - tF t 129 p1)) (if tF t 130 p2 - tF t 130 p1 < 0 then (-(tF t 130 p2 - tF t 130 p1)) / (2 : Int32) else tF t 130 p2 - tF t 130 p1) vl du (tF t 171 0) κ
  have hTk : tT (mkLoad t (wh / (1000 : Int32)) (wh - wh / (1000 : Int32) * (1000 : Int32)) p1 p2 (if 0 ≤ tF t 129 p2 - tF t 129 p1 then tF t 129 p2 - tF t 129 p1 else 0 - (tF t 129 p2 - tF t 129 p1)) (if tF t 130 p2 - tF t 130 p1 < 0 then (-(tF t 130 p2 - tF t 130 p1)) / (2 : Int32) else tF t 130 p2 - tF t 130 p1) vl du (tF t 171 0)) 2 = tT t 2 := tT_mkLoad _ _ _ _ _ _ _ _ _ _ (by omega)
  have hKk : tK (mkLoad t (wh / (1000 : Int32)) (wh - wh / (1000 : Int32) * (1000 : Int32)) p1 p2 (if 0 ≤ tF t 129 p2 - tF t 129 p1 then tF t 129 p2 - tF t 129 p1 else 0 - (tF t 129 p2 - tF t 129 p1)) (if tF t 130 p2 - tF t 130 p1 < 0 then (-(tF t 130 p2 - tF t 130 p1)) / (2 : Int32) else tF t 130 p2 - tF t 130 p1) vl du (tF t 171 0)) 2 = tK t 2 := tK_mkLoad _ _ _ _ _ _ _ _ _ _ (by omega)
  have hb1 : 0 + 1 + 0 + 1 + aC (tT (mkLoad t (wh / (1000 : Int32)) (wh - wh / (1000 : Int32) * (1000 : Int32)) p1 p2 (if 0 ≤ tF t 129 p2 - tF t 129 p1 then tF t 129 p2 - tF t 129 p1 else 0 - (tF t 129 p2 - tF t 129 p1)) (if tF t 130 p2 - tF t 130 p1 < 0 then (-(tF t 130 p2 - tF t 130 p1)) / (2 : Int32) else tF t 130 p2 - tF t 130 p1) vl du (tF t 171 0)) 2).length (tK (mkLoad t (wh / (1000 : Int32)) (wh - wh / (1000 : Int32) * (1000 : Int32)) p1 p2 (if 0 ≤ tF t 129 p2 - tF t 129 p1 then tF t 129 p2 - tF t 129 p1 else 0 - (tF t 129 p2 - tF t 129 p1)) (if tF t 130 p2 - tF t 130 p1 < 0 then (-(tF t 130 p2 - tF t 130 p1)) / (2 : Int32) else tF t 130 p2 - tF t 130 p1) vl du (tF t 171 0)) 2) ≤ mc := by rw [hTk, hKk, hlen]; omega
  have hb2 : 0 + 19 + 0 + 3 + aS (tT (mkLoad t (wh / (1000 : Int32)) (wh - wh / (1000 : Int32) * (1000 : Int32)) p1 p2 (if 0 ≤ tF t 129 p2 - tF t 129 p1 then tF t 129 p2 - tF t 129 p1 else 0 - (tF t 129 p2 - tF t 129 p1)) (if tF t 130 p2 - tF t 130 p1 < 0 then (-(tF t 130 p2 - tF t 130 p1)) / (2 : Int32) else tF t 130 p2 - tF t 130 p1) vl du (tF t 171 0)) 2).length (tK (mkLoad t (wh / (1000 : Int32)) (wh - wh / (1000 : Int32) * (1000 : Int32)) p1 p2 (if 0 ≤ tF t 129 p2 - tF t 129 p1 then tF t 129 p2 - tF t 129 p1 else 0 - (tF t 129 p2 - tF t 129 p1)) (if tF t 130 p2 - tF t 130 p1 < 0 then (-(tF t 130 p2 - tF t 130 p1)) / (2 : Int32) else tF t 130 p2 - tF t 130 p1) vl du (tF t 171 0)) 2) ≤ ms := by rw [hTk, hKk, hlen]; omega
  refine lAddR C hH 2 (tN t 2) (Nat.lt_of_lt_of_le hk0 (hcn 6)) (by rw [hKk]; exact hcap) (fun x hx => Nat.lt_of_lt_of_le (hok.1 2 hk0 x (hTk ▸ hx)) (hcn _)) (show tN t 2 < cnt (mkLoad t (wh / (1000 : Int32)) (wh - wh / (1000 : Int32) * (1000 : Int32)) p1 p2 (if 0 ≤ tF t 129 p2 - tF t 129 p1 then tF t 129 p2 - tF t 129 p1 else 0 - (tF t 129 p2 - tF t 129 p1)) (if tF t 130 p2 - tF t 130 p1 < 0 then (-(tF t 130 p2 - tF t 130 p1)) / (2 : Int32) else tF t 130 p2 - tF t 130 p1) vl du (tF t 171 0)) 2 by rw [cnt_mkLoad]; exact Nat.lt_succ_self _) wd_103 hl.1 (Nat.le_of_ble_eq_true rfl) dX10_load_138 ⟨hb1, hb2⟩ ⟨Nat.le_of_ble_eq_true rfl, Nat.le_of_ble_eq_true rfl⟩ (fun H locs hH => ?_)
  refine lv_pop hx hb dX10_load_141 rfl ?_
  refine lv_aload_n hx hb dX10_load_142 rfl (lv_at hl 0 rfl) ?_
  refine cg C hH 5 0 (by decide) (Nat.le_of_ble_eq_true rfl) rfl rfl ixX10 2 (by decide) rfl wd_238 rfl dX10_load_143 ?_
  refine lSize C hH 2 (Nat.lt_of_lt_of_le (show 2 < 11 by decide) (Nat.le_add_left _ _)) wd_283 hl.1 (Nat.le_of_ble_eq_true rfl) dX10_load_146 ⟨hb1, hb2⟩ ⟨Nat.le_of_ble_eq_true rfl, Nat.le_of_ble_eq_true rfl⟩ (fun H locs hH => ?_)
  refine lv_iconst (v := 1) hx hb dX10_load_149 (by decide) ?_
  refine lv_isub hx hb dX10_load_150 ?_
  have hz : tT (lAdd (mkLoad t (wh / (1000 : Int32)) (wh - wh / (1000 : Int32) * (1000 : Int32)) p1 p2 (if 0 ≤ tF t 129 p2 - tF t 129 p1 then tF t 129 p2 - tF t 129 p1 else 0 - (tF t 129 p2 - tF t 129 p1)) (if tF t 130 p2 - tF t 130 p1 < 0 then (-(tF t 130 p2 - tF t 130 p1)) / (2 : Int32) else tF t 130 p2 - tF t 130 p1) vl du (tF t 171 0)) 2 (tN t 2)) 2 = tT t 2 ++ [tN t 2] := (tT_lAdd _ _ _).trans (congrArg (· ++ [tN t 2]) hTk)
  rw [hz, List.length_append, hlen, show (tN t 2 + [tN t 2].length) = tN t 2 + 1 from rfl, nI_pred]
  exact criN C hr hk hH had3 hb1 hb2 hpo dX10_load_151
abbrev rmT_law (mc ms : Nat) : Room := { frames := 220, cells := mc, slots := ms, locals := 14000 }
def wpT_law (mc ms : Nat) (t : CS) (x y w : Int32) (post : Int32 → CS → Prop) : Prop := ∃ N : Nat, N < 402 ∧ tF t 164 3 = nI N ∧ (tT t 3).length = tN t 1 ∧ tN t 1 < 2 ^ 20 ∧ tK t 3 < 2 ^ 20 ∧ allOk t ∧ tN t 0 ≤ 4 ∧ (2 + aC (tN t 1) (tK t 3) ≤ mc ∧ 6 + N + aS (tN t 1) (tK t 3) ≤ ms) ∧ post (nI (tN t 1)) (lAdd (mkLaw t x y (tF t 171 0 / (600 : Int32)) w N (va_cpy (tA t 5) (fun _ => 0) 0 0 N)) 3 (tN t 1))
set_option maxHeartbeats 8000000 in
set_option maxRecDepth 100000 in
theorem bT_law {p : Program} {l : Launch} {e : Env} {s : State} {m : MethodId} {args : Array Value} {below : List Frame} {meth : Method} {c : Code} {D : va_G} {Z : Nat → ClassId} {E : Nat → Nat} {ad : Nat → Nat → Nat} {A : Nat → Prop} (C : CC p s m args c cX10_law 5 RX10 D Z E A) (hr : meth.sig.returnType = some .int) (hk : meth.locks = false) {mc ms : Nat} {post : Int32 → CS → Prop} (t : CS) (x y w : Int32) (hw : wpT_law mc ms t x y w post) (H : Heap) (locs : List Loc) (ls : Array Slot) (hH : CH D Z E ad A s.heap t H locs) (hl : lv_has ls 5 [(0, .ref (ad 5 0)), (1, .int x), (2, .int y), (3, .int w)]) : CWn (ad 5 0) p l e (rmT_law mc ms) s m args below meth c D Z E A mc ms post H locs 0 0 (F0 m 71 ls []) := by
  obtain ⟨N, hN, hsc, hlen, hn, hcap, hok, h4, hu, hpo⟩ := hw
  obtain ⟨⟨hx, hb, hml, hown, hts⟩, hK⟩ := id C
  have hk0 : 3 < cnt t 6 := Nat.lt_of_lt_of_le (show 3 < 11 by decide) (Nat.le_add_left _ _)
  refine lv_aload_n hx hb dX10_law_71 rfl (lv_at hl 0 rfl) ?_
  refine cg C hH 5 0 (by decide) (Nat.le_of_ble_eq_true rfl) rfl rfl ixX10 3 (by decide) rfl wd_239 rfl dX10_law_72 ?_
  obtain ⟨L, f, hP, hR⟩ := hH
  obtain ⟨a1, a2⟩ := hR.1 5 0 (by decide) (show 0 < 5 by decide)
  obtain ⟨ea, md, h3, -⟩ := id hR.2.2
  obtain ⟨l1, l2, -⟩ := h3 3 hk0
  rw [hlen] at l2
  refine pnewo C hP (ci := 2) (N := 6) (T := TX1) rfl ixX1 tyX1_ok wd_634 wd_635 wd_23 (fs := [.int 0, .int 0, .int 0, .int 0, .int 0, .null]) (fun j hj => by match j, hj with | 0, _ => rfl | 1, _ => rfl | 2, _ => rfl | 3, _ => rfl | 4, _ => rfl | 5, _ => rfl) (show 0 + 1 ≤ mc by omega) (show 0 + 6 ≤ ms by omega) dX10_law_75 (fun q H hq hP => ?_)
  have hnq : ∀ x, x ∈ L → x ≠ q := fun x hx e => hq (e ▸ hx)
  obtain ⟨L1, f1, hX, hP⟩ : ∃ (L' : List Nat) (f' : Nat → va_E), FX L f q L' f' [(q, .inr (2, [.int 0, .int 0, .int 0, .int 0, .int 0, .null]))] ∧ PH D A s.heap L' f' H locs := ⟨_, _, FX.new0 hq, hP⟩
  have b1 := hX.1 _ a1
  have b2 : f1 (ad 5 0) = .inr (10, kPorterTurns ad t) := (hX.2.1 _ a1 (hnq _ a1)).trans a2
  have c1 := hX.1 _ l1
  have c2 := (hX.2.1 _ l1 (hnq _ l1)).trans l2
  refine lv_dup hx hb dX10_law_78 rfl ?_
  refine lv_aload_n hx hb dX10_law_79 rfl (lv_at hl 0 rfl) ?_
  refine pg C hP b1 b2 rfl ixX10 3 (by decide) rfl wd_239 (fun _ h => h) rfl dX10_law_80 ?_
  refine pcVi C hP (precv C hP c1 c2 (q := (RJx4a65c, TJx4a65c, 3)) rfl) [] (c_P_size l D Z E L1 f1 c1 c2) (cwTV 0 hts wd_283 wd_284 wd_285 wd_4 wd_286 rfl rfl (by decide +kernel) ⟨Nat.le_of_ble_eq_true rfl, Nat.le_of_ble_eq_true rfl⟩) rfl hl.1 rfl (Nat.le_of_ble_eq_true rfl) dX10_law_83 ⟨(show 0 + 1 + 0 ≤ mc by omega), (show 0 + 6 + 0 ≤ ms by omega)⟩ (fun rr u H locs hu2 hP => ?_)
  obtain ⟨rfl, rfl⟩ := hu2
  have hP : PH D A s.heap L1 f1 H locs := hP
  refine lv_iload_n hx hb dX10_law_86 rfl (lv_at hl 1 rfl) ?_
  refine lv_iload_n hx hb dX10_law_87 rfl (lv_at hl 2 rfl) ?_
  refine lv_aload_n hx hb dX10_law_88 rfl (lv_at hl 0 rfl) ?_
  refine pcVi C hP (precv C hP b1 b2 (q := (RX10, TX10, 13)) rfl) [] (c_P_today l D Z E L1 f1 b1 b2 rfl) (cwTV 0 hts wd_636 wd_638 ws_20 wd_1 wd_639 rfl rfl (by decide +kernel) ⟨Nat.le_of_ble_eq_true rfl, Nat.le_of_ble_eq_true rfl⟩) rfl hl.1 rfl (Nat.le_of_ble_eq_true rfl) dX10_law_89 ⟨(show 0 + 1 + 0 + 0 ≤ mc by omega), (show 0 + 6 + 0 + 0 ≤ ms by omega)⟩ (fun rr u H locs hu2 hP => ?_)
  obtain ⟨rfl, rfl⟩ := hu2
  have hP : PH D A s.heap L1 f1 H locs := hP
  refine lv_iload_n hx hb dX10_law_92 rfl (lv_at hl 3 rfl) ?_
  refine lv_aload_n hx hb dX10_law_93 rfl (lv_at hl 0 rfl) ?_
  refine pg C hP b1 b2 rfl ixX10 7 (by decide) rfl wd_243 (fun _ h => h) rfl dX10_law_94 ?_
  obtain ⟨e1, g1⟩ := hR.1 5 3 (by decide) (show 3 < 5 by decide)
  have pm1 := hX.1 _ e1
  have pv1 : f1 (ad 5 3) = .inr (6, [.ref (ad 7 3), .ref (ad 7 4), .ref (ad 7 5), .int (tF t 163 3), .int (nI N), .int (tF t 165 3)]) := by rw [← hsc]; exact (hX.2.1 _ e1 (hnq _ e1)).trans g1
  obtain ⟨e2, g2⟩ := hR.1 7 5 (by decide) (Nat.lt_of_lt_of_le (show 5 < 8 by decide) (Nat.le_add_left _ _))
  have pm2 := hX.1 _ e2
  have pv2 : f1 (ad 7 5) = iA Z 402 (tA t 5) := (hX.2.1 _ e2 (hnq _ e2)).trans g2
  refine pcVq C hP (precv C hP pm1 pv1 (q := (RX5, TX5, 6)) rfl) [] (c_P_steps l D Z E L1 f1 N pm1 pv1 pm2 pv2 hN) (cwTV 0 hts wd_640 wd_641 wd_642 wd_12 wd_643 rfl rfl (by decide +kernel) ⟨Nat.le_of_ble_eq_true rfl, Nat.le_of_ble_eq_true rfl⟩) rfl hl.1 rfl (Nat.le_of_ble_eq_true rfl) dX10_law_97 ⟨(show 0 + 1 + 0 + 0 + 1 ≤ mc by omega), (show 0 + 6 + 0 + 0 + N ≤ ms by omega)⟩ (fun rr u H locs hu2 hP => ?_)
  obtain ⟨r, rfl, hrn, rfl⟩ := hu2
  obtain ⟨L1, f1, hX, hP⟩ : ∃ (L' : List Nat) (f' : Nat → va_E), FX L f q L' f' [(q, .inr (2, [.int 0, .int 0, .int 0, .int 0, .int 0, .null])), (r, iA Z N (va_cpy (tA t 5) (fun _ => 0) 0 0 N))] ∧ PH D A s.heap L' f' H locs := ⟨_, _, hX.new hrn, hP⟩
  obtain ⟨m1, v1⟩ := hX.2.2.1 0 _ _ rfl
  refine pcIv C hP [.int (nI (tN t 1)), .int x, .int y, .int (tF t 171 0 / (600 : Int32)), .int w, .ref r] (c_I_Law l D Z E L1 f1 _ x y _ w r m1 v1) (cwTI 6 hts wd_656 wd_657 wd_23 wd_658 rfl rfl rfl (by decide +kernel) ⟨Nat.le_of_ble_eq_true rfl, Nat.le_of_ble_eq_true rfl⟩) rfl hl.1 rfl (Nat.le_of_ble_eq_true rfl) dX10_law_100 ⟨(show 0 + 1 + 0 + 0 + 1 + 0 ≤ mc by omega), (show 0 + 6 + 0 + 0 + N + 0 ≤ ms by omega)⟩ (fun u H locs hu2 hP => ?_)
  obtain ⟨L2, f2, hX, hP⟩ : ∃ (L' : List Nat) (f' : Nat → va_E), FX L f q L' f' [(q, .inr (2, [.int (nI (tN t 1)), .int x, .int y, .int (tF t 171 0 / (600 : Int32)), .int w, .ref r])), (r, iA Z N (va_cpy (tA t 5) (fun _ => 0) 0 0 N))] ∧ PH D A s.heap L' f' H locs := by rw [hu2] at hP; exact ⟨_, _, hX.set (i := 0) rfl, hP⟩
  have hR2 := CR_mkLaw x y (tF t 171 0 / (600 : Int32)) w N (va_cpy (tA t 5) (fun _ => 0) 0 0 N) hR hok h4 hq hX
  obtain ⟨ad', had1, had2, had3, hH⟩ : ∃ ad' : Nat → Nat → Nat, ad' 1 (tN t 1) = q ∧ ad' 6 3 = ad 6 3 ∧ ad' 5 0 = ad 5 0 ∧ CH D Z E ad' A s.heap (mkLaw t x y (tF t 171 0 / (600 : Int32)) w N (va_cpy (tA t 5) (fun _ => 0) 0 0 N)) H locs := ⟨_, (adN_ne (fun e => absurd e.1 (by decide))).trans adN_eq, (adN_ne (fun e => absurd e.1 (by decide))).trans (adN_ne (fun e => absurd e.1 (by decide))), (adN_ne (fun e => absurd e.1 (by decide))).trans (adN_ne (fun e => absurd e.1 (by decide))), L2, f2, hP, hR2⟩
  rw [← had2, ← had1]
  have hl : lv_has ls 5 [(0, .ref (ad' 5 0))] := by rw [had3]; exact lv_sub hl [0] rfl
  have hcn : ∀ κ, cnt t κ ≤ cnt (mkLaw t x y (tF t 171 0 / (600 : Int32)) w N (va_cpy (tA t 5) (fun _ => 0) 0 0 N)) κ := fun κ => cntle_mkLaw t x y (tF t 171 0 / (600 : Int32)) w N (va_cpy (tA t 5) (fun _ => 0) 0 0 N) κ
  have hTk : tT (mkLaw t x y (tF t 171 0 / (600 : Int32)) w N (va_cpy (tA t 5) (fun _ => 0) 0 0 N)) 3 = tT t 3 := rfl
  have hKk : tK (mkLaw t x y (tF t 171 0 / (600 : Int32)) w N (va_cpy (tA t 5) (fun _ => 0) 0 0 N)) 3 = tK t 3 := rfl
  have hb1 : 0 + 1 + 0 + 0 + 1 + 0 + aC (tT (mkLaw t x y (tF t 171 0 / (600 : Int32)) w N (va_cpy (tA t 5) (fun _ => 0) 0 0 N)) 3).length (tK (mkLaw t x y (tF t 171 0 / (600 : Int32)) w N (va_cpy (tA t 5) (fun _ => 0) 0 0 N)) 3) ≤ mc := by rw [hTk, hKk, hlen]; omega
  have hb2 : 0 + 6 + 0 + 0 + N + 0 + aS (tT (mkLaw t x y (tF t 171 0 / (600 : Int32)) w N (va_cpy (tA t 5) (fun _ => 0) 0 0 N)) 3).length (tK (mkLaw t x y (tF t 171 0 / (600 : Int32)) w N (va_cpy (tA t 5) (fun _ => 0) 0 0 N)) 3) ≤ ms := by rw [hTk, hKk, hlen]; omega
  refine lAddR C hH 3 (tN t 1) (Nat.lt_of_lt_of_le hk0 (hcn 6)) (by rw [hKk]; exact hcap) (fun x hx => Nat.lt_of_lt_of_le (hok.1 3 hk0 x (hTk ▸ hx)) (hcn _)) (show tN t 1 < cnt (mkLaw t x y (tF t 171 0 / (600 : Int32)) w N (va_cpy (tA t 5) (fun _ => 0) 0 0 N)) 1 by rw [cnt_mkLaw]; exact Nat.lt_succ_self _) wd_103 hl.1 (Nat.le_of_ble_eq_true rfl) dX10_law_103 ⟨hb1, hb2⟩ ⟨Nat.le_of_ble_eq_true rfl, Nat.le_of_ble_eq_true rfl⟩ (fun H locs hH => ?_)
  refine lv_pop hx hb dX10_law_106 rfl ?_
  refine lv_aload_n hx hb dX10_law_107 rfl (lv_at hl 0 rfl) ?_
  refine cg C hH 5 0 (by decide) (Nat.le_of_ble_eq_true rfl) rfl rfl ixX10 3 (by decide) rfl wd_239 rfl dX10_law_108 ?_
  refine lSize C hH 3 (Nat.lt_of_lt_of_le (show 3 < 11 by decide) (Nat.le_add_left _ _)) wd_283 hl.1 (Nat.le_of_ble_eq_true rfl) dX10_law_111 ⟨hb1, hb2⟩ ⟨Nat.le_of_ble_eq_true rfl, Nat.le_of_ble_eq_true rfl⟩ (fun H locs hH => ?_)
  refine lv_iconst (v := 1) hx hb dX10_law_114 (by decide) ?_
  refine lv_isub hx hb dX10_law_115 ?_
  have hz : tT (lAdd (mkLaw t x y (tF t 171 0 / (600 : Int32)) w N (va_cpy (tA t 5) (fun _ => 0) 0 0 N)) 3 (tN t 1)) 3 = tT t 3 ++ [tN t 1] := (tT_lAdd _ _ _).trans (congrArg (· ++ [tN t 1]) hTk)
  rw [hz, List.length_append, hlen, show (tN t 1 + [tN t 1].length) = tN t 1 + 1 from rfl, nI_pred]
  exact criN C hr hk hH had3 hb1 hb2 hpo dX10_law_116
