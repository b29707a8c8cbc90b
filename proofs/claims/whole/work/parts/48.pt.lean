/-! the constructor of PorterTurns (gen/pw.py) -/
def NW4 (U : State) : Prop := va_Nw (.methodLinkNest RX10 39 yX7_init RX10) U ∧ va_Nw (.methodLinkNest RX10 46 yX8_init RX10) U ∧ va_Nw (.methodLinkNest RX10 53 yX5_init RX10) U ∧ va_Nw (.methodLinkNest RX10 60 yX6_init RX10) U
def pPreN (D : va_G) (Z : Nat → ClassId) (E : Nat → Nat) (L : List Nat) (f : Nat → va_E) (sz : Nat) (U : State) : Prop := pPre D Z E L f sz U ∧ NW4 U
theorem pPreN_blind {D : va_G} {Z : Nat → ClassId} {E : Nat → Nat} {L : List Nat} {f : Nat → va_E} (As : List Value) (sz : Nat) : FrameBlind (va_Pc As (pPreN D Z E L f sz)) := fun a U g mk q => by
  obtain ⟨q0, q1, q2⟩ := q
  obtain ⟨a1, a2, a3, a4⟩ := q2
  have h := pPre_blind (D := D) (Z := Z) (E := E) (L := L) (f := f) As sz a U g mk ⟨q0, q1⟩
  exact ⟨h.1, h.2, va_Nw.same rfl rfl a1, va_Nw.same rfl rfl a2, va_Nw.same rfl rfl a3, va_Nw.same rfl rfl a4⟩
theorem FX.ne {L0 L : List Nat} {f0 f : Nat → va_E} {a : Nat} {es : List (Nat × va_E)} (h : FX L0 f0 a L f es) {i j b c : Nat} {e e' : va_E} (hi : es[i]? = some (b, e)) (hj : es[j]? = some (c, e')) (hij : i ≠ j) : b ≠ c := fun q => hij (h.2.2.2.1 i j b e e' hi (q ▸ hj))
theorem FX.okE {L0 L : List Nat} {f0 f : Nat → va_E} {a : Nat} {es : List (Nat × va_E)} (h : FX L0 f0 a L f es) {i b ci : Nat} {fs : List Value} (hi : es[i]? = some (b, .inr (ci, fs))) (h1 : 1 ≤ ci) (h5 : ci ≤ 5) : okE L f b := ⟨ci, fs, (h.2.2.1 i b _ hi).1, (h.2.2.1 i b _ hi).2, h1, h5⟩
section Mk5Rows
variable {p : Program} {l : Launch} {e : Env} {R : Room} {s : State} {m : MethodId} {args : Array Value} {below : List Frame} {meth : Method} {c : Code} {H : Heap} {locs : List Loc} {cells slots : Nat} {Q : State → Prop} {pc nL : Nat} {ls : Array Slot} {rest : List Value} {D : va_G} {Z : Nat → ClassId} {E : Nat → Nat} {A : Nat → Prop} {cc : ByteArray} {own : String} {L : List Nat} {f : Nat → va_E} {idx : Nat}
theorem pcIvN (C : CC p s m args c cc nL own D Z E A) (hP : PH D A s.heap L f H locs) {r0 : Nat} {y : MethodName} {host : String} {rm : Room} {post : P2 → Prop} {bytes : ByteArray} {maxL n mc ms : Nat} (As : List Value) {st : List Value}
    (hM : ∀ sz, Met l y (Wd y bytes maxL none) rm (va_Pc (.ref r0 :: As) (pPre D Z E L f sz)) (va_Qv post (pPost D Z (cAs L sz)) (cAs L sz)) mc ms (cAs L sz)) (cw : va_CN R s args own idx y host bytes maxL none (Wd y bytes maxL none) rm mc ms n ∧ y.name = "<init>" ∧ (Cond.instanceMethod y).before args s = true) (hn : As.length = n) (hsz : ls.size = nL) (hst : st = As.reverse ++ .ref r0 :: rest) (hro : (rest.map fun v => v.category).sum ≤ 8) (hdg : decode cc pc = .ok (.invokespecial idx, 3)) (hc : cells + mc ≤ R.cells ∧ slots + ms ≤ R.slots)
    (kk : ∀ (u : P2) (H1 : Heap) (locs1 : List Loc), post u → PH D A s.heap u.1 u.2 H1 locs1 → W p l e R s m args below meth c H1 locs1 (cells + mc) (slots + ms) Q (F0 m (pc + 3) ls rest)) : W p l e R s m args below meth c H locs cells slots Q (F0 m pc ls st) := by
  subst hst
  exact va_callv (va_runIN (As := As) (rest := rest) C.1 (hM H.size) cw ⟨pPre_blind _ _, fun U hU hW => pstart C hP _ U hU hW⟩ rfl hn hsz rfl (lv_room hro) hdg hc) hP.2.2 (fun q _ h => cAs_sub C.2.2.2 hP.2.1 hP.2.2 q h) (cAs_sub C.2.2.2 hP.2.1 hP.2.2) (fun u t1 H1 locs1 ht hvm hw hB hz1 hk1 hS => kk u H1 locs1 hw (pback C hP ht hB hS))
theorem pMetN {y : MethodName} {maxL : Nat} {ret : Option FieldType} {rm : Room} {mc ms : Nat} {Qc : (Nat → Prop) → Array Value → State → Outcome → State → Prop} (hy : plainName y.cls = true) (hc : y.cls = own) (hnmI : y.name = "<init>") (As : List Value) (hAs : (lg_sl As).length ≤ maxL)
    (body : ∀ (p : Program) (e : Env) (s : State) (m : MethodId) (args : Array Value) (below : List Frame) (meth : Method) (c : Code) (A : Nat → Prop), CC p s m args c cc maxL own D Z E A → NW4 s → meth.sig.returnType = ret → meth.locks = false → meth.name = "<init>" → ∀ ls : Array Slot, lv_has ls maxL (lv_args 0 As) → PH D A s.heap L f s.heap [] → W p l e rm s m args below meth c s.heap [] 0 0 (MQ below (Qc A) args s mc ms A) (F0 m 0 ls [])) (sz : Nat) :
    Met l y (Wd y cc maxL ret) rm (va_Pc As (pPreN D Z E L f sz)) (Qc (cAs L sz)) mc ms (cAs L sz) := by
  refine Met.ofW (cc := cc) (maxL := maxL) (ret := ret) hy (ws' := TB) rfl ?_
  intro p e s m args below meth c s₁ B hml hv
  obtain ⟨rfl, ⟨hsz, hK, hE, hP, hD0⟩, hN⟩ := hv
  subst hsz
  have hl := lv_entry As (n := maxL) hAs
  rw [lg_entry_eq]
  refine body p e s m _ below meth c (cAs L s.heap.size) ⟨⟨B.exec, B.bytes, hml, by rw [← hc]; exact findClass_of_methodNamed B.named, fun w h => atoms_spec (ws := Wd y cc maxL ret) B.pre w (List.mem_cons_of_mem _ h)⟩, hK, hE, fun q h => Or.inr h⟩ hN B.returns B.notSynchronized ((name_of_methodNamed B.named B.method).1.trans hnmI) _ hl ⟨hP, ⟨hD0.1, fun k q hk => Or.inl ?_⟩, va_S.rf⟩
  have := List.mem_of_getElem? hk
  obtain ⟨a, ha, rfl⟩ := List.mem_map.mp this
  exact ha
end Mk5Rows
def ptQ (Z : Nat → ClassId) (E : Nat → Nat) (L0 : List Nat) (f0 : Nat → va_E) (a : Nat) (u : P2) : Prop := ∃ (q1 q6 q11 q16 q21 q28 q31 d74 q39 q42 q53 q56 q68 q71 q82 q85 q86 q89 q92 q95 q98 q99 q100 q103 q106 q107 q110 q115 : Nat) (row75 : Nat → Option Nat), FX L0 f0 a u.1 u.2 [(a, .inr (10, [.ref q1, .ref q6, .ref q11, .ref q16, .ref q21, .ref q82, .ref q89, .ref q95, .ref q103, .ref q110, .ref q115, .int 0, .int 0])), (q1, .inr (0, [.int 0, .ref (E 0), .int 0])), (q6, .inr (0, [.int 0, .ref (E 0), .int 0])), (q11, .inr (0, [.int 0, .ref (E 0), .int 0])), (q16, .inr (0, [.int 0, .ref (E 0), .int 0])), (q21, .inr (0, [.int ((((0 + 1) + 1) + 1) + 1), .ref d74, .int (nI (3 + 1))])), (q28, .inr (1, [.int 0, .ref q31, .int 0, .int 0, .int 0, .int 0, .int 0, .int 0, .int 0, .int 0])), (q31, .inr (0, [.int 0, .ref (E 0), .int 0])), (d74, cRow Z 10 row75), (q39, .inr (1, [.int 1, .ref q42, .int 0, .int 0, .int 0, .int 0, .int 0, .int 0, .int 0, .int 0])), (q42, .inr (0, [.int 0, .ref (E 0), .int 0])), (q53, .inr (1, [.int 2, .ref q56, .int 0, .int 0, .int 0, .int 0, .int 0, .int 0, .int 0, .int 0])), (q56, .inr (0, [.int 0, .ref (E 0), .int 0])), (q68, .inr (1, [.int 3, .ref q71, .int 0, .int 0, .int 0, .int 0, .int 0, .int 0, .int 0, .int 0])), (q71, .inr (0, [.int 0, .ref (E 0), .int 0])), (q82, .inr (8, [.ref q85, .ref q86, .int 0])), (q85, zA Z 20), (q86, zA Z 20), (q89, .inr (9, [.ref q92, .int 0])), (q92, zA Z 200), (q95, .inr (6, [.ref q98, .ref q99, .ref q100, .int 0, .int 0, .int 0])), (q98, zA Z 201), (q99, zA Z 201), (q100, zA Z 402), (q103, .inr (7, [.ref q106, .ref q107, .int 0])), (q106, zA Z 13), (q107, zA Z 200), (q110, .inr (0, [.int 0, .ref (E 0), .int 0])), (q115, .inr (0, [.int 0, .ref (E 0), .int 0]))] ∧ row75 0 = some q28 ∧ row75 1 = some q39 ∧ row75 2 = some q53 ∧ row75 3 = some q68
abbrev rmI_PT : Room := { frames := 12, cells := 28, slots := 1354, locals := 1200 }
set_option maxHeartbeats 8000000 in
set_option maxRecDepth 100000 in
theorem c_I_PT (l : Launch) (D : va_G) (Z : Nat → ClassId) (E : Nat → Nat) (L0 : List Nat) (f0 : Nat → va_E) {a : Nat} (ha : a ∈ L0) (hf : f0 a = .inr (10, [.null, .null, .null, .null, .null, .null, .null, .null, .null, .null, .null, .int 0, .int 0])) (sz : Nat) : Met l yX10_init (Wd yX10_init cX10_init 2 none) rmI_PT (va_Pc [.ref a] (pPreN D Z E L0 f0 sz)) (va_Qv (ptQ Z E L0 f0 a) (pPost D Z (cAs L0 sz)) (cAs L0 sz)) 28 1354 (cAs L0 sz) := by
  refine pMetN (Qc := fun A => va_Qv (ptQ Z E L0 f0 a) (pPost D Z A) A) (by decide) rfl rfl _ (Nat.le_of_ble_eq_true rfl) (fun p e s m args below meth c A C hN hr hk hnm ls hl hH => ?_) sz
  obtain ⟨⟨hx, hb, hml, hown, hts⟩, hK⟩ := id C
  have hl : lv_has ls 2 [(0, .ref a)] := hl
  obtain ⟨L, f, hX, hH⟩ : ∃ (L' : List Nat) (f' : Nat → va_E), FX L0 f0 a L' f' [(a, .inr (10, [.null, .null, .null, .null, .null, .null, .null, .null, .null, .null, .null, .int 0, .int 0]))] ∧ PH D A s.heap L' f' s.heap [] := ⟨L0, f0, FX.init ha hf, hH⟩
  refine lv_aload_n hx hb dX10_init_0 rfl (lv_at hl 0 rfl) ?_
  refine pobj C hl.1 wd_30 (Nat.le_of_ble_eq_true rfl) (Nat.le_of_ble_eq_true rfl) (Nat.le_of_ble_eq_true rfl) dX10_init_1 ?_
  refine lv_aload_n hx hb dX10_init_4 rfl (lv_at hl 0 rfl) ?_
  refine pnewo C hH (ci := 0) (N := 3) (T := TJx4a65c) rfl ixJx4a65c tyJx4a65c_ok wd_33 wd_34 wd_4 (fs := [.int 0, .null, .int 0]) (fun j hj => by match j, hj with | 0, _ => rfl | 1, _ => rfl | 2, _ => rfl) (Nat.le_of_ble_eq_true rfl) (Nat.le_of_ble_eq_true rfl) dX10_init_5 (fun q1 H hq1 hH => ?_)
  obtain ⟨L, f, hX, hH⟩ : ∃ (L' : List Nat) (f' : Nat → va_E), FX L0 f0 a L' f' [(a, .inr (10, [.null, .null, .null, .null, .null, .null, .null, .null, .null, .null, .null, .int 0, .int 0])), (q1, .inr (0, [.int 0, .null, .int 0]))] ∧ PH D A s.heap L' f' H [] := ⟨_, _, hX.new hq1, hH⟩
  refine lv_dup hx hb dX10_init_8 rfl ?_
  obtain ⟨m2, v3⟩ := hX.2.2.1 1 _ _ rfl
  refine pcIv C hH [] (c_I_AL l D Z E L f m2 v3) (cwTI 0 hts wd_35 wd_36 wd_4 wd_37 rfl rfl rfl (by decide +kernel) ⟨(Nat.le_of_ble_eq_true rfl), (Nat.le_of_ble_eq_true rfl)⟩) rfl hl.1 rfl (Nat.le_of_ble_eq_true rfl) dX10_init_9 ⟨(Nat.le_of_ble_eq_true rfl), (Nat.le_of_ble_eq_true rfl)⟩ (fun u H locs hu hH => ?_)
  obtain ⟨L, f, hX, hH⟩ : ∃ (L' : List Nat) (f' : Nat → va_E), FX L0 f0 a L' f' [(a, .inr (10, [.null, .null, .null, .null, .null, .null, .null, .null, .null, .null, .null, .int 0, .int 0])), (q1, .inr (0, [.int 0, .ref (E 0), .int 0]))] ∧ PH D A s.heap L' f' H locs := ⟨_, _, hX.call (i := 1) rfl hu, hH⟩
  obtain ⟨m4, v5⟩ := hX.2.2.1 0 _ _ rfl
  refine ppF C hnm hH m4 v5 (T := TX10) (N := 13) rfl ixX10 tyX10 tyX10_ok nmX10 0 (by decide) rfl wd_236 (ty := (.object "java/util/ArrayList")) pfAL rfl rfl (Nat.le_of_ble_eq_true rfl) dX10_init_12 (fun H locs hH => ?_)
  obtain ⟨L, f, hX, hH⟩ : ∃ (L' : List Nat) (f' : Nat → va_E), FX L0 f0 a L' f' [(a, .inr (10, [.ref q1, .null, .null, .null, .null, .null, .null, .null, .null, .null, .null, .int 0, .int 0])), (q1, .inr (0, [.int 0, .ref (E 0), .int 0]))] ∧ PH D A s.heap L' f' H locs := ⟨_, _, hX.set (i := 0) rfl, hH⟩
  refine lv_aload_n hx hb dX10_init_15 rfl (lv_at hl 0 rfl) ?_
  refine pnewo C hH (ci := 0) (N := 3) (T := TJx4a65c) rfl ixJx4a65c tyJx4a65c_ok wd_33 wd_34 wd_4 (fs := [.int 0, .null, .int 0]) (fun j hj => by match j, hj with | 0, _ => rfl | 1, _ => rfl | 2, _ => rfl) (Nat.le_of_ble_eq_true rfl) (Nat.le_of_ble_eq_true rfl) dX10_init_16 (fun q6 H hq6 hH => ?_)
  obtain ⟨L, f, hX, hH⟩ : ∃ (L' : List Nat) (f' : Nat → va_E), FX L0 f0 a L' f' [(a, .inr (10, [.ref q1, .null, .null, .null, .null, .null, .null, .null, .null, .null, .null, .int 0, .int 0])), (q1, .inr (0, [.int 0, .ref (E 0), .int 0])), (q6, .inr (0, [.int 0, .null, .int 0]))] ∧ PH D A s.heap L' f' H locs := ⟨_, _, hX.new hq6, hH⟩
  refine lv_dup hx hb dX10_init_19 rfl ?_
  obtain ⟨m7, v8⟩ := hX.2.2.1 2 _ _ rfl
  refine pcIv C hH [] (c_I_AL l D Z E L f m7 v8) (cwTI 0 hts wd_35 wd_36 wd_4 wd_37 rfl rfl rfl (by decide +kernel) ⟨(Nat.le_of_ble_eq_true rfl), (Nat.le_of_ble_eq_true rfl)⟩) rfl hl.1 rfl (Nat.le_of_ble_eq_true rfl) dX10_init_20 ⟨(Nat.le_of_ble_eq_true rfl), (Nat.le_of_ble_eq_true rfl)⟩ (fun u H locs hu hH => ?_)
  obtain ⟨L, f, hX, hH⟩ : ∃ (L' : List Nat) (f' : Nat → va_E), FX L0 f0 a L' f' [(a, .inr (10, [.ref q1, .null, .null, .null, .null, .null, .null, .null, .null, .null, .null, .int 0, .int 0])), (q1, .inr (0, [.int 0, .ref (E 0), .int 0])), (q6, .inr (0, [.int 0, .ref (E 0), .int 0]))] ∧ PH D A s.heap L' f' H locs := ⟨_, _, hX.call (i := 2) rfl hu, hH⟩
  obtain ⟨m9, v10⟩ := hX.2.2.1 0 _ _ rfl
  refine ppF C hnm hH m9 v10 (T := TX10) (N := 13) rfl ixX10 tyX10 tyX10_ok nmX10 1 (by decide) rfl wd_237 (ty := (.object "java/util/ArrayList")) pfAL rfl rfl (Nat.le_of_ble_eq_true rfl) dX10_init_23 (fun H locs hH => ?_)
  obtain ⟨L, f, hX, hH⟩ : ∃ (L' : List Nat) (f' : Nat → va_E), FX L0 f0 a L' f' [(a, .inr (10, [.ref q1, .ref q6, .null, .null, .null, .null, .null, .null, .null, .null, .null, .int 0, .int 0])), (q1, .inr (0, [.int 0, .ref (E 0), .int 0])), (q6, .inr (0, [.int 0, .ref (E 0), .int 0]))] ∧ PH D A s.heap L' f' H locs := ⟨_, _, hX.set (i := 0) rfl, hH⟩
  refine lv_aload_n hx hb dX10_init_26 rfl (lv_at hl 0 rfl) ?_
  refine pnewo C hH (ci := 0) (N := 3) (T := TJx4a65c) rfl ixJx4a65c tyJx4a65c_ok wd_33 wd_34 wd_4 (fs := [.int 0, .null, .int 0]) (fun j hj => by match j, hj with | 0, _ => rfl | 1, _ => rfl | 2, _ => rfl) (Nat.le_of_ble_eq_true rfl) (Nat.le_of_ble_eq_true rfl) dX10_init_27 (fun q11 H hq11 hH => ?_)
  obtain ⟨L, f, hX, hH⟩ : ∃ (L' : List Nat) (f' : Nat → va_E), FX L0 f0 a L' f' [(a, .inr (10, [.ref q1, .ref q6, .null, .null, .null, .null, .null, .null, .null, .null, .null, .int 0, .int 0])), (q1, .inr (0, [.int 0, .ref (E 0), .int 0])), (q6, .inr (0, [.int 0, .ref (E 0), .int 0])), (q11, .inr (0, [.int 0, .null, .int 0]))] ∧ PH D A s.heap L' f' H locs := ⟨_, _, hX.new hq11, hH⟩
  refine lv_dup hx hb dX10_init_30 rfl ?_
  obtain ⟨m12, v13⟩ := hX.2.2.1 3 _ _ rfl
  refine pcIv C hH [] (c_I_AL l D Z E L f m12 v13) (cwTI 0 hts wd_35 wd_36 wd_4 wd_37 rfl rfl rfl (by decide +kernel) ⟨(Nat.le_of_ble_eq_true rfl), (Nat.le_of_ble_eq_true rfl)⟩) rfl hl.1 rfl (Nat.le_of_ble_eq_true rfl) dX10_init_31 ⟨(Nat.le_of_ble_eq_true rfl), (Nat.le_of_ble_eq_true rfl)⟩ (fun u H locs hu hH => ?_)
  obtain ⟨L, f, hX, hH⟩ : ∃ (L' : List Nat) (f' : Nat → va_E), FX L0 f0 a L' f' [(a, .inr (10, [.ref q1, .ref q6, .null, .null, .null, .null, .null, .null, .null, .null, .null, .int 0, .int 0])), (q1, .inr (0, [.int 0, .ref (E 0), .int 0])), (q6, .inr (0, [.int 0, .ref (E 0), .int 0])), (q11, .inr (0, [.int 0, .ref (E 0), .int 0]))] ∧ PH D A s.heap L' f' H locs := ⟨_, _, hX.call (i := 3) rfl hu, hH⟩
  obtain ⟨m14, v15⟩ := hX.2.2.1 0 _ _ rfl
  refine ppF C hnm hH m14 v15 (T := TX10) (N := 13) rfl ixX10 tyX10 tyX10_ok nmX10 2 (by decide) rfl wd_238 (ty := (.object "java/util/ArrayList")) pfAL rfl rfl (Nat.le_of_ble_eq_true rfl) dX10_init_34 (fun H locs hH => ?_)
  obtain ⟨L, f, hX, hH⟩ : ∃ (L' : List Nat) (f' : Nat → va_E), FX L0 f0 a L' f' [(a, .inr (10, [.ref q1, .ref q6, .ref q11, .null, .null, .null, .null, .null, .null, .null, .null, .int 0, .int 0])), (q1, .inr (0, [.int 0, .ref (E 0), .int 0])), (q6, .inr (0, [.int 0, .ref (E 0), .int 0])), (q11, .inr (0, [.int 0, .ref (E 0), .int 0]))] ∧ PH D A s.heap L' f' H locs := ⟨_, _, hX.set (i := 0) rfl, hH⟩
  refine lv_aload_n hx hb dX10_init_37 rfl (lv_at hl 0 rfl) ?_
  refine pnewo C hH (ci := 0) (N := 3) (T := TJx4a65c) rfl ixJx4a65c tyJx4a65c_ok wd_33 wd_34 wd_4 (fs := [.int 0, .null, .int 0]) (fun j hj => by match j, hj with | 0, _ => rfl | 1, _ => rfl | 2, _ => rfl) (Nat.le_of_ble_eq_true rfl) (Nat.le_of_ble_eq_true rfl) dX10_init_38 (fun q16 H hq16 hH => ?_)
  obtain ⟨L, f, hX, hH⟩ : ∃ (L' : List Nat) (f' : Nat → va_E), FX L0 f0 a L' f' [(a, .inr (10, [.ref q1, .ref q6, .ref q11, .null, .null, .null, .null, .null, .null, .null, .null, .int 0, .int 0])), (q1, .inr (0, [.int 0, .ref (E 0), .int 0])), (q6, .inr (0, [.int 0, .ref (E 0), .int 0])), (q11, .inr (0, [.int 0, .ref (E 0), .int 0])), (q16, .inr (0, [.int 0, .null, .int 0]))] ∧ PH D A s.heap L' f' H locs := ⟨_, _, hX.new hq16, hH⟩
  refine lv_dup hx hb dX10_init_41 rfl ?_
  obtain ⟨m17, v18⟩ := hX.2.2.1 4 _ _ rfl
  refine pcIv C hH [] (c_I_AL l D Z E L f m17 v18) (cwTI 0 hts wd_35 wd_36 wd_4 wd_37 rfl rfl rfl (by decide +kernel) ⟨(Nat.le_of_ble_eq_true rfl), (Nat.le_of_ble_eq_true rfl)⟩) rfl hl.1 rfl (Nat.le_of_ble_eq_true rfl) dX10_init_42 ⟨(Nat.le_of_ble_eq_true rfl), (Nat.le_of_ble_eq_true rfl)⟩ (fun u H locs hu hH => ?_)
  obtain ⟨L, f, hX, hH⟩ : ∃ (L' : List Nat) (f' : Nat → va_E), FX L0 f0 a L' f' [(a, .inr (10, [.ref q1, .ref q6, .ref q11, .null, .null, .null, .null, .null, .null, .null, .null, .int 0, .int 0])), (q1, .inr (0, [.int 0, .ref (E 0), .int 0])), (q6, .inr (0, [.int 0, .ref (E 0), .int 0])), (q11, .inr (0, [.int 0, .ref (E 0), .int 0])), (q16, .inr (0, [.int 0, .ref (E 0), .int 0]))] ∧ PH D A s.heap L' f' H locs := ⟨_, _, hX.call (i := 4) rfl hu, hH⟩
  obtain ⟨m19, v20⟩ := hX.2.2.1 0 _ _ rfl
  refine ppF C hnm hH m19 v20 (T := TX10) (N := 13) rfl ixX10 tyX10 tyX10_ok nmX10 3 (by decide) rfl wd_239 (ty := (.object "java/util/ArrayList")) pfAL rfl rfl (Nat.le_of_ble_eq_true rfl) dX10_init_45 (fun H locs hH => ?_)
  obtain ⟨L, f, hX, hH⟩ : ∃ (L' : List Nat) (f' : Nat → va_E), FX L0 f0 a L' f' [(a, .inr (10, [.ref q1, .ref q6, .ref q11, .ref q16, .null, .null, .null, .null, .null, .null, .null, .int 0, .int 0])), (q1, .inr (0, [.int 0, .ref (E 0), .int 0])), (q6, .inr (0, [.int 0, .ref (E 0), .int 0])), (q11, .inr (0, [.int 0, .ref (E 0), .int 0])), (q16, .inr (0, [.int 0, .ref (E 0), .int 0]))] ∧ PH D A s.heap L' f' H locs := ⟨_, _, hX.set (i := 0) rfl, hH⟩
  refine lv_aload_n hx hb dX10_init_48 rfl (lv_at hl 0 rfl) ?_
  refine pnewo C hH (ci := 0) (N := 3) (T := TJx4a65c) rfl ixJx4a65c tyJx4a65c_ok wd_33 wd_34 wd_4 (fs := [.int 0, .null, .int 0]) (fun j hj => by match j, hj with | 0, _ => rfl | 1, _ => rfl | 2, _ => rfl) (Nat.le_of_ble_eq_true rfl) (Nat.le_of_ble_eq_true rfl) dX10_init_49 (fun q21 H hq21 hH => ?_)
  obtain ⟨L, f, hX, hH⟩ : ∃ (L' : List Nat) (f' : Nat → va_E), FX L0 f0 a L' f' [(a, .inr (10, [.ref q1, .ref q6, .ref q11, .ref q16, .null, .null, .null, .null, .null, .null, .null, .int 0, .int 0])), (q1, .inr (0, [.int 0, .ref (E 0), .int 0])), (q6, .inr (0, [.int 0, .ref (E 0), .int 0])), (q11, .inr (0, [.int 0, .ref (E 0), .int 0])), (q16, .inr (0, [.int 0, .ref (E 0), .int 0])), (q21, .inr (0, [.int 0, .null, .int 0]))] ∧ PH D A s.heap L' f' H locs := ⟨_, _, hX.new hq21, hH⟩
  refine lv_dup hx hb dX10_init_52 rfl ?_
  obtain ⟨m22, v23⟩ := hX.2.2.1 5 _ _ rfl
  refine pcIv C hH [] (c_I_AL l D Z E L f m22 v23) (cwTI 0 hts wd_35 wd_36 wd_4 wd_37 rfl rfl rfl (by decide +kernel) ⟨(Nat.le_of_ble_eq_true rfl), (Nat.le_of_ble_eq_true rfl)⟩) rfl hl.1 rfl (Nat.le_of_ble_eq_true rfl) dX10_init_53 ⟨(Nat.le_of_ble_eq_true rfl), (Nat.le_of_ble_eq_true rfl)⟩ (fun u H locs hu hH => ?_)
  obtain ⟨L, f, hX, hH⟩ : ∃ (L' : List Nat) (f' : Nat → va_E), FX L0 f0 a L' f' [(a, .inr (10, [.ref q1, .ref q6, .ref q11, .ref q16, .null, .null, .null, .null, .null, .null, .null, .int 0, .int 0])), (q1, .inr (0, [.int 0, .ref (E 0), .int 0])), (q6, .inr (0, [.int 0, .ref (E 0), .int 0])), (q11, .inr (0, [.int 0, .ref (E 0), .int 0])), (q16, .inr (0, [.int 0, .ref (E 0), .int 0])), (q21, .inr (0, [.int 0, .ref (E 0), .int 0]))] ∧ PH D A s.heap L' f' H locs := ⟨_, _, hX.call (i := 5) rfl hu, hH⟩
  obtain ⟨m24, v25⟩ := hX.2.2.1 0 _ _ rfl
  refine ppF C hnm hH m24 v25 (T := TX10) (N := 13) rfl ixX10 tyX10 tyX10_ok nmX10 4 (by decide) rfl wd_240 (ty := (.object "java/util/ArrayList")) pfAL rfl rfl (Nat.le_of_ble_eq_true rfl) dX10_init_56 (fun H locs hH => ?_)
  obtain ⟨L, f, hX, hH⟩ : ∃ (L' : List Nat) (f' : Nat → va_E), FX L0 f0 a L' f' [(a, .inr (10, [.ref q1, .ref q6, .ref q11, .ref q16, .ref q21, .null, .null, .null, .null, .null, .null, .int 0, .int 0])), (q1, .inr (0, [.int 0, .ref (E 0), .int 0])), (q6, .inr (0, [.int 0, .ref (E 0), .int 0])), (q11, .inr (0, [.int 0, .ref (E 0), .int 0])), (q16, .inr (0, [.int 0, .ref (E 0), .int 0])), (q21, .inr (0, [.int 0, .ref (E 0), .int 0]))] ∧ PH D A s.heap L' f' H locs := ⟨_, _, hX.set (i := 0) rfl, hH⟩
  refine lv_iconst (v := 0) hx hb dX10_init_59 (by decide) ?_
  refine lv_istore_n (lv' := [(1, .int 0), (0, .ref a)]) hx hb dX10_init_60 rfl hl (by decide) rfl (fun ls hl => ?_)
  refine lv_iload_n hx hb dX10_init_61 rfl (lv_at hl 0 rfl) ?_
  refine lv_iconst (v := 4) hx hb dX10_init_62 (by decide) ?_
  refine lv_icmp_ge (tgt := 88) hx hb dX10_init_63 (by decide) (fun q => absurd q (by decide)) (fun _ => ?_)
  refine lv_aload_n hx hb dX10_init_66 rfl (lv_at hl 1 rfl) ?_
  obtain ⟨m26, v27⟩ := hX.2.2.1 0 _ _ rfl
  refine pg C hH m26 v27 (T := TX10) (N := 13) rfl ixX10 4 (by decide) rfl wd_240 (fun _ h => h) rfl dX10_init_67 ?_
  refine pnewo C hH (ci := 1) (N := 10) (T := TX0) rfl ixX0 tyX0_ok wd_59 wd_60 wd_5 (fs := [.int 0, .null, .int 0, .int 0, .int 0, .int 0, .int 0, .int 0, .int 0, .int 0]) (fun j hj => by match j, hj with | 0, _ => rfl | 1, _ => rfl | 2, _ => rfl | 3, _ => rfl | 4, _ => rfl | 5, _ => rfl | 6, _ => rfl | 7, _ => rfl | 8, _ => rfl | 9, _ => rfl) (Nat.le_of_ble_eq_true rfl) (Nat.le_of_ble_eq_true rfl) dX10_init_70 (fun q28 H hq28 hH => ?_)
  obtain ⟨L, f, hX, hH⟩ : ∃ (L' : List Nat) (f' : Nat → va_E), FX L0 f0 a L' f' [(a, .inr (10, [.ref q1, .ref q6, .ref q11, .ref q16, .ref q21, .null, .null, .null, .null, .null, .null, .int 0, .int 0])), (q1, .inr (0, [.int 0, .ref (E 0), .int 0])), (q6, .inr (0, [.int 0, .ref (E 0), .int 0])), (q11, .inr (0, [.int 0, .ref (E 0), .int 0])), (q16, .inr (0, [.int 0, .ref (E 0), .int 0])), (q21, .inr (0, [.int 0, .ref (E 0), .int 0])), (q28, .inr (1, [.int 0, .null, .int 0, .int 0, .int 0, .int 0, .int 0, .int 0, .int 0, .int 0]))] ∧ PH D A s.heap L' f' H locs := ⟨_, _, hX.new hq28, hH⟩
  refine lv_dup hx hb dX10_init_73 rfl ?_
  refine lv_iload_n hx hb dX10_init_74 rfl (lv_at hl 0 rfl) ?_
  obtain ⟨m29, v30⟩ := hX.2.2.1 6 _ _ rfl
  refine pcIv C hH [.int 0] (c_I_Fel l D Z E L f (0) m29 v30) (cwTI 1 hts wd_61 wd_62 wd_5 wd_63 rfl rfl rfl (by decide +kernel) ⟨(Nat.le_of_ble_eq_true rfl), (Nat.le_of_ble_eq_true rfl)⟩) rfl hl.1 rfl (Nat.le_of_ble_eq_true rfl) dX10_init_75 ⟨(Nat.le_of_ble_eq_true rfl), (Nat.le_of_ble_eq_true rfl)⟩ (fun u H locs hu hH => ?_)
  obtain ⟨q31, hu⟩ := hu
  obtain ⟨L, f, hX, hH⟩ : ∃ (L' : List Nat) (f' : Nat → va_E), FX L0 f0 a L' f' [(a, .inr (10, [.ref q1, .ref q6, .ref q11, .ref q16, .ref q21, .null, .null, .null, .null, .null, .null, .int 0, .int 0])), (q1, .inr (0, [.int 0, .ref (E 0), .int 0])), (q6, .inr (0, [.int 0, .ref (E 0), .int 0])), (q11, .inr (0, [.int 0, .ref (E 0), .int 0])), (q16, .inr (0, [.int 0, .ref (E 0), .int 0])), (q21, .inr (0, [.int 0, .ref (E 0), .int 0])), (q28, .inr (1, [.int 0, .ref q31, .int 0, .int 0, .int 0, .int 0, .int 0, .int 0, .int 0, .int 0])), (q31, .inr (0, [.int 0, .ref (E 0), .int 0]))] ∧ PH D A s.heap L' f' H locs := ⟨_, _, hX.call (i := 6) rfl hu, hH⟩
  obtain ⟨m32, v33⟩ := hX.2.2.1 5 _ _ rfl
  refine pcVi C hH (precv C hH m32 v33 (q := (RJx4a65c, TJx4a65c, 3)) rfl) [.ref q28] (c_P_add l D Z E L f (d := E 0) (n := 0) (cap := 0) (v := q28) (row := fun _ => none) m32 v33 (fun _ => ⟨rfl, rfl⟩) (fun q => absurd rfl q) (by decide) (fun _ h => absurd h (Nat.not_lt_zero _)) (hX.okE (i := 6) rfl (by decide) (by decide))) (cwTV 1 hts wd_103 wd_104 wd_105 wd_4 wd_106 rfl rfl (by decide +kernel) ⟨Nat.le_of_ble_eq_true rfl, Nat.le_of_ble_eq_true rfl⟩) rfl hl.1 rfl (Nat.le_of_ble_eq_true rfl) dX10_init_78 ⟨(Nat.le_of_ble_eq_true rfl), (Nat.le_of_ble_eq_true rfl)⟩ (fun r u H locs hu hH => ?_)
  obtain ⟨rfl, d34, N, row35, g1, g2, g3, g4, g5, g6, g7, g8, g9, g10⟩ := hu
  obtain rfl : N = 10 := g6.trans (by decide)
  obtain ⟨L, f, hX, hH⟩ : ∃ (L' : List Nat) (f' : Nat → va_E), FX L0 f0 a L' f' [(a, .inr (10, [.ref q1, .ref q6, .ref q11, .ref q16, .ref q21, .null, .null, .null, .null, .null, .null, .int 0, .int 0])), (q1, .inr (0, [.int 0, .ref (E 0), .int 0])), (q6, .inr (0, [.int 0, .ref (E 0), .int 0])), (q11, .inr (0, [.int 0, .ref (E 0), .int 0])), (q16, .inr (0, [.int 0, .ref (E 0), .int 0])), (q21, .inr (0, [.int (0 + 1), .ref d34, .int (nI (0 + 1))])), (q28, .inr (1, [.int 0, .ref q31, .int 0, .int 0, .int 0, .int 0, .int 0, .int 0, .int 0, .int 0])), (q31, .inr (0, [.int 0, .ref (E 0), .int 0])), (d34, cRow Z 10 row35)] ∧ PH D A s.heap L' f' H locs := ⟨_, _, hX.add0 (i := 5) rfl g1 (fun x hx hxb => g2 x hx hxb (fun q => absurd rfl q)) g3 g4 g5 (g10.resolve_left (fun q => q.2 rfl)), hH⟩
  have rr36 := g9
  refine lv_pop hx hb dX10_init_81 rfl ?_
  refine lv_iinc (v := 1) (lv' := [(1, .int 1), (0, .ref a)]) hx hb dX10_init_82 hl (k := 0) rfl (by decide) (by decide) rfl (fun ls hl => ?_)
  refine lv_goto (tgt := 61) hx hb dX10_init_85 (by decide) ?_
  refine lv_iload_n hx hb dX10_init_61 rfl (lv_at hl 0 rfl) ?_
  refine lv_iconst (v := 4) hx hb dX10_init_62 (by decide) ?_
  refine lv_icmp_ge (tgt := 88) hx hb dX10_init_63 (by decide) (fun q => absurd q (by decide)) (fun _ => ?_)
  refine lv_aload_n hx hb dX10_init_66 rfl (lv_at hl 1 rfl) ?_
  obtain ⟨m37, v38⟩ := hX.2.2.1 0 _ _ rfl
  refine pg C hH m37 v38 (T := TX10) (N := 13) rfl ixX10 4 (by decide) rfl wd_240 (fun _ h => h) rfl dX10_init_67 ?_
  refine pnewo C hH (ci := 1) (N := 10) (T := TX0) rfl ixX0 tyX0_ok wd_59 wd_60 wd_5 (fs := [.int 0, .null, .int 0, .int 0, .int 0, .int 0, .int 0, .int 0, .int 0, .int 0]) (fun j hj => by match j, hj with | 0, _ => rfl | 1, _ => rfl | 2, _ => rfl | 3, _ => rfl | 4, _ => rfl | 5, _ => rfl | 6, _ => rfl | 7, _ => rfl | 8, _ => rfl | 9, _ => rfl) (Nat.le_of_ble_eq_true rfl) (Nat.le_of_ble_eq_true rfl) dX10_init_70 (fun q39 H hq39 hH => ?_)
  obtain ⟨L, f, hX, hH⟩ : ∃ (L' : List Nat) (f' : Nat → va_E), FX L0 f0 a L' f' [(a, .inr (10, [.ref q1, .ref q6, .ref q11, .ref q16, .ref q21, .null, .null, .null, .null, .null, .null, .int 0, .int 0])), (q1, .inr (0, [.int 0, .ref (E 0), .int 0])), (q6, .inr (0, [.int 0, .ref (E 0), .int 0])), (q11, .inr (0, [.int 0, .ref (E 0), .int 0])), (q16, .inr (0, [.int 0, .ref (E 0), .int 0])), (q21, .inr (0, [.int (0 + 1), .ref d34, .int (nI (0 + 1))])), (q28, .inr (1, [.int 0, .ref q31, .int 0, .int 0, .int 0, .int 0, .int 0, .int 0, .int 0, .int 0])), (q31, .inr (0, [.int 0, .ref (E 0), .int 0])), (d34, cRow Z 10 row35), (q39, .inr (1, [.int 0, .null, .int 0, .int 0, .int 0, .int 0, .int 0, .int 0, .int 0, .int 0]))] ∧ PH D A s.heap L' f' H locs := ⟨_, _, hX.new hq39, hH⟩
  refine lv_dup hx hb dX10_init_73 rfl ?_
  refine lv_iload_n hx hb dX10_init_74 rfl (lv_at hl 0 rfl) ?_
  obtain ⟨m40, v41⟩ := hX.2.2.1 9 _ _ rfl
  refine pcIv C hH [.int 1] (c_I_Fel l D Z E L f (1) m40 v41) (cwTI 1 hts wd_61 wd_62 wd_5 wd_63 rfl rfl rfl (by decide +kernel) ⟨(Nat.le_of_ble_eq_true rfl), (Nat.le_of_ble_eq_true rfl)⟩) rfl hl.1 rfl (Nat.le_of_ble_eq_true rfl) dX10_init_75 ⟨(Nat.le_of_ble_eq_true rfl), (Nat.le_of_ble_eq_true rfl)⟩ (fun u H locs hu hH => ?_)
  obtain ⟨q42, hu⟩ := hu
  obtain ⟨L, f, hX, hH⟩ : ∃ (L' : List Nat) (f' : Nat → va_E), FX L0 f0 a L' f' [(a, .inr (10, [.ref q1, .ref q6, .ref q11, .ref q16, .ref q21, .null, .null, .null, .null, .null, .null, .int 0, .int 0])), (q1, .inr (0, [.int 0, .ref (E 0), .int 0])), (q6, .inr (0, [.int 0, .ref (E 0), .int 0])), (q11, .inr (0, [.int 0, .ref (E 0), .int 0])), (q16, .inr (0, [.int 0, .ref (E 0), .int 0])), (q21, .inr (0, [.int (0 + 1), .ref d34, .int (nI (0 + 1))])), (q28, .inr (1, [.int 0, .ref q31, .int 0, .int 0, .int 0, .int 0, .int 0, .int 0, .int 0, .int 0])), (q31, .inr (0, [.int 0, .ref (E 0), .int 0])), (d34, cRow Z 10 row35), (q39, .inr (1, [.int 1, .ref q42, .int 0, .int 0, .int 0, .int 0, .int 0, .int 0, .int 0, .int 0])), (q42, .inr (0, [.int 0, .ref (E 0), .int 0]))] ∧ PH D A s.heap L' f' H locs := ⟨_, _, hX.call (i := 9) rfl hu, hH⟩
  obtain ⟨m43, v44⟩ := hX.2.2.1 5 _ _ rfl
  obtain ⟨m47, v48⟩ := hX.2.2.1 8 _ _ rfl
  refine pcVi C hH (precv C hH m43 v44 (q := (RJx4a65c, TJx4a65c, 3)) rfl) [.ref q39] (c_P_add l D Z E L f (d := d34) (n := 1) (cap := 10) (v := q39) (row := row35) m43 v44 (fun q => absurd q (by decide)) (fun _ => ⟨m47, v48, by decide⟩) (by decide) (fun z hz y hy => by match z, hz with | 0, _ => rw [rr36] at hy; cases hy; exact hX.okE (i := 6) rfl (by decide) (by decide) | z + 1, hz => exact absurd hz (by omega)) (hX.okE (i := 9) rfl (by decide) (by decide))) (cwTV 1 hts wd_103 wd_104 wd_105 wd_4 wd_106 rfl rfl (by decide +kernel) ⟨Nat.le_of_ble_eq_true rfl, Nat.le_of_ble_eq_true rfl⟩) rfl hl.1 rfl (Nat.le_of_ble_eq_true rfl) dX10_init_78 ⟨(Nat.le_of_ble_eq_true rfl), (Nat.le_of_ble_eq_true rfl)⟩ (fun r u H locs hu hH => ?_)
  obtain ⟨rfl, d45, N, row46, g1, g2, g3, g4, g5, g6, g7, g8, g9, g10⟩ := hu
  obtain rfl : N = 10 := g6.trans (by decide)
  obtain ⟨L, f, hX, hH⟩ : ∃ (L' : List Nat) (f' : Nat → va_E), FX L0 f0 a L' f' [(a, .inr (10, [.ref q1, .ref q6, .ref q11, .ref q16, .ref q21, .null, .null, .null, .null, .null, .null, .int 0, .int 0])), (q1, .inr (0, [.int 0, .ref (E 0), .int 0])), (q6, .inr (0, [.int 0, .ref (E 0), .int 0])), (q11, .inr (0, [.int 0, .ref (E 0), .int 0])), (q16, .inr (0, [.int 0, .ref (E 0), .int 0])), (q21, .inr (0, [.int ((0 + 1) + 1), .ref d45, .int (nI (1 + 1))])), (q28, .inr (1, [.int 0, .ref q31, .int 0, .int 0, .int 0, .int 0, .int 0, .int 0, .int 0, .int 0])), (q31, .inr (0, [.int 0, .ref (E 0), .int 0])), (d45, cRow Z 10 row46), (q39, .inr (1, [.int 1, .ref q42, .int 0, .int 0, .int 0, .int 0, .int 0, .int 0, .int 0, .int 0])), (q42, .inr (0, [.int 0, .ref (E 0), .int 0]))] ∧ PH D A s.heap L' f' H locs := ⟨_, _, hX.add1 (i := 5) (k := 8) rfl rfl (by decide) (hX.ne (i := 8) (j := 0) rfl rfl (by decide)) g1 (fun x hx h1 h2 => g2 x hx h1 (fun _ => h2)) g3 g4 g5 (g10.imp And.left id), hH⟩
  have rr49 := (g8 0 (by decide)).trans rr36
  have rr50 := g9
  refine lv_pop hx hb dX10_init_81 rfl ?_
  refine lv_iinc (v := 2) (lv' := [(1, .int 2), (0, .ref a)]) hx hb dX10_init_82 hl (k := 0) rfl (by decide) (by decide) rfl (fun ls hl => ?_)
  refine lv_goto (tgt := 61) hx hb dX10_init_85 (by decide) ?_
  refine lv_iload_n hx hb dX10_init_61 rfl (lv_at hl 0 rfl) ?_
  refine lv_iconst (v := 4) hx hb dX10_init_62 (by decide) ?_
  refine lv_icmp_ge (tgt := 88) hx hb dX10_init_63 (by decide) (fun q => absurd q (by decide)) (fun _ => ?_)
  refine lv_aload_n hx hb dX10_init_66 rfl (lv_at hl 1 rfl) ?_
  obtain ⟨m51, v52⟩ := hX.2.2.1 0 _ _ rfl
  refine pg C hH m51 v52 (T := TX10) (N := 13) rfl ixX10 4 (by decide) rfl wd_240 (fun _ h => h) rfl dX10_init_67 ?_
  refine pnewo C hH (ci := 1) (N := 10) (T := TX0) rfl ixX0 tyX0_ok wd_59 wd_60 wd_5 (fs := [.int 0, .null, .int 0, .int 0, .int 0, .int 0, .int 0, .int 0, .int 0, .int 0]) (fun j hj => by match j, hj with | 0, _ => rfl | 1, _ => rfl | 2, _ => rfl | 3, _ => rfl | 4, _ => rfl | 5, _ => rfl | 6, _ => rfl | 7, _ => rfl | 8, _ => rfl | 9, _ => rfl) (Nat.le_of_ble_eq_true rfl) (Nat.le_of_ble_eq_true rfl) dX10_init_70 (fun q53 H hq53 hH => ?_)
  obtain ⟨L, f, hX, hH⟩ : ∃ (L' : List Nat) (f' : Nat → va_E), FX L0 f0 a L' f' [(a, .inr (10, [.ref q1, .ref q6, .ref q11, .ref q16, .ref q21, .null, .null, .null, .null, .null, .null, .int 0, .int 0])), (q1, .inr (0, [.int 0, .ref (E 0), .int 0])), (q6, .inr (0, [.int 0, .ref (E 0), .int 0])), (q11, .inr (0, [.int 0, .ref (E 0), .int 0])), (q16, .inr (0, [.int 0, .ref (E 0), .int 0])), (q21, .inr (0, [.int ((0 + 1) + 1), .ref d45, .int (nI (1 + 1))])), (q28, .inr (1, [.int 0, .ref q31, .int 0, .int 0, .int 0, .int 0, .int 0, .int 0, .int 0, .int 0])), (q31, .inr (0, [.int 0, .ref (E 0), .int 0])), (d45, cRow Z 10 row46), (q39, .inr (1, [.int 1, .ref q42, .int 0, .int 0, .int 0, .int 0, .int 0, .int 0, .int 0, .int 0])), (q42, .inr (0, [.int 0, .ref (E 0), .int 0])), (q53, .inr (1, [.int 0, .null, .int 0, .int 0, .int 0, .int 0, .int 0, .int 0, .int 0, .int 0]))] ∧ PH D A s.heap L' f' H locs := ⟨_, _, hX.new hq53, hH⟩
  refine lv_dup hx hb dX10_init_73 rfl ?_
  refine lv_iload_n hx hb dX10_init_74 rfl (lv_at hl 0 rfl) ?_
  obtain ⟨m54, v55⟩ := hX.2.2.1 11 _ _ rfl
  refine pcIv C hH [.int 2] (c_I_Fel l D Z E L f (2) m54 v55) (cwTI 1 hts wd_61 wd_62 wd_5 wd_63 rfl rfl rfl (by decide +kernel) ⟨(Nat.le_of_ble_eq_true rfl), (Nat.le_of_ble_eq_true rfl)⟩) rfl hl.1 rfl (Nat.le_of_ble_eq_true rfl) dX10_init_75 ⟨(Nat.le_of_ble_eq_true rfl), (Nat.le_of_ble_eq_true rfl)⟩ (fun u H locs hu hH => ?_)
  obtain ⟨q56, hu⟩ := hu
  obtain ⟨L, f, hX, hH⟩ : ∃ (L' : List Nat) (f' : Nat → va_E), FX L0 f0 a L' f' [(a, .inr (10, [.ref q1, .ref q6, .ref q11, .ref q16, .ref q21, .null, .null, .null, .null, .null, .null, .int 0, .int 0])), (q1, .inr (0, [.int 0, .ref (E 0), .int 0])), (q6, .inr (0, [.int 0, .ref (E 0), .int 0])), (q11, .inr (0, [.int 0, .ref (E 0), .int 0])), (q16, .inr (0, [.int 0, .ref (E 0), .int 0])), (q21, .inr (0, [.int ((0 + 1) + 1), .ref d45, .int (nI (1 + 1))])), (q28, .inr (1, [.int 0, .ref q31, .int 0, .int 0, .int 0, .int 0, .int 0, .int 0, .int 0, .int 0])), (q31, .inr (0, [.int 0, .ref (E 0), .int 0])), (d45, cRow Z 10 row46), (q39, .inr (1, [.int 1, .ref q42, .int 0, .int 0, .int 0, .int 0, .int 0, .int 0, .int 0, .int 0])), (q42, .inr (0, [.int 0, .ref (E 0), .int 0])), (q53, .inr (1, [.int 2, .ref q56, .int 0, .int 0, .int 0, .int 0, .int 0, .int 0, .int 0, .int 0])), (q56, .inr (0, [.int 0, .ref (E 0), .int 0]))] ∧ PH D A s.heap L' f' H locs := ⟨_, _, hX.call (i := 11) rfl hu, hH⟩
  obtain ⟨m57, v58⟩ := hX.2.2.1 5 _ _ rfl
  obtain ⟨m61, v62⟩ := hX.2.2.1 8 _ _ rfl
  refine pcVi C hH (precv C hH m57 v58 (q := (RJx4a65c, TJx4a65c, 3)) rfl) [.ref q53] (c_P_add l D Z E L f (d := d45) (n := 2) (cap := 10) (v := q53) (row := row46) m57 v58 (fun q => absurd q (by decide)) (fun _ => ⟨m61, v62, by decide⟩) (by decide) (fun z hz y hy => by match z, hz with | 0, _ => rw [rr49] at hy; cases hy; exact hX.okE (i := 6) rfl (by decide) (by decide) | 1, _ => rw [rr50] at hy; cases hy; exact hX.okE (i := 9) rfl (by decide) (by decide) | z + 2, hz => exact absurd hz (by omega)) (hX.okE (i := 11) rfl (by decide) (by decide))) (cwTV 1 hts wd_103 wd_104 wd_105 wd_4 wd_106 rfl rfl (by decide +kernel) ⟨Nat.le_of_ble_eq_true rfl, Nat.le_of_ble_eq_true rfl⟩) rfl hl.1 rfl (Nat.le_of_ble_eq_true rfl) dX10_init_78 ⟨(Nat.le_of_ble_eq_true rfl), (Nat.le_of_ble_eq_true rfl)⟩ (fun r u H locs hu hH => ?_)
  obtain ⟨rfl, d59, N, row60, g1, g2, g3, g4, g5, g6, g7, g8, g9, g10⟩ := hu
  obtain rfl : N = 10 := g6.trans (by decide)
  obtain ⟨L, f, hX, hH⟩ : ∃ (L' : List Nat) (f' : Nat → va_E), FX L0 f0 a L' f' [(a, .inr (10, [.ref q1, .ref q6, .ref q11, .ref q16, .ref q21, .null, .null, .null, .null, .null, .null, .int 0, .int 0])), (q1, .inr (0, [.int 0, .ref (E 0), .int 0])), (q6, .inr (0, [.int 0, .ref (E 0), .int 0])), (q11, .inr (0, [.int 0, .ref (E 0), .int 0])), (q16, .inr (0, [.int 0, .ref (E 0), .int 0])), (q21, .inr (0, [.int (((0 + 1) + 1) + 1), .ref d59, .int (nI (2 + 1))])), (q28, .inr (1, [.int 0, .ref q31, .int 0, .int 0, .int 0, .int 0, .int 0, .int 0, .int 0, .int 0])), (q31, .inr (0, [.int 0, .ref (E 0), .int 0])), (d59, cRow Z 10 row60), (q39, .inr (1, [.int 1, .ref q42, .int 0, .int 0, .int 0, .int 0, .int 0, .int 0, .int 0, .int 0])), (q42, .inr (0, [.int 0, .ref (E 0), .int 0])), (q53, .inr (1, [.int 2, .ref q56, .int 0, .int 0, .int 0, .int 0, .int 0, .int 0, .int 0, .int 0])), (q56, .inr (0, [.int 0, .ref (E 0), .int 0]))] ∧ PH D A s.heap L' f' H locs := ⟨_, _, hX.add1 (i := 5) (k := 8) rfl rfl (by decide) (hX.ne (i := 8) (j := 0) rfl rfl (by decide)) g1 (fun x hx h1 h2 => g2 x hx h1 (fun _ => h2)) g3 g4 g5 (g10.imp And.left id), hH⟩
  have rr63 := (g8 0 (by decide)).trans rr49
  have rr64 := (g8 1 (by decide)).trans rr50
  have rr65 := g9
  refine lv_pop hx hb dX10_init_81 rfl ?_
  refine lv_iinc (v := 3) (lv' := [(1, .int 3), (0, .ref a)]) hx hb dX10_init_82 hl (k := 0) rfl (by decide) (by decide) rfl (fun ls hl => ?_)
  refine lv_goto (tgt := 61) hx hb dX10_init_85 (by decide) ?_
  refine lv_iload_n hx hb dX10_init_61 rfl (lv_at hl 0 rfl) ?_
  refine lv_iconst (v := 4) hx hb dX10_init_62 (by decide) ?_
  refine lv_icmp_ge (tgt := 88) hx hb dX10_init_63 (by decide) (fun q => absurd q (by decide)) (fun _ => ?_)
  refine lv_aload_n hx hb dX10_init_66 rfl (lv_at hl 1 rfl) ?_
  obtain ⟨m66, v67⟩ := hX.2.2.1 0 _ _ rfl
  refine pg C hH m66 v67 (T := TX10) (N := 13) rfl ixX10 4 (by decide) rfl wd_240 (fun _ h => h) rfl dX10_init_67 ?_
  refine pnewo C hH (ci := 1) (N := 10) (T := TX0) rfl ixX0 tyX0_ok wd_59 wd_60 wd_5 (fs := [.int 0, .null, .int 0, .int 0, .int 0, .int 0, .int 0, .int 0, .int 0, .int 0]) (fun j hj => by match j, hj with | 0, _ => rfl | 1, _ => rfl | 2, _ => rfl | 3, _ => rfl | 4, _ => rfl | 5, _ => rfl | 6, _ => rfl | 7, _ => rfl | 8, _ => rfl | 9, _ => rfl) (Nat.le_of_ble_eq_true rfl) (Nat.le_of_ble_eq_true rfl) dX10_init_70 (fun q68 H hq68 hH => ?_)
  obtain ⟨L, f, hX, hH⟩ : ∃ (L' : List Nat) (f' : Nat → va_E), FX L0 f0 a L' f' [(a, .inr (10, [.ref q1, .ref q6, .ref q11, .ref q16, .ref q21, .null, .null, .null, .null, .null, .null, .int 0, .int 0])), (q1, .inr (0, [.int 0, .ref (E 0), .int 0])), (q6, .inr (0, [.int 0, .ref (E 0), .int 0])), (q11, .inr (0, [.int 0, .ref (E 0), .int 0])), (q16, .inr (0, [.int 0, .ref (E 0), .int 0])), (q21, .inr (0, [.int (((0 + 1) + 1) + 1), .ref d59, .int (nI (2 + 1))])), (q28, .inr (1, [.int 0, .ref q31, .int 0, .int 0, .int 0, .int 0, .int 0, .int 0, .int 0, .int 0])), (q31, .inr (0, [.int 0, .ref (E 0), .int 0])), (d59, cRow Z 10 row60), (q39, .inr (1, [.int 1, .ref q42, .int 0, .int 0, .int 0, .int 0, .int 0, .int 0, .int 0, .int 0])), (q42, .inr (0, [.int 0, .ref (E 0), .int 0])), (q53, .inr (1, [.int 2, .ref q56, .int 0, .int 0, .int 0, .int 0, .int 0, .int 0, .int 0, .int 0])), (q56, .inr (0, [.int 0, .ref (E 0), .int 0])), (q68, .inr (1, [.int 0, .null, .int 0, .int 0, .int 0, .int 0, .int 0, .int 0, .int 0, .int 0]))] ∧ PH D A s.heap L' f' H locs := ⟨_, _, hX.new hq68, hH⟩
  refine lv_dup hx hb dX10_init_73 rfl ?_
  refine lv_iload_n hx hb dX10_init_74 rfl (lv_at hl 0 rfl) ?_
  obtain ⟨m69, v70⟩ := hX.2.2.1 13 _ _ rfl
  refine pcIv C hH [.int 3] (c_I_Fel l D Z E L f (3) m69 v70) (cwTI 1 hts wd_61 wd_62 wd_5 wd_63 rfl rfl rfl (by decide +kernel) ⟨(Nat.le_of_ble_eq_true rfl), (Nat.le_of_ble_eq_true rfl)⟩) rfl hl.1 rfl (Nat.le_of_ble_eq_true rfl) dX10_init_75 ⟨(Nat.le_of_ble_eq_true rfl), (Nat.le_of_ble_eq_true rfl)⟩ (fun u H locs hu hH => ?_)
  obtain ⟨q71, hu⟩ := hu
  obtain ⟨L, f, hX, hH⟩ : ∃ (L' : List Nat) (f' : Nat → va_E), FX L0 f0 a L' f' [(a, .inr (10, [.ref q1, .ref q6, .ref q11, .ref q16, .ref q21, .null, .null, .null, .null, .null, .null, .int 0, .int 0])), (q1, .inr (0, [.int 0, .ref (E 0), .int 0])), (q6, .inr (0, [.int 0, .ref (E 0), .int 0])), (q11, .inr (0, [.int 0, .ref (E 0), .int 0])), (q16, .inr (0, [.int 0, .ref (E 0), .int 0])), (q21, .inr (0, [.int (((0 + 1) + 1) + 1), .ref d59, .int (nI (2 + 1))])), (q28, .inr (1, [.int 0, .ref q31, .int 0, .int 0, .int 0, .int 0, .int 0, .int 0, .int 0, .int 0])), (q31, .inr (0, [.int 0, .ref (E 0), .int 0])), (d59, cRow Z 10 row60), (q39, .inr (1, [.int 1, .ref q42, .int 0, .int 0, .int 0, .int 0, .int 0, .int 0, .int 0, .int 0])), (q42, .inr (0, [.int 0, .ref (E 0), .int 0])), (q53, .inr (1, [.int 2, .ref q56, .int 0, .int 0, .int 0, .int 0, .int 0, .int 0, .int 0, .int 0])), (q56, .inr (0, [.int 0, .ref (E 0), .int 0])), (q68, .inr (1, [.int 3, .ref q71, .int 0, .int 0, .int 0, .int 0, .int 0, .int 0, .int 0, .int 0])), (q71, .inr (0, [.int 0, .ref (E 0), .int 0]))] ∧ PH D A s.heap L' f' H locs := ⟨_, _, hX.call (i := 13) rfl hu, hH⟩
  obtain ⟨m72, v73⟩ := hX.2.2.1 5 _ _ rfl
  obtain ⟨m76, v77⟩ := hX.2.2.1 8 _ _ rfl
  refine pcVi C hH (precv C hH m72 v73 (q := (RJx4a65c, TJx4a65c, 3)) rfl) [.ref q68] (c_P_add l D Z E L f (d := d59) (n := 3) (cap := 10) (v := q68) (row := row60) m72 v73 (fun q => absurd q (by decide)) (fun _ => ⟨m76, v77, by decide⟩) (by decide) (fun z hz y hy => by match z, hz with | 0, _ => rw [rr63] at hy; cases hy; exact hX.okE (i := 6) rfl (by decide) (by decide) | 1, _ => rw [rr64] at hy; cases hy; exact hX.okE (i := 9) rfl (by decide) (by decide) | 2, _ => rw [rr65] at hy; cases hy; exact hX.okE (i := 11) rfl (by decide) (by decide) | z + 3, hz => exact absurd hz (by omega)) (hX.okE (i := 13) rfl (by decide) (by decide))) (cwTV 1 hts wd_103 wd_104 wd_105 wd_4 wd_106 rfl rfl (by decide +kernel) ⟨Nat.le_of_ble_eq_true rfl, Nat.le_of_ble_eq_true rfl⟩) rfl hl.1 rfl (Nat.le_of_ble_eq_true rfl) dX10_init_78 ⟨(Nat.le_of_ble_eq_true rfl), (Nat.le_of_ble_eq_true rfl)⟩ (fun r u H locs hu hH => ?_)
  obtain ⟨rfl, d74, N, row75, g1, g2, g3, g4, g5, g6, g7, g8, g9, g10⟩ := hu
  obtain rfl : N = 10 := g6.trans (by decide)
  obtain ⟨L, f, hX, hH⟩ : ∃ (L' : List Nat) (f' : Nat → va_E), FX L0 f0 a L' f' [(a, .inr (10, [.ref q1, .ref q6, .ref q11, .ref q16, .ref q21, .null, .null, .null, .null, .null, .null, .int 0, .int 0])), (q1, .inr (0, [.int 0, .ref (E 0), .int 0])), (q6, .inr (0, [.int 0, .ref (E 0), .int 0])), (q11, .inr (0, [.int 0, .ref (E 0), .int 0])), (q16, .inr (0, [.int 0, .ref (E 0), .int 0])), (q21, .inr (0, [.int ((((0 + 1) + 1) + 1) + 1), .ref d74, .int (nI (3 + 1))])), (q28, .inr (1, [.int 0, .ref q31, .int 0, .int 0, .int 0, .int 0, .int 0, .int 0, .int 0, .int 0])), (q31, .inr (0, [.int 0, .ref (E 0), .int 0])), (d74, cRow Z 10 row75), (q39, .inr (1, [.int 1, .ref q42, .int 0, .int 0, .int 0, .int 0, .int 0, .int 0, .int 0, .int 0])), (q42, .inr (0, [.int 0, .ref (E 0), .int 0])), (q53, .inr (1, [.int 2, .ref q56, .int 0, .int 0, .int 0, .int 0, .int 0, .int 0, .int 0, .int 0])), (q56, .inr (0, [.int 0, .ref (E 0), .int 0])), (q68, .inr (1, [.int 3, .ref q71, .int 0, .int 0, .int 0, .int 0, .int 0, .int 0, .int 0, .int 0])), (q71, .inr (0, [.int 0, .ref (E 0), .int 0]))] ∧ PH D A s.heap L' f' H locs := ⟨_, _, hX.add1 (i := 5) (k := 8) rfl rfl (by decide) (hX.ne (i := 8) (j := 0) rfl rfl (by decide)) g1 (fun x hx h1 h2 => g2 x hx h1 (fun _ => h2)) g3 g4 g5 (g10.imp And.left id), hH⟩
  have rr78 := (g8 0 (by decide)).trans rr63
  have rr79 := (g8 1 (by decide)).trans rr64
  have rr80 := (g8 2 (by decide)).trans rr65
  have rr81 := g9
  refine lv_pop hx hb dX10_init_81 rfl ?_
  refine lv_iinc (v := 4) (lv' := [(1, .int 4), (0, .ref a)]) hx hb dX10_init_82 hl (k := 0) rfl (by decide) (by decide) rfl (fun ls hl => ?_)
  refine lv_goto (tgt := 61) hx hb dX10_init_85 (by decide) ?_
  refine lv_iload_n hx hb dX10_init_61 rfl (lv_at hl 0 rfl) ?_
  refine lv_iconst (v := 4) hx hb dX10_init_62 (by decide) ?_
  refine lv_icmp_ge (tgt := 88) hx hb dX10_init_63 (by decide) (fun _ => ?_) (fun q => absurd (by decide) q)
  refine lv_aload_n hx hb dX10_init_88 rfl (lv_at hl 1 rfl) ?_
  refine pnewo C hH (ci := 8) (N := 3) (T := TX7) rfl ixX7 tyX7_ok wd_162 wd_163 wd_10 (fs := [.null, .null, .int 0]) (fun j hj => by match j, hj with | 0, _ => rfl | 1, _ => rfl | 2, _ => rfl) (Nat.le_of_ble_eq_true rfl) (Nat.le_of_ble_eq_true rfl) dX10_init_89 (fun q82 H hq82 hH => ?_)
  obtain ⟨L, f, hX, hH⟩ : ∃ (L' : List Nat) (f' : Nat → va_E), FX L0 f0 a L' f' [(a, .inr (10, [.ref q1, .ref q6, .ref q11, .ref q16, .ref q21, .null, .null, .null, .null, .null, .null, .int 0, .int 0])), (q1, .inr (0, [.int 0, .ref (E 0), .int 0])), (q6, .inr (0, [.int 0, .ref (E 0), .int 0])), (q11, .inr (0, [.int 0, .ref (E 0), .int 0])), (q16, .inr (0, [.int 0, .ref (E 0), .int 0])), (q21, .inr (0, [.int ((((0 + 1) + 1) + 1) + 1), .ref d74, .int (nI (3 + 1))])), (q28, .inr (1, [.int 0, .ref q31, .int 0, .int 0, .int 0, .int 0, .int 0, .int 0, .int 0, .int 0])), (q31, .inr (0, [.int 0, .ref (E 0), .int 0])), (d74, cRow Z 10 row75), (q39, .inr (1, [.int 1, .ref q42, .int 0, .int 0, .int 0, .int 0, .int 0, .int 0, .int 0, .int 0])), (q42, .inr (0, [.int 0, .ref (E 0), .int 0])), (q53, .inr (1, [.int 2, .ref q56, .int 0, .int 0, .int 0, .int 0, .int 0, .int 0, .int 0, .int 0])), (q56, .inr (0, [.int 0, .ref (E 0), .int 0])), (q68, .inr (1, [.int 3, .ref q71, .int 0, .int 0, .int 0, .int 0, .int 0, .int 0, .int 0, .int 0])), (q71, .inr (0, [.int 0, .ref (E 0), .int 0])), (q82, .inr (8, [.null, .null, .int 0]))] ∧ PH D A s.heap L' f' H locs := ⟨_, _, hX.new hq82, hH⟩
  refine lv_dup hx hb dX10_init_92 rfl ?_
  obtain ⟨m83, v84⟩ := hX.2.2.1 15 _ _ rfl
  refine pcIvN C hH [] (c_I_Sky l D Z E L f m83 v84) (⟨va_cnB (host := "PorterTurns") 0 hts (gCode wd_166) (ws' := TB) rfl rfl rfl hN.1 (hts _ wd_10) (by decide +kernel) ⟨(Nat.le_of_ble_eq_true rfl), (Nat.le_of_ble_eq_true rfl)⟩, rfl, hts _ wd_165⟩) rfl hl.1 rfl (Nat.le_of_ble_eq_true rfl) dX10_init_93 ⟨(Nat.le_of_ble_eq_true rfl), (Nat.le_of_ble_eq_true rfl)⟩ (fun u H locs hu hH => ?_)
  obtain ⟨q85, q86, hu⟩ := hu
  obtain ⟨L, f, hX, hH⟩ : ∃ (L' : List Nat) (f' : Nat → va_E), FX L0 f0 a L' f' [(a, .inr (10, [.ref q1, .ref q6, .ref q11, .ref q16, .ref q21, .null, .null, .null, .null, .null, .null, .int 0, .int 0])), (q1, .inr (0, [.int 0, .ref (E 0), .int 0])), (q6, .inr (0, [.int 0, .ref (E 0), .int 0])), (q11, .inr (0, [.int 0, .ref (E 0), .int 0])), (q16, .inr (0, [.int 0, .ref (E 0), .int 0])), (q21, .inr (0, [.int ((((0 + 1) + 1) + 1) + 1), .ref d74, .int (nI (3 + 1))])), (q28, .inr (1, [.int 0, .ref q31, .int 0, .int 0, .int 0, .int 0, .int 0, .int 0, .int 0, .int 0])), (q31, .inr (0, [.int 0, .ref (E 0), .int 0])), (d74, cRow Z 10 row75), (q39, .inr (1, [.int 1, .ref q42, .int 0, .int 0, .int 0, .int 0, .int 0, .int 0, .int 0, .int 0])), (q42, .inr (0, [.int 0, .ref (E 0), .int 0])), (q53, .inr (1, [.int 2, .ref q56, .int 0, .int 0, .int 0, .int 0, .int 0, .int 0, .int 0, .int 0])), (q56, .inr (0, [.int 0, .ref (E 0), .int 0])), (q68, .inr (1, [.int 3, .ref q71, .int 0, .int 0, .int 0, .int 0, .int 0, .int 0, .int 0, .int 0])), (q71, .inr (0, [.int 0, .ref (E 0), .int 0])), (q82, .inr (8, [.ref q85, .ref q86, .int 0])), (q85, zA Z 20), (q86, zA Z 20)] ∧ PH D A s.heap L' f' H locs := ⟨_, _, hX.call (i := 15) rfl hu, hH⟩
  obtain ⟨m87, v88⟩ := hX.2.2.1 0 _ _ rfl
  refine ppF C hnm hH m87 v88 (T := TX10) (N := 13) rfl ixX10 tyX10 tyX10_ok nmX10 5 (by decide) rfl wd_241 (ty := (.object "PorterTurns$Sky")) pfSky rfl rfl (Nat.le_of_ble_eq_true rfl) dX10_init_96 (fun H locs hH => ?_)
  obtain ⟨L, f, hX, hH⟩ : ∃ (L' : List Nat) (f' : Nat → va_E), FX L0 f0 a L' f' [(a, .inr (10, [.ref q1, .ref q6, .ref q11, .ref q16, .ref q21, .ref q82, .null, .null, .null, .null, .null, .int 0, .int 0])), (q1, .inr (0, [.int 0, .ref (E 0), .int 0])), (q6, .inr (0, [.int 0, .ref (E 0), .int 0])), (q11, .inr (0, [.int 0, .ref (E 0), .int 0])), (q16, .inr (0, [.int 0, .ref (E 0), .int 0])), (q21, .inr (0, [.int ((((0 + 1) + 1) + 1) + 1), .ref d74, .int (nI (3 + 1))])), (q28, .inr (1, [.int 0, .ref q31, .int 0, .int 0, .int 0, .int 0, .int 0, .int 0, .int 0, .int 0])), (q31, .inr (0, [.int 0, .ref (E 0), .int 0])), (d74, cRow Z 10 row75), (q39, .inr (1, [.int 1, .ref q42, .int 0, .int 0, .int 0, .int 0, .int 0, .int 0, .int 0, .int 0])), (q42, .inr (0, [.int 0, .ref (E 0), .int 0])), (q53, .inr (1, [.int 2, .ref q56, .int 0, .int 0, .int 0, .int 0, .int 0, .int 0, .int 0, .int 0])), (q56, .inr (0, [.int 0, .ref (E 0), .int 0])), (q68, .inr (1, [.int 3, .ref q71, .int 0, .int 0, .int 0, .int 0, .int 0, .int 0, .int 0, .int 0])), (q71, .inr (0, [.int 0, .ref (E 0), .int 0])), (q82, .inr (8, [.ref q85, .ref q86, .int 0])), (q85, zA Z 20), (q86, zA Z 20)] ∧ PH D A s.heap L' f' H locs := ⟨_, _, hX.set (i := 0) rfl, hH⟩
  refine lv_aload_n hx hb dX10_init_99 rfl (lv_at hl 1 rfl) ?_
  refine pnewo C hH (ci := 9) (N := 2) (T := TX8) rfl ixX8 tyX8_ok wd_180 wd_181 wd_11 (fs := [.null, .int 0]) (fun j hj => by match j, hj with | 0, _ => rfl | 1, _ => rfl) (Nat.le_of_ble_eq_true rfl) (Nat.le_of_ble_eq_true rfl) dX10_init_100 (fun q89 H hq89 hH => ?_)
  obtain ⟨L, f, hX, hH⟩ : ∃ (L' : List Nat) (f' : Nat → va_E), FX L0 f0 a L' f' [(a, .inr (10, [.ref q1, .ref q6, .ref q11, .ref q16, .ref q21, .ref q82, .null, .null, .null, .null, .null, .int 0, .int 0])), (q1, .inr (0, [.int 0, .ref (E 0), .int 0])), (q6, .inr (0, [.int 0, .ref (E 0), .int 0])), (q11, .inr (0, [.int 0, .ref (E 0), .int 0])), (q16, .inr (0, [.int 0, .ref (E 0), .int 0])), (q21, .inr (0, [.int ((((0 + 1) + 1) + 1) + 1), .ref d74, .int (nI (3 + 1))])), (q28, .inr (1, [.int 0, .ref q31, .int 0, .int 0, .int 0, .int 0, .int 0, .int 0, .int 0, .int 0])), (q31, .inr (0, [.int 0, .ref (E 0), .int 0])), (d74, cRow Z 10 row75), (q39, .inr (1, [.int 1, .ref q42, .int 0, .int 0, .int 0, .int 0, .int 0, .int 0, .int 0, .int 0])), (q42, .inr (0, [.int 0, .ref (E 0), .int 0])), (q53, .inr (1, [.int 2, .ref q56, .int 0, .int 0, .int 0, .int 0, .int 0, .int 0, .int 0, .int 0])), (q56, .inr (0, [.int 0, .ref (E 0), .int 0])), (q68, .inr (1, [.int 3, .ref q71, .int 0, .int 0, .int 0, .int 0, .int 0, .int 0, .int 0, .int 0])), (q71, .inr (0, [.int 0, .ref (E 0), .int 0])), (q82, .inr (8, [.ref q85, .ref q86, .int 0])), (q85, zA Z 20), (q86, zA Z 20), (q89, .inr (9, [.null, .int 0]))] ∧ PH D A s.heap L' f' H locs := ⟨_, _, hX.new hq89, hH⟩
  refine lv_dup hx hb dX10_init_103 rfl ?_
  obtain ⟨m90, v91⟩ := hX.2.2.1 18 _ _ rfl
  refine pcIvN C hH [] (c_I_Tape l D Z E L f m90 v91) (⟨va_cnB (host := "PorterTurns") 0 hts (gCode wd_184) (ws' := TB) rfl rfl rfl hN.2.1 (hts _ wd_11) (by decide +kernel) ⟨(Nat.le_of_ble_eq_true rfl), (Nat.le_of_ble_eq_true rfl)⟩, rfl, hts _ wd_183⟩) rfl hl.1 rfl (Nat.le_of_ble_eq_true rfl) dX10_init_104 ⟨(Nat.le_of_ble_eq_true rfl), (Nat.le_of_ble_eq_true rfl)⟩ (fun u H locs hu hH => ?_)
  obtain ⟨q92, hu⟩ := hu
  obtain ⟨L, f, hX, hH⟩ : ∃ (L' : List Nat) (f' : Nat → va_E), FX L0 f0 a L' f' [(a, .inr (10, [.ref q1, .ref q6, .ref q11, .ref q16, .ref q21, .ref q82, .null, .null, .null, .null, .null, .int 0, .int 0])), (q1, .inr (0, [.int 0, .ref (E 0), .int 0])), (q6, .inr (0, [.int 0, .ref (E 0), .int 0])), (q11, .inr (0, [.int 0, .ref (E 0), .int 0])), (q16, .inr (0, [.int 0, .ref (E 0), .int 0])), (q21, .inr (0, [.int ((((0 + 1) + 1) + 1) + 1), .ref d74, .int (nI (3 + 1))])), (q28, .inr (1, [.int 0, .ref q31, .int 0, .int 0, .int 0, .int 0, .int 0, .int 0, .int 0, .int 0])), (q31, .inr (0, [.int 0, .ref (E 0), .int 0])), (d74, cRow Z 10 row75), (q39, .inr (1, [.int 1, .ref q42, .int 0, .int 0, .int 0, .int 0, .int 0, .int 0, .int 0, .int 0])), (q42, .inr (0, [.int 0, .ref (E 0), .int 0])), (q53, .inr (1, [.int 2, .ref q56, .int 0, .int 0, .int 0, .int 0, .int 0, .int 0, .int 0, .int 0])), (q56, .inr (0, [.int 0, .ref (E 0), .int 0])), (q68, .inr (1, [.int 3, .ref q71, .int 0, .int 0, .int 0, .int 0, .int 0, .int 0, .int 0, .int 0])), (q71, .inr (0, [.int 0, .ref (E 0), .int 0])), (q82, .inr (8, [.ref q85, .ref q86, .int 0])), (q85, zA Z 20), (q86, zA Z 20), (q89, .inr (9, [.ref q92, .int 0])), (q92, zA Z 200)] ∧ PH D A s.heap L' f' H locs := ⟨_, _, hX.call (i := 18) rfl hu, hH⟩
  obtain ⟨m93, v94⟩ := hX.2.2.1 0 _ _ rfl
  refine ppF C hnm hH m93 v94 (T := TX10) (N := 13) rfl ixX10 tyX10 tyX10_ok nmX10 6 (by decide) rfl wd_242 (ty := (.object "PorterTurns$Tape")) pfTape rfl rfl (Nat.le_of_ble_eq_true rfl) dX10_init_107 (fun H locs hH => ?_)
  obtain ⟨L, f, hX, hH⟩ : ∃ (L' : List Nat) (f' : Nat → va_E), FX L0 f0 a L' f' [(a, .inr (10, [.ref q1, .ref q6, .ref q11, .ref q16, .ref q21, .ref q82, .ref q89, .null, .null, .null, .null, .int 0, .int 0])), (q1, .inr (0, [.int 0, .ref (E 0), .int 0])), (q6, .inr (0, [.int 0, .ref (E 0), .int 0])), (q11, .inr (0, [.int 0, .ref (E 0), .int 0])), (q16, .inr (0, [.int 0, .ref (E 0), .int 0])), (q21, .inr (0, [.int ((((0 + 1) + 1) + 1) + 1), .ref d74, .int (nI (3 + 1))])), (q28, .inr (1, [.int 0, .ref q31, .int 0, .int 0, .int 0, .int 0, .int 0, .int 0, .int 0, .int 0])), (q31, .inr (0, [.int 0, .ref (E 0), .int 0])), (d74, cRow Z 10 row75), (q39, .inr (1, [.int 1, .ref q42, .int 0, .int 0, .int 0, .int 0, .int 0, .int 0, .int 0, .int 0])), (q42, .inr (0, [.int 0, .ref (E 0), .int 0])), (q53, .inr (1, [.int 2, .ref q56, .int 0, .int 0, .int 0, .int 0, .int 0, .int 0, .int 0, .int 0])), (q56, .inr (0, [.int 0, .ref (E 0), .int 0])), (q68, .inr (1, [.int 3, .ref q71, .int 0, .int 0, .int 0, .int 0, .int 0, .int 0, .int 0, .int 0])), (q71, .inr (0, [.int 0, .ref (E 0), .int 0])), (q82, .inr (8, [.ref q85, .ref q86, .int 0])), (q85, zA Z 20), (q86, zA Z 20), (q89, .inr (9, [.ref q92, .int 0])), (q92, zA Z 200)] ∧ PH D A s.heap L' f' H locs := ⟨_, _, hX.set (i := 0) rfl, hH⟩
  refine lv_aload_n hx hb dX10_init_110 rfl (lv_at hl 1 rfl) ?_
  refine pnewo C hH (ci := 6) (N := 6) (T := TX5) rfl ixX5 tyX5_ok wd_195 wd_196 wd_12 (fs := [.null, .null, .null, .int 0, .int 0, .int 0]) (fun j hj => by match j, hj with | 0, _ => rfl | 1, _ => rfl | 2, _ => rfl | 3, _ => rfl | 4, _ => rfl | 5, _ => rfl) (Nat.le_of_ble_eq_true rfl) (Nat.le_of_ble_eq_true rfl) dX10_init_111 (fun q95 H hq95 hH => ?_)
  obtain ⟨L, f, hX, hH⟩ : ∃ (L' : List Nat) (f' : Nat → va_E), FX L0 f0 a L' f' [(a, .inr (10, [.ref q1, .ref q6, .ref q11, .ref q16, .ref q21, .ref q82, .ref q89, .null, .null, .null, .null, .int 0, .int 0])), (q1, .inr (0, [.int 0, .ref (E 0), .int 0])), (q6, .inr (0, [.int 0, .ref (E 0), .int 0])), (q11, .inr (0, [.int 0, .ref (E 0), .int 0])), (q16, .inr (0, [.int 0, .ref (E 0), .int 0])), (q21, .inr (0, [.int ((((0 + 1) + 1) + 1) + 1), .ref d74, .int (nI (3 + 1))])), (q28, .inr (1, [.int 0, .ref q31, .int 0, .int 0, .int 0, .int 0, .int 0, .int 0, .int 0, .int 0])), (q31, .inr (0, [.int 0, .ref (E 0), .int 0])), (d74, cRow Z 10 row75), (q39, .inr (1, [.int 1, .ref q42, .int 0, .int 0, .int 0, .int 0, .int 0, .int 0, .int 0, .int 0])), (q42, .inr (0, [.int 0, .ref (E 0), .int 0])), (q53, .inr (1, [.int 2, .ref q56, .int 0, .int 0, .int 0, .int 0, .int 0, .int 0, .int 0, .int 0])), (q56, .inr (0, [.int 0, .ref (E 0), .int 0])), (q68, .inr (1, [.int 3, .ref q71, .int 0, .int 0, .int 0, .int 0, .int 0, .int 0, .int 0, .int 0])), (q71, .inr (0, [.int 0, .ref (E 0), .int 0])), (q82, .inr (8, [.ref q85, .ref q86, .int 0])), (q85, zA Z 20), (q86, zA Z 20), (q89, .inr (9, [.ref q92, .int 0])), (q92, zA Z 200), (q95, .inr (6, [.null, .null, .null, .int 0, .int 0, .int 0]))] ∧ PH D A s.heap L' f' H locs := ⟨_, _, hX.new hq95, hH⟩
  refine lv_dup hx hb dX10_init_114 rfl ?_
  obtain ⟨m96, v97⟩ := hX.2.2.1 20 _ _ rfl
  refine pcIvN C hH [] (c_I_Reader l D Z E L f m96 v97) (⟨va_cnB (host := "PorterTurns") 0 hts (gCode wd_199) (ws' := TB) rfl rfl rfl hN.2.2.1 (hts _ wd_12) (by decide +kernel) ⟨(Nat.le_of_ble_eq_true rfl), (Nat.le_of_ble_eq_true rfl)⟩, rfl, hts _ wd_198⟩) rfl hl.1 rfl (Nat.le_of_ble_eq_true rfl) dX10_init_115 ⟨(Nat.le_of_ble_eq_true rfl), (Nat.le_of_ble_eq_true rfl)⟩ (fun u H locs hu hH => ?_)
  obtain ⟨q98, q99, q100, hu⟩ := hu
  obtain ⟨L, f, hX, hH⟩ : ∃ (L' : List Nat) (f' : Nat → va_E), FX L0 f0 a L' f' [(a, .inr (10, [.ref q1, .ref q6, .ref q11, .ref q16, .ref q21, .ref q82, .ref q89, .null, .null, .null, .null, .int 0, .int 0])), (q1, .inr (0, [.int 0, .ref (E 0), .int 0])), (q6, .inr (0, [.int 0, .ref (E 0), .int 0])), (q11, .inr (0, [.int 0, .ref (E 0), .int 0])), (q16, .inr (0, [.int 0, .ref (E 0), .int 0])), (q21, .inr (0, [.int ((((0 + 1) + 1) + 1) + 1), .ref d74, .int (nI (3 + 1))])), (q28, .inr (1, [.int 0, .ref q31, .int 0, .int 0, .int 0, .int 0, .int 0, .int 0, .int 0, .int 0])), (q31, .inr (0, [.int 0, .ref (E 0), .int 0])), (d74, cRow Z 10 row75), (q39, .inr (1, [.int 1, .ref q42, .int 0, .int 0, .int 0, .int 0, .int 0, .int 0, .int 0, .int 0])), (q42, .inr (0, [.int 0, .ref (E 0), .int 0])), (q53, .inr (1, [.int 2, .ref q56, .int 0, .int 0, .int 0, .int 0, .int 0, .int 0, .int 0, .int 0])), (q56, .inr (0, [.int 0, .ref (E 0), .int 0])), (q68, .inr (1, [.int 3, .ref q71, .int 0, .int 0, .int 0, .int 0, .int 0, .int 0, .int 0, .int 0])), (q71, .inr (0, [.int 0, .ref (E 0), .int 0])), (q82, .inr (8, [.ref q85, .ref q86, .int 0])), (q85, zA Z 20), (q86, zA Z 20), (q89, .inr (9, [.ref q92, .int 0])), (q92, zA Z 200), (q95, .inr (6, [.ref q98, .ref q99, .ref q100, .int 0, .int 0, .int 0])), (q98, zA Z 201), (q99, zA Z 201), (q100, zA Z 402)] ∧ PH D A s.heap L' f' H locs := ⟨_, _, hX.call (i := 20) rfl hu, hH⟩
  obtain ⟨m101, v102⟩ := hX.2.2.1 0 _ _ rfl
  refine ppF C hnm hH m101 v102 (T := TX10) (N := 13) rfl ixX10 tyX10 tyX10_ok nmX10 7 (by decide) rfl wd_243 (ty := (.object "PorterTurns$Reader")) pfReader rfl rfl (Nat.le_of_ble_eq_true rfl) dX10_init_118 (fun H locs hH => ?_)
  obtain ⟨L, f, hX, hH⟩ : ∃ (L' : List Nat) (f' : Nat → va_E), FX L0 f0 a L' f' [(a, .inr (10, [.ref q1, .ref q6, .ref q11, .ref q16, .ref q21, .ref q82, .ref q89, .ref q95, .null, .null, .null, .int 0, .int 0])), (q1, .inr (0, [.int 0, .ref (E 0), .int 0])), (q6, .inr (0, [.int 0, .ref (E 0), .int 0])), (q11, .inr (0, [.int 0, .ref (E 0), .int 0])), (q16, .inr (0, [.int 0, .ref (E 0), .int 0])), (q21, .inr (0, [.int ((((0 + 1) + 1) + 1) + 1), .ref d74, .int (nI (3 + 1))])), (q28, .inr (1, [.int 0, .ref q31, .int 0, .int 0, .int 0, .int 0, .int 0, .int 0, .int 0, .int 0])), (q31, .inr (0, [.int 0, .ref (E 0), .int 0])), (d74, cRow Z 10 row75), (q39, .inr (1, [.int 1, .ref q42, .int 0, .int 0, .int 0, .int 0, .int 0, .int 0, .int 0, .int 0])), (q42, .inr (0, [.int 0, .ref (E 0), .int 0])), (q53, .inr (1, [.int 2, .ref q56, .int 0, .int 0, .int 0, .int 0, .int 0, .int 0, .int 0, .int 0])), (q56, .inr (0, [.int 0, .ref (E 0), .int 0])), (q68, .inr (1, [.int 3, .ref q71, .int 0, .int 0, .int 0, .int 0, .int 0, .int 0, .int 0, .int 0])), (q71, .inr (0, [.int 0, .ref (E 0), .int 0])), (q82, .inr (8, [.ref q85, .ref q86, .int 0])), (q85, zA Z 20), (q86, zA Z 20), (q89, .inr (9, [.ref q92, .int 0])), (q92, zA Z 200), (q95, .inr (6, [.ref q98, .ref q99, .ref q100, .int 0, .int 0, .int 0])), (q98, zA Z 201), (q99, zA Z 201), (q100, zA Z 402)] ∧ PH D A s.heap L' f' H locs := ⟨_, _, hX.set (i := 0) rfl, hH⟩
  refine lv_aload_n hx hb dX10_init_121 rfl (lv_at hl 1 rfl) ?_
  refine pnewo C hH (ci := 7) (N := 3) (T := TX6) rfl ixX6 tyX6_ok wd_220 wd_221 wd_13 (fs := [.null, .null, .int 0]) (fun j hj => by match j, hj with | 0, _ => rfl | 1, _ => rfl | 2, _ => rfl) (Nat.le_of_ble_eq_true rfl) (Nat.le_of_ble_eq_true rfl) dX10_init_122 (fun q103 H hq103 hH => ?_)
  obtain ⟨L, f, hX, hH⟩ : ∃ (L' : List Nat) (f' : Nat → va_E), FX L0 f0 a L' f' [(a, .inr (10, [.ref q1, .ref q6, .ref q11, .ref q16, .ref q21, .ref q82, .ref q89, .ref q95, .null, .null, .null, .int 0, .int 0])), (q1, .inr (0, [.int 0, .ref (E 0), .int 0])), (q6, .inr (0, [.int 0, .ref (E 0), .int 0])), (q11, .inr (0, [.int 0, .ref (E 0), .int 0])), (q16, .inr (0, [.int 0, .ref (E 0), .int 0])), (q21, .inr (0, [.int ((((0 + 1) + 1) + 1) + 1), .ref d74, .int (nI (3 + 1))])), (q28, .inr (1, [.int 0, .ref q31, .int 0, .int 0, .int 0, .int 0, .int 0, .int 0, .int 0, .int 0])), (q31, .inr (0, [.int 0, .ref (E 0), .int 0])), (d74, cRow Z 10 row75), (q39, .inr (1, [.int 1, .ref q42, .int 0, .int 0, .int 0, .int 0, .int 0, .int 0, .int 0, .int 0])), (q42, .inr (0, [.int 0, .ref (E 0), .int 0])), (q53, .inr (1, [.int 2, .ref q56, .int 0, .int 0, .int 0, .int 0, .int 0, .int 0, .int 0, .int 0])), (q56, .inr (0, [.int 0, .ref (E 0), .int 0])), (q68, .inr (1, [.int 3, .ref q71, .int 0, .int 0, .int 0, .int 0, .int 0, .int 0, .int 0, .int 0])), (q71, .inr (0, [.int 0, .ref (E 0), .int 0])), (q82, .inr (8, [.ref q85, .ref q86, .int 0])), (q85, zA Z 20), (q86, zA Z 20), (q89, .inr (9, [.ref q92, .int 0])), (q92, zA Z 200), (q95, .inr (6, [.ref q98, .ref q99, .ref q100, .int 0, .int 0, .int 0])), (q98, zA Z 201), (q99, zA Z 201), (q100, zA Z 402), (q103, .inr (7, [.null, .null, .int 0]))] ∧ PH D A s.heap L' f' H locs := ⟨_, _, hX.new hq103, hH⟩
  refine lv_dup hx hb dX10_init_125 rfl ?_
  obtain ⟨m104, v105⟩ := hX.2.2.1 24 _ _ rfl
  refine pcIvN C hH [] (c_I_Reck l D Z E L f m104 v105) (⟨va_cnB (host := "PorterTurns") 0 hts (gCode wd_224) (ws' := TB) rfl rfl rfl hN.2.2.2 (hts _ wd_13) (by decide +kernel) ⟨(Nat.le_of_ble_eq_true rfl), (Nat.le_of_ble_eq_true rfl)⟩, rfl, hts _ wd_223⟩) rfl hl.1 rfl (Nat.le_of_ble_eq_true rfl) dX10_init_126 ⟨(Nat.le_of_ble_eq_true rfl), (Nat.le_of_ble_eq_true rfl)⟩ (fun u H locs hu hH => ?_)
  obtain ⟨q106, q107, hu⟩ := hu
  obtain ⟨L, f, hX, hH⟩ : ∃ (L' : List Nat) (f' : Nat → va_E), FX L0 f0 a L' f' [(a, .inr (10, [.ref q1, .ref q6, .ref q11, .ref q16, .ref q21, .ref q82, .ref q89, .ref q95, .null, .null, .null, .int 0, .int 0])), (q1, .inr (0, [.int 0, .ref (E 0), .int 0])), (q6, .inr (0, [.int 0, .ref (E 0), .int 0])), (q11, .inr (0, [.int 0, .ref (E 0), .int 0])), (q16, .inr (0, [.int 0, .ref (E 0), .int 0])), (q21, .inr (0, [.int ((((0 + 1) + 1) + 1) + 1), .ref d74, .int (nI (3 + 1))])), (q28, .inr (1, [.int 0, .ref q31, .int 0, .int 0, .int 0, .int 0, .int 0, .int 0, .int 0, .int 0])), (q31, .inr (0, [.int 0, .ref (E 0), .int 0])), (d74, cRow Z 10 row75), (q39, .inr (1, [.int 1, .ref q42, .int 0, .int 0, .int 0, .int 0, .int 0, .int 0, .int 0, .int 0])), (q42, .inr (0, [.int 0, .ref (E 0), .int 0])), (q53, .inr (1, [.int 2, .ref q56, .int 0, .int 0, .int 0, .int 0, .int 0, .int 0, .int 0, .int 0])), (q56, .inr (0, [.int 0, .ref (E 0), .int 0])), (q68, .inr (1, [.int 3, .ref q71, .int 0, .int 0, .int 0, .int 0, .int 0, .int 0, .int 0, .int 0])), (q71, .inr (0, [.int 0, .ref (E 0), .int 0])), (q82, .inr (8, [.ref q85, .ref q86, .int 0])), (q85, zA Z 20), (q86, zA Z 20), (q89, .inr (9, [.ref q92, .int 0])), (q92, zA Z 200), (q95, .inr (6, [.ref q98, .ref q99, .ref q100, .int 0, .int 0, .int 0])), (q98, zA Z 201), (q99, zA Z 201), (q100, zA Z 402), (q103, .inr (7, [.ref q106, .ref q107, .int 0])), (q106, zA Z 13), (q107, zA Z 200)] ∧ PH D A s.heap L' f' H locs := ⟨_, _, hX.call (i := 24) rfl hu, hH⟩
  obtain ⟨m108, v109⟩ := hX.2.2.1 0 _ _ rfl
  refine ppF C hnm hH m108 v109 (T := TX10) (N := 13) rfl ixX10 tyX10 tyX10_ok nmX10 8 (by decide) rfl wd_244 (ty := (.object "PorterTurns$Reckoner")) pfReck rfl rfl (Nat.le_of_ble_eq_true rfl) dX10_init_129 (fun H locs hH => ?_)
  obtain ⟨L, f, hX, hH⟩ : ∃ (L' : List Nat) (f' : Nat → va_E), FX L0 f0 a L' f' [(a, .inr (10, [.ref q1, .ref q6, .ref q11, .ref q16, .ref q21, .ref q82, .ref q89, .ref q95, .ref q103, .null, .null, .int 0, .int 0])), (q1, .inr (0, [.int 0, .ref (E 0), .int 0])), (q6, .inr (0, [.int 0, .ref (E 0), .int 0])), (q11, .inr (0, [.int 0, .ref (E 0), .int 0])), (q16, .inr (0, [.int 0, .ref (E 0), .int 0])), (q21, .inr (0, [.int ((((0 + 1) + 1) + 1) + 1), .ref d74, .int (nI (3 + 1))])), (q28, .inr (1, [.int 0, .ref q31, .int 0, .int 0, .int 0, .int 0, .int 0, .int 0, .int 0, .int 0])), (q31, .inr (0, [.int 0, .ref (E 0), .int 0])), (d74, cRow Z 10 row75), (q39, .inr (1, [.int 1, .ref q42, .int 0, .int 0, .int 0, .int 0, .int 0, .int 0, .int 0, .int 0])), (q42, .inr (0, [.int 0, .ref (E 0), .int 0])), (q53, .inr (1, [.int 2, .ref q56, .int 0, .int 0, .int 0, .int 0, .int 0, .int 0, .int 0, .int 0])), (q56, .inr (0, [.int 0, .ref (E 0), .int 0])), (q68, .inr (1, [.int 3, .ref q71, .int 0, .int 0, .int 0, .int 0, .int 0, .int 0, .int 0, .int 0])), (q71, .inr (0, [.int 0, .ref (E 0), .int 0])), (q82, .inr (8, [.ref q85, .ref q86, .int 0])), (q85, zA Z 20), (q86, zA Z 20), (q89, .inr (9, [.ref q92, .int 0])), (q92, zA Z 200), (q95, .inr (6, [.ref q98, .ref q99, .ref q100, .int 0, .int 0, .int 0])), (q98, zA Z 201), (q99, zA Z 201), (q100, zA Z 402), (q103, .inr (7, [.ref q106, .ref q107, .int 0])), (q106, zA Z 13), (q107, zA Z 200)] ∧ PH D A s.heap L' f' H locs := ⟨_, _, hX.set (i := 0) rfl, hH⟩
  refine lv_aload_n hx hb dX10_init_132 rfl (lv_at hl 1 rfl) ?_
  refine pnewo C hH (ci := 0) (N := 3) (T := TJx4a65c) rfl ixJx4a65c tyJx4a65c_ok wd_33 wd_34 wd_4 (fs := [.int 0, .null, .int 0]) (fun j hj => by match j, hj with | 0, _ => rfl | 1, _ => rfl | 2, _ => rfl) (Nat.le_of_ble_eq_true rfl) (Nat.le_of_ble_eq_true rfl) dX10_init_133 (fun q110 H hq110 hH => ?_)
  obtain ⟨L, f, hX, hH⟩ : ∃ (L' : List Nat) (f' : Nat → va_E), FX L0 f0 a L' f' [(a, .inr (10, [.ref q1, .ref q6, .ref q11, .ref q16, .ref q21, .ref q82, .ref q89, .ref q95, .ref q103, .null, .null, .int 0, .int 0])), (q1, .inr (0, [.int 0, .ref (E 0), .int 0])), (q6, .inr (0, [.int 0, .ref (E 0), .int 0])), (q11, .inr (0, [.int 0, .ref (E 0), .int 0])), (q16, .inr (0, [.int 0, .ref (E 0), .int 0])), (q21, .inr (0, [.int ((((0 + 1) + 1) + 1) + 1), .ref d74, .int (nI (3 + 1))])), (q28, .inr (1, [.int 0, .ref q31, .int 0, .int 0, .int 0, .int 0, .int 0, .int 0, .int 0, .int 0])), (q31, .inr (0, [.int 0, .ref (E 0), .int 0])), (d74, cRow Z 10 row75), (q39, .inr (1, [.int 1, .ref q42, .int 0, .int 0, .int 0, .int 0, .int 0, .int 0, .int 0, .int 0])), (q42, .inr (0, [.int 0, .ref (E 0), .int 0])), (q53, .inr (1, [.int 2, .ref q56, .int 0, .int 0, .int 0, .int 0, .int 0, .int 0, .int 0, .int 0])), (q56, .inr (0, [.int 0, .ref (E 0), .int 0])), (q68, .inr (1, [.int 3, .ref q71, .int 0, .int 0, .int 0, .int 0, .int 0, .int 0, .int 0, .int 0])), (q71, .inr (0, [.int 0, .ref (E 0), .int 0])), (q82, .inr (8, [.ref q85, .ref q86, .int 0])), (q85, zA Z 20), (q86, zA Z 20), (q89, .inr (9, [.ref q92, .int 0])), (q92, zA Z 200), (q95, .inr (6, [.ref q98, .ref q99, .ref q100, .int 0, .int 0, .int 0])), (q98, zA Z 201), (q99, zA Z 201), (q100, zA Z 402), (q103, .inr (7, [.ref q106, .ref q107, .int 0])), (q106, zA Z 13), (q107, zA Z 200), (q110, .inr (0, [.int 0, .null, .int 0]))] ∧ PH D A s.heap L' f' H locs := ⟨_, _, hX.new hq110, hH⟩
  refine lv_dup hx hb dX10_init_136 rfl ?_
  obtain ⟨m111, v112⟩ := hX.2.2.1 27 _ _ rfl
  refine pcIv C hH [] (c_I_AL l D Z E L f m111 v112) (cwTI 0 hts wd_35 wd_36 wd_4 wd_37 rfl rfl rfl (by decide +kernel) ⟨(Nat.le_of_ble_eq_true rfl), (Nat.le_of_ble_eq_true rfl)⟩) rfl hl.1 rfl (Nat.le_of_ble_eq_true rfl) dX10_init_137 ⟨(Nat.le_of_ble_eq_true rfl), (Nat.le_of_ble_eq_true rfl)⟩ (fun u H locs hu hH => ?_)
  obtain ⟨L, f, hX, hH⟩ : ∃ (L' : List Nat) (f' : Nat → va_E), FX L0 f0 a L' f' [(a, .inr (10, [.ref q1, .ref q6, .ref q11, .ref q16, .ref q21, .ref q82, .ref q89, .ref q95, .ref q103, .null, .null, .int 0, .int 0])), (q1, .inr (0, [.int 0, .ref (E 0), .int 0])), (q6, .inr (0, [.int 0, .ref (E 0), .int 0])), (q11, .inr (0, [.int 0, .ref (E 0), .int 0])), (q16, .inr (0, [.int 0, .ref (E 0), .int 0])), (q21, .inr (0, [.int ((((0 + 1) + 1) + 1) + 1), .ref d74, .int (nI (3 + 1))])), (q28, .inr (1, [.int 0, .ref q31, .int 0, .int 0, .int 0, .int 0, .int 0, .int 0, .int 0, .int 0])), (q31, .inr (0, [.int 0, .ref (E 0), .int 0])), (d74, cRow Z 10 row75), (q39, .inr (1, [.int 1, .ref q42, .int 0, .int 0, .int 0, .int 0, .int 0, .int 0, .int 0, .int 0])), (q42, .inr (0, [.int 0, .ref (E 0), .int 0])), (q53, .inr (1, [.int 2, .ref q56, .int 0, .int 0, .int 0, .int 0, .int 0, .int 0, .int 0, .int 0])), (q56, .inr (0, [.int 0, .ref (E 0), .int 0])), (q68, .inr (1, [.int 3, .ref q71, .int 0, .int 0, .int 0, .int 0, .int 0, .int 0, .int 0, .int 0])), (q71, .inr (0, [.int 0, .ref (E 0), .int 0])), (q82, .inr (8, [.ref q85, .ref q86, .int 0])), (q85, zA Z 20), (q86, zA Z 20), (q89, .inr (9, [.ref q92, .int 0])), (q92, zA Z 200), (q95, .inr (6, [.ref q98, .ref q99, .ref q100, .int 0, .int 0, .int 0])), (q98, zA Z 201), (q99, zA Z 201), (q100, zA Z 402), (q103, .inr (7, [.ref q106, .ref q107, .int 0])), (q106, zA Z 13), (q107, zA Z 200), (q110, .inr (0, [.int 0, .ref (E 0), .int 0]))] ∧ PH D A s.heap L' f' H locs := ⟨_, _, hX.call (i := 27) rfl hu, hH⟩
  obtain ⟨m113, v114⟩ := hX.2.2.1 0 _ _ rfl
  refine ppF C hnm hH m113 v114 (T := TX10) (N := 13) rfl ixX10 tyX10 tyX10_ok nmX10 9 (by decide) rfl wd_245 (ty := (.object "java/util/ArrayList")) pfAL rfl rfl (Nat.le_of_ble_eq_true rfl) dX10_init_140 (fun H locs hH => ?_)
  obtain ⟨L, f, hX, hH⟩ : ∃ (L' : List Nat) (f' : Nat → va_E), FX L0 f0 a L' f' [(a, .inr (10, [.ref q1, .ref q6, .ref q11, .ref q16, .ref q21, .ref q82, .ref q89, .ref q95, .ref q103, .ref q110, .null, .int 0, .int 0])), (q1, .inr (0, [.int 0, .ref (E 0), .int 0])), (q6, .inr (0, [.int 0, .ref (E 0), .int 0])), (q11, .inr (0, [.int 0, .ref (E 0), .int 0])), (q16, .inr (0, [.int 0, .ref (E 0), .int 0])), (q21, .inr (0, [.int ((((0 + 1) + 1) + 1) + 1), .ref d74, .int (nI (3 + 1))])), (q28, .inr (1, [.int 0, .ref q31, .int 0, .int 0, .int 0, .int 0, .int 0, .int 0, .int 0, .int 0])), (q31, .inr (0, [.int 0, .ref (E 0), .int 0])), (d74, cRow Z 10 row75), (q39, .inr (1, [.int 1, .ref q42, .int 0, .int 0, .int 0, .int 0, .int 0, .int 0, .int 0, .int 0])), (q42, .inr (0, [.int 0, .ref (E 0), .int 0])), (q53, .inr (1, [.int 2, .ref q56, .int 0, .int 0, .int 0, .int 0, .int 0, .int 0, .int 0, .int 0])), (q56, .inr (0, [.int 0, .ref (E 0), .int 0])), (q68, .inr (1, [.int 3, .ref q71, .int 0, .int 0, .int 0, .int 0, .int 0, .int 0, .int 0, .int 0])), (q71, .inr (0, [.int 0, .ref (E 0), .int 0])), (q82, .inr (8, [.ref q85, .ref q86, .int 0])), (q85, zA Z 20), (q86, zA Z 20), (q89, .inr (9, [.ref q92, .int 0])), (q92, zA Z 200), (q95, .inr (6, [.ref q98, .ref q99, .ref q100, .int 0, .int 0, .int 0])), (q98, zA Z 201), (q99, zA Z 201), (q100, zA Z 402), (q103, .inr (7, [.ref q106, .ref q107, .int 0])), (q106, zA Z 13), (q107, zA Z 200), (q110, .inr (0, [.int 0, .ref (E 0), .int 0]))] ∧ PH D A s.heap L' f' H locs := ⟨_, _, hX.set (i := 0) rfl, hH⟩
  refine lv_aload_n hx hb dX10_init_143 rfl (lv_at hl 1 rfl) ?_
  refine pnewo C hH (ci := 0) (N := 3) (T := TJx4a65c) rfl ixJx4a65c tyJx4a65c_ok wd_33 wd_34 wd_4 (fs := [.int 0, .null, .int 0]) (fun j hj => by match j, hj with | 0, _ => rfl | 1, _ => rfl | 2, _ => rfl) (Nat.le_of_ble_eq_true rfl) (Nat.le_of_ble_eq_true rfl) dX10_init_144 (fun q115 H hq115 hH => ?_)
  obtain ⟨L, f, hX, hH⟩ : ∃ (L' : List Nat) (f' : Nat → va_E), FX L0 f0 a L' f' [(a, .inr (10, [.ref q1, .ref q6, .ref q11, .ref q16, .ref q21, .ref q82, .ref q89, .ref q95, .ref q103, .ref q110, .null, .int 0, .int 0])), (q1, .inr (0, [.int 0, .ref (E 0), .int 0])), (q6, .inr (0, [.int 0, .ref (E 0), .int 0])), (q11, .inr (0, [.int 0, .ref (E 0), .int 0])), (q16, .inr (0, [.int 0, .ref (E 0), .int 0])), (q21, .inr (0, [.int ((((0 + 1) + 1) + 1) + 1), .ref d74, .int (nI (3 + 1))])), (q28, .inr (1, [.int 0, .ref q31, .int 0, .int 0, .int 0, .int 0, .int 0, .int 0, .int 0, .int 0])), (q31, .inr (0, [.int 0, .ref (E 0), .int 0])), (d74, cRow Z 10 row75), (q39, .inr (1, [.int 1, .ref q42, .int 0, .int 0, .int 0, .int 0, .int 0, .int 0, .int 0, .int 0])), (q42, .inr (0, [.int 0, .ref (E 0), .int 0])), (q53, .inr (1, [.int 2, .ref q56, .int 0, .int 0, .int 0, .int 0, .int 0, .int 0, .int 0, .int 0])), (q56, .inr (0, [.int 0, .ref (E 0), .int 0])), (q68, .inr (1, [.int 3, .ref q71, .int 0, .int 0, .int 0, .int 0, .int 0, .int 0, .int 0, .int 0])), (q71, .inr (0, [.int 0, .ref (E 0), .int 0])), (q82, .inr (8, [.ref q85, .ref q86, .int 0])), (q85, zA Z 20), (q86, zA Z 20), (q89, .inr (9, [.ref q92, .int 0])), (q92, zA Z 200), (q95, .inr (6, [.ref q98, .ref q99, .ref q100, .int 0, .int 0, .int 0])), (q98, zA Z 201), (q99, zA Z 201), (q100, zA Z 402), (q103, .inr (7, [.ref q106, .ref q107, .int 0])), (q106, zA Z 13), (q107, zA Z 200), (q110, .inr (0, [.int 0, .ref (E 0), .int 0])), (q115, .inr (0, [.int 0, .null, .int 0]))] ∧ PH D A s.heap L' f' H locs := ⟨_, _, hX.new hq115, hH⟩
  refine lv_dup hx hb dX10_init_147 rfl ?_
  obtain ⟨m116, v117⟩ := hX.2.2.1 28 _ _ rfl
  refine pcIv C hH [] (c_I_AL l D Z E L f m116 v117) (cwTI 0 hts wd_35 wd_36 wd_4 wd_37 rfl rfl rfl (by decide +kernel) ⟨(Nat.le_of_ble_eq_true rfl), (Nat.le_of_ble_eq_true rfl)⟩) rfl hl.1 rfl (Nat.le_of_ble_eq_true rfl) dX10_init_148 ⟨(Nat.le_of_ble_eq_true rfl), (Nat.le_of_ble_eq_true rfl)⟩ (fun u H locs hu hH => ?_)
  obtain ⟨L, f, hX, hH⟩ : ∃ (L' : List Nat) (f' : Nat → va_E), FX L0 f0 a L' f' [(a, .inr (10, [.ref q1, .ref q6, .ref q11, .ref q16, .ref q21, .ref q82, .ref q89, .ref q95, .ref q103, .ref q110, .null, .int 0, .int 0])), (q1, .inr (0, [.int 0, .ref (E 0), .int 0])), (q6, .inr (0, [.int 0, .ref (E 0), .int 0])), (q11, .inr (0, [.int 0, .ref (E 0), .int 0])), (q16, .inr (0, [.int 0, .ref (E 0), .int 0])), (q21, .inr (0, [.int ((((0 + 1) + 1) + 1) + 1), .ref d74, .int (nI (3 + 1))])), (q28, .inr (1, [.int 0, .ref q31, .int 0, .int 0, .int 0, .int 0, .int 0, .int 0, .int 0, .int 0])), (q31, .inr (0, [.int 0, .ref (E 0), .int 0])), (d74, cRow Z 10 row75), (q39, .inr (1, [.int 1, .ref q42, .int 0, .int 0, .int 0, .int 0, .int 0, .int 0, .int 0, .int 0])), (q42, .inr (0, [.int 0, .ref (E 0), .int 0])), (q53, .inr (1, [.int 2, .ref q56, .int 0, .int 0, .int 0, .int 0, .int 0, .int 0, .int 0, .int 0])), (q56, .inr (0, [.int 0, .ref (E 0), .int 0])), (q68, .inr (1, [.int 3, .ref q71, .int 0, .int 0, .int 0, .int 0, .int 0, .int 0, .int 0, .int 0])), (q71, .inr (0, [.int 0, .ref (E 0), .int 0])), (q82, .inr (8, [.ref q85, .ref q86, .int 0])), (q85, zA Z 20), (q86, zA Z 20), (q89, .inr (9, [.ref q92, .int 0])), (q92, zA Z 200), (q95, .inr (6, [.ref q98, .ref q99, .ref q100, .int 0, .int 0, .int 0])), (q98, zA Z 201), (q99, zA Z 201), (q100, zA Z 402), (q103, .inr (7, [.ref q106, .ref q107, .int 0])), (q106, zA Z 13), (q107, zA Z 200), (q110, .inr (0, [.int 0, .ref (E 0), .int 0])), (q115, .inr (0, [.int 0, .ref (E 0), .int 0]))] ∧ PH D A s.heap L' f' H locs := ⟨_, _, hX.call (i := 28) rfl hu, hH⟩
  obtain ⟨m118, v119⟩ := hX.2.2.1 0 _ _ rfl
  refine ppF C hnm hH m118 v119 (T := TX10) (N := 13) rfl ixX10 tyX10 tyX10_ok nmX10 10 (by decide) rfl wd_246 (ty := (.object "java/util/ArrayList")) pfAL rfl rfl (Nat.le_of_ble_eq_true rfl) dX10_init_151 (fun H locs hH => ?_)
  obtain ⟨L, f, hX, hH⟩ : ∃ (L' : List Nat) (f' : Nat → va_E), FX L0 f0 a L' f' [(a, .inr (10, [.ref q1, .ref q6, .ref q11, .ref q16, .ref q21, .ref q82, .ref q89, .ref q95, .ref q103, .ref q110, .ref q115, .int 0, .int 0])), (q1, .inr (0, [.int 0, .ref (E 0), .int 0])), (q6, .inr (0, [.int 0, .ref (E 0), .int 0])), (q11, .inr (0, [.int 0, .ref (E 0), .int 0])), (q16, .inr (0, [.int 0, .ref (E 0), .int 0])), (q21, .inr (0, [.int ((((0 + 1) + 1) + 1) + 1), .ref d74, .int (nI (3 + 1))])), (q28, .inr (1, [.int 0, .ref q31, .int 0, .int 0, .int 0, .int 0, .int 0, .int 0, .int 0, .int 0])), (q31, .inr (0, [.int 0, .ref (E 0), .int 0])), (d74, cRow Z 10 row75), (q39, .inr (1, [.int 1, .ref q42, .int 0, .int 0, .int 0, .int 0, .int 0, .int 0, .int 0, .int 0])), (q42, .inr (0, [.int 0, .ref (E 0), .int 0])), (q53, .inr (1, [.int 2, .ref q56, .int 0, .int 0, .int 0, .int 0, .int 0, .int 0, .int 0, .int 0])), (q56, .inr (0, [.int 0, .ref (E 0), .int 0])), (q68, .inr (1, [.int 3, .ref q71, .int 0, .int 0, .int 0, .int 0, .int 0, .int 0, .int 0, .int 0])), (q71, .inr (0, [.int 0, .ref (E 0), .int 0])), (q82, .inr (8, [.ref q85, .ref q86, .int 0])), (q85, zA Z 20), (q86, zA Z 20), (q89, .inr (9, [.ref q92, .int 0])), (q92, zA Z 200), (q95, .inr (6, [.ref q98, .ref q99, .ref q100, .int 0, .int 0, .int 0])), (q98, zA Z 201), (q99, zA Z 201), (q100, zA Z 402), (q103, .inr (7, [.ref q106, .ref q107, .int 0])), (q106, zA Z 13), (q107, zA Z 200), (q110, .inr (0, [.int 0, .ref (E 0), .int 0])), (q115, .inr (0, [.int 0, .ref (E 0), .int 0]))] ∧ PH D A s.heap L' f' H locs := ⟨_, _, hX.set (i := 0) rfl, hH⟩
  exact prv C hr hk hH (Nat.le_of_ble_eq_true rfl) (Nat.le_of_ble_eq_true rfl) ⟨q1, q6, q11, q16, q21, q28, q31, d74, q39, q42, q53, q56, q68, q71, q82, q85, q86, q89, q92, q95, q98, q99, q100, q103, q106, q107, q110, q115, row75, hX, rr78, rr79, rr80, rr81⟩ dX10_init_154
/-! the state of a new PorterTurns (gen/pw.py) -/
def tInit : CS := (fun _ _ => 0, fun _ _ => 0, fun k => if k = 4 then [0, 1, 2, 3] else [], fun κ => if κ = 0 then 4 else 0, fun _ _ => 0, fun k => if k = 4 then 10 else 0)
def posI (κ i : Nat) : Nat := match κ, i with
  | 0, 0 => 6
  | 0, 1 => 9
  | 0, 2 => 11
  | 0, 3 => 13
  | 5, 0 => 0
  | 5, 1 => 15
  | 5, 2 => 18
  | 5, 3 => 20
  | 5, 4 => 24
  | 6, 0 => 1
  | 6, 1 => 2
  | 6, 2 => 3
  | 6, 3 => 4
  | 6, 4 => 5
  | 6, 5 => 27
  | 6, 6 => 28
  | 6, 7 => 7
  | 6, 8 => 10
  | 6, 9 => 12
  | 6, 10 => 14
  | 7, 0 => 16
  | 7, 1 => 17
  | 7, 2 => 19
  | 7, 3 => 21
  | 7, 4 => 22
  | 7, 5 => 23
  | 7, 6 => 25
  | 7, 7 => 26
  | _, _ => 99
def cI (κ : Nat) : Nat := match κ with
  | 0 => 4
  | 5 => 5
  | 6 => 11
  | 7 => 8
  | _ => 0
theorem cnt_tInit (κ : Nat) : cnt tInit κ = cI κ := by
  match κ with
  | 0 => rfl
  | 1 => rfl
  | 2 => rfl
  | 3 => rfl
  | 4 => rfl
  | 5 => rfl
  | 6 => rfl
  | 7 => rfl
  | κ + 8 => rfl
theorem posI_ok : ∀ κ, κ < 8 → ∀ i, i < 11 → i < cI κ → posI κ i < 29 := by decide +kernel
def invI (n : Nat) : Nat × Nat := match n with
  | 0 => (5, 0)
  | 1 => (6, 0)
  | 2 => (6, 1)
  | 3 => (6, 2)
  | 4 => (6, 3)
  | 5 => (6, 4)
  | 6 => (0, 0)
  | 7 => (6, 7)
  | 9 => (0, 1)
  | 10 => (6, 8)
  | 11 => (0, 2)
  | 12 => (6, 9)
  | 13 => (0, 3)
  | 14 => (6, 10)
  | 15 => (5, 1)
  | 16 => (7, 0)
  | 17 => (7, 1)
  | 18 => (5, 2)
  | 19 => (7, 2)
  | 20 => (5, 3)
  | 21 => (7, 3)
  | 22 => (7, 4)
  | 23 => (7, 5)
  | 24 => (5, 4)
  | 25 => (7, 6)
  | 26 => (7, 7)
  | 27 => (6, 5)
  | 28 => (6, 6)
  | _ => (99, 99)
theorem invI_ok : ∀ κ, κ < 8 → ∀ i, i < 11 → i < cI κ → invI (posI κ i) = (κ, i) := by decide +kernel
theorem posI_inj {κ i κ' i' : Nat} (h1 : κ < 8) (h2 : i < 11) (h3 : κ' < 8) (h4 : i' < 11) (hi : i < cI κ) (hi' : i' < cI κ') (h : posI κ i = posI κ' i') : κ = κ' ∧ i = i' := by
  have e := (invI_ok κ h1 i h2 hi).symm.trans ((congrArg invI h).trans (invI_ok κ' h3 i' h4 hi'))
  exact ⟨congrArg Prod.fst e, congrArg Prod.snd e⟩
theorem cI_lt {κ i : Nat} (h : i < cI κ) : κ < 8 ∧ i < 11 := by
  unfold cI at h
  split at h <;> omega
set_option maxHeartbeats 4000000 in
set_option maxRecDepth 100000 in
theorem CR_init {Z : Nat → ClassId} {E : Nat → Nat} {L0 : List Nat} {f0 : Nat → va_E} {a : Nat} {u : P2} (h : ptQ Z E L0 f0 a u) : ∃ ad : Nat → Nat → Nat, ad 5 0 = a ∧ CR Z (E 0) ad tInit u.1 u.2 := by
  obtain ⟨q1, q6, q11, q16, q21, q28, q31, d74, q39, q42, q53, q56, q68, q71, q82, q85, q86, q89, q92, q95, q98, q99, q100, q103, q106, q107, q110, q115, row75, hX, r0, r1, r2, r3⟩ := h
  obtain ⟨es, ees⟩ : ∃ es : List (Nat × va_E), es = [(a, .inr (10, [.ref q1, .ref q6, .ref q11, .ref q16, .ref q21, .ref q82, .ref q89, .ref q95, .ref q103, .ref q110, .ref q115, .int 0, .int 0])), (q1, .inr (0, [.int 0, .ref (E 0), .int 0])), (q6, .inr (0, [.int 0, .ref (E 0), .int 0])), (q11, .inr (0, [.int 0, .ref (E 0), .int 0])), (q16, .inr (0, [.int 0, .ref (E 0), .int 0])), (q21, .inr (0, [.int ((((0 + 1) + 1) + 1) + 1), .ref d74, .int (nI (3 + 1))])), (q28, .inr (1, [.int 0, .ref q31, .int 0, .int 0, .int 0, .int 0, .int 0, .int 0, .int 0, .int 0])), (q31, .inr (0, [.int 0, .ref (E 0), .int 0])), (d74, cRow Z 10 row75), (q39, .inr (1, [.int 1, .ref q42, .int 0, .int 0, .int 0, .int 0, .int 0, .int 0, .int 0, .int 0])), (q42, .inr (0, [.int 0, .ref (E 0), .int 0])), (q53, .inr (1, [.int 2, .ref q56, .int 0, .int 0, .int 0, .int 0, .int 0, .int 0, .int 0, .int 0])), (q56, .inr (0, [.int 0, .ref (E 0), .int 0])), (q68, .inr (1, [.int 3, .ref q71, .int 0, .int 0, .int 0, .int 0, .int 0, .int 0, .int 0, .int 0])), (q71, .inr (0, [.int 0, .ref (E 0), .int 0])), (q82, .inr (8, [.ref q85, .ref q86, .int 0])), (q85, zA Z 20), (q86, zA Z 20), (q89, .inr (9, [.ref q92, .int 0])), (q92, zA Z 200), (q95, .inr (6, [.ref q98, .ref q99, .ref q100, .int 0, .int 0, .int 0])), (q98, zA Z 201), (q99, zA Z 201), (q100, zA Z 402), (q103, .inr (7, [.ref q106, .ref q107, .int 0])), (q106, zA Z 13), (q107, zA Z 200), (q110, .inr (0, [.int 0, .ref (E 0), .int 0])), (q115, .inr (0, [.int 0, .ref (E 0), .int 0]))] := ⟨_, rfl⟩
  refine ⟨fun κ i => ([a, q1, q6, q11, q16, q21, q28, q31, d74, q39, q42, q53, q56, q68, q71, q82, q85, q86, q89, q92, q95, q98, q99, q100, q103, q106, q107, q110, q115]).getD (posI κ i) 0, rfl, fun κ i h6 hi => ?_, fun κ i κ' i' hi hi' q => ?_, fun _ => d74, fun k => if k = 4 then 0 + 1 + 1 + 1 + 1 else 0, fun k hk => ?_, fun k k' _ _ h h' _ => ?_⟩
  · match κ, i, h6, hi with
    | 0, 0, _, _ => exact hX.2.2.1 6 _ _ rfl
    | 0, 1, _, _ => exact hX.2.2.1 9 _ _ rfl
    | 0, 2, _, _ => exact hX.2.2.1 11 _ _ rfl
    | 0, 3, _, _ => exact hX.2.2.1 13 _ _ rfl
    | 0, i + 4, _, hi => exact absurd (show i + 4 < 4 from hi) (by omega)
    | 5, 0, _, _ => exact hX.2.2.1 0 _ _ rfl
    | 5, 1, _, _ => exact hX.2.2.1 15 _ _ rfl
    | 5, 2, _, _ => exact hX.2.2.1 18 _ _ rfl
    | 5, 3, _, _ => exact hX.2.2.1 20 _ _ rfl
    | 5, 4, _, _ => exact hX.2.2.1 24 _ _ rfl
    | 5, i + 5, _, hi => exact absurd (show i + 5 < 5 from hi) (by omega)
    | 7, 0, _, _ => exact hX.2.2.1 16 _ _ rfl
    | 7, 1, _, _ => exact hX.2.2.1 17 _ _ rfl
    | 7, 2, _, _ => exact hX.2.2.1 19 _ _ rfl
    | 7, 3, _, _ => exact hX.2.2.1 21 _ _ rfl
    | 7, 4, _, _ => exact hX.2.2.1 22 _ _ rfl
    | 7, 5, _, _ => exact hX.2.2.1 23 _ _ rfl
    | 7, 6, _, _ => exact hX.2.2.1 25 _ _ rfl
    | 7, 7, _, _ => exact hX.2.2.1 26 _ _ rfl
    | 7, i + 8, _, hi => exact absurd (show i + 8 < 8 from hi) (by omega)
    | 1, i, _, hi => exact absurd (show i < 0 from hi) (by omega)
    | 2, i, _, hi => exact absurd (show i < 0 from hi) (by omega)
    | 3, i, _, hi => exact absurd (show i < 0 from hi) (by omega)
    | 4, i, _, hi => exact absurd (show i < 0 from hi) (by omega)
    | 6, _, h6, _ => exact absurd rfl h6
    | κ + 8, i, _, hi => exact absurd (show i < 0 from hi) (by omega)
  · rw [cnt_tInit] at hi hi'
    have k1 := cI_lt hi
    have k2 := cI_lt hi'
    have p1 := posI_ok κ k1.1 i k1.2 hi
    have p2 := posI_ok κ' k2.1 i' k2.2 hi'
    have hg : ∀ n, n < 29 → ∃ e, ([(a, .inr (10, [.ref q1, .ref q6, .ref q11, .ref q16, .ref q21, .ref q82, .ref q89, .ref q95, .ref q103, .ref q110, .ref q115, .int 0, .int 0])), (q1, .inr (0, [.int 0, .ref (E 0), .int 0])), (q6, .inr (0, [.int 0, .ref (E 0), .int 0])), (q11, .inr (0, [.int 0, .ref (E 0), .int 0])), (q16, .inr (0, [.int 0, .ref (E 0), .int 0])), (q21, .inr (0, [.int ((((0 + 1) + 1) + 1) + 1), .ref d74, .int (nI (3 + 1))])), (q28, .inr (1, [.int 0, .ref q31, .int 0, .int 0, .int 0, .int 0, .int 0, .int 0, .int 0, .int 0])), (q31, .inr (0, [.int 0, .ref (E 0), .int 0])), (d74, cRow Z 10 row75), (q39, .inr (1, [.int 1, .ref q42, .int 0, .int 0, .int 0, .int 0, .int 0, .int 0, .int 0, .int 0])), (q42, .inr (0, [.int 0, .ref (E 0), .int 0])), (q53, .inr (1, [.int 2, .ref q56, .int 0, .int 0, .int 0, .int 0, .int 0, .int 0, .int 0, .int 0])), (q56, .inr (0, [.int 0, .ref (E 0), .int 0])), (q68, .inr (1, [.int 3, .ref q71, .int 0, .int 0, .int 0, .int 0, .int 0, .int 0, .int 0, .int 0])), (q71, .inr (0, [.int 0, .ref (E 0), .int 0])), (q82, .inr (8, [.ref q85, .ref q86, .int 0])), (q85, zA Z 20), (q86, zA Z 20), (q89, .inr (9, [.ref q92, .int 0])), (q92, zA Z 200), (q95, .inr (6, [.ref q98, .ref q99, .ref q100, .int 0, .int 0, .int 0])), (q98, zA Z 201), (q99, zA Z 201), (q100, zA Z 402), (q103, .inr (7, [.ref q106, .ref q107, .int 0])), (q106, zA Z 13), (q107, zA Z 200), (q110, .inr (0, [.int 0, .ref (E 0), .int 0])), (q115, .inr (0, [.int 0, .ref (E 0), .int 0]))] : List (Nat × va_E))[n]? = some (([a, q1, q6, q11, q16, q21, q28, q31, d74, q39, q42, q53, q56, q68, q71, q82, q85, q86, q89, q92, q95, q98, q99, q100, q103, q106, q107, q110, q115]).getD n 0, e) := fun n hn => by
      match n, hn with
      | 0, _ => exact ⟨_, rfl⟩
      | 1, _ => exact ⟨_, rfl⟩
      | 2, _ => exact ⟨_, rfl⟩
      | 3, _ => exact ⟨_, rfl⟩
      | 4, _ => exact ⟨_, rfl⟩
      | 5, _ => exact ⟨_, rfl⟩
      | 6, _ => exact ⟨_, rfl⟩
      | 7, _ => exact ⟨_, rfl⟩
      | 8, _ => exact ⟨_, rfl⟩
      | 9, _ => exact ⟨_, rfl⟩
      | 10, _ => exact ⟨_, rfl⟩
      | 11, _ => exact ⟨_, rfl⟩
      | 12, _ => exact ⟨_, rfl⟩
      | 13, _ => exact ⟨_, rfl⟩
      | 14, _ => exact ⟨_, rfl⟩
      | 15, _ => exact ⟨_, rfl⟩
      | 16, _ => exact ⟨_, rfl⟩
      | 17, _ => exact ⟨_, rfl⟩
      | 18, _ => exact ⟨_, rfl⟩
      | 19, _ => exact ⟨_, rfl⟩
      | 20, _ => exact ⟨_, rfl⟩
      | 21, _ => exact ⟨_, rfl⟩
      | 22, _ => exact ⟨_, rfl⟩
      | 23, _ => exact ⟨_, rfl⟩
      | 24, _ => exact ⟨_, rfl⟩
      | 25, _ => exact ⟨_, rfl⟩
      | 26, _ => exact ⟨_, rfl⟩
      | 27, _ => exact ⟨_, rfl⟩
      | 28, _ => exact ⟨_, rfl⟩
      | n + 29, hn => exact absurd hn (by omega)
    obtain ⟨e1, h1⟩ := hg _ p1
    obtain ⟨e2, h2⟩ := hg _ p2
    refine posI_inj k1.1 k1.2 k2.1 k2.2 hi hi' (hX.2.2.2.1 _ _ _ e1 e2 h1 ?_)
    exact (show ([a, q1, q6, q11, q16, q21, q28, q31, d74, q39, q42, q53, q56, q68, q71, q82, q85, q86, q89, q92, q95, q98, q99, q100, q103, q106, q107, q110, q115]).getD (posI κ i) 0 = ([a, q1, q6, q11, q16, q21, q28, q31, d74, q39, q42, q53, q56, q68, q71, q82, q85, q86, q89, q92, q95, q98, q99, q100, q103, q106, q107, q110, q115]).getD (posI κ' i') 0 from q) ▸ h2
  · match k, hk with
    | 0, _ => exact ⟨(hX.2.2.1 1 _ _ rfl).1, (hX.2.2.1 1 _ _ rfl).2, fun _ => rfl, fun q => absurd rfl q⟩
    | 1, _ => exact ⟨(hX.2.2.1 2 _ _ rfl).1, (hX.2.2.1 2 _ _ rfl).2, fun _ => rfl, fun q => absurd rfl q⟩
    | 2, _ => exact ⟨(hX.2.2.1 3 _ _ rfl).1, (hX.2.2.1 3 _ _ rfl).2, fun _ => rfl, fun q => absurd rfl q⟩
    | 3, _ => exact ⟨(hX.2.2.1 4 _ _ rfl).1, (hX.2.2.1 4 _ _ rfl).2, fun _ => rfl, fun q => absurd rfl q⟩
    | 4, _ => exact ⟨(hX.2.2.1 5 _ _ rfl).1, (hX.2.2.1 5 _ _ rfl).2, fun q => absurd q (by decide), fun _ => ⟨(hX.2.2.1 8 _ _ rfl).1, _, (hX.2.2.1 8 _ _ rfl).2, by decide, fun j hj => by
      match j, hj with
      | 0, _ => exact r0
      | 1, _ => exact r1
      | 2, _ => exact r2
      | 3, _ => exact r3
      | j + 4, hj => exact absurd (show j + 4 < 4 from hj) (by omega)⟩⟩
    | 5, _ => exact ⟨(hX.2.2.1 27 _ _ rfl).1, (hX.2.2.1 27 _ _ rfl).2, fun _ => rfl, fun q => absurd rfl q⟩
    | 6, _ => exact ⟨(hX.2.2.1 28 _ _ rfl).1, (hX.2.2.1 28 _ _ rfl).2, fun _ => rfl, fun q => absurd rfl q⟩
    | 7, _ => exact ⟨(hX.2.2.1 7 _ _ rfl).1, (hX.2.2.1 7 _ _ rfl).2, fun _ => rfl, fun q => absurd rfl q⟩
    | 8, _ => exact ⟨(hX.2.2.1 10 _ _ rfl).1, (hX.2.2.1 10 _ _ rfl).2, fun _ => rfl, fun q => absurd rfl q⟩
    | 9, _ => exact ⟨(hX.2.2.1 12 _ _ rfl).1, (hX.2.2.1 12 _ _ rfl).2, fun _ => rfl, fun q => absurd rfl q⟩
    | 10, _ => exact ⟨(hX.2.2.1 14 _ _ rfl).1, (hX.2.2.1 14 _ _ rfl).2, fun _ => rfl, fun q => absurd rfl q⟩
    | k + 11, hk => exact absurd (show k + 11 < 11 from hk) (by omega)
  · have e : ∀ x, tK tInit x ≠ 0 → x = 4 := fun x hx => by
      by_cases hq : x = 4
      · exact hq
      · exact absurd (if_neg hq) hx
    rw [e k h, e k' h']
