/-! ArrayList, as the class uses it: size, get, add, remove, clear, over the pool (gen/jlist.py) -/
def pPre (D : va_G) (Z : Nat → ClassId) (E : Nat → Nat) (L : List Nat) (f : Nat → va_E) (sz : Nat) (U : State) : Prop := U.heap.size = sz ∧ va_K D vwCl (tysZ Z) U ∧ EV E (cAs L sz) U ∧ va_P D vwCl (va_pl L f) U.heap ∧ va_D (fun _ => True) (va_pl L f)
def pPost (D : va_G) (Z : Nat → ClassId) (A : Nat → Prop) (u : List Nat × (Nat → va_E)) (U : State) : Prop := va_K D vwCl (tysZ Z) U ∧ va_P D vwCl (va_pl u.1 u.2) U.heap ∧ va_D A (va_pl u.1 u.2)
theorem pPre_blind {D : va_G} {Z : Nat → ClassId} {E : Nat → Nat} {L : List Nat} {f : Nat → va_E} (As : List Value) (sz : Nat) : FrameBlind (va_Pc As (pPre D Z E L f sz)) := fun a U g mk q => by
  obtain ⟨q0, q1, qK, qE, qP, qD⟩ := q
  exact ⟨q0, q1, va_K.moved (u := U) (U := U.calling g mk a) (Vm.Alike.refl U.vm) qK, qE.blind g mk a, qP, qD⟩
theorem zq {D : va_G} {Z : Nat → ClassId} {U : State} {cA : ClassId} (h : va_K D vwCl (tysZ Z ++ [(cA, .object "java/lang/Object")]) U) : cA = Z 3 := by
  obtain ⟨_, _, _, _, _, e1⟩ := (h.2 4 _ rfl).2
  obtain ⟨_, _, _, _, _, e2⟩ := (h.2 3 _ rfl).2
  exact Option.some.inj (e1.symm.trans e2)
section PRows
variable {p : Program} {l : Launch} {e : Env} {R : Room} {s : State} {m : MethodId} {args : Array Value} {below : List Frame} {meth : Method} {c : Code} {H : Heap} {locs : List Loc} {cells slots : Nat} {Q : State → Prop} {pc nL : Nat} {ls : Array Slot} {rest : List Value} {D : va_G} {Z : Nat → ClassId} {E : Nat → Nat} {ad : Nat → Nat → Nat} {t : CS} {A : Nat → Prop} {cc : ByteArray} {own : String} {L : List Nat} {f : Nat → va_E}
theorem pald (C : CC p s m args c cc nL own D Z E A) (hH : PH D A s.heap L f H locs) {a cap : Nat} {row : Nat → Option Nat} (ha : a ∈ L) (hf : f a = cRow Z cap row) {i : Int32} (hin : vp_in i cap) (hdg : decode cc pc = .ok (.aaload, 1))
    (kk : W p l e R s m args below meth c H locs cells slots Q (F0 m (pc + 1) ls (va_rf (row i.toNatClampNeg) :: rest))) : W p l e R s m args below meth c H locs cells slots Q (F0 m pc ls (.int i :: .ref a :: rest)) := by
  obtain ⟨q0, hq⟩ := va_pl_get (X := []) (f := f) ha
  rw [hf] at hq
  exact va_aldq C.1.1 C.1.2.1 C.2.1 hH.1 q0 3 hq rfl hin hdg kk
theorem plen (C : CC p s m args c cc nL own D Z E A) (hH : PH D A s.heap L f H locs) {a cap : Nat} {row : Nat → Option Nat} (ha : a ∈ L) (hf : f a = cRow Z cap row) (hdg : decode cc pc = .ok (.arraylength, 1))
    (kk : W p l e R s m args below meth c H locs cells slots Q (F0 m (pc + 1) ls (.int (nI cap) :: rest))) : W p l e R s m args below meth c H locs cells slots Q (F0 m pc ls (.ref a :: rest)) := by
  obtain ⟨q0, hq⟩ := va_pl_get (X := []) (f := f) ha
  rw [hf] at hq
  exact va_alen C.1.1 C.1.2.1 C.2.1 hH.1 q0 3 hq rfl rfl hdg kk
theorem past (C : CC p s m args c cc nL own D Z E A) (hH : PH D A s.heap L f H locs) {a cap v : Nat} {row : Nat → Option Nat} (ha : a ∈ L) (hf : f a = cRow Z cap row) (hr : va_Any "java/lang/Object" s H v) {i : Int32} (hin : vp_in i cap) (hdg : decode cc pc = .ok (.aastore, 1))
    (kk : ∀ (H1 : Heap) (locs1 : List Loc), PH D A s.heap L (va_up f a (cRow Z cap (va_up row i.toNatClampNeg (some v)))) H1 locs1 → W p l e R s m args below meth c H1 locs1 cells slots Q (F0 m (pc + 1) ls rest)) : W p l e R s m args below meth c H locs cells slots Q (F0 m pc ls (.ref v :: .int i :: .ref a :: rest)) := by
  obtain ⟨q0, hq⟩ := va_pl_get (X := []) (f := f) ha
  have hq0 := hq
  rw [hf] at hq
  refine va_astqM C.1.1 C.1.2.1 C.2.1 hH.1 hH.2.1 hH.2.2 q0 3 hq rfl hr hin hdg (fun H1 locs1 h1 h2 h3 => ?_)
  have e := va_pl_set (X := []) (e := cRow Z cap (va_up row i.toNatClampNeg (some v))) hH.2.1 ha hq0
  exact kk H1 locs1 ⟨(show (va_pl L f).set q0 _ = va_pl L _ from e) ▸ h1, (show (va_pl L f).set q0 _ = va_pl L _ from e) ▸ h2, h3⟩
theorem pastN (C : CC p s m args c cc nL own D Z E A) (hH : PH D A s.heap L f H locs) {a cap : Nat} {row : Nat → Option Nat} (ha : a ∈ L) (hf : f a = cRow Z cap row) {i : Int32} (hin : vp_in i cap) (hdg : decode cc pc = .ok (.aastore, 1))
    (kk : ∀ (H1 : Heap) (locs1 : List Loc), PH D A s.heap L (va_up f a (cRow Z cap (va_up row i.toNatClampNeg none))) H1 locs1 → W p l e R s m args below meth c H1 locs1 cells slots Q (F0 m (pc + 1) ls rest)) : W p l e R s m args below meth c H locs cells slots Q (F0 m pc ls (.null :: .int i :: .ref a :: rest)) := by
  obtain ⟨q0, hq⟩ := va_pl_get (X := []) (f := f) ha
  have hq0 := hq
  rw [hf] at hq
  refine va_astqN C.1.1 C.1.2.1 C.2.1 hH.1 hH.2.1 hH.2.2 q0 3 hq rfl hin hdg (fun H1 locs1 h1 h2 h3 => ?_)
  have e := va_pl_set (X := []) (e := cRow Z cap (va_up row i.toNatClampNeg none)) hH.2.1 ha hq0
  exact kk H1 locs1 ⟨(show (va_pl L f).set q0 _ = va_pl L _ from e) ▸ h1, (show (va_pl L f).set q0 _ = va_pl L _ from e) ▸ h2, h3⟩
theorem pany (C : CC p s m args c cc nL own D Z E A) (hH : PH D A s.heap L f H locs) {a ci : Nat} {fs : List Value} (ha : a ∈ L) (hf : f a = .inr (ci, fs)) {r : vw_C} (hc : vwCl[ci]? = some r) (hcast : va_Nw (.castable r.1 "java/lang/Object") s) : va_Any "java/lang/Object" s H a := by
  obtain ⟨q0, hq⟩ := va_pl_get (X := []) (f := f) ha
  rw [hf] at hq
  exact va_rAny C.2.1 hH.1 hq hc (vb_asgC hcast)
theorem pnewq (C : CC p s m args c cc nL own D Z E A) (hH : PH D A s.heap L f H locs) {idx : Nat} (hl : Cond.classLink own idx "java/lang/Object" ∈ TB) {n : Int32} {N : Nat} (hn : ¬ n < 0) (hN : n.toNatClampNeg = N) (hb : N * 4 ≤ 536870912) (hcells : cells + 1 ≤ R.cells) (hslots : slots + N ≤ R.slots) (hdg : decode cc pc = .ok (.anewarray idx, 3))
    (kk : ∀ (q : Nat) (H1 : Heap), q ∉ L → PH D A s.heap (L ++ [q]) (va_up f q (cRow Z N (fun _ => none))) H1 locs → W p l e R s m args below meth c H1 locs (cells + 1) (slots + N) Q (F0 m (pc + 3) ls (.ref q :: rest))) : W p l e R s m args below meth c H locs cells slots Q (F0 m pc ls (.int n :: rest)) := by
  refine va_newq C.1.1 C.1.2.1 C.1.2.2.2.1 (C.1.2.2.2.2 _ hl) C.2.2.1.2.2.2.2.2.1 C.2.1 hH.1 hH.2.1 hH.2.2 C.2.2.2 hn hN hb hcells hslots hdg (fun q cA H1 k1 k2 k3 k4 => ?_)
  have e := zq k1
  subst e
  have hq : q ∉ L := fun h => by
    obtain ⟨i, hi⟩ := va_pl_get (X := []) (f := f) h
    have hi : (va_pl L f)[i]? = some (q, f q) := hi
    have hlt := (List.getElem?_eq_some_iff.mp hi).1
    have h1 := k3.1 i (va_pl L f).length (q, f q) (q, cRow Z N (fun _ => none)) (by rw [List.getElem?_append_left hlt]; exact hi) (by rw [List.getElem?_append_right (Nat.le_refl _), Nat.sub_self]; rfl) rfl
    omega
  have e2 := va_pl_push (L := L) (f := f) (a := q) (e := cRow Z N (fun _ => none)) hq
  exact kk q H1 hq ⟨(show va_pl L f ++ [(q, cRow Z N (fun _ => none))] = _ from e2) ▸ k2, (show va_pl L f ++ [(q, cRow Z N (fun _ => none))] = _ from e2) ▸ k3, k4⟩
theorem pcopy (C : CC p s m args c cc nL own D Z E A) (hH : PH D A s.heap L f H locs) (hsz : ls.size = nL) {idx : Nat} (hl : Cond.methodLink own idx arraycopyName ∈ TB) {a0 a n0 n1 : Nat} {f0 g : Nat → Option Nat} (ha0 : a0 ∈ L) (hf0 : f a0 = cRow Z n0 f0) (ha : a ∈ L) (hf : f a = cRow Z n1 g) {sp dp n : Int32} (h1 : ¬ sp < 0) (h2 : ¬ dp < 0) (h3 : ¬ n < 0) (h4 : sp.toNatClampNeg + n.toNatClampNeg ≤ n0) (h5 : dp.toNatClampNeg + n.toNatClampNeg ≤ n1) (hel : ∀ i : Nat, i < n.toNatClampNeg → ∀ y : Nat, f0 (sp.toNatClampNeg + i) = some y → va_Any "java/lang/Object" s H y) (hframes : 1 ≤ R.frames) (hlocals : (rest.map fun v => v.category).sum + (nativeFrameWords "java/lang/System" "arraycopy" 5 + 11) ≤ R.locals) (hdg : decode cc pc = .ok (.invokestatic idx, 3))
    (kk : ∀ (H1 : Heap) (locs1 : List Loc), PH D A s.heap L (va_up f a (cRow Z n1 (va_cpy f0 g sp.toNatClampNeg dp.toNatClampNeg n.toNatClampNeg))) H1 locs1 → W p l e R s m args below meth c H1 locs1 cells slots Q (F0 m (pc + 3) ls rest)) : W p l e R s m args below meth c H locs cells slots Q (F0 m pc ls (.int n :: .int dp :: .ref a :: .int sp :: .ref a0 :: rest)) := by
  obtain ⟨q0, hq0⟩ := va_pl_get (X := []) (f := f) ha0
  obtain ⟨q1, hq1⟩ := va_pl_get (X := []) (f := f) ha
  have hq := hq1
  rw [hf0] at hq0
  rw [hf] at hq1
  refine va_copyM C.1.1 C.1.2.1 (by rw [C.1.2.2.1, hsz]) C.1.2.2.2.1 (C.1.2.2.2.2 _ hl) (C.1.2.2.2.2 _ wd_159) (C.1.2.2.2.2 _ wd_158) (C.1.2.2.2.2 _ wd_9) C.2.1 hH.1 hH.2.1 hH.2.2 q0 q1 3 3 hq0 hq1 rfl rfl h1 h2 h3 h4 h5 hel hframes hlocals hdg (fun H1 locs1 g1 g2 g3 => ?_)
  have e := va_pl_set (X := []) (e := cRow Z n1 (va_cpy f0 g sp.toNatClampNeg dp.toNatClampNeg n.toNatClampNeg)) hH.2.1 ha hq
  exact kk H1 locs1 ⟨(show (va_pl L f).set q1 _ = va_pl L _ from e) ▸ g1, (show (va_pl L f).set q1 _ = va_pl L _ from e) ▸ g2, g3⟩
theorem pstart (C : CC p s m args c cc nL own D Z E A) (hP : PH D A s.heap L f H locs) (As : List Value) (U : State) (hU : U.heap = H) (hW : s.WarmedH U.vm) : va_Pc As (pPre D Z E L f H.size) As.toArray U :=
  ⟨rfl, by rw [hU], va_K.moved hW.alike C.2.1, C.2.2.1.pass hP.2.2 (cAs_sub C.2.2.2 hP.2.1 hP.2.2) hU hW, by rw [hU]; exact hP.1, hP.2.1.weaken (fun _ _ _ _ => trivial)⟩
theorem pback (C : CC p s m args c cc nL own D Z E A) (hP : PH D A s.heap L f H locs) {v : List Nat × (Nat → va_E)} {u : State} {H1 : Heap} {locs1 : List Loc} (hu : u.heap = H1) (hB : pPost D Z (cAs L H.size) v u) (hS : va_S A s.heap H1 locs1) : PH D A s.heap v.1 v.2 H1 locs1 := by
  obtain ⟨-, b1, b2⟩ := hB
  rw [hu] at b1
  exact ⟨b1, b2.weaken (fun _ _ _ h => cAs_sub C.2.2.2 hP.2.1 hP.2.2 _ h), hS⟩
theorem pcSi (C : CC p s m args c cc nL own D Z E A) (hP : PH D A s.heap L f H locs) {y : MethodName} {rm : Room} {post : Int32 → List Nat × (Nat → va_E) → Prop} {bytes : ByteArray} {maxL n idx mc ms : Nat} {ret : Option FieldType} (As : List Value) {st : List Value}
    (hM : ∀ sz, Met l y (Wd y bytes maxL ret) rm (va_Pc As (pPre D Z E L f sz)) (va_Qi post (pPost D Z (cAs L sz)) (cAs L sz)) mc ms (cAs L sz)) (cw : CallB R s args own idx y bytes maxL ret (Wd y bytes maxL ret) rm mc ms n ∧ (Cond.static y).before args s = true) (hn : As.length = n) (hsz : ls.size = nL) (hst : st = As.reverse ++ rest) (hro : (rest.map fun v => v.category).sum ≤ 8) (hdg : decode cc pc = .ok (.invokestatic idx, 3)) (hc : cells + mc ≤ R.cells ∧ slots + ms ≤ R.slots)
    (kk : ∀ (r : Int32) (u : List Nat × (Nat → va_E)) (H1 : Heap) (locs1 : List Loc), post r u → PH D A s.heap u.1 u.2 H1 locs1 → W p l e R s m args below meth c H1 locs1 (cells + mc) (slots + ms) Q (F0 m (pc + 3) ls (.int r :: rest))) : W p l e R s m args below meth c H locs cells slots Q (F0 m pc ls st) := by
  subst hst
  exact va_calli (va_runS (As := As) (rest := rest) C.1 (hM H.size) cw ⟨pPre_blind _ _, fun U hU hW => pstart C hP _ U hU hW⟩ rfl hn hsz rfl (lv_room hro) hdg hc) hP.2.2 (fun q _ h => cAs_sub C.2.2.2 hP.2.1 hP.2.2 q h) (cAs_sub C.2.2.2 hP.2.1 hP.2.2) (fun r u t1 H1 locs1 ht hvm hw hB hz1 hk1 hS => kk r u H1 locs1 hw (pback C hP ht hB hS))
theorem pcSq (C : CC p s m args c cc nL own D Z E A) (hP : PH D A s.heap L f H locs) {y : MethodName} {rm : Room} {post : Option Nat → List Nat × (Nat → va_E) → Prop} {bytes : ByteArray} {maxL n idx mc ms : Nat} {ret : Option FieldType} (As : List Value) {st : List Value}
    (hM : ∀ sz, Met l y (Wd y bytes maxL ret) rm (va_Pc As (pPre D Z E L f sz)) (va_Qq post (pPost D Z (cAs L sz)) (cAs L sz)) mc ms (cAs L sz)) (cw : CallB R s args own idx y bytes maxL ret (Wd y bytes maxL ret) rm mc ms n ∧ (Cond.static y).before args s = true) (hn : As.length = n) (hsz : ls.size = nL) (hst : st = As.reverse ++ rest) (hro : (rest.map fun v => v.category).sum ≤ 8) (hdg : decode cc pc = .ok (.invokestatic idx, 3)) (hc : cells + mc ≤ R.cells ∧ slots + ms ≤ R.slots)
    (kk : ∀ (r : Option Nat) (u : List Nat × (Nat → va_E)) (H1 : Heap) (locs1 : List Loc), post r u → PH D A s.heap u.1 u.2 H1 locs1 → W p l e R s m args below meth c H1 locs1 (cells + mc) (slots + ms) Q (F0 m (pc + 3) ls (va_rf r :: rest))) : W p l e R s m args below meth c H locs cells slots Q (F0 m pc ls st) := by
  subst hst
  exact va_callq (va_runS (As := As) (rest := rest) C.1 (hM H.size) cw ⟨pPre_blind _ _, fun U hU hW => pstart C hP _ U hU hW⟩ rfl hn hsz rfl (lv_room hro) hdg hc) hP.2.2 (fun q _ h => cAs_sub C.2.2.2 hP.2.1 hP.2.2 q h) (cAs_sub C.2.2.2 hP.2.1 hP.2.2) (fun r u t1 H1 locs1 ht hvm hw hB hz1 hk1 hS => kk r u H1 locs1 hw (pback C hP ht hB hS))
theorem precv (C : CC p s m args c cc nL own D Z E A) (hH : PH D A s.heap L f H locs) {a ci : Nat} {fs : List Value} (ha : a ∈ L) (hf : f a = .inr (ci, fs)) {q : vw_C} (hc : vwCl[ci]? = some q) : ∃ cell : Cell, H[a]? = some cell ∧ cell.vm.isStatics = false ∧ s.vm.findClass q.1 = some cell.cls := by
  obtain ⟨q0, hq⟩ := va_pl_get (X := []) (f := f) ha
  rw [hf] at hq
  exact va_recv C.2.1 hH.1 hc hq
theorem pcVq (C : CC p s m args c cc nL own D Z E A) (hP : PH D A s.heap L f H locs) {r0 : Nat} {Cn : String} (hrc : ∃ cell : Cell, H[r0]? = some cell ∧ cell.vm.isStatics = false ∧ s.vm.findClass Cn = some cell.cls) {y : MethodName} {rm : Room} {post : Option Nat → List Nat × (Nat → va_E) → Prop} {bytes : ByteArray} {maxL n idx mc ms : Nat} {ret : Option FieldType} (As : List Value) {st : List Value}
    (hM : ∀ sz, Met l y (Wd y bytes maxL ret) rm (va_Pc (.ref r0 :: As) (pPre D Z E L f sz)) (va_Qq post (pPost D Z (cAs L sz)) (cAs L sz)) mc ms (cAs L sz)) (cw : CallW R s args own Cn idx y bytes maxL ret (Wd y bytes maxL ret) rm mc ms n) (hn : As.length = n) (hsz : ls.size = nL) (hst : st = As.reverse ++ .ref r0 :: rest) (hro : (rest.map fun v => v.category).sum ≤ 8) (hdg : decode cc pc = .ok (.invokevirtual idx, 3)) (hc : cells + mc ≤ R.cells ∧ slots + ms ≤ R.slots)
    (kk : ∀ (r : Option Nat) (u : List Nat × (Nat → va_E)) (H1 : Heap) (locs1 : List Loc), post r u → PH D A s.heap u.1 u.2 H1 locs1 → W p l e R s m args below meth c H1 locs1 (cells + mc) (slots + ms) Q (F0 m (pc + 3) ls (va_rf r :: rest))) : W p l e R s m args below meth c H locs cells slots Q (F0 m pc ls st) := by
  subst hst
  exact va_callq (va_runV (As := As) (rest := rest) C.1 (hM H.size) cw ⟨pPre_blind _ _, hrc, fun U hU hW => pstart C hP _ U hU hW⟩ rfl hn hsz rfl (lv_room hro) hdg hc) hP.2.2 (fun q _ h => cAs_sub C.2.2.2 hP.2.1 hP.2.2 q h) (cAs_sub C.2.2.2 hP.2.1 hP.2.2) (fun r u t1 H1 locs1 ht hvm hw hB hz1 hk1 hS => kk r u H1 locs1 hw (pback C hP ht hB hS))
theorem pcVv (C : CC p s m args c cc nL own D Z E A) (hP : PH D A s.heap L f H locs) {r0 : Nat} {Cn : String} (hrc : ∃ cell : Cell, H[r0]? = some cell ∧ cell.vm.isStatics = false ∧ s.vm.findClass Cn = some cell.cls) {y : MethodName} {rm : Room} {post : List Nat × (Nat → va_E) → Prop} {bytes : ByteArray} {maxL n idx mc ms : Nat} {ret : Option FieldType} (As : List Value) {st : List Value}
    (hM : ∀ sz, Met l y (Wd y bytes maxL ret) rm (va_Pc (.ref r0 :: As) (pPre D Z E L f sz)) (va_Qv post (pPost D Z (cAs L sz)) (cAs L sz)) mc ms (cAs L sz)) (cw : CallW R s args own Cn idx y bytes maxL ret (Wd y bytes maxL ret) rm mc ms n) (hn : As.length = n) (hsz : ls.size = nL) (hst : st = As.reverse ++ .ref r0 :: rest) (hro : (rest.map fun v => v.category).sum ≤ 8) (hdg : decode cc pc = .ok (.invokevirtual idx, 3)) (hc : cells + mc ≤ R.cells ∧ slots + ms ≤ R.slots)
    (kk : ∀ (u : List Nat × (Nat → va_E)) (H1 : Heap) (locs1 : List Loc), post u → PH D A s.heap u.1 u.2 H1 locs1 → W p l e R s m args below meth c H1 locs1 (cells + mc) (slots + ms) Q (F0 m (pc + 3) ls rest)) : W p l e R s m args below meth c H locs cells slots Q (F0 m pc ls st) := by
  subst hst
  exact va_callv (va_runV (As := As) (rest := rest) C.1 (hM H.size) cw ⟨pPre_blind _ _, hrc, fun U hU hW => pstart C hP _ U hU hW⟩ rfl hn hsz rfl (lv_room hro) hdg hc) hP.2.2 (fun q _ h => cAs_sub C.2.2.2 hP.2.1 hP.2.2 q h) (cAs_sub C.2.2.2 hP.2.1 hP.2.2) (fun u t1 H1 locs1 ht hvm hw hB hz1 hk1 hS => kk u H1 locs1 hw (pback C hP ht hB hS))
theorem pEnd (C : CC p s m args c cc nL own D Z E A) (hH : PH D A s.heap L f H locs) (u : State) (hu : u.heap = H) (hW : s.WarmedH u.vm) : pPost D Z A (L, f) u := ⟨va_K.moved hW.alike C.2.1, by rw [hu]; exact hH.1, hH.2.1⟩
theorem pri (C : CC p s m args c cc nL own D Z E A) (hr : meth.sig.returnType = some .int) (hk : meth.locks = false) (hH : PH D A s.heap L f H locs) {post : Int32 → List Nat × (Nat → va_E) → Prop} {v : Int32} {mc ms : Nat} (h1 : cells ≤ mc) (h2 : slots ≤ ms) (hp : post v (L, f)) (hdg : decode cc pc = .ok (.ireturn, 1)) : W p l e R s m args below meth c H locs cells slots (MQ below (va_Qi post (pPost D Z A) A) args s mc ms A) (F0 m pc ls [.int v]) :=
  W.widen h1 h2 (W.iret C.1.1 C.1.2.1 hr (fun u hu hW => ⟨⟨v, (L, f), rfl, hp, pEnd C hH u hu hW⟩, hH.2.2.F hu⟩) hH.2.2.2.2 hdg hk)
theorem prv (C : CC p s m args c cc nL own D Z E A) (hr : meth.sig.returnType = none) (hk : meth.locks = false) (hH : PH D A s.heap L f H locs) {post : List Nat × (Nat → va_E) → Prop} {mc ms : Nat} (h1 : cells ≤ mc) (h2 : slots ≤ ms) (hp : post (L, f)) (hdg : decode cc pc = .ok (.return_, 1)) : W p l e R s m args below meth c H locs cells slots (MQ below (va_Qv post (pPost D Z A) A) args s mc ms A) (F0 m pc ls []) :=
  W.widen h1 h2 (W.vret C.1.1 C.1.2.1 hr (fun u hu hW => ⟨⟨(L, f), rfl, hp, pEnd C hH u hu hW⟩, hH.2.2.F hu⟩) hH.2.2.2.2 hdg hk)
theorem prq (C : CC p s m args c cc nL own D Z E A) {rt : FieldType} (hr : meth.sig.returnType = some rt) (hrt : (∃ n, rt = .object n) ∨ ∃ t, rt = .array t) (hk : meth.locks = false) (hH : PH D A s.heap L f H locs) {post : Option Nat → List Nat × (Nat → va_E) → Prop} {o : Option Nat} {mc ms : Nat} (h1 : cells ≤ mc) (h2 : slots ≤ ms) (hp : post o (L, f)) (hdg : decode cc pc = .ok (.areturn, 1)) : W p l e R s m args below meth c H locs cells slots (MQ below (va_Qq post (pPost D Z A) A) args s mc ms A) (F0 m pc ls [va_rf o]) :=
  W.widen h1 h2 (W.aret C.1.1 C.1.2.1 hr hrt (va_rf_or _) (fun u hu hW => ⟨⟨o, (L, f), rfl, hp, pEnd C hH u hu hW⟩, hH.2.2.F hu⟩) hH.2.2.2.2 hdg hk)
theorem pMet {y : MethodName} {maxL : Nat} {ret : Option FieldType} {rm : Room} {mc ms : Nat} {Qc : (Nat → Prop) → Array Value → State → Outcome → State → Prop} (hy : plainName y.cls = true) (hc : y.cls = own) (As : List Value) (hAs : (lg_sl As).length ≤ maxL)
    (body : ∀ (p : Program) (e : Env) (s : State) (m : MethodId) (args : Array Value) (below : List Frame) (meth : Method) (c : Code) (A : Nat → Prop), CC p s m args c cc maxL own D Z E A → meth.sig.returnType = ret → meth.locks = false → ∀ ls : Array Slot, lv_has ls maxL (lv_args 0 As) → PH D A s.heap L f s.heap [] → W p l e rm s m args below meth c s.heap [] 0 0 (MQ below (Qc A) args s mc ms A) (F0 m 0 ls [])) (sz : Nat) :
    Met l y (Wd y cc maxL ret) rm (va_Pc As (pPre D Z E L f sz)) (Qc (cAs L sz)) mc ms (cAs L sz) := by
  refine Met.ofW (cc := cc) (maxL := maxL) (ret := ret) hy (ws' := TB) rfl ?_
  intro p e s m args below meth c s₁ B hml hv
  obtain ⟨rfl, hsz, hK, hE, hP, hD0⟩ := hv
  subst hsz
  have hl := lv_entry As (n := maxL) hAs
  rw [lg_entry_eq]
  refine body p e s m _ below meth c (cAs L s.heap.size) ⟨⟨B.exec, B.bytes, hml, by rw [← hc]; exact findClass_of_methodNamed B.named, fun w h => atoms_spec (ws := Wd y cc maxL ret) B.pre w (List.mem_cons_of_mem _ h)⟩, hK, hE, fun q h => Or.inr h⟩ B.returns B.notSynchronized _ hl ⟨hP, ⟨hD0.1, fun k q hk => Or.inl ?_⟩, va_S.rf⟩
  have := List.mem_of_getElem? hk
  obtain ⟨a, ha, rfl⟩ := List.mem_map.mp this
  exact ha
end PRows
