/-! making objects: rows over the pool (gen/mk.txt) -/
abbrev rmO : Room := { frames := 1, cells := 0, slots := 0, locals := 40 }
theorem cwTI {R : Room} {s : State} {args : Array Value} {own : String} {idx maxL mc ms : Nat} {y : MethodName} {bytes : ByteArray} {rm : Room} (n : Nat) (ht : ∀ w ∈ TB, w.before args s = true) (h1 : Cond.methodLink own idx y ∈ TB) (h2 : Cond.instanceMethod y ∈ TB) (h4 : Cond.initialized y.cls ∈ TB) (h5 : Cond.code y bytes maxL none ∈ TB) (hrc : rm.cells = mc) (hrs : rm.slots = ms) (hy1 : y.name = "<init>") (hd : y.cls ≠ "java/lang/invoke/MethodHandle" ∧ y.cls ≠ "java/lang/invoke/VarHandle" ∧ (parseMethodDescriptor y.desc).map (fun d => d.parameters.length) = some n) (hR : rm.frames + 1 ≤ R.frames ∧ 8 + (maxL + 11) + rm.locals ≤ R.locals) : CallB R s args own idx y bytes maxL none (Wd y bytes maxL none) rm mc ms n ∧ y.name = "<init>" ∧ (Cond.instanceMethod y).before args s = true :=
  cwI n ht (gCode h5) (ws' := TB) rfl hrc hrs (ht _ h4) (ht _ h1) (ht _ h2) hy1 hd hR
section MkRows
variable {p : Program} {l : Launch} {e : Env} {R : Room} {s : State} {m : MethodId} {args : Array Value} {below : List Frame} {meth : Method} {c : Code} {H : Heap} {locs : List Loc} {cells slots : Nat} {Q : State → Prop} {pc nL : Nat} {ls : Array Slot} {rest : List Value} {D : va_G} {Z : Nat → ClassId} {E : Nat → Nat} {ad : Nat → Nat → Nat} {t : CS} {A : Nat → Prop} {cc : ByteArray} {own : String} {L : List Nat} {f : Nat → va_E} {idx : Nat}
theorem pl_new {a : Nat} {e : va_E} (h : va_D A (va_pl L f ++ [(a, e)])) : a ∉ L := fun hq => by
  obtain ⟨i, hi⟩ := va_pl_get (X := []) (f := f) hq
  have hi : (va_pl L f)[i]? = some (a, f a) := hi
  have hlt := (List.getElem?_eq_some_iff.mp hi).1
  have h1 := h.1 i (va_pl L f).length (a, f a) (a, e) (by rw [List.getElem?_append_left hlt]; exact hi) (by rw [List.getElem?_append_right (Nat.le_refl _), Nat.sub_self]; rfl) rfl
  omega
theorem pnewo (C : CC p s m args c cc nL own D Z E A) (hH : PH D A s.heap L f H locs) {ci N : Nat} {Cn : String} {T : u_T} (hc : vwCl[ci]? = some (Cn, T, N)) (hin : ∀ w ∈ u_ws Cn T N, w ∈ TB) {ty : Nat → FieldType} (hty : ∀ k, k < N → parseFieldDescriptor (T k).2.2.1 = some (ty k)) (hl : Cond.classLink own idx Cn ∈ TB) (hi : Cond.instantiable Cn N ∈ TB) (hini : Cond.initialized Cn ∈ TB) {fs : List Value} (hfs : ∀ j, j < N → defaultValue (ty j) = vp_V fs j) (hcells : cells + 1 ≤ R.cells) (hslots : slots + N ≤ R.slots) (hdg : decode cc pc = .ok (.new idx, 3))
    (kk : ∀ (q : Nat) (H1 : Heap), q ∉ L → PH D A s.heap (L ++ [q]) (va_up f q (.inr (ci, fs))) H1 locs → W p l e R s m args below meth c H1 locs (cells + 1) (slots + N) Q (F0 m (pc + 3) ls (.ref q :: rest))) : W p l e R s m args below meth c H locs cells slots Q (F0 m pc ls rest) := by
  refine va_new (fs := fs) C.1.1 C.1.2.1 C.1.2.2.2.2 hin ty hty C.1.2.2.2.1 (C.1.2.2.2.2 _ hl) (C.1.2.2.2.2 _ hi) (C.1.2.2.2.2 _ hini) C.2.1 hH.1 hH.2.1 hH.2.2 C.2.2.2 hc hfs hcells hslots hdg (fun q H1 k2 k3 k4 => ?_)
  have hq := pl_new k3
  have e2 := va_pl_push (L := L) (f := f) (a := q) (e := .inr (ci, fs)) hq
  exact kk q H1 hq ⟨e2 ▸ k2, e2 ▸ k3, k4⟩
theorem ppF (C : CC p s m args c cc nL own D Z E A) (hin2 : meth.name = "<init>") (hH : PH D A s.heap L f H locs) {a ci : Nat} {fs : List Value} (ha : a ∈ L) (hf : f a = .inr (ci, fs)) {T : u_T} {N : Nat} (hc : vwCl[ci]? = some (own, T, N)) (hin : ∀ w ∈ u_ws own T N, w ∈ TB) (ty0 : Nat → FieldType) (hty0 : ∀ k, k < N → parseFieldDescriptor (T k).2.2.1 = some (ty0 k)) (hnm : ∀ a, a < N → ∀ b, b < N → a ≠ b → (T a).2.1 ≠ (T b).2.1) (k : Nat) (hk : k < N) {nm ds : String} (hT : T k = (own, nm, ds, true)) (hl : Cond.fieldLink own idx own nm ds ∈ TB) {ty : FieldType} {v : Value} (hd : parseFieldDescriptor ds = some ty) (hn : narrow ty v = v) (hfit : fits ty v = true) (hlen : k < fs.length) (hdg : decode cc pc = .ok (.putfield idx, 3))
    (kk : ∀ (H1 : Heap) (locs1 : List Loc), PH D A s.heap L (va_up f a (.inr (ci, fs.set k v))) H1 locs1 → W p l e R s m args below meth c H1 locs1 cells slots Q (F0 m (pc + 3) ls rest)) : W p l e R s m args below meth c H locs cells slots Q (F0 m pc ls (v :: .ref a :: rest)) := by
  obtain ⟨q0, hq⟩ := va_pl_get (X := []) (f := f) ha
  have hq0 := hq
  rw [hf] at hq
  refine va_putF (own := own) (ref := own) (C := own) (T := T) (N := N) (ci := ci) C.1.1 C.1.2.1 C.1.2.2.2.2 hin ty0 hty0 hnm C.1.2.2.2.1 C.2.1 hH.1 hH.2.1 hH.2.2 q0 hq hc k hk (by rw [hT]; exact C.1.2.2.2.2 _ hl) (fun x h => by rw [hT] at h ⊢; exact h) (by rw [hT]) hin2 (by rw [hT]) (ty := ty) (by rw [hT]; exact hd) hn hfit hlen hdg (fun H1 locs1 h1 h2 h3 => ?_)
  have e := va_pl_set (X := []) (e := .inr (ci, fs.set k v)) hH.2.1 ha hq0
  exact kk H1 locs1 ⟨(show (va_pl L f).set q0 _ = va_pl L _ from e) ▸ h1, (show (va_pl L f).set q0 _ = va_pl L _ from e) ▸ h2, h3⟩
theorem pobj (C : CC p s m args c cc nL own D Z E A) (hsz : ls.size = nL) {a : Nat} (hl : Cond.methodLink own idx Lib.objectInit ∈ TB) (hfr : 1 ≤ R.frames) (hlo : (rest.map fun v => v.category).sum ≤ 8) (hlo2 : 20 ≤ R.locals) (hdg : decode cc pc = .ok (.invokespecial idx, 3)) (kk : W p l e R s m args below meth c H locs cells slots Q (F0 m (pc + 3) ls rest)) : W p l e R s m args below meth c H locs cells slots Q (F0 m pc ls (.ref a :: rest)) :=
  W.objInit C.1.1 C.1.2.1 C.1.2.2.2.1 (C.1.2.2.2.2 _ hl) (C.1.2.2.2.2 _ wd_31) (C.1.2.2.2.2 _ wd_32) rfl (by rw [C.1.2.2.1]; exact hsz) rfl hdg hfr (Nat.le_trans (Nat.add_le_add_right (lv_room hlo) 12) hlo2) kk
theorem pcIv (C : CC p s m args c cc nL own D Z E A) (hP : PH D A s.heap L f H locs) {r0 : Nat} {y : MethodName} {rm : Room} {post : P2 → Prop} {bytes : ByteArray} {maxL n mc ms : Nat} (As : List Value) {st : List Value}
    (hM : ∀ sz, Met l y (Wd y bytes maxL none) rm (va_Pc (.ref r0 :: As) (pPre D Z E L f sz)) (va_Qv post (pPost D Z (cAs L sz)) (cAs L sz)) mc ms (cAs L sz)) (cw : CallB R s args own idx y bytes maxL none (Wd y bytes maxL none) rm mc ms n ∧ y.name = "<init>" ∧ (Cond.instanceMethod y).before args s = true) (hn : As.length = n) (hsz : ls.size = nL) (hst : st = As.reverse ++ .ref r0 :: rest) (hro : (rest.map fun v => v.category).sum ≤ 8) (hdg : decode cc pc = .ok (.invokespecial idx, 3)) (hc : cells + mc ≤ R.cells ∧ slots + ms ≤ R.slots)
    (kk : ∀ (u : P2) (H1 : Heap) (locs1 : List Loc), post u → PH D A s.heap u.1 u.2 H1 locs1 → W p l e R s m args below meth c H1 locs1 (cells + mc) (slots + ms) Q (F0 m (pc + 3) ls rest)) : W p l e R s m args below meth c H locs cells slots Q (F0 m pc ls st) := by
  subst hst
  exact va_callv (va_runI (As := As) (rest := rest) C.1 (hM H.size) cw ⟨pPre_blind _ _, fun U hU hW => pstart C hP _ U hU hW⟩ rfl hn hsz rfl (lv_room hro) hdg hc) hP.2.2 (fun q _ h => cAs_sub C.2.2.2 hP.2.1 hP.2.2 q h) (cAs_sub C.2.2.2 hP.2.1 hP.2.2) (fun u t1 H1 locs1 ht hvm hw hB hz1 hk1 hS => kk u H1 locs1 hw (pback C hP ht hB hS))
theorem pcVi (C : CC p s m args c cc nL own D Z E A) (hP : PH D A s.heap L f H locs) {r0 : Nat} {Cn : String} (hrc : ∃ cell : Cell, H[r0]? = some cell ∧ cell.vm.isStatics = false ∧ s.vm.findClass Cn = some cell.cls) {y : MethodName} {rm : Room} {post : Int32 → P2 → Prop} {bytes : ByteArray} {maxL n mc ms : Nat} {ret : Option FieldType} (As : List Value) {st : List Value}
    (hM : ∀ sz, Met l y (Wd y bytes maxL ret) rm (va_Pc (.ref r0 :: As) (pPre D Z E L f sz)) (va_Qi post (pPost D Z (cAs L sz)) (cAs L sz)) mc ms (cAs L sz)) (cw : CallW R s args own Cn idx y bytes maxL ret (Wd y bytes maxL ret) rm mc ms n) (hn : As.length = n) (hsz : ls.size = nL) (hst : st = As.reverse ++ .ref r0 :: rest) (hro : (rest.map fun v => v.category).sum ≤ 8) (hdg : decode cc pc = .ok (.invokevirtual idx, 3)) (hc : cells + mc ≤ R.cells ∧ slots + ms ≤ R.slots)
    (kk : ∀ (r : Int32) (u : P2) (H1 : Heap) (locs1 : List Loc), post r u → PH D A s.heap u.1 u.2 H1 locs1 → W p l e R s m args below meth c H1 locs1 (cells + mc) (slots + ms) Q (F0 m (pc + 3) ls (.int r :: rest))) : W p l e R s m args below meth c H locs cells slots Q (F0 m pc ls st) := by
  subst hst
  exact va_calli (va_runV (As := As) (rest := rest) C.1 (hM H.size) cw ⟨pPre_blind _ _, hrc, fun U hU hW => pstart C hP _ U hU hW⟩ rfl hn hsz rfl (lv_room hro) hdg hc) hP.2.2 (fun q _ h => cAs_sub C.2.2.2 hP.2.1 hP.2.2 q h) (cAs_sub C.2.2.2 hP.2.1 hP.2.2) (fun r u t1 H1 locs1 ht hvm hw hB hz1 hk1 hS => kk r u H1 locs1 hw (pback C hP ht hB hS))
theorem pMetI {y : MethodName} {maxL : Nat} {ret : Option FieldType} {rm : Room} {mc ms : Nat} {Qc : (Nat → Prop) → Array Value → State → Outcome → State → Prop} (hy : plainName y.cls = true) (hc : y.cls = own) (hnmI : y.name = "<init>") (As : List Value) (hAs : (lg_sl As).length ≤ maxL)
    (body : ∀ (p : Program) (e : Env) (s : State) (m : MethodId) (args : Array Value) (below : List Frame) (meth : Method) (c : Code) (A : Nat → Prop), CC p s m args c cc maxL own D Z E A → meth.sig.returnType = ret → meth.locks = false → meth.name = "<init>" → ∀ ls : Array Slot, lv_has ls maxL (lv_args 0 As) → PH D A s.heap L f s.heap [] → W p l e rm s m args below meth c s.heap [] 0 0 (MQ below (Qc A) args s mc ms A) (F0 m 0 ls [])) (sz : Nat) :
    Met l y (Wd y cc maxL ret) rm (va_Pc As (pPre D Z E L f sz)) (Qc (cAs L sz)) mc ms (cAs L sz) := by
  refine Met.ofW (cc := cc) (maxL := maxL) (ret := ret) hy (ws' := TB) rfl ?_
  intro p e s m args below meth c s₁ B hml hv
  obtain ⟨rfl, hsz, hK, hE, hP, hD0⟩ := hv
  subst hsz
  have hl := lv_entry As (n := maxL) hAs
  rw [lg_entry_eq]
  refine body p e s m _ below meth c (cAs L s.heap.size) ⟨⟨B.exec, B.bytes, hml, by rw [← hc]; exact findClass_of_methodNamed B.named, fun w h => atoms_spec (ws := Wd y cc maxL ret) B.pre w (List.mem_cons_of_mem _ h)⟩, hK, hE, fun q h => Or.inr h⟩ B.returns B.notSynchronized ((name_of_methodNamed B.named B.method).1.trans hnmI) _ hl ⟨hP, ⟨hD0.1, fun k q hk => Or.inl ?_⟩, va_S.rf⟩
  have := List.mem_of_getElem? hk
  obtain ⟨a, ha, rfl⟩ := List.mem_map.mp this
  exact ha
end MkRows
