/-! the model: its world, and rows for what its methods do to it (written by wip/whole/gen/mbase.py) -/
abbrev vwCl : List vw_C := [(RJx4a65c, TJx4a65c, 3), (RX0, TX0, 10), (RX1, TX1, 6), (RX2, TX2, 19), (RX3, TX3, 10), (RX4, TX4, 5), (RX5, TX5, 6), (RX6, TX6, 3), (RX7, TX7, 3), (RX8, TX8, 2), (RX10, TX10, 13), (RX11, TX11, 69)]
abbrev MS : Type := Nat → Nat → Int32
def up2 (σ : MS) (k i : Nat) (v : Int32) : MS := fun j => if j = k then upd (σ k) i v else σ j
abbrev tysZ (Z : Nat → ClassId) : List (ClassId × FieldType) := [(Z 0, .byte), (Z 1, .int), (Z 2, .boolean), (Z 3, .object "java/lang/Object")]
def mO (b : Nat → Nat) (σ : MS) : List Value := [.int (σ 0 0), .int (σ 1 0), .int (σ 2 0), .ref (b 3), .ref (b 4), .int (σ 5 0), .ref (b 6), .ref (b 7), .ref (b 8), .ref (b 9), .int (σ 10 0), .ref (b 11), .ref (b 12), .ref (b 13), .ref (b 14), .ref (b 15), .ref (b 16), .ref (b 17), .ref (b 18), .ref (b 19), .ref (b 20), .ref (b 21), .ref (b 22), .ref (b 23), .ref (b 24), .int (σ 25 0), .int (σ 26 0), .ref (b 27), .ref (b 28), .ref (b 29), .ref (b 30), .ref (b 31), .ref (b 32), .ref (b 33), .int (σ 34 0), .int (σ 35 0), .int (σ 36 0), .int (σ 37 0), .ref (b 38), .int (σ 39 0), .int (σ 40 0), .ref (b 41), .ref (b 42), .int (σ 43 0), .ref (b 44), .ref (b 45), .ref (b 46), .ref (b 47), .ref (b 48), .ref (b 49), .ref (b 50), .ref (b 51), .ref (b 52), .ref (b 53), .ref (b 54), .ref (b 55), .ref (b 56), .ref (b 57), .ref (b 58), .ref (b 59), .int (σ 60 0), .ref (b 61), .ref (b 62), .ref (b 63), .ref (b 64), .ref (b 65), .ref (b 66), .ref (b 67), .ref (b 68)]
def mW (Z : Nat → ClassId) (b : Nat → Nat) (σ : MS) : va_W := [(b 69, .inr (11, mO b σ)), (b 3, .inl (Z 1, 20, .inl (σ 3))), (b 4, .inl (Z 1, 20, .inl (σ 4))), (b 6, .inl (Z 1, 20, .inl (σ 6))), (b 7, .inl (Z 1, 20, .inl (σ 7))), (b 8, .inl (Z 1, 20, .inl (σ 8))), (b 9, .inl (Z 1, 20, .inl (σ 9))), (b 11, .inl (Z 1, 60, .inl (σ 11))), (b 12, .inl (Z 1, 60, .inl (σ 12))), (b 13, .inl (Z 1, 60, .inl (σ 13))), (b 14, .inl (Z 1, 60, .inl (σ 14))), (b 15, .inl (Z 1, 60, .inl (σ 15))), (b 16, .inl (Z 1, 60, .inl (σ 16))), (b 17, .inl (Z 1, 60, .inl (σ 17))), (b 18, .inl (Z 1, 60, .inl (σ 18))), (b 19, .inl (Z 2, 60, .inl (σ 19))), (b 20, .inl (Z 1, 4, .inl (σ 20))), (b 21, .inl (Z 1, 240, .inl (σ 21))), (b 22, .inl (Z 2, 4, .inl (σ 22))), (b 23, .inl (Z 1, 4, .inl (σ 23))), (b 24, .inl (Z 0, 200, .inl (σ 24))), (b 27, .inl (Z 1, 40, .inl (σ 27))), (b 28, .inl (Z 1, 40, .inl (σ 28))), (b 29, .inl (Z 1, 40, .inl (σ 29))), (b 30, .inl (Z 1, 40, .inl (σ 30))), (b 31, .inl (Z 1, 40, .inl (σ 31))), (b 32, .inl (Z 1, 8800, .inl (σ 32))), (b 33, .inl (Z 1, 8800, .inl (σ 33))), (b 38, .inl (Z 1, 220, .inl (σ 38))), (b 41, .inl (Z 1, 13, .inl (σ 41))), (b 42, .inl (Z 1, 220, .inl (σ 42))), (b 44, .inl (Z 1, 200, .inl (σ 44))), (b 45, .inl (Z 1, 200, .inl (σ 45))), (b 46, .inl (Z 1, 200, .inl (σ 46))), (b 47, .inl (Z 1, 200, .inl (σ 47))), (b 48, .inl (Z 1, 200, .inl (σ 48))), (b 49, .inl (Z 1, 200, .inl (σ 49))), (b 50, .inl (Z 1, 200, .inl (σ 50))), (b 51, .inl (Z 1, 200, .inl (σ 51))), (b 52, .inl (Z 1, 200, .inl (σ 52))), (b 53, .inl (Z 1, 200, .inl (σ 53))), (b 54, .inl (Z 1, 200, .inl (σ 54))), (b 55, .inl (Z 1, 200, .inl (σ 55))), (b 56, .inl (Z 1, 200, .inl (σ 56))), (b 57, .inl (Z 1, 200, .inl (σ 57))), (b 58, .inl (Z 1, 200, .inl (σ 58))), (b 59, .inl (Z 1, 1600, .inl (σ 59))), (b 61, .inl (Z 1, 8, .inl (σ 61))), (b 62, .inl (Z 2, 60, .inl (σ 62))), (b 63, .inl (Z 1, 4, .inl (σ 63))), (b 64, .inl (Z 1, 4, .inl (σ 64))), (b 65, .inl (Z 1, 4, .inl (σ 65))), (b 66, .inl (Z 1, 4, .inl (σ 66))), (b 67, .inl (Z 1, 4, .inl (σ 67))), (b 68, .inl (Z 1, 668, .inl (σ 68)))]
def mAd (b : Nat → Nat) : List Nat := [b 69, b 3, b 4, b 6, b 7, b 8, b 9, b 11, b 12, b 13, b 14, b 15, b 16, b 17, b 18, b 19, b 20, b 21, b 22, b 23, b 24, b 27, b 28, b 29, b 30, b 31, b 32, b 33, b 38, b 41, b 42, b 44, b 45, b 46, b 47, b 48, b 49, b 50, b 51, b 52, b 53, b 54, b 55, b 56, b 57, b 58, b 59, b 61, b 62, b 63, b 64, b 65, b 66, b 67, b 68]
theorem mW_ad (Z : Nat → ClassId) (b : Nat → Nat) (σ : MS) : (mW Z b σ).map Prod.fst = mAd b := rfl
def mA (b : Nat → Nat) (sz : Nat) : Nat → Prop := fun q => q ∈ mAd b ∨ sz ≤ q
def mPre (D : va_G) (Z : Nat → ClassId) (b : Nat → Nat) (sz : Nat) (σ : MS) (U : State) : Prop := U.heap.size = sz ∧ va_P D vwCl (mW Z b σ) U.heap ∧ va_K D vwCl (tysZ Z) U ∧ va_D (fun _ => True) (mW Z b σ)
def mPost (D : va_G) (Z : Nat → ClassId) (b : Nat → Nat) (σ : MS) (t : State) : Prop := va_P D vwCl (mW Z b σ) t.heap ∧ va_K D vwCl (tysZ Z) t
def MH (D : va_G) (Z : Nat → ClassId) (b : Nat → Nat) (H0 : Heap) (σ : MS) (H : Heap) (locs : List Loc) : Prop := va_P D vwCl (mW Z b σ) H ∧ va_D (mA b H0.size) (mW Z b σ) ∧ va_S (mA b H0.size) H0 H locs
theorem va_D_addr {A B : Nat → Prop} {w w' : va_W} (h : va_D A w) (e : w'.map Prod.fst = w.map Prod.fst) (hB : ∀ q ∈ w.map Prod.fst, B q) : va_D B w' := by
  have key : ∀ (i : Nat) (p : Nat × va_E), w'[i]? = some p → ∃ p0, w[i]? = some p0 ∧ p0.1 = p.1 := by
    intro i p hp
    have h1 : (w'.map Prod.fst)[i]? = some p.1 := by rw [List.getElem?_map, hp]; rfl
    rw [e, List.getElem?_map] at h1
    cases h2 : w[i]? with
    | none => rw [h2] at h1; cases h1
    | some p0 => rw [h2] at h1; exact ⟨p0, rfl, Option.some.inj h1⟩
  refine ⟨fun i j p q hi hj hpq => ?_, fun k q hk => ?_⟩
  · obtain ⟨p0, a1, a2⟩ := key i p hi
    obtain ⟨q0, b1, b2⟩ := key j q hj
    exact h.1 i j p0 q0 a1 b1 (by rw [a2, b2, hpq])
  · obtain ⟨p0, a1, a2⟩ := key k q hk
    rw [← a2]
    exact hB _ (List.mem_map.mpr ⟨p0, List.mem_of_getElem? a1, rfl⟩)
theorem mD_of {A : Nat → Prop} {Z : Nat → ClassId} {b : Nat → Nat} {σ σ' : MS} (sz : Nat) (h : va_D A (mW Z b σ)) : va_D (mA b sz) (mW Z b σ') := va_D_addr h rfl (fun q hq => Or.inl hq)
def MC (p : Program) (s : State) (m : MethodId) (args : Array Value) (c : Code) (cc : ByteArray) (nL : Nat) (D : va_G) (Z : Nat → ClassId) : Prop := CallFix p m c cc nL s args TB RX11 ∧ va_K D vwCl (tysZ Z) s
theorem pfI : parseFieldDescriptor "I" = some .int := by decide +kernel
theorem pfZ : parseFieldDescriptor "Z" = some .boolean := by decide +kernel
def bz (v : Int32) : Prop := v = 0 ∨ v = 1
theorem bz.nar {v : Int32} (h : bz v) : narrow .boolean (.int v) = .int v := by
  rcases h with rfl | rfl <;> decide +kernel
theorem bz.fit {v : Int32} (h : bz v) : fits .boolean (.int v) = true := by
  rcases h with rfl | rfl <;> decide +kernel
theorem goodIn_ap4 {a b : List Cond} (ha : ∀ w ∈ a, w ∈ TB) (hb : GoodIn TB b) : GoodIn TB (a ++ b) := fun w h => (List.mem_append.mp h).elim (fun h2 => ⟨ha w h2, good_of_word (tb_good (ha w h2))⟩) (hb w)
def Wd (y : MethodName) (cc : ByteArray) (maxL : Nat) (ret : Option FieldType) : List Cond := Cond.code y cc maxL ret :: TB
theorem gCode {y : MethodName} {cc : ByteArray} {maxL : Nat} {ret : Option FieldType} (h : Cond.code y cc maxL ret ∈ TB) : GoodIn TB (Wd y cc maxL ret) := fun w hw => (List.mem_cons.mp hw).elim (fun e => by rw [e]; exact ⟨h, good_of_word (tb_good h)⟩) (fun h2 => ⟨h2, good_of_word (tb_good h2)⟩)
theorem gV {own C : String} {idx : Nat} {y : MethodName} {cc : ByteArray} {maxL : Nat} {ret : Option FieldType} (h1 : Cond.methodLink own idx y ∈ TB) (h2 : Cond.instanceMethod y ∈ TB) (h3 : Cond.selects C y y ∈ TB) (h4 : Cond.initialized C ∈ TB) (h5 : Cond.code y cc maxL ret ∈ TB) : GoodIn TB (wsV own idx C y (Wd y cc maxL ret)) :=
  goodIn_ap4 (List.forall_mem_cons.mpr ⟨h1, List.forall_mem_cons.mpr ⟨h2, List.forall_mem_cons.mpr ⟨h3, List.forall_mem_cons.mpr ⟨h4, fun _ h => absurd h List.not_mem_nil⟩⟩⟩⟩) (gCode h5)
theorem gS {own : String} {idx : Nat} {y : MethodName} {cc : ByteArray} {maxL : Nat} {ret : Option FieldType} (h1 : Cond.methodLink own idx y ∈ TB) (h2 : Cond.static y ∈ TB) (h4 : Cond.initialized y.cls ∈ TB) (h5 : Cond.code y cc maxL ret ∈ TB) : GoodIn TB (va_wsS own idx y (Wd y cc maxL ret)) :=
  goodIn_ap4 (List.forall_mem_cons.mpr ⟨h1, List.forall_mem_cons.mpr ⟨h2, List.forall_mem_cons.mpr ⟨h4, fun _ h => absurd h List.not_mem_nil⟩⟩⟩) (gCode h5)
theorem cwTV {R : Room} {s : State} {args : Array Value} {own C : String} {idx maxL mc ms : Nat} {y : MethodName} {bytes : ByteArray} {ret : Option FieldType} {rm : Room} (n : Nat) (ht : ∀ w ∈ TB, w.before args s = true) (h1 : Cond.methodLink own idx y ∈ TB) (h2 : Cond.instanceMethod y ∈ TB) (h3 : Cond.selects C y y ∈ TB) (h4 : Cond.initialized C ∈ TB) (h5 : Cond.code y bytes maxL ret ∈ TB) (hrc : rm.cells = mc) (hrs : rm.slots = ms) (hd : y.cls = C ∧ y.cls ≠ "java/lang/invoke/MethodHandle" ∧ y.cls ≠ "java/lang/invoke/VarHandle" ∧ (parseMethodDescriptor y.desc).map (fun d => d.parameters.length) = some n) (hR : rm.frames + 1 ≤ R.frames ∧ 8 + (maxL + 11) + rm.locals ≤ R.locals) : CallW R s args own C idx y bytes maxL ret (Wd y bytes maxL ret) rm mc ms n :=
  cwV n ht (gV h1 h2 h3 h4 h5) (ws' := TB) rfl hrc hrs hd hR
theorem cwTS {R : Room} {s : State} {args : Array Value} {own : String} {idx maxL mc ms : Nat} {y : MethodName} {bytes : ByteArray} {ret : Option FieldType} {rm : Room} (n : Nat) (ht : ∀ w ∈ TB, w.before args s = true) (h1 : Cond.methodLink own idx y ∈ TB) (h2 : Cond.static y ∈ TB) (h4 : Cond.initialized y.cls ∈ TB) (h5 : Cond.code y bytes maxL ret ∈ TB) (hrc : rm.cells = mc) (hrs : rm.slots = ms) (hd : y.cls ≠ "java/lang/invoke/MethodHandle" ∧ y.cls ≠ "java/lang/invoke/VarHandle" ∧ (parseMethodDescriptor y.desc).map (fun d => d.parameters.length) = some n) (hR : rm.frames + 1 ≤ R.frames ∧ 8 + (maxL + 11) + rm.locals ≤ R.locals) : CallB R s args own idx y bytes maxL ret (Wd y bytes maxL ret) rm mc ms n ∧ (Cond.static y).before args s = true :=
  va_cwS n ht (gS h1 h2 h4 h5) (ws' := TB) rfl hrc hrs hd hR
theorem bz0 : bz 0 := Or.inl rfl
theorem bz1 : bz 1 := Or.inr rfl
theorem ifp {c : Prop} [Decidable c] {A B : Prop} (h : c) (w : if c then A else B) : A := by rwa [if_pos h] at w
theorem sw_ne {x k : Int32} (h : ¬ x = k) (n : Int) (hn : k.toInt = n) : ¬ x.toInt = n := fun e => h (Int32.toInt_inj.mp (e.trans hn.symm))
theorem sw_en {x k : Int32} (h : ¬ x = k) (n : Int) (hn : k.toInt = n) : ¬ n = x.toInt := fun e => h (Int32.toInt_inj.mp (e.symm.trans hn.symm))
theorem ifn {c : Prop} [Decidable c] {A B : Prop} (h : ¬ c) (w : if c then A else B) : B := by rwa [if_neg h] at w
section MRows
variable {p : Program} {l : Launch} {e : Env} {R : Room} {s : State} {m : MethodId} {args : Array Value} {below : List Frame} {meth : Method} {c : Code} {H : Heap} {locs : List Loc} {cells slots : Nat} {Q : State → Prop} {pc nL : Nat} {ls : Array Slot} {rest : List Value} {D : va_G} {Z : Nat → ClassId} {b : Nat → Nat} {σ : MS} {H0 : Heap} {cc : ByteArray}
theorem mg (C : MC p s m args c cc nL D Z) (hH : MH D Z b H0 σ H locs) (k : Nat) (hk : k < 69) {idx : Nat} {nm ds : String} {fin : Bool} (hT : TX11 k = (RX11, nm, ds, fin)) (hl : Cond.fieldLink RX11 idx RX11 nm ds ∈ TB) {v : Value} (hv : (mO b σ)[k]? = some v) (hdg : decode cc pc = .ok (.getfield idx, 3))
    (kk : W p l e R s m args below meth c H locs cells slots Q (F0 m (pc + 3) ls (v :: rest))) : W p l e R s m args below meth c H locs cells slots Q (F0 m pc ls (.ref (b 69) :: rest)) :=
  va_get (own := RX11) (ref := RX11) (C := RX11) (T := TX11) (N := 69) (ci := 11) C.1.1 C.1.2.1 C.1.2.2.2.2 ixX11 C.1.2.2.2.1 C.2 hH.1 0 (fs := mO b σ) rfl rfl k hk (by rw [hT]; exact C.1.2.2.2.2 _ hl) (fun x h => by rw [hT] at h ⊢; exact h) hv hdg kk
theorem mp (C : MC p s m args c cc nL D Z) (hH : MH D Z b H0 σ H locs) (k : Nat) (hk : k < 69) {idx : Nat} {nm : String} (hT : TX11 k = (RX11, nm, "I", false)) (hl : Cond.fieldLink RX11 idx RX11 nm "I" ∈ TB) {v : Int32} (hset : (mW Z b σ).set 0 (b 69, .inr (11, (mO b σ).set k (.int v))) = mW Z b (up2 σ k 0 v)) (hdg : decode cc pc = .ok (.putfield idx, 3))
    (kk : ∀ (H1 : Heap) (locs1 : List Loc), MH D Z b H0 (up2 σ k 0 v) H1 locs1 → W p l e R s m args below meth c H1 locs1 cells slots Q (F0 m (pc + 3) ls rest)) : W p l e R s m args below meth c H locs cells slots Q (F0 m pc ls (.int v :: .ref (b 69) :: rest)) := by
  refine va_put (own := RX11) (ref := RX11) (C := RX11) (T := TX11) (N := 69) (ci := 11) C.1.1 C.1.2.1 C.1.2.2.2.2 ixX11 tyX11 tyX11_ok nmX11 C.1.2.2.2.1 C.2 hH.1 hH.2.1 hH.2.2 0 (fs := mO b σ) rfl rfl k hk (by rw [hT]; exact C.1.2.2.2.2 _ hl) (fun x h => by rw [hT] at h ⊢; exact h) (by rw [hT]) (ty := .int) (by rw [hT]; exact pfI) rfl rfl hk hdg (fun H1 locs1 h1 h2 h3 => ?_)
  rw [hset] at h1 h2
  exact kk H1 locs1 ⟨h1, h2, h3⟩
theorem mai (C : MC p s m args c cc nL D Z) (hH : MH D Z b H0 σ H locs) (q0 k : Nat) {a n : Nat} (ha : (mW Z b σ)[q0]? = some (a, .inl (Z 1, n, .inl (σ k)))) {i : Int32} (hin : vp_in i n) (hdg : decode cc pc = .ok (.iaload, 1))
    (kk : W p l e R s m args below meth c H locs cells slots Q (F0 m (pc + 1) ls (.int (σ k i.toNatClampNeg) :: rest))) : W p l e R s m args below meth c H locs cells slots Q (F0 m pc ls (.int i :: .ref a :: rest)) :=
  va_iald C.1.1 C.1.2.1 C.2 hH.1 q0 1 ha rfl hin hdg kk
theorem mab (C : MC p s m args c cc nL D Z) (hH : MH D Z b H0 σ H locs) (q0 k : Nat) {a n : Nat} (ha : (mW Z b σ)[q0]? = some (a, .inl (Z 0, n, .inl (σ k)))) {i : Int32} (hin : vp_in i n) (hdg : decode cc pc = .ok (.baload, 1))
    (kk : W p l e R s m args below meth c H locs cells slots Q (F0 m (pc + 1) ls (.int (σ k i.toNatClampNeg) :: rest))) : W p l e R s m args below meth c H locs cells slots Q (F0 m pc ls (.int i :: .ref a :: rest)) :=
  va_bald C.1.1 C.1.2.1 C.2 hH.1 q0 0 ha rfl hin hdg kk
theorem maz (C : MC p s m args c cc nL D Z) (hH : MH D Z b H0 σ H locs) (q0 k : Nat) {a n : Nat} (ha : (mW Z b σ)[q0]? = some (a, .inl (Z 2, n, .inl (σ k)))) {i : Int32} (hin : vp_in i n) (hdg : decode cc pc = .ok (.baload, 1))
    (kk : W p l e R s m args below meth c H locs cells slots Q (F0 m (pc + 1) ls (.int (σ k i.toNatClampNeg) :: rest))) : W p l e R s m args below meth c H locs cells slots Q (F0 m pc ls (.int i :: .ref a :: rest)) :=
  va_zald C.1.1 C.1.2.1 C.2 hH.1 q0 2 ha rfl hin hdg kk
theorem msi (C : MC p s m args c cc nL D Z) (hH : MH D Z b H0 σ H locs) (q0 k : Nat) {a n : Nat} (ha : (mW Z b σ)[q0]? = some (a, .inl (Z 1, n, .inl (σ k)))) {i x : Int32} (hset : (mW Z b σ).set q0 (a, .inl (Z 1, n, .inl (upd (σ k) i.toNatClampNeg x))) = mW Z b (up2 σ k i.toNatClampNeg x)) (hin : vp_in i n) (hdg : decode cc pc = .ok (.iastore, 1))
    (kk : ∀ (H1 : Heap) (locs1 : List Loc), MH D Z b H0 (up2 σ k i.toNatClampNeg x) H1 locs1 → W p l e R s m args below meth c H1 locs1 cells slots Q (F0 m (pc + 1) ls rest)) : W p l e R s m args below meth c H locs cells slots Q (F0 m pc ls (.int x :: .int i :: .ref a :: rest)) := by
  refine va_iast C.1.1 C.1.2.1 C.2 hH.1 hH.2.1 hH.2.2 q0 1 ha rfl hin hdg (fun H1 locs1 h1 h2 h3 => ?_)
  rw [hset] at h1 h2
  exact kk H1 locs1 ⟨h1, h2, h3⟩
theorem msb (C : MC p s m args c cc nL D Z) (hH : MH D Z b H0 σ H locs) (q0 k : Nat) {a n : Nat} (ha : (mW Z b σ)[q0]? = some (a, .inl (Z 0, n, .inl (σ k)))) {i x : Int32} (hset : (mW Z b σ).set q0 (a, .inl (Z 0, n, .inl (upd (σ k) i.toNatClampNeg (vp_nar .byte x)))) = mW Z b (up2 σ k i.toNatClampNeg (vp_nar .byte x))) (hin : vp_in i n) (hdg : decode cc pc = .ok (.bastore, 1))
    (kk : ∀ (H1 : Heap) (locs1 : List Loc), MH D Z b H0 (up2 σ k i.toNatClampNeg (vp_nar .byte x)) H1 locs1 → W p l e R s m args below meth c H1 locs1 cells slots Q (F0 m (pc + 1) ls rest)) : W p l e R s m args below meth c H locs cells slots Q (F0 m pc ls (.int x :: .int i :: .ref a :: rest)) := by
  refine va_bast C.1.1 C.1.2.1 C.2 hH.1 hH.2.1 hH.2.2 q0 0 ha rfl hin hdg (fun H1 locs1 h1 h2 h3 => ?_)
  rw [hset] at h1 h2
  exact kk H1 locs1 ⟨h1, h2, h3⟩
theorem msz (C : MC p s m args c cc nL D Z) (hH : MH D Z b H0 σ H locs) (q0 k : Nat) {a n : Nat} (ha : (mW Z b σ)[q0]? = some (a, .inl (Z 2, n, .inl (σ k)))) {i x : Int32} (hset : (mW Z b σ).set q0 (a, .inl (Z 2, n, .inl (upd (σ k) i.toNatClampNeg (vp_nar .boolean x)))) = mW Z b (up2 σ k i.toNatClampNeg (vp_nar .boolean x))) (hin : vp_in i n) (hdg : decode cc pc = .ok (.bastore, 1))
    (kk : ∀ (H1 : Heap) (locs1 : List Loc), MH D Z b H0 (up2 σ k i.toNatClampNeg (vp_nar .boolean x)) H1 locs1 → W p l e R s m args below meth c H1 locs1 cells slots Q (F0 m (pc + 1) ls rest)) : W p l e R s m args below meth c H locs cells slots Q (F0 m pc ls (.int x :: .int i :: .ref a :: rest)) := by
  refine va_zast C.1.1 C.1.2.1 C.2 hH.1 hH.2.1 hH.2.2 q0 2 ha rfl hin hdg (fun H1 locs1 h1 h2 h3 => ?_)
  rw [hset] at h1 h2
  exact kk H1 locs1 ⟨h1, h2, h3⟩
abbrev MWi (p : Program) (l : Launch) (e : Env) (R : Room) (s : State) (m : MethodId) (args : Array Value) (below : List Frame) (meth : Method) (c : Code) (D : va_G) (Z : Nat → ClassId) (b : Nat → Nat) (post : Int32 → MS → Prop) (H : Heap) (locs : List Loc) (g : JFrame) : Prop := W p l e R s m args below meth c H locs 0 0 (MQ below (va_Qi post (mPost D Z b) (mA b s.heap.size)) args s 0 0 (mA b s.heap.size)) g
abbrev MWv (p : Program) (l : Launch) (e : Env) (R : Room) (s : State) (m : MethodId) (args : Array Value) (below : List Frame) (meth : Method) (c : Code) (D : va_G) (Z : Nat → ClassId) (b : Nat → Nat) (post : MS → Prop) (H : Heap) (locs : List Loc) (g : JFrame) : Prop := W p l e R s m args below meth c H locs 0 0 (MQ below (va_Qv post (mPost D Z b) (mA b s.heap.size)) args s 0 0 (mA b s.heap.size)) g
theorem mri (C : MC p s m args c cc nL D Z) (hr : meth.sig.returnType = some .int) (hk : meth.locks = false) (hH : MH D Z b s.heap σ H locs) {post : Int32 → MS → Prop} {v : Int32} (hp : post v σ) (hdg : decode cc pc = .ok (.ireturn, 1)) : MWi p l e R s m args below meth c D Z b post H locs (F0 m pc ls [.int v]) :=
  W.iret C.1.1 C.1.2.1 hr (fun t ht hW => ⟨⟨v, σ, rfl, hp, by rw [ht]; exact hH.1, va_K.moved hW.alike C.2⟩, hH.2.2.F ht⟩) hH.2.2.2.2 hdg hk
theorem mrz (C : MC p s m args c cc nL D Z) (hr : meth.sig.returnType = some .boolean) (hk : meth.locks = false) (hH : MH D Z b s.heap σ H locs) {post : Int32 → MS → Prop} {v : Int32} (hz : bz v) (hp : post v σ) (hdg : decode cc pc = .ok (.ireturn, 1)) : MWi p l e R s m args below meth c D Z b post H locs (F0 m pc ls [.int v]) :=
  W.zret C.1.1 C.1.2.1 hr hz.nar (fun t ht hW => ⟨⟨v, σ, rfl, hp, by rw [ht]; exact hH.1, va_K.moved hW.alike C.2⟩, hH.2.2.F ht⟩) hH.2.2.2.2 hdg hk
theorem mrv (C : MC p s m args c cc nL D Z) (hr : meth.sig.returnType = none) (hk : meth.locks = false) (hH : MH D Z b s.heap σ H locs) {post : MS → Prop} (hp : post σ) (hdg : decode cc pc = .ok (.return_, 1)) : MWv p l e R s m args below meth c D Z b post H locs (F0 m pc ls []) :=
  W.vret C.1.1 C.1.2.1 hr (fun t ht hW => ⟨⟨σ, rfl, hp, by rw [ht]; exact hH.1, va_K.moved hW.alike C.2⟩, hH.2.2.F ht⟩) hH.2.2.2.2 hdg hk
theorem mA_sub {b : Nat → Nat} {A B : Nat} (h : A ≤ B) : ∀ q, mA b B q → mA b A q := fun q hq => hq.elim Or.inl (fun h2 => Or.inr (Nat.le_trans h h2))
theorem mPre_blind (As : List Value) (sz : Nat) : FrameBlind (va_Pc As (mPre D Z b sz σ)) := fun a U g mk q => by
  obtain ⟨q0, q1, qP, qK, qD⟩ := q
  exact ⟨q0, q1, qP, va_K.moved (u := U) (U := U.calling g mk a) (Vm.Alike.refl U.vm) qK, qD⟩
theorem mcVi (C : MC p s m args c cc nL D Z) (hH : MH D Z b H0 σ H locs) {y : MethodName} {rm : Room} {post : Int32 → MS → Prop} {bytes : ByteArray} {maxL n idx : Nat} {ret : Option FieldType} (As : List Value) {st : List Value}
    (hM : ∀ sz, Met l y (Wd y bytes maxL ret) rm (va_Pc (.ref (b 69) :: As) (mPre D Z b sz σ)) (va_Qi post (mPost D Z b) (mA b sz)) 0 0 (mA b sz)) (cw : CallW R s args RX11 RX11 idx y bytes maxL ret (Wd y bytes maxL ret) rm 0 0 n) (hn : As.length = n) (hsz : ls.size = nL) (hst : st = As.reverse ++ .ref (b 69) :: rest) (hro : (rest.map fun v => v.category).sum ≤ 8) (hdg : decode cc pc = .ok (.invokevirtual idx, 3)) (hc : cells ≤ R.cells ∧ slots ≤ R.slots)
    (kk : ∀ (r : Int32) (σ1 : MS) (H1 : Heap) (locs1 : List Loc), post r σ1 → MH D Z b H0 σ1 H1 locs1 → W p l e R s m args below meth c H1 locs1 cells slots Q (F0 m (pc + 3) ls (.int r :: rest))) : W p l e R s m args below meth c H locs cells slots Q (F0 m pc ls st) := by
  subst hst
  refine va_calli (va_runV (As := As) (rest := rest) C.1 (hM H.size) cw ⟨mPre_blind _ _, va_recv C.2 hH.1 (ci := 11) (q0 := 0) rfl rfl, fun U hU hW => ⟨rfl, by rw [hU], by rw [hU]; exact hH.1, va_K.moved hW.alike C.2, hH.2.1.weaken (fun _ _ _ _ => trivial)⟩⟩ rfl hn hsz rfl (lv_room hro) hdg hc) hH.2.2 (fun q _ h => mA_sub hH.2.2.1 q h) (mA_sub hH.2.2.1) (fun r u t H1 locs1 ht hvm hw hB hz1 hk1 hS => ?_)
  obtain ⟨hP1, hK1⟩ := hB
  rw [ht] at hP1
  exact kk r u H1 locs1 hw ⟨hP1, mD_of _ hH.2.1, hS⟩
theorem mcVv (C : MC p s m args c cc nL D Z) (hH : MH D Z b H0 σ H locs) {y : MethodName} {rm : Room} {post : MS → Prop} {bytes : ByteArray} {maxL n idx : Nat} {ret : Option FieldType} (As : List Value) {st : List Value}
    (hM : ∀ sz, Met l y (Wd y bytes maxL ret) rm (va_Pc (.ref (b 69) :: As) (mPre D Z b sz σ)) (va_Qv post (mPost D Z b) (mA b sz)) 0 0 (mA b sz)) (cw : CallW R s args RX11 RX11 idx y bytes maxL ret (Wd y bytes maxL ret) rm 0 0 n) (hn : As.length = n) (hsz : ls.size = nL) (hst : st = As.reverse ++ .ref (b 69) :: rest) (hro : (rest.map fun v => v.category).sum ≤ 8) (hdg : decode cc pc = .ok (.invokevirtual idx, 3)) (hc : cells ≤ R.cells ∧ slots ≤ R.slots)
    (kk : ∀ (σ1 : MS) (H1 : Heap) (locs1 : List Loc), post σ1 → MH D Z b H0 σ1 H1 locs1 → W p l e R s m args below meth c H1 locs1 cells slots Q (F0 m (pc + 3) ls rest)) : W p l e R s m args below meth c H locs cells slots Q (F0 m pc ls st) := by
  subst hst
  refine va_callv (va_runV (As := As) (rest := rest) C.1 (hM H.size) cw ⟨mPre_blind _ _, va_recv C.2 hH.1 (ci := 11) (q0 := 0) rfl rfl, fun U hU hW => ⟨rfl, by rw [hU], by rw [hU]; exact hH.1, va_K.moved hW.alike C.2, hH.2.1.weaken (fun _ _ _ _ => trivial)⟩⟩ rfl hn hsz rfl (lv_room hro) hdg hc) hH.2.2 (fun q _ h => mA_sub hH.2.2.1 q h) (mA_sub hH.2.2.1) (fun u t H1 locs1 ht hvm hw hB hz1 hk1 hS => ?_)
  obtain ⟨hP1, hK1⟩ := hB
  rw [ht] at hP1
  exact kk u H1 locs1 hw ⟨hP1, mD_of _ hH.2.1, hS⟩
theorem mcSi (C : MC p s m args c cc nL D Z) (hH : MH D Z b H0 σ H locs) {y : MethodName} {rm : Room} {post : Int32 → MS → Prop} {bytes : ByteArray} {maxL n idx : Nat} {ret : Option FieldType} (As : List Value) {st : List Value}
    (hM : ∀ sz, Met l y (Wd y bytes maxL ret) rm (va_Pc As (mPre D Z b sz σ)) (va_Qi post (mPost D Z b) (mA b sz)) 0 0 (mA b sz)) (cw : CallB R s args RX11 idx y bytes maxL ret (Wd y bytes maxL ret) rm 0 0 n ∧ (Cond.static y).before args s = true) (hn : As.length = n) (hsz : ls.size = nL) (hst : st = As.reverse ++ rest) (hro : (rest.map fun v => v.category).sum ≤ 8) (hdg : decode cc pc = .ok (.invokestatic idx, 3)) (hc : cells ≤ R.cells ∧ slots ≤ R.slots)
    (kk : ∀ (r : Int32) (σ1 : MS) (H1 : Heap) (locs1 : List Loc), post r σ1 → MH D Z b H0 σ1 H1 locs1 → W p l e R s m args below meth c H1 locs1 cells slots Q (F0 m (pc + 3) ls (.int r :: rest))) : W p l e R s m args below meth c H locs cells slots Q (F0 m pc ls st) := by
  subst hst
  refine va_calli (va_runS (As := As) (rest := rest) C.1 (hM H.size) cw ⟨mPre_blind _ _, fun U hU hW => ⟨rfl, by rw [hU], by rw [hU]; exact hH.1, va_K.moved hW.alike C.2, hH.2.1.weaken (fun _ _ _ _ => trivial)⟩⟩ rfl hn hsz rfl (lv_room hro) hdg hc) hH.2.2 (fun q _ h => mA_sub hH.2.2.1 q h) (mA_sub hH.2.2.1) (fun r u t H1 locs1 ht hvm hw hB hz1 hk1 hS => ?_)
  obtain ⟨hP1, hK1⟩ := hB
  rw [ht] at hP1
  exact kk r u H1 locs1 hw ⟨hP1, mD_of _ hH.2.1, hS⟩
theorem mMi {y : MethodName} {maxL : Nat} {ret : Option FieldType} {rm : Room} {post : Int32 → MS → Prop} (hy : plainName y.cls = true) (hc : y.cls = RX11) (As : List Value) (hAs : (lg_sl As).length ≤ maxL)
    (body : ∀ (p : Program) (e : Env) (s : State) (m : MethodId) (args : Array Value) (below : List Frame) (meth : Method) (c : Code), MC p s m args c cc maxL D Z → meth.sig.returnType = ret → meth.locks = false → ∀ ls : Array Slot, lv_has ls maxL (lv_args 0 As) → MH D Z b s.heap σ s.heap [] → MWi p l e rm s m args below meth c D Z b post s.heap [] (F0 m 0 ls [])) (sz : Nat) :
    Met l y (Wd y cc maxL ret) rm (va_Pc As (mPre D Z b sz σ)) (va_Qi post (mPost D Z b) (mA b sz)) 0 0 (mA b sz) := by
  refine Met.ofW (cc := cc) (maxL := maxL) (ret := ret) hy (ws' := TB) rfl ?_
  intro p e s m args below meth c s₁ B hml hv
  obtain ⟨rfl, hsz, hP, hK, hD0⟩ := hv
  subst hsz
  have hl := lv_entry As (n := maxL) hAs
  rw [lg_entry_eq]
  exact body p e s m _ below meth c ⟨⟨B.exec, B.bytes, hml, by rw [← hc]; exact findClass_of_methodNamed B.named, fun w h => atoms_spec (ws := Wd y cc maxL ret) B.pre w (List.mem_cons_of_mem _ h)⟩, hK⟩ B.returns B.notSynchronized _ hl ⟨hP, mD_of _ hD0, va_S.rf⟩
theorem mMv {y : MethodName} {maxL : Nat} {ret : Option FieldType} {rm : Room} {post : MS → Prop} (hy : plainName y.cls = true) (hc : y.cls = RX11) (As : List Value) (hAs : (lg_sl As).length ≤ maxL)
    (body : ∀ (p : Program) (e : Env) (s : State) (m : MethodId) (args : Array Value) (below : List Frame) (meth : Method) (c : Code), MC p s m args c cc maxL D Z → meth.sig.returnType = ret → meth.locks = false → ∀ ls : Array Slot, lv_has ls maxL (lv_args 0 As) → MH D Z b s.heap σ s.heap [] → MWv p l e rm s m args below meth c D Z b post s.heap [] (F0 m 0 ls [])) (sz : Nat) :
    Met l y (Wd y cc maxL ret) rm (va_Pc As (mPre D Z b sz σ)) (va_Qv post (mPost D Z b) (mA b sz)) 0 0 (mA b sz) := by
  refine Met.ofW (cc := cc) (maxL := maxL) (ret := ret) hy (ws' := TB) rfl ?_
  intro p e s m args below meth c s₁ B hml hv
  obtain ⟨rfl, hsz, hP, hK, hD0⟩ := hv
  subst hsz
  have hl := lv_entry As (n := maxL) hAs
  rw [lg_entry_eq]
  exact body p e s m _ below meth c ⟨⟨B.exec, B.bytes, hml, by rw [← hc]; exact findClass_of_methodNamed B.named, fun w h => atoms_spec (ws := Wd y cc maxL ret) B.pre w (List.mem_cons_of_mem _ h)⟩, hK⟩ B.returns B.notSynchronized _ hl ⟨hP, mD_of _ hD0, va_S.rf⟩
end MRows
theorem mset_0 (Z : Nat → ClassId) (b : Nat → Nat) (σ : MS) (v : Int32) : (mW Z b σ).set 0 (b 69, .inr (11, (mO b σ).set 0 (.int v))) = mW Z b (up2 σ 0 0 v) := rfl
theorem mset_1 (Z : Nat → ClassId) (b : Nat → Nat) (σ : MS) (v : Int32) : (mW Z b σ).set 0 (b 69, .inr (11, (mO b σ).set 1 (.int v))) = mW Z b (up2 σ 1 0 v) := rfl
theorem mset_2 (Z : Nat → ClassId) (b : Nat → Nat) (σ : MS) (v : Int32) : (mW Z b σ).set 0 (b 69, .inr (11, (mO b σ).set 2 (.int v))) = mW Z b (up2 σ 2 0 v) := rfl
theorem mast_3 (Z : Nat → ClassId) (b : Nat → Nat) (σ : MS) (i : Nat) (v : Int32) : (mW Z b σ).set 1 (b 3, .inl (Z 1, 20, .inl (upd (σ 3) i v))) = mW Z b (up2 σ 3 i v) := rfl
theorem mast_4 (Z : Nat → ClassId) (b : Nat → Nat) (σ : MS) (i : Nat) (v : Int32) : (mW Z b σ).set 2 (b 4, .inl (Z 1, 20, .inl (upd (σ 4) i v))) = mW Z b (up2 σ 4 i v) := rfl
theorem mset_5 (Z : Nat → ClassId) (b : Nat → Nat) (σ : MS) (v : Int32) : (mW Z b σ).set 0 (b 69, .inr (11, (mO b σ).set 5 (.int v))) = mW Z b (up2 σ 5 0 v) := rfl
theorem mast_6 (Z : Nat → ClassId) (b : Nat → Nat) (σ : MS) (i : Nat) (v : Int32) : (mW Z b σ).set 3 (b 6, .inl (Z 1, 20, .inl (upd (σ 6) i v))) = mW Z b (up2 σ 6 i v) := rfl
theorem mast_7 (Z : Nat → ClassId) (b : Nat → Nat) (σ : MS) (i : Nat) (v : Int32) : (mW Z b σ).set 4 (b 7, .inl (Z 1, 20, .inl (upd (σ 7) i v))) = mW Z b (up2 σ 7 i v) := rfl
theorem mast_8 (Z : Nat → ClassId) (b : Nat → Nat) (σ : MS) (i : Nat) (v : Int32) : (mW Z b σ).set 5 (b 8, .inl (Z 1, 20, .inl (upd (σ 8) i v))) = mW Z b (up2 σ 8 i v) := rfl
theorem mast_9 (Z : Nat → ClassId) (b : Nat → Nat) (σ : MS) (i : Nat) (v : Int32) : (mW Z b σ).set 6 (b 9, .inl (Z 1, 20, .inl (upd (σ 9) i v))) = mW Z b (up2 σ 9 i v) := rfl
theorem mset_10 (Z : Nat → ClassId) (b : Nat → Nat) (σ : MS) (v : Int32) : (mW Z b σ).set 0 (b 69, .inr (11, (mO b σ).set 10 (.int v))) = mW Z b (up2 σ 10 0 v) := rfl
theorem mast_11 (Z : Nat → ClassId) (b : Nat → Nat) (σ : MS) (i : Nat) (v : Int32) : (mW Z b σ).set 7 (b 11, .inl (Z 1, 60, .inl (upd (σ 11) i v))) = mW Z b (up2 σ 11 i v) := rfl
theorem mast_12 (Z : Nat → ClassId) (b : Nat → Nat) (σ : MS) (i : Nat) (v : Int32) : (mW Z b σ).set 8 (b 12, .inl (Z 1, 60, .inl (upd (σ 12) i v))) = mW Z b (up2 σ 12 i v) := rfl
theorem mast_13 (Z : Nat → ClassId) (b : Nat → Nat) (σ : MS) (i : Nat) (v : Int32) : (mW Z b σ).set 9 (b 13, .inl (Z 1, 60, .inl (upd (σ 13) i v))) = mW Z b (up2 σ 13 i v) := rfl
theorem mast_14 (Z : Nat → ClassId) (b : Nat → Nat) (σ : MS) (i : Nat) (v : Int32) : (mW Z b σ).set 10 (b 14, .inl (Z 1, 60, .inl (upd (σ 14) i v))) = mW Z b (up2 σ 14 i v) := rfl
theorem mast_15 (Z : Nat → ClassId) (b : Nat → Nat) (σ : MS) (i : Nat) (v : Int32) : (mW Z b σ).set 11 (b 15, .inl (Z 1, 60, .inl (upd (σ 15) i v))) = mW Z b (up2 σ 15 i v) := rfl
theorem mast_16 (Z : Nat → ClassId) (b : Nat → Nat) (σ : MS) (i : Nat) (v : Int32) : (mW Z b σ).set 12 (b 16, .inl (Z 1, 60, .inl (upd (σ 16) i v))) = mW Z b (up2 σ 16 i v) := rfl
theorem mast_17 (Z : Nat → ClassId) (b : Nat → Nat) (σ : MS) (i : Nat) (v : Int32) : (mW Z b σ).set 13 (b 17, .inl (Z 1, 60, .inl (upd (σ 17) i v))) = mW Z b (up2 σ 17 i v) := rfl
theorem mast_18 (Z : Nat → ClassId) (b : Nat → Nat) (σ : MS) (i : Nat) (v : Int32) : (mW Z b σ).set 14 (b 18, .inl (Z 1, 60, .inl (upd (σ 18) i v))) = mW Z b (up2 σ 18 i v) := rfl
theorem mast_19 (Z : Nat → ClassId) (b : Nat → Nat) (σ : MS) (i : Nat) (v : Int32) : (mW Z b σ).set 15 (b 19, .inl (Z 2, 60, .inl (upd (σ 19) i v))) = mW Z b (up2 σ 19 i v) := rfl
theorem mast_20 (Z : Nat → ClassId) (b : Nat → Nat) (σ : MS) (i : Nat) (v : Int32) : (mW Z b σ).set 16 (b 20, .inl (Z 1, 4, .inl (upd (σ 20) i v))) = mW Z b (up2 σ 20 i v) := rfl
theorem mast_21 (Z : Nat → ClassId) (b : Nat → Nat) (σ : MS) (i : Nat) (v : Int32) : (mW Z b σ).set 17 (b 21, .inl (Z 1, 240, .inl (upd (σ 21) i v))) = mW Z b (up2 σ 21 i v) := rfl
theorem mast_22 (Z : Nat → ClassId) (b : Nat → Nat) (σ : MS) (i : Nat) (v : Int32) : (mW Z b σ).set 18 (b 22, .inl (Z 2, 4, .inl (upd (σ 22) i v))) = mW Z b (up2 σ 22 i v) := rfl
theorem mast_23 (Z : Nat → ClassId) (b : Nat → Nat) (σ : MS) (i : Nat) (v : Int32) : (mW Z b σ).set 19 (b 23, .inl (Z 1, 4, .inl (upd (σ 23) i v))) = mW Z b (up2 σ 23 i v) := rfl
theorem mast_24 (Z : Nat → ClassId) (b : Nat → Nat) (σ : MS) (i : Nat) (v : Int32) : (mW Z b σ).set 20 (b 24, .inl (Z 0, 200, .inl (upd (σ 24) i v))) = mW Z b (up2 σ 24 i v) := rfl
theorem mset_25 (Z : Nat → ClassId) (b : Nat → Nat) (σ : MS) (v : Int32) : (mW Z b σ).set 0 (b 69, .inr (11, (mO b σ).set 25 (.int v))) = mW Z b (up2 σ 25 0 v) := rfl
theorem mset_26 (Z : Nat → ClassId) (b : Nat → Nat) (σ : MS) (v : Int32) : (mW Z b σ).set 0 (b 69, .inr (11, (mO b σ).set 26 (.int v))) = mW Z b (up2 σ 26 0 v) := rfl
theorem mast_27 (Z : Nat → ClassId) (b : Nat → Nat) (σ : MS) (i : Nat) (v : Int32) : (mW Z b σ).set 21 (b 27, .inl (Z 1, 40, .inl (upd (σ 27) i v))) = mW Z b (up2 σ 27 i v) := rfl
theorem mast_28 (Z : Nat → ClassId) (b : Nat → Nat) (σ : MS) (i : Nat) (v : Int32) : (mW Z b σ).set 22 (b 28, .inl (Z 1, 40, .inl (upd (σ 28) i v))) = mW Z b (up2 σ 28 i v) := rfl
theorem mast_29 (Z : Nat → ClassId) (b : Nat → Nat) (σ : MS) (i : Nat) (v : Int32) : (mW Z b σ).set 23 (b 29, .inl (Z 1, 40, .inl (upd (σ 29) i v))) = mW Z b (up2 σ 29 i v) := rfl
theorem mast_30 (Z : Nat → ClassId) (b : Nat → Nat) (σ : MS) (i : Nat) (v : Int32) : (mW Z b σ).set 24 (b 30, .inl (Z 1, 40, .inl (upd (σ 30) i v))) = mW Z b (up2 σ 30 i v) := rfl
theorem mast_31 (Z : Nat → ClassId) (b : Nat → Nat) (σ : MS) (i : Nat) (v : Int32) : (mW Z b σ).set 25 (b 31, .inl (Z 1, 40, .inl (upd (σ 31) i v))) = mW Z b (up2 σ 31 i v) := rfl
theorem mast_32 (Z : Nat → ClassId) (b : Nat → Nat) (σ : MS) (i : Nat) (v : Int32) : (mW Z b σ).set 26 (b 32, .inl (Z 1, 8800, .inl (upd (σ 32) i v))) = mW Z b (up2 σ 32 i v) := rfl
theorem mast_33 (Z : Nat → ClassId) (b : Nat → Nat) (σ : MS) (i : Nat) (v : Int32) : (mW Z b σ).set 27 (b 33, .inl (Z 1, 8800, .inl (upd (σ 33) i v))) = mW Z b (up2 σ 33 i v) := rfl
theorem mset_34 (Z : Nat → ClassId) (b : Nat → Nat) (σ : MS) (v : Int32) : (mW Z b σ).set 0 (b 69, .inr (11, (mO b σ).set 34 (.int v))) = mW Z b (up2 σ 34 0 v) := rfl
theorem mset_35 (Z : Nat → ClassId) (b : Nat → Nat) (σ : MS) (v : Int32) : (mW Z b σ).set 0 (b 69, .inr (11, (mO b σ).set 35 (.int v))) = mW Z b (up2 σ 35 0 v) := rfl
theorem mset_36 (Z : Nat → ClassId) (b : Nat → Nat) (σ : MS) (v : Int32) : (mW Z b σ).set 0 (b 69, .inr (11, (mO b σ).set 36 (.int v))) = mW Z b (up2 σ 36 0 v) := rfl
theorem mset_37 (Z : Nat → ClassId) (b : Nat → Nat) (σ : MS) (v : Int32) : (mW Z b σ).set 0 (b 69, .inr (11, (mO b σ).set 37 (.int v))) = mW Z b (up2 σ 37 0 v) := rfl
theorem mast_38 (Z : Nat → ClassId) (b : Nat → Nat) (σ : MS) (i : Nat) (v : Int32) : (mW Z b σ).set 28 (b 38, .inl (Z 1, 220, .inl (upd (σ 38) i v))) = mW Z b (up2 σ 38 i v) := rfl
theorem mset_39 (Z : Nat → ClassId) (b : Nat → Nat) (σ : MS) (v : Int32) : (mW Z b σ).set 0 (b 69, .inr (11, (mO b σ).set 39 (.int v))) = mW Z b (up2 σ 39 0 v) := rfl
theorem mset_40 (Z : Nat → ClassId) (b : Nat → Nat) (σ : MS) (v : Int32) : (mW Z b σ).set 0 (b 69, .inr (11, (mO b σ).set 40 (.int v))) = mW Z b (up2 σ 40 0 v) := rfl
theorem mast_41 (Z : Nat → ClassId) (b : Nat → Nat) (σ : MS) (i : Nat) (v : Int32) : (mW Z b σ).set 29 (b 41, .inl (Z 1, 13, .inl (upd (σ 41) i v))) = mW Z b (up2 σ 41 i v) := rfl
theorem mast_42 (Z : Nat → ClassId) (b : Nat → Nat) (σ : MS) (i : Nat) (v : Int32) : (mW Z b σ).set 30 (b 42, .inl (Z 1, 220, .inl (upd (σ 42) i v))) = mW Z b (up2 σ 42 i v) := rfl
theorem mset_43 (Z : Nat → ClassId) (b : Nat → Nat) (σ : MS) (v : Int32) : (mW Z b σ).set 0 (b 69, .inr (11, (mO b σ).set 43 (.int v))) = mW Z b (up2 σ 43 0 v) := rfl
theorem mast_44 (Z : Nat → ClassId) (b : Nat → Nat) (σ : MS) (i : Nat) (v : Int32) : (mW Z b σ).set 31 (b 44, .inl (Z 1, 200, .inl (upd (σ 44) i v))) = mW Z b (up2 σ 44 i v) := rfl
theorem mast_45 (Z : Nat → ClassId) (b : Nat → Nat) (σ : MS) (i : Nat) (v : Int32) : (mW Z b σ).set 32 (b 45, .inl (Z 1, 200, .inl (upd (σ 45) i v))) = mW Z b (up2 σ 45 i v) := rfl
theorem mast_46 (Z : Nat → ClassId) (b : Nat → Nat) (σ : MS) (i : Nat) (v : Int32) : (mW Z b σ).set 33 (b 46, .inl (Z 1, 200, .inl (upd (σ 46) i v))) = mW Z b (up2 σ 46 i v) := rfl
theorem mast_47 (Z : Nat → ClassId) (b : Nat → Nat) (σ : MS) (i : Nat) (v : Int32) : (mW Z b σ).set 34 (b 47, .inl (Z 1, 200, .inl (upd (σ 47) i v))) = mW Z b (up2 σ 47 i v) := rfl
theorem mast_48 (Z : Nat → ClassId) (b : Nat → Nat) (σ : MS) (i : Nat) (v : Int32) : (mW Z b σ).set 35 (b 48, .inl (Z 1, 200, .inl (upd (σ 48) i v))) = mW Z b (up2 σ 48 i v) := rfl
theorem mast_49 (Z : Nat → ClassId) (b : Nat → Nat) (σ : MS) (i : Nat) (v : Int32) : (mW Z b σ).set 36 (b 49, .inl (Z 1, 200, .inl (upd (σ 49) i v))) = mW Z b (up2 σ 49 i v) := rfl
theorem mast_50 (Z : Nat → ClassId) (b : Nat → Nat) (σ : MS) (i : Nat) (v : Int32) : (mW Z b σ).set 37 (b 50, .inl (Z 1, 200, .inl (upd (σ 50) i v))) = mW Z b (up2 σ 50 i v) := rfl
theorem mast_51 (Z : Nat → ClassId) (b : Nat → Nat) (σ : MS) (i : Nat) (v : Int32) : (mW Z b σ).set 38 (b 51, .inl (Z 1, 200, .inl (upd (σ 51) i v))) = mW Z b (up2 σ 51 i v) := rfl
theorem mast_52 (Z : Nat → ClassId) (b : Nat → Nat) (σ : MS) (i : Nat) (v : Int32) : (mW Z b σ).set 39 (b 52, .inl (Z 1, 200, .inl (upd (σ 52) i v))) = mW Z b (up2 σ 52 i v) := rfl
theorem mast_53 (Z : Nat → ClassId) (b : Nat → Nat) (σ : MS) (i : Nat) (v : Int32) : (mW Z b σ).set 40 (b 53, .inl (Z 1, 200, .inl (upd (σ 53) i v))) = mW Z b (up2 σ 53 i v) := rfl
theorem mast_54 (Z : Nat → ClassId) (b : Nat → Nat) (σ : MS) (i : Nat) (v : Int32) : (mW Z b σ).set 41 (b 54, .inl (Z 1, 200, .inl (upd (σ 54) i v))) = mW Z b (up2 σ 54 i v) := rfl
theorem mast_55 (Z : Nat → ClassId) (b : Nat → Nat) (σ : MS) (i : Nat) (v : Int32) : (mW Z b σ).set 42 (b 55, .inl (Z 1, 200, .inl (upd (σ 55) i v))) = mW Z b (up2 σ 55 i v) := rfl
theorem mast_56 (Z : Nat → ClassId) (b : Nat → Nat) (σ : MS) (i : Nat) (v : Int32) : (mW Z b σ).set 43 (b 56, .inl (Z 1, 200, .inl (upd (σ 56) i v))) = mW Z b (up2 σ 56 i v) := rfl
theorem mast_57 (Z : Nat → ClassId) (b : Nat → Nat) (σ : MS) (i : Nat) (v : Int32) : (mW Z b σ).set 44 (b 57, .inl (Z 1, 200, .inl (upd (σ 57) i v))) = mW Z b (up2 σ 57 i v) := rfl
theorem mast_58 (Z : Nat → ClassId) (b : Nat → Nat) (σ : MS) (i : Nat) (v : Int32) : (mW Z b σ).set 45 (b 58, .inl (Z 1, 200, .inl (upd (σ 58) i v))) = mW Z b (up2 σ 58 i v) := rfl
theorem mast_59 (Z : Nat → ClassId) (b : Nat → Nat) (σ : MS) (i : Nat) (v : Int32) : (mW Z b σ).set 46 (b 59, .inl (Z 1, 1600, .inl (upd (σ 59) i v))) = mW Z b (up2 σ 59 i v) := rfl
theorem mset_60 (Z : Nat → ClassId) (b : Nat → Nat) (σ : MS) (v : Int32) : (mW Z b σ).set 0 (b 69, .inr (11, (mO b σ).set 60 (.int v))) = mW Z b (up2 σ 60 0 v) := rfl
theorem mast_61 (Z : Nat → ClassId) (b : Nat → Nat) (σ : MS) (i : Nat) (v : Int32) : (mW Z b σ).set 47 (b 61, .inl (Z 1, 8, .inl (upd (σ 61) i v))) = mW Z b (up2 σ 61 i v) := rfl
theorem mast_62 (Z : Nat → ClassId) (b : Nat → Nat) (σ : MS) (i : Nat) (v : Int32) : (mW Z b σ).set 48 (b 62, .inl (Z 2, 60, .inl (upd (σ 62) i v))) = mW Z b (up2 σ 62 i v) := rfl
theorem mast_63 (Z : Nat → ClassId) (b : Nat → Nat) (σ : MS) (i : Nat) (v : Int32) : (mW Z b σ).set 49 (b 63, .inl (Z 1, 4, .inl (upd (σ 63) i v))) = mW Z b (up2 σ 63 i v) := rfl
theorem mast_64 (Z : Nat → ClassId) (b : Nat → Nat) (σ : MS) (i : Nat) (v : Int32) : (mW Z b σ).set 50 (b 64, .inl (Z 1, 4, .inl (upd (σ 64) i v))) = mW Z b (up2 σ 64 i v) := rfl
theorem mast_65 (Z : Nat → ClassId) (b : Nat → Nat) (σ : MS) (i : Nat) (v : Int32) : (mW Z b σ).set 51 (b 65, .inl (Z 1, 4, .inl (upd (σ 65) i v))) = mW Z b (up2 σ 65 i v) := rfl
theorem mast_66 (Z : Nat → ClassId) (b : Nat → Nat) (σ : MS) (i : Nat) (v : Int32) : (mW Z b σ).set 52 (b 66, .inl (Z 1, 4, .inl (upd (σ 66) i v))) = mW Z b (up2 σ 66 i v) := rfl
theorem mast_67 (Z : Nat → ClassId) (b : Nat → Nat) (σ : MS) (i : Nat) (v : Int32) : (mW Z b σ).set 53 (b 67, .inl (Z 1, 4, .inl (upd (σ 67) i v))) = mW Z b (up2 σ 67 i v) := rfl
theorem mast_68 (Z : Nat → ClassId) (b : Nat → Nat) (σ : MS) (i : Nat) (v : Int32) : (mW Z b σ).set 54 (b 68, .inl (Z 1, 668, .inl (upd (σ 68) i v))) = mW Z b (up2 σ 68 i v) := rfl
