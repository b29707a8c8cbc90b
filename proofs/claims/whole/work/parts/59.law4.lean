/-! the law's beginning (gen/law4.py) -/
theorem lt1 {w : Cond} (h : w ∈ tables_1_1) : w ∈ lw_tbl := List.mem_append_right _ (List.mem_append_left _ h)
theorem lt2 {w : Cond} (h : w ∈ tables_1_2) : w ∈ lw_tbl := List.mem_append_right _ (List.mem_append_right _ (List.mem_append_left _ h))
theorem lt3 {w : Cond} (h : w ∈ tables_1_3) : w ∈ lw_tbl := List.mem_append_right _ (List.mem_append_right _ (List.mem_append_right _ (List.mem_append_left _ h)))
theorem lt4 {w : Cond} (h : w ∈ tables_1_4) : w ∈ lw_tbl := List.mem_append_right _ (List.mem_append_right _ (List.mem_append_right _ (List.mem_append_right _ (List.mem_append_left _ h))))
theorem lt5 {w : Cond} (h : w ∈ tables_1_5) : w ∈ lw_tbl := List.mem_append_right _ (List.mem_append_right _ (List.mem_append_right _ (List.mem_append_right _ (List.mem_append_right _ (List.mem_append_left _ h)))))
theorem lt6 {w : Cond} (h : w ∈ tables_1_6) : w ∈ lw_tbl := List.mem_append_right _ (List.mem_append_right _ (List.mem_append_right _ (List.mem_append_right _ (List.mem_append_right _ (List.mem_append_right _ (List.mem_append_left _ h))))))
theorem lt7 {w : Cond} (h : w ∈ tables_1_7) : w ∈ lw_tbl := List.mem_append_right _ (List.mem_append_right _ (List.mem_append_right _ (List.mem_append_right _ (List.mem_append_right _ (List.mem_append_right _ (List.mem_append_right _ (h)))))))
theorem hA_old {s : State} : ∀ a : Nat, a < s.heap.size → ¬ lA s a := fun _ h q => absurd h (Nat.not_lt.mpr q)
theorem prim_known {s : State} {args : Array Value} {ty : FieldType} (h : (Cond.arrayClass ty).before args s = true) : ∃ cA : ClassId, ArrOfT s cA ty ∧ s.vm.findClass ("[" ++ ty.toString) = some cA := by
  obtain ⟨cA, kA, comp, h1, h2, h3⟩ := Cond.arrayClass_spec h
  exact ⟨cA, fun n z => ⟨fun k h => (by cases h), kA, h2, comp, h3⟩, h1⟩
theorem obj_known {s : State} {args : Array Value} {C : String} (h : (Cond.arrayOver (.object C)).before args s = true) : ∃ cA : ClassId, ArrOfT s cA (.object C) ∧ va_RA s cA (.object C) := by
  obtain ⟨comp, cA, kA, h1, h2, h3, h4, h5⟩ := Cond.arrayOver_spec h
  exact ⟨cA, fun n z => ⟨fun k h => (by cases h), kA, h3, comp, h4⟩, kA, comp, h3, h4, h1, h5⟩
set_option maxRecDepth 100000 in
theorem known_K {s : State} {b : Nat} (hts0 : ∀ w ∈ lw_tbl, w.before #[Value.ref b] s = true) : ∃ (D : va_G) (Z : Nat → ClassId), va_K D vwCl (tysZ Z) s := by
  have hts : ∀ w ∈ TB, w.before #[Value.ref b] s = true := fun w h => hts0 w (tb_in h)
  obtain ⟨c0, i0, k0⟩ := u_known (C := RJx4a65c) (T := TJx4a65c) (N := 3) (n := 3) hts ixJx4a65c (hts _ wd_34)
  obtain ⟨c1, i1, k1⟩ := u_known (C := RX0) (T := TX0) (N := 10) (n := 10) hts ixX0 (hts _ wd_60)
  obtain ⟨c2, i2, k2⟩ := u_known (C := RX1) (T := TX1) (N := 6) (n := 6) hts ixX1 (hts _ wd_635)
  obtain ⟨c3, i3, k3⟩ := u_known (C := RX2) (T := TX2) (N := 19) (n := 19) hts ixX2 (hts _ wd_770)
  obtain ⟨c4, i4, k4⟩ := u_known (C := RX3) (T := TX3) (N := 10) (n := 10) hts ixX3 (hts _ wd_375)
  obtain ⟨c5, i5, k5⟩ := u_known (C := RX4) (T := TX4) (N := 5) (n := 5) hts ixX4 (hts _ wd_288)
  obtain ⟨c6, i6, k6⟩ := u_known (C := RX5) (T := TX5) (N := 6) (n := 6) hts ixX5 (hts _ wd_196)
  obtain ⟨c7, i7, k7⟩ := u_known (C := RX6) (T := TX6) (N := 3) (n := 3) hts ixX6 (hts _ wd_221)
  obtain ⟨c8, i8, k8⟩ := u_known (C := RX7) (T := TX7) (N := 3) (n := 3) hts ixX7 (hts _ wd_163)
  obtain ⟨c9, i9, k9⟩ := u_known (C := RX8) (T := TX8) (N := 2) (n := 2) hts ixX8 (hts _ wd_181)
  obtain ⟨c10, i10, k10⟩ := u_known (C := RX10) (T := TX10) (N := 13) (n := 13) hts ixX10 (hts _ wd_26)
  obtain ⟨c11, i11, k11⟩ := u_known (C := RX11) (T := TX11) (N := 69) (n := 69) hts ixX11 (hts _ wd_1025)
  obtain ⟨z0, a0, b0⟩ := prim_known (hts _ wd_685)
  obtain ⟨z1, a1, b1⟩ := prim_known (hts _ wd_179)
  obtain ⟨z2, a2, b2⟩ := prim_known (hts _ wd_1237)
  obtain ⟨z3, a3, b3⟩ := obj_known (hts0 _ (lt1 (List.mem_of_getElem? (i := 152) rfl) : (Jvm.Cond.arrayOver (Jvm.ClassFile.FieldType.object "java/lang/Object")) ∈ lw_tbl))
  refine ⟨((fun k => match k with | 0 => c0 | 1 => c1 | 2 => c2 | 3 => c3 | 4 => c4 | 5 => c5 | 6 => c6 | 7 => c7 | 8 => c8 | 9 => c9 | 10 => c10 | _ => c11), (fun k => match k with | 0 => i0 | 1 => i1 | 2 => i2 | 3 => i3 | 4 => i4 | 5 => i5 | 6 => i6 | 7 => i7 | 8 => i8 | 9 => i9 | 10 => i10 | _ => i11)), (fun k => match k with | 0 => z0 | 1 => z1 | 2 => z2 | _ => z3), fun k q hq => ?_, fun k q hq => ?_⟩
  · match k, hq with
    | 0, hq => cases hq; exact k0
    | 1, hq => cases hq; exact k1
    | 2, hq => cases hq; exact k2
    | 3, hq => cases hq; exact k3
    | 4, hq => cases hq; exact k4
    | 5, hq => cases hq; exact k5
    | 6, hq => cases hq; exact k6
    | 7, hq => cases hq; exact k7
    | 8, hq => cases hq; exact k8
    | 9, hq => cases hq; exact k9
    | 10, hq => cases hq; exact k10
    | 11, hq => cases hq; exact k11
    | k + 12, hq => exact absurd hq (by simp [vwCl])
  · match k, hq with
    | 0, hq => cases hq; exact ⟨a0, b0⟩
    | 1, hq => cases hq; exact ⟨a1, b1⟩
    | 2, hq => cases hq; exact ⟨a2, b2⟩
    | 3, hq => cases hq; exact ⟨a3, b3⟩
    | k + 4, hq => exact absurd hq (by simp [tysZ])
theorem known_flat {s : State} {b : Nat} (hgv : (Jvm.Cond.and given_1 narrow_1).before #[Value.ref b] s = true) (w : Cond) (hw : w ∈ flatC (Jvm.Cond.and given_1 narrow_1)) : w.before #[Value.ref b] s = true := flat_of_before _ hgv w hw
abbrev tmE : Term := .static "java/util/ArrayList" "DEFAULTCAPACITY_EMPTY_ELEMENTDATA" "[Ljava/lang/Object;"
abbrev tmW : Term := .string "PorterTurns$Reader" 97
set_option maxRecDepth 100000 in
theorem flat_bytes : ∀ j, j < 90 → Cond.eq (.elem (.field tmW "java/lang/String" "value" "[B") (.int (Int32.ofNat j))) (.int (wordBytes.getD j 0)) ∈ flatC (Jvm.Cond.and given_1 narrow_1) := by decide +kernel
set_option maxHeartbeats 4000000 in
set_option maxRecDepth 100000 in
theorem known_E {s : State} {b : Nat} (hts0 : ∀ w ∈ lw_tbl, w.before #[Value.ref b] s = true) (hgv : (Jvm.Cond.and given_1 narrow_1).before #[Value.ref b] s = true) : ∃ E : Nat → Nat, EV E (lA s) s := by
  have hts : ∀ w ∈ TB, w.before #[Value.ref b] s = true := fun w h => hts0 w (tb_in h)
  have hf := known_flat hgv
  obtain ⟨e0, h0, hT⟩ := va_Tof (A := lA s) (tm := tmE) (ty := .object "java/lang/Object") (N := 0) (f := fun _ => .null) (by decide) (hf _ (by decide +kernel)) (va_eqt (hf (.eq (.length tmE) (.int 0)) (by decide +kernel))) (fun j hj => absurd hj (Nat.not_lt_zero _)) hA_old
  obtain ⟨e1, hMi⟩ := va_Mi.of (C := "[Ljava/lang/Object;") (hf _ (by decide +kernel))
  obtain ⟨adK, adV, hS, hSe⟩ := vk_Sof (A := lA s) (N := 1) (tm := fun _ => tmW) (len := [90]) (byt := [wordBytes]) (fun i hi => by rw [show i = 0 by omega]; decide) (fun i hi => hf _ (by decide +kernel)) (fun i hi => hf _ (by decide +kernel)) (fun i hi => hf _ (by decide +kernel)) (fun i hi => by rw [show i = 0 by omega]; exact hf _ (by decide +kernel)) (fun i hi j hj => by rw [show i = 0 by omega] at hj ⊢; exact hf _ (flat_bytes j hj)) (fun i j hi hj hij => absurd (show i = j by omega) hij) hA_old
  have hR : vk_R RX5 97 wordText (adK 0) s := vk_R.of (hts0 _ (lt3 (List.mem_of_getElem? (i := 52) rfl) : (Jvm.Cond.stringRef "PorterTurns$Reader" (97 : Nat) "kind weight far up value hour rain late men day age strength worked if or and not min max ") ∈ lw_tbl)) (hSe 0 (by decide))
  refine ⟨fun k => match k with | 0 => e0 | 1 => e1 | 2 => adK 0 | _ => adV 0, ?_, hT, ?_, ?_, hR, va_AO.of (hts0 _ (lt1 (List.mem_of_getElem? (i := 152) rfl) : (Jvm.Cond.arrayOver (Jvm.ClassFile.FieldType.object "java/lang/Object")) ∈ lw_tbl)), hMi, va_Dc.of (hts0 _ (lt7 (List.mem_of_getElem? (i := 149) rfl) : (Jvm.Cond.declares ({ cls := "java/lang/Object", name := "getClass", desc := "()Ljava/lang/Class;" } : Jvm.MethodName)) ∈ lw_tbl)), va_Nw.of rfl (hts0 _ (lt7 (List.mem_of_getElem? (i := 136) rfl) : (Jvm.Cond.castable "PorterTurns$Fellowship" "java/lang/Object") ∈ lw_tbl)), va_Nw.of rfl (hts0 _ (lt7 (List.mem_of_getElem? (i := 144) rfl) : (Jvm.Cond.castable "PorterTurns$Law" "java/lang/Object") ∈ lw_tbl)), va_Nw.of rfl (hts0 _ (lt7 (List.mem_of_getElem? (i := 145) rfl) : (Jvm.Cond.castable "PorterTurns$Load" "java/lang/Object") ∈ lw_tbl)), va_Nw.of rfl (hts0 _ (lt7 (List.mem_of_getElem? (i := 143) rfl) : (Jvm.Cond.castable "PorterTurns$Man" "java/lang/Object") ∈ lw_tbl)), va_Nw.of rfl (hts0 _ (lt7 (List.mem_of_getElem? (i := 142) rfl) : (Jvm.Cond.castable "PorterTurns$Place" "java/lang/Object") ∈ lw_tbl)), ?_⟩
  · exact va_Zref (hts0 _ (lt1 (List.mem_of_getElem? (i := 46) rfl) : (Jvm.Cond.laysStatic "java/util/ArrayList" "DEFAULTCAPACITY_EMPTY_ELEMENTDATA" "[Ljava/lang/Object;") ∈ lw_tbl)) (hts _ wd_4) h0 hA_old
  · exact va_Zof (hts0 _ (lt3 (List.mem_of_getElem? (i := 62) rfl) : (Jvm.Cond.laysStatic "java/lang/String" "COMPACT_STRINGS" "Z") ∈ lw_tbl)) (hts _ wd_19) (va_eqi (hf _ (by decide +kernel))) hA_old
  · exact ⟨fun i hi => by have e : i = 0 := by omega
                          subst e; exact hS.1 0 (by decide), fun i j hi hj _ => by omega⟩
  · exact va_Zqof (hts0 _ (lt3 (List.mem_of_getElem? (i := 78) rfl) : (Jvm.Cond.laysStatic "jdk/internal/util/Preconditions" "SIOOBE_FORMATTER" "Ljava/util/function/BiFunction;") ∈ lw_tbl)) (hts _ wd_17) (hf _ (by decide +kernel)) hA_old
theorem known_N {s : State} {b : Nat} (hts0 : ∀ w ∈ lw_tbl, w.before #[Value.ref b] s = true) : NW4 s := ⟨va_Nw.of rfl (hts0 _ (lt1 (List.mem_of_getElem? (i := 164) rfl) : (Jvm.Cond.methodLinkNest "PorterTurns" (39 : Nat) ({ cls := "PorterTurns$Sky", name := "<init>", desc := "()V" } : Jvm.MethodName) "PorterTurns") ∈ lw_tbl)), va_Nw.of rfl (hts0 _ (lt1 (List.mem_of_getElem? (i := 182) rfl) : (Jvm.Cond.methodLinkNest "PorterTurns" (46 : Nat) ({ cls := "PorterTurns$Tape", name := "<init>", desc := "()V" } : Jvm.MethodName) "PorterTurns") ∈ lw_tbl)), va_Nw.of rfl (hts0 _ (lt1 (List.mem_of_getElem? (i := 197) rfl) : (Jvm.Cond.methodLinkNest "PorterTurns" (53 : Nat) ({ cls := "PorterTurns$Reader", name := "<init>", desc := "()V" } : Jvm.MethodName) "PorterTurns") ∈ lw_tbl)), va_Nw.of rfl (hts0 _ (lt1 (List.mem_of_getElem? (i := 222) rfl) : (Jvm.Cond.methodLinkNest "PorterTurns" (60 : Nat) ({ cls := "PorterTurns$Reckoner", name := "<init>", desc := "()V" } : Jvm.MethodName) "PorterTurns") ∈ lw_tbl))⟩
