/-! the law's loop, and its beginning (gen/lawgen.py) -/
theorem lw_sub6 {i L : Nat} (hi : i ≤ 4000) (hL : L ≤ 3072) : (nI L - (6 : Int32) < nI i) ↔ L < i + 6 := by
  by_cases h : 6 ≤ L
  · obtain ⟨k, rfl⟩ : ∃ k, L = k + 6 := ⟨L - 6, by omega⟩
    have e : nI (k + 6) - (6 : Int32) = nI k := by
      rw [← nI_add k 6]
      exact Int32.add_sub_cancel (nI k) (nI 6)
    rw [e, nI_ltI (by omega) (by omega)]
    omega
  · have h0 : nI L - (6 : Int32) < 0 := by
      match L, h with
      | 0, _ => decide
      | 1, _ => decide
      | 2, _ => decide
      | 3, _ => decide
      | 4, _ => decide
      | 5, _ => decide
      | L + 6, h => exact absurd (Nat.le_add_left 6 L) h
    have h1 : (0 : Int32) ≤ nI i := nI_pos' (by omega)
    exact ⟨fun _ => by omega, fun _ => Int32.lt_of_lt_of_le h0 h1⟩
set_option maxHeartbeats 8000000 in
set_option maxRecDepth 100000 in
theorem law_loop {p : Program} {l : Launch} {e : Env} {s : State} {m : MethodId} {below : List Frame} {meth : Method} {c : Code} {D : va_G} {Z : Nat → ClassId} {E : Nat → Nat} {bb : Nat → Nat} {b L : Nat} {xs : Nat → Int32} {Inv : CS → MS → Prop} (hL : L ≤ 3072) (C : CC p s m #[Value.ref b] c code 4 RL D Z E (lA s)) (hX : va_X b L xs s s.heap) (hbl : b < s.heap.size) (hr : meth.sig.returnType = ret) (hlocks : meth.locks = false) (hstep : StepOk Inv) : ∀ (n i : Nat), i ≤ 3072 → L < i + 6 * n + 6 → ∀ (t : CS) (σ : MS), Inv t σ → ∀ (ad : Nat → Nat → Nat) (x0 : Nat), ad 5 0 = x0 → ∀ (H : Heap) (locs : List Loc) (cells slots : Nat), LH D Z E ad bb s t σ H locs → cells + 1170 * n ≤ 600000 → slots + 14200 * n ≤ 7302250 → ∀ (ls : Array Slot), lv_has ls 4 [(0, .ref b), (1, .ref x0), (2, .ref (bb 69)), (3, .int (nI i))] → W p l e room_1 s m #[Value.ref b] below meth c H locs cells slots (lw_Z below #[Value.ref b] s) (F0 m 18 ls []) := by
  obtain ⟨⟨hx, hb, hml, hown, hts⟩, hK⟩ := id C
  intro n
  induction n with
  | zero =>
    intro i hi hLn t σ hI ad x0 hx0 H locs cells slots hH hc hs ls hl
    refine lv_iload_n hx hb dL_law_18 rfl (lv_at hl 3 rfl) ?_
    refine lv_aload_n hx hb dL_law_19 rfl (lv_at hl 0 rfl) ?_
    refine va_slen hx hb hX hbl (show ¬ lA s b from Nat.not_le.mpr hbl) hH.S dL_law_20 ?_
    refine lv_bipush (v := 6) hx hb dL_law_21 (by decide) ?_
    refine lv_isub hx hb dL_law_23 ?_
    refine lv_icmp_gt (tgt := 1264) hx hb dL_law_24 (by decide) (fun _ => ?_) (fun q => absurd ((lw_sub6 (by omega) hL).mpr (by omega)) q)
    refine lv_iconst (v := 1) hx hb dL_law_1264 (by decide) ?_
    refine va_forget (fun q hq => hH.S.2.2 q hq) ?_
    refine W.widen (k := 600000) (n := 7302250) (by omega) (by omega) ?_
    exact lw_ret hx hb hr hlocks dL_law_1265
  | succ n ih =>
    intro i hi hLn t σ hI ad x0 hx0 H locs cells slots hH hc hs ls hl
    refine lv_iload_n hx hb dL_law_18 rfl (lv_at hl 3 rfl) ?_
    refine lv_aload_n hx hb dL_law_19 rfl (lv_at hl 0 rfl) ?_
    refine va_slen hx hb hX hbl (show ¬ lA s b from Nat.not_le.mpr hbl) hH.S dL_law_20 ?_
    refine lv_bipush (v := 6) hx hb dL_law_21 (by decide) ?_
    refine lv_isub hx hb dL_law_23 ?_
    refine lv_icmp_gt (tgt := 1264) hx hb dL_law_24 (by decide) (fun _ => ?_) (fun q => ?_)
    · refine lv_iconst (v := 1) hx hb dL_law_1264 (by decide) ?_
      refine va_forget (fun q hq => hH.S.2.2 q hq) ?_
      refine W.widen (k := 600000) (n := 7302250) (by omega) (by omega) ?_
      exact lw_ret hx hb hr hlocks dL_law_1265
    · have hi6 : i + 6 ≤ L := Nat.le_of_not_lt (fun h => q ((lw_sub6 (by omega) hL).mpr h))
      subst hx0
      have hcc : cells + 1170 ≤ 600000 ∧ slots + 14200 ≤ 7302250 := ⟨by omega, by omega⟩
      have hcont : ∀ (t1 : CS) (σ1 : MS) (ad1 : Nat → Nat → Nat) (H1 : Heap) (locs1 : List Loc), ad1 5 0 = ad 5 0 → Inv t1 σ1 → LH D Z E ad1 bb s t1 σ1 H1 locs1 → W p l e room_1 s m #[Value.ref b] below meth c H1 locs1 (cells + 1170) (slots + 14200) (lw_Z below #[Value.ref b] s) (F0 m 1258 ls []) := fun t1 σ1 ad1 H1 locs1 had hI1 hH1 => by
        refine lv_iinc (v := nI (i + 6)) (lv' := [(3, .int (nI (i + 6))), (0, .ref b), (1, .ref (ad 5 0)), (2, .ref (bb 69))]) hx hb dL_law_1258 hl (k := 3) rfl (by rw [← nI_add]; rfl) (by decide) rfl (fun ls hl => ?_)
        refine lv_goto (tgt := 18) hx hb dL_law_1261 (by decide) ?_
        exact ih (i + 6) (by omega) (by omega) t1 σ1 hI1 ad1 (ad 5 0) had H1 locs1 _ _ hH1 (by omega) (by omega) ls (lv_sub hl [1, 2, 3, 0] rfl)
      refine lv_aload_n hx hb dL_law_27 rfl (lv_at hl 0 rfl) ?_
      refine lv_iload_n hx hb dL_law_28 rfl (lv_at hl 3 rfl) ?_
      refine va_sld hx hb hX hbl (show ¬ lA s b from Nat.not_le.mpr hbl) hH.S (vp_in_nI (show i < L by omega) (by omega)) dL_law_29 ?_
      refine lv_bipush (v := 31) hx hb dL_law_30 (by decide) ?_
      refine lv_iand hx hb dL_law_32 ?_
      generalize (xs (nI i).toNatClampNeg &&& 31) = v
      by_cases k0 : v = (0 : Int32)
      · refine lv_tableIn (tgt := 168) hx hb dL_law_33 (by rw [k0]; decide) (by rw [k0]; decide) (by rw [k0]; rfl) (by decide) ?_
        exact law_case_0 C hX hbl hL hi6 (hstep.1 t σ hI _ _) hH hl hcc hcont
      by_cases k1 : v = (1 : Int32)
      · refine lv_tableIn (tgt := 201) hx hb dL_law_33 (by rw [k1]; decide) (by rw [k1]; decide) (by rw [k1]; rfl) (by decide) ?_
        exact law_case_1 C hX hbl hL hi6 (hstep.2.1 t σ hI _ _ _) hH hl hcc hcont
      by_cases k2 : v = (2 : Int32)
      · refine lv_tableIn (tgt := 244) hx hb dL_law_33 (by rw [k2]; decide) (by rw [k2]; decide) (by rw [k2]; rfl) (by decide) ?_
        exact law_case_2 C hX hbl hL hi6 (hstep.2.2.1 t σ hI _ _) hH hl hcc hcont
      by_cases k3 : v = (3 : Int32)
      · refine lv_tableIn (tgt := 277) hx hb dL_law_33 (by rw [k3]; decide) (by rw [k3]; decide) (by rw [k3]; rfl) (by decide) ?_
        exact law_case_3 C hX hbl hL hi6 (hstep.2.2.2.1 t σ hI _ _ _) hH hl hcc hcont
      by_cases k4 : v = (4 : Int32)
      · refine lv_tableIn (tgt := 320) hx hb dL_law_33 (by rw [k4]; decide) (by rw [k4]; decide) (by rw [k4]; rfl) (by decide) ?_
        exact law_case_4 C hX hbl hL hi6 (hstep.2.2.2.2.1 t σ hI _ _ _ _) hH hl hcc hcont
      by_cases k5 : v = (5 : Int32)
      · refine lv_tableIn (tgt := 373) hx hb dL_law_33 (by rw [k5]; decide) (by rw [k5]; decide) (by rw [k5]; rfl) (by decide) ?_
        exact law_case_5 C hX hbl hL hi6 (hstep.2.2.2.2.2.1 t σ hI _) hH hl hcc hcont
      by_cases k6 : v = (6 : Int32)
      · refine lv_tableIn (tgt := 396) hx hb dL_law_33 (by rw [k6]; decide) (by rw [k6]; decide) (by rw [k6]; rfl) (by decide) ?_
        exact law_case_6 C hX hbl hL hi6 (hstep.2.2.2.2.2.2.1 t σ hI _) hH hl hcc hcont
      by_cases k7 : v = (7 : Int32)
      · refine lv_tableIn (tgt := 419) hx hb dL_law_33 (by rw [k7]; decide) (by rw [k7]; decide) (by rw [k7]; rfl) (by decide) ?_
        exact law_case_7 C hX hbl hL hi6 (hstep.2.2.2.2.2.2.2.1 t σ hI _) hH hl hcc hcont
      by_cases k8 : v = (8 : Int32)
      · refine lv_tableIn (tgt := 442) hx hb dL_law_33 (by rw [k8]; decide) (by rw [k8]; decide) (by rw [k8]; rfl) (by decide) ?_
        exact law_case_8 C hX hbl hL hi6 (hstep.2.2.2.2.2.2.2.2.1 t σ hI _ _) hH hl hcc hcont
      by_cases k9 : v = (9 : Int32)
      · refine lv_tableIn (tgt := 475) hx hb dL_law_33 (by rw [k9]; decide) (by rw [k9]; decide) (by rw [k9]; rfl) (by decide) ?_
        exact law_case_9 C hX hbl hL hi6 (hstep.2.2.2.2.2.2.2.2.2.1 t σ hI _ _) hH hl hcc hcont
      by_cases k10 : v = (10 : Int32)
      · refine lv_tableIn (tgt := 508) hx hb dL_law_33 (by rw [k10]; decide) (by rw [k10]; decide) (by rw [k10]; rfl) (by decide) ?_
        exact law_case_10 C hX hbl hL hi6 (hstep.2.2.2.2.2.2.2.2.2.2.1 t σ hI _ _ _) hH hl hcc hcont
      by_cases k11 : v = (11 : Int32)
      · refine lv_tableIn (tgt := 551) hx hb dL_law_33 (by rw [k11]; decide) (by rw [k11]; decide) (by rw [k11]; rfl) (by decide) ?_
        exact law_case_11 C hX hbl hL hi6 (hstep.2.2.2.2.2.2.2.2.2.2.2.1 t σ hI _ _ _ _ _) hH hl hcc hcont
      by_cases k12 : v = (12 : Int32)
      · refine lv_tableIn (tgt := 614) hx hb dL_law_33 (by rw [k12]; decide) (by rw [k12]; decide) (by rw [k12]; rfl) (by decide) ?_
        exact law_case_12 C hX hbl hL hi6 (hstep.2.2.2.2.2.2.2.2.2.2.2.2.1 t σ hI _) hH hl hcc hcont
      by_cases k13 : v = (13 : Int32)
      · refine lv_tableIn (tgt := 637) hx hb dL_law_33 (by rw [k13]; decide) (by rw [k13]; decide) (by rw [k13]; rfl) (by decide) ?_
        exact law_case_13 C hX hbl hL hi6 (hstep.2.2.2.2.2.2.2.2.2.2.2.2.2.1 t σ hI _ _ _) hH hl hcc hcont
      by_cases k14 : v = (14 : Int32)
      · refine lv_tableIn (tgt := 680) hx hb dL_law_33 (by rw [k14]; decide) (by rw [k14]; decide) (by rw [k14]; rfl) (by decide) ?_
        exact law_case_14 C hX hbl hL hi6 (hstep.2.2.2.2.2.2.2.2.2.2.2.2.2.2.1 t σ hI _ _ _ _) hH hl hcc hcont
      by_cases k15 : v = (15 : Int32)
      · refine lv_tableIn (tgt := 733) hx hb dL_law_33 (by rw [k15]; decide) (by rw [k15]; decide) (by rw [k15]; rfl) (by decide) ?_
        exact law_case_15 C hX hbl hL hi6 (hstep.2.2.2.2.2.2.2.2.2.2.2.2.2.2.2.1 t σ hI _ _ _ _) hH hl hcc hcont
      by_cases k16 : v = (16 : Int32)
      · refine lv_tableIn (tgt := 786) hx hb dL_law_33 (by rw [k16]; decide) (by rw [k16]; decide) (by rw [k16]; rfl) (by decide) ?_
        exact law_case_16 C hX hbl hL hi6 (hstep.2.2.2.2.2.2.2.2.2.2.2.2.2.2.2.2.1 t σ hI _ _ _ _) hH hl hcc hcont
      by_cases k17 : v = (17 : Int32)
      · refine lv_tableIn (tgt := 839) hx hb dL_law_33 (by rw [k17]; decide) (by rw [k17]; decide) (by rw [k17]; rfl) (by decide) ?_
        exact law_case_17 C hX hbl hL hi6 (hstep.2.2.2.2.2.2.2.2.2.2.2.2.2.2.2.2.2.1 t σ hI _) hH hl hcc hcont
      by_cases k18 : v = (18 : Int32)
      · refine lv_tableIn (tgt := 862) hx hb dL_law_33 (by rw [k18]; decide) (by rw [k18]; decide) (by rw [k18]; rfl) (by decide) ?_
        exact law_case_18 C hX hbl hL hi6 (hstep.2.2.2.2.2.2.2.2.2.2.2.2.2.2.2.2.2.2.1 t σ hI _ _) hH hl hcc hcont
      by_cases k19 : v = (19 : Int32)
      · refine lv_tableIn (tgt := 895) hx hb dL_law_33 (by rw [k19]; decide) (by rw [k19]; decide) (by rw [k19]; rfl) (by decide) ?_
        exact law_case_19 C hX hbl hL hi6 (hstep.2.2.2.2.2.2.2.2.2.2.2.2.2.2.2.2.2.2.2.1 t σ hI _ _) hH hl hcc hcont
      by_cases k20 : v = (20 : Int32)
      · refine lv_tableIn (tgt := 928) hx hb dL_law_33 (by rw [k20]; decide) (by rw [k20]; decide) (by rw [k20]; rfl) (by decide) ?_
        exact law_case_20 C hX hbl hL hi6 (hstep.2.2.2.2.2.2.2.2.2.2.2.2.2.2.2.2.2.2.2.2.1 t σ hI _) hH hl hcc hcont
      by_cases k21 : v = (21 : Int32)
      · refine lv_tableIn (tgt := 951) hx hb dL_law_33 (by rw [k21]; decide) (by rw [k21]; decide) (by rw [k21]; rfl) (by decide) ?_
        exact law_case_21 C hX hbl hL hi6 (hstep.2.2.2.2.2.2.2.2.2.2.2.2.2.2.2.2.2.2.2.2.2.1 t σ hI _ _ _) hH hl hcc hcont
      by_cases k22 : v = (22 : Int32)
      · refine lv_tableIn (tgt := 994) hx hb dL_law_33 (by rw [k22]; decide) (by rw [k22]; decide) (by rw [k22]; rfl) (by decide) ?_
        exact law_case_22 C hX hbl hL hi6 (hstep.2.2.2.2.2.2.2.2.2.2.2.2.2.2.2.2.2.2.2.2.2.2.1 t σ hI _ _) hH hl hcc hcont
      by_cases k23 : v = (23 : Int32)
      · refine lv_tableIn (tgt := 1027) hx hb dL_law_33 (by rw [k23]; decide) (by rw [k23]; decide) (by rw [k23]; rfl) (by decide) ?_
        exact law_case_23 C hX hbl hL hi6 (hstep.2.2.2.2.2.2.2.2.2.2.2.2.2.2.2.2.2.2.2.2.2.2.2.1 t σ hI _ _) hH hl hcc hcont
      by_cases k24 : v = (24 : Int32)
      · refine lv_tableIn (tgt := 1060) hx hb dL_law_33 (by rw [k24]; decide) (by rw [k24]; decide) (by rw [k24]; rfl) (by decide) ?_
        exact law_case_24 C hX hbl hL hi6 (hstep.2.2.2.2.2.2.2.2.2.2.2.2.2.2.2.2.2.2.2.2.2.2.2.2.1 t σ hI _) hH hl hcc hcont
      by_cases k25 : v = (25 : Int32)
      · refine lv_tableIn (tgt := 1083) hx hb dL_law_33 (by rw [k25]; decide) (by rw [k25]; decide) (by rw [k25]; rfl) (by decide) ?_
        exact law_case_25 C hX hbl hL hi6 (hstep.2.2.2.2.2.2.2.2.2.2.2.2.2.2.2.2.2.2.2.2.2.2.2.2.2.1 t σ hI _ _ _ _) hH hl hcc hcont
      by_cases k26 : v = (26 : Int32)
      · refine lv_tableIn (tgt := 1136) hx hb dL_law_33 (by rw [k26]; decide) (by rw [k26]; decide) (by rw [k26]; rfl) (by decide) ?_
        exact law_case_26 C hX hbl hL hi6 (hstep.2.2.2.2.2.2.2.2.2.2.2.2.2.2.2.2.2.2.2.2.2.2.2.2.2.2.1 t σ hI _ _ _) hH hl hcc hcont
      by_cases k27 : v = (27 : Int32)
      · refine lv_tableIn (tgt := 1179) hx hb dL_law_33 (by rw [k27]; decide) (by rw [k27]; decide) (by rw [k27]; rfl) (by decide) ?_
        exact law_case_27 C hX hbl hL hi6 (hstep.2.2.2.2.2.2.2.2.2.2.2.2.2.2.2.2.2.2.2.2.2.2.2.2.2.2.2.1 t σ hI _) hH hl hcc hcont
      by_cases k28 : v = (28 : Int32)
      · refine lv_tableIn (tgt := 1202) hx hb dL_law_33 (by rw [k28]; decide) (by rw [k28]; decide) (by rw [k28]; rfl) (by decide) ?_
        exact law_case_28 C hX hbl hL hi6 (hstep.2.2.2.2.2.2.2.2.2.2.2.2.2.2.2.2.2.2.2.2.2.2.2.2.2.2.2.2.1 t σ hI _ _) hH hl hcc hcont
      by_cases k29 : v = (29 : Int32)
      · refine lv_tableIn (tgt := 1235) hx hb dL_law_33 (by rw [k29]; decide) (by rw [k29]; decide) (by rw [k29]; rfl) (by decide) ?_
        exact law_case_29 C hX hbl hL hi6 (hstep.2.2.2.2.2.2.2.2.2.2.2.2.2.2.2.2.2.2.2.2.2.2.2.2.2.2.2.2.2 t σ hI _) hH hl hcc hcont
      refine lv_tableOut (tgt := 1258) hx hb dL_law_33 (by have := sw_ne k0 0 (by decide); have := sw_ne k1 1 (by decide); have := sw_ne k2 2 (by decide); have := sw_ne k3 3 (by decide); have := sw_ne k4 4 (by decide); have := sw_ne k5 5 (by decide); have := sw_ne k6 6 (by decide); have := sw_ne k7 7 (by decide); have := sw_ne k8 8 (by decide); have := sw_ne k9 9 (by decide); have := sw_ne k10 10 (by decide); have := sw_ne k11 11 (by decide); have := sw_ne k12 12 (by decide); have := sw_ne k13 13 (by decide); have := sw_ne k14 14 (by decide); have := sw_ne k15 15 (by decide); have := sw_ne k16 16 (by decide); have := sw_ne k17 17 (by decide); have := sw_ne k18 18 (by decide); have := sw_ne k19 19 (by decide); have := sw_ne k20 20 (by decide); have := sw_ne k21 21 (by decide); have := sw_ne k22 22 (by decide); have := sw_ne k23 23 (by decide); have := sw_ne k24 24 (by decide); have := sw_ne k25 25 (by decide); have := sw_ne k26 26 (by decide); have := sw_ne k27 27 (by decide); have := sw_ne k28 28 (by decide); have := sw_ne k29 29 (by decide); omega) (by decide) ?_
      exact W.widen (k := cells + 1170) (n := slots + 14200) (by omega) (by omega) (hcont t σ ad H locs rfl hI hH)
