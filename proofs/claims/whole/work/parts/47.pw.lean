/-! constructors that make more (gen/pw.py) -/
abbrev rmI_Fel : Room := { frames := 4, cells := 1, slots := 3, locals := 160 }
set_option maxHeartbeats 4000000 in
set_option maxRecDepth 100000 in
theorem c_I_Fel (l : Launch) (D : va_G) (Z : Nat → ClassId) (E : Nat → Nat) (L0 : List Nat) (f0 : Nat → va_E) {a : Nat} (n : Int32) (ha : a ∈ L0) (hf : f0 a = .inr (1, [.int 0, .null, .int 0, .int 0, .int 0, .int 0, .int 0, .int 0, .int 0, .int 0])) (sz : Nat) : Met l yX0_init (Wd yX0_init cX0_init 2 none) rmI_Fel (va_Pc [.ref a, .int n] (pPre D Z E L0 f0 sz)) (va_Qv (fun (u : P2) => ∃ q1 : Nat, FX L0 f0 a u.1 u.2 [(a, .inr (1, [.int n, .ref q1, .int 0, .int 0, .int 0, .int 0, .int 0, .int 0, .int 0, .int 0])), (q1, .inr (0, [.int 0, .ref (E 0), .int 0]))]) (pPost D Z (cAs L0 sz)) (cAs L0 sz)) 1 3 (cAs L0 sz) := by
  refine pMetI (Qc := fun A => va_Qv (fun (u : P2) => ∃ q1 : Nat, FX L0 f0 a u.1 u.2 [(a, .inr (1, [.int n, .ref q1, .int 0, .int 0, .int 0, .int 0, .int 0, .int 0, .int 0, .int 0])), (q1, .inr (0, [.int 0, .ref (E 0), .int 0]))]) (pPost D Z A) A) (by decide) rfl rfl _ (Nat.le_of_ble_eq_true rfl) (fun p e s m args below meth c A C hr hk hnm ls hl hH => ?_) sz
  obtain ⟨⟨hx, hb, hml, hown, hts⟩, hK⟩ := id C
  have hl : lv_has ls 2 [(0, .ref a), (1, .int n)] := hl
  obtain ⟨L, f, hX, hH⟩ : ∃ (L' : List Nat) (f' : Nat → va_E), FX L0 f0 a L' f' [(a, .inr (1, [.int 0, .null, .int 0, .int 0, .int 0, .int 0, .int 0, .int 0, .int 0, .int 0]))] ∧ PH D A s.heap L' f' s.heap [] := ⟨L0, f0, FX.init ha hf, hH⟩
  refine lv_aload_n hx hb dX0_init_0 rfl (lv_at hl 0 rfl) ?_
  refine pobj C hl.1 wd_64 (Nat.le_of_ble_eq_true rfl) (Nat.le_of_ble_eq_true rfl) (Nat.le_of_ble_eq_true rfl) dX0_init_1 ?_
  refine lv_aload_n hx hb dX0_init_4 rfl (lv_at hl 0 rfl) ?_
  refine pnewo C hH (ci := 0) (N := 3) (T := TJx4a65c) rfl ixJx4a65c tyJx4a65c_ok wd_65 wd_34 wd_4 (fs := [.int 0, .null, .int 0]) (fun j hj => by match j, hj with | 0, _ => rfl | 1, _ => rfl | 2, _ => rfl) (Nat.le_of_ble_eq_true rfl) (Nat.le_of_ble_eq_true rfl) dX0_init_5 (fun q1 H hq1 hH => ?_)
  obtain ⟨L, f, hX, hH⟩ : ∃ (L' : List Nat) (f' : Nat → va_E), FX L0 f0 a L' f' [(a, .inr (1, [.int 0, .null, .int 0, .int 0, .int 0, .int 0, .int 0, .int 0, .int 0, .int 0])), (q1, .inr (0, [.int 0, .null, .int 0]))] ∧ PH D A s.heap L' f' H [] := ⟨_, _, hX.new hq1, hH⟩
  refine lv_dup hx hb dX0_init_8 rfl ?_
  obtain ⟨m2, v3⟩ := hX.2.2.1 1 _ _ rfl
  refine pcIv C hH [] (c_I_AL l D Z E L f m2 v3) (cwTI 0 hts wd_66 wd_36 wd_4 wd_37 rfl rfl rfl (by decide +kernel) ⟨(Nat.le_of_ble_eq_true rfl), (Nat.le_of_ble_eq_true rfl)⟩) rfl hl.1 rfl (Nat.le_of_ble_eq_true rfl) dX0_init_9 ⟨(Nat.le_of_ble_eq_true rfl), (Nat.le_of_ble_eq_true rfl)⟩ (fun u H locs hu hH => ?_)
  obtain ⟨L, f, hX, hH⟩ : ∃ (L' : List Nat) (f' : Nat → va_E), FX L0 f0 a L' f' [(a, .inr (1, [.int 0, .null, .int 0, .int 0, .int 0, .int 0, .int 0, .int 0, .int 0, .int 0])), (q1, .inr (0, [.int 0, .ref (E 0), .int 0]))] ∧ PH D A s.heap L' f' H locs := ⟨_, _, hX.call (i := 1) rfl hu, hH⟩
  obtain ⟨m4, v5⟩ := hX.2.2.1 0 _ _ rfl
  refine ppF C hnm hH m4 v5 (T := TX0) (N := 10) rfl ixX0 tyX0 tyX0_ok nmX0 1 (by decide) rfl wd_69 (ty := (.object "java/util/ArrayList")) pfAL rfl rfl (Nat.le_of_ble_eq_true rfl) dX0_init_12 (fun H locs hH => ?_)
  obtain ⟨L, f, hX, hH⟩ : ∃ (L' : List Nat) (f' : Nat → va_E), FX L0 f0 a L' f' [(a, .inr (1, [.int 0, .ref q1, .int 0, .int 0, .int 0, .int 0, .int 0, .int 0, .int 0, .int 0])), (q1, .inr (0, [.int 0, .ref (E 0), .int 0]))] ∧ PH D A s.heap L' f' H locs := ⟨_, _, hX.set (i := 0) rfl, hH⟩
  refine lv_aload_n hx hb dX0_init_15 rfl (lv_at hl 0 rfl) ?_
  refine lv_iload_n hx hb dX0_init_16 rfl (lv_at hl 1 rfl) ?_
  obtain ⟨m6, v7⟩ := hX.2.2.1 0 _ _ rfl
  refine ppF C hnm hH m6 v7 (T := TX0) (N := 10) rfl ixX0 tyX0 tyX0_ok nmX0 0 (by decide) rfl wd_67 (ty := .int) pfI rfl rfl (Nat.le_of_ble_eq_true rfl) dX0_init_17 (fun H locs hH => ?_)
  obtain ⟨L, f, hX, hH⟩ : ∃ (L' : List Nat) (f' : Nat → va_E), FX L0 f0 a L' f' [(a, .inr (1, [.int n, .ref q1, .int 0, .int 0, .int 0, .int 0, .int 0, .int 0, .int 0, .int 0])), (q1, .inr (0, [.int 0, .ref (E 0), .int 0]))] ∧ PH D A s.heap L' f' H locs := ⟨_, _, hX.set (i := 0) rfl, hH⟩
  exact prv C hr hk hH (Nat.le_of_ble_eq_true rfl) (Nat.le_of_ble_eq_true rfl) ⟨q1, hX⟩ dX0_init_20
abbrev rmI_Sky : Room := { frames := 1, cells := 2, slots := 40, locals := 40 }
set_option maxHeartbeats 4000000 in
set_option maxRecDepth 100000 in
theorem c_I_Sky (l : Launch) (D : va_G) (Z : Nat → ClassId) (E : Nat → Nat) (L0 : List Nat) (f0 : Nat → va_E) {a : Nat}  (ha : a ∈ L0) (hf : f0 a = .inr (8, [.null, .null, .int 0])) (sz : Nat) : Met l yX7_init (Wd yX7_init cX7_init 1 none) rmI_Sky (va_Pc [.ref a] (pPre D Z E L0 f0 sz)) (va_Qv (fun (u : P2) => ∃ q1 q4 : Nat, FX L0 f0 a u.1 u.2 [(a, .inr (8, [.ref q1, .ref q4, .int 0])), (q1, zA Z 20), (q4, zA Z 20)]) (pPost D Z (cAs L0 sz)) (cAs L0 sz)) 2 40 (cAs L0 sz) := by
  refine pMetI (Qc := fun A => va_Qv (fun (u : P2) => ∃ q1 q4 : Nat, FX L0 f0 a u.1 u.2 [(a, .inr (8, [.ref q1, .ref q4, .int 0])), (q1, zA Z 20), (q4, zA Z 20)]) (pPost D Z A) A) (by decide) rfl rfl _ (Nat.le_of_ble_eq_true rfl) (fun p e s m args below meth c A C hr hk hnm ls hl hH => ?_) sz
  obtain ⟨⟨hx, hb, hml, hown, hts⟩, hK⟩ := id C
  have hl : lv_has ls 1 [(0, .ref a)] := hl
  obtain ⟨L, f, hX, hH⟩ : ∃ (L' : List Nat) (f' : Nat → va_E), FX L0 f0 a L' f' [(a, .inr (8, [.null, .null, .int 0]))] ∧ PH D A s.heap L' f' s.heap [] := ⟨L0, f0, FX.init ha hf, hH⟩
  refine lv_aload_n hx hb dX7_init_0 rfl (lv_at hl 0 rfl) ?_
  refine pobj C hl.1 wd_167 (Nat.le_of_ble_eq_true rfl) (Nat.le_of_ble_eq_true rfl) (Nat.le_of_ble_eq_true rfl) dX7_init_1 ?_
  refine lv_aload_n hx hb dX7_init_4 rfl (lv_at hl 0 rfl) ?_
  refine lv_bipush (v := 20) hx hb dX7_init_5 (by decide) ?_
  refine pnewi C hH 20 (by decide) (by decide) (by decide) (Nat.le_of_ble_eq_true rfl) (Nat.le_of_ble_eq_true rfl) dX7_init_7 (fun q1 H hq1 hH => ?_)
  obtain ⟨L, f, hX, hH⟩ : ∃ (L' : List Nat) (f' : Nat → va_E), FX L0 f0 a L' f' [(a, .inr (8, [.null, .null, .int 0])), (q1, zA Z 20)] ∧ PH D A s.heap L' f' H [] := ⟨_, _, hX.new hq1, hH⟩
  obtain ⟨m2, v3⟩ := hX.2.2.1 0 _ _ rfl
  refine ppF C hnm hH m2 v3 (T := TX7) (N := 3) rfl ixX7 tyX7 tyX7_ok nmX7 0 (by decide) rfl wd_168 (ty := (.array .int)) pfAI rfl rfl (Nat.le_of_ble_eq_true rfl) dX7_init_9 (fun H locs hH => ?_)
  obtain ⟨L, f, hX, hH⟩ : ∃ (L' : List Nat) (f' : Nat → va_E), FX L0 f0 a L' f' [(a, .inr (8, [.ref q1, .null, .int 0])), (q1, zA Z 20)] ∧ PH D A s.heap L' f' H locs := ⟨_, _, hX.set (i := 0) rfl, hH⟩
  refine lv_aload_n hx hb dX7_init_12 rfl (lv_at hl 0 rfl) ?_
  refine lv_bipush (v := 20) hx hb dX7_init_13 (by decide) ?_
  refine pnewi C hH 20 (by decide) (by decide) (by decide) (Nat.le_of_ble_eq_true rfl) (Nat.le_of_ble_eq_true rfl) dX7_init_15 (fun q4 H hq4 hH => ?_)
  obtain ⟨L, f, hX, hH⟩ : ∃ (L' : List Nat) (f' : Nat → va_E), FX L0 f0 a L' f' [(a, .inr (8, [.ref q1, .null, .int 0])), (q1, zA Z 20), (q4, zA Z 20)] ∧ PH D A s.heap L' f' H locs := ⟨_, _, hX.new hq4, hH⟩
  obtain ⟨m5, v6⟩ := hX.2.2.1 0 _ _ rfl
  refine ppF C hnm hH m5 v6 (T := TX7) (N := 3) rfl ixX7 tyX7 tyX7_ok nmX7 1 (by decide) rfl wd_169 (ty := (.array .int)) pfAI rfl rfl (Nat.le_of_ble_eq_true rfl) dX7_init_17 (fun H locs hH => ?_)
  obtain ⟨L, f, hX, hH⟩ : ∃ (L' : List Nat) (f' : Nat → va_E), FX L0 f0 a L' f' [(a, .inr (8, [.ref q1, .ref q4, .int 0])), (q1, zA Z 20), (q4, zA Z 20)] ∧ PH D A s.heap L' f' H locs := ⟨_, _, hX.set (i := 0) rfl, hH⟩
  exact prv C hr hk hH (Nat.le_of_ble_eq_true rfl) (Nat.le_of_ble_eq_true rfl) ⟨q1, q4, hX⟩ dX7_init_20
abbrev rmI_Tape : Room := { frames := 1, cells := 1, slots := 200, locals := 40 }
set_option maxHeartbeats 4000000 in
set_option maxRecDepth 100000 in
theorem c_I_Tape (l : Launch) (D : va_G) (Z : Nat → ClassId) (E : Nat → Nat) (L0 : List Nat) (f0 : Nat → va_E) {a : Nat}  (ha : a ∈ L0) (hf : f0 a = .inr (9, [.null, .int 0])) (sz : Nat) : Met l yX8_init (Wd yX8_init cX8_init 1 none) rmI_Tape (va_Pc [.ref a] (pPre D Z E L0 f0 sz)) (va_Qv (fun (u : P2) => ∃ q1 : Nat, FX L0 f0 a u.1 u.2 [(a, .inr (9, [.ref q1, .int 0])), (q1, zA Z 200)]) (pPost D Z (cAs L0 sz)) (cAs L0 sz)) 1 200 (cAs L0 sz) := by
  refine pMetI (Qc := fun A => va_Qv (fun (u : P2) => ∃ q1 : Nat, FX L0 f0 a u.1 u.2 [(a, .inr (9, [.ref q1, .int 0])), (q1, zA Z 200)]) (pPost D Z A) A) (by decide) rfl rfl _ (Nat.le_of_ble_eq_true rfl) (fun p e s m args below meth c A C hr hk hnm ls hl hH => ?_) sz
  obtain ⟨⟨hx, hb, hml, hown, hts⟩, hK⟩ := id C
  have hl : lv_has ls 1 [(0, .ref a)] := hl
  obtain ⟨L, f, hX, hH⟩ : ∃ (L' : List Nat) (f' : Nat → va_E), FX L0 f0 a L' f' [(a, .inr (9, [.null, .int 0]))] ∧ PH D A s.heap L' f' s.heap [] := ⟨L0, f0, FX.init ha hf, hH⟩
  refine lv_aload_n hx hb dX8_init_0 rfl (lv_at hl 0 rfl) ?_
  refine pobj C hl.1 wd_185 (Nat.le_of_ble_eq_true rfl) (Nat.le_of_ble_eq_true rfl) (Nat.le_of_ble_eq_true rfl) dX8_init_1 ?_
  refine lv_aload_n hx hb dX8_init_4 rfl (lv_at hl 0 rfl) ?_
  refine lv_sipush (v := 200) hx hb dX8_init_5 (by decide) ?_
  refine pnewi C hH 200 (by decide) (by decide) (by decide) (Nat.le_of_ble_eq_true rfl) (Nat.le_of_ble_eq_true rfl) dX8_init_8 (fun q1 H hq1 hH => ?_)
  obtain ⟨L, f, hX, hH⟩ : ∃ (L' : List Nat) (f' : Nat → va_E), FX L0 f0 a L' f' [(a, .inr (9, [.null, .int 0])), (q1, zA Z 200)] ∧ PH D A s.heap L' f' H [] := ⟨_, _, hX.new hq1, hH⟩
  obtain ⟨m2, v3⟩ := hX.2.2.1 0 _ _ rfl
  refine ppF C hnm hH m2 v3 (T := TX8) (N := 2) rfl ixX8 tyX8 tyX8_ok nmX8 0 (by decide) rfl wd_186 (ty := (.array .int)) pfAI rfl rfl (Nat.le_of_ble_eq_true rfl) dX8_init_10 (fun H locs hH => ?_)
  obtain ⟨L, f, hX, hH⟩ : ∃ (L' : List Nat) (f' : Nat → va_E), FX L0 f0 a L' f' [(a, .inr (9, [.ref q1, .int 0])), (q1, zA Z 200)] ∧ PH D A s.heap L' f' H locs := ⟨_, _, hX.set (i := 0) rfl, hH⟩
  exact prv C hr hk hH (Nat.le_of_ble_eq_true rfl) (Nat.le_of_ble_eq_true rfl) ⟨q1, hX⟩ dX8_init_13
abbrev rmI_Reader : Room := { frames := 1, cells := 3, slots := 804, locals := 40 }
set_option maxHeartbeats 4000000 in
set_option maxRecDepth 100000 in
theorem c_I_Reader (l : Launch) (D : va_G) (Z : Nat → ClassId) (E : Nat → Nat) (L0 : List Nat) (f0 : Nat → va_E) {a : Nat}  (ha : a ∈ L0) (hf : f0 a = .inr (6, [.null, .null, .null, .int 0, .int 0, .int 0])) (sz : Nat) : Met l yX5_init (Wd yX5_init cX5_init 1 none) rmI_Reader (va_Pc [.ref a] (pPre D Z E L0 f0 sz)) (va_Qv (fun (u : P2) => ∃ q1 q4 q7 : Nat, FX L0 f0 a u.1 u.2 [(a, .inr (6, [.ref q1, .ref q4, .ref q7, .int 0, .int 0, .int 0])), (q1, zA Z 201), (q4, zA Z 201), (q7, zA Z 402)]) (pPost D Z (cAs L0 sz)) (cAs L0 sz)) 3 804 (cAs L0 sz) := by
  refine pMetI (Qc := fun A => va_Qv (fun (u : P2) => ∃ q1 q4 q7 : Nat, FX L0 f0 a u.1 u.2 [(a, .inr (6, [.ref q1, .ref q4, .ref q7, .int 0, .int 0, .int 0])), (q1, zA Z 201), (q4, zA Z 201), (q7, zA Z 402)]) (pPost D Z A) A) (by decide) rfl rfl _ (Nat.le_of_ble_eq_true rfl) (fun p e s m args below meth c A C hr hk hnm ls hl hH => ?_) sz
  obtain ⟨⟨hx, hb, hml, hown, hts⟩, hK⟩ := id C
  have hl : lv_has ls 1 [(0, .ref a)] := hl
  obtain ⟨L, f, hX, hH⟩ : ∃ (L' : List Nat) (f' : Nat → va_E), FX L0 f0 a L' f' [(a, .inr (6, [.null, .null, .null, .int 0, .int 0, .int 0]))] ∧ PH D A s.heap L' f' s.heap [] := ⟨L0, f0, FX.init ha hf, hH⟩
  refine lv_aload_n hx hb dX5_init_0 rfl (lv_at hl 0 rfl) ?_
  refine pobj C hl.1 wd_200 (Nat.le_of_ble_eq_true rfl) (Nat.le_of_ble_eq_true rfl) (Nat.le_of_ble_eq_true rfl) dX5_init_1 ?_
  refine lv_aload_n hx hb dX5_init_4 rfl (lv_at hl 0 rfl) ?_
  refine lv_sipush (v := 201) hx hb dX5_init_5 (by decide) ?_
  refine pnewi C hH 201 (by decide) (by decide) (by decide) (Nat.le_of_ble_eq_true rfl) (Nat.le_of_ble_eq_true rfl) dX5_init_8 (fun q1 H hq1 hH => ?_)
  obtain ⟨L, f, hX, hH⟩ : ∃ (L' : List Nat) (f' : Nat → va_E), FX L0 f0 a L' f' [(a, .inr (6, [.null, .null, .null, .int 0, .int 0, .int 0])), (q1, zA Z 201)] ∧ PH D A s.heap L' f' H [] := ⟨_, _, hX.new hq1, hH⟩
  obtain ⟨m2, v3⟩ := hX.2.2.1 0 _ _ rfl
  refine ppF C hnm hH m2 v3 (T := TX5) (N := 6) rfl ixX5 tyX5 tyX5_ok nmX5 0 (by decide) rfl wd_201 (ty := (.array .int)) pfAI rfl rfl (Nat.le_of_ble_eq_true rfl) dX5_init_10 (fun H locs hH => ?_)
  obtain ⟨L, f, hX, hH⟩ : ∃ (L' : List Nat) (f' : Nat → va_E), FX L0 f0 a L' f' [(a, .inr (6, [.ref q1, .null, .null, .int 0, .int 0, .int 0])), (q1, zA Z 201)] ∧ PH D A s.heap L' f' H locs := ⟨_, _, hX.set (i := 0) rfl, hH⟩
  refine lv_aload_n hx hb dX5_init_13 rfl (lv_at hl 0 rfl) ?_
  refine lv_sipush (v := 201) hx hb dX5_init_14 (by decide) ?_
  refine pnewi C hH 201 (by decide) (by decide) (by decide) (Nat.le_of_ble_eq_true rfl) (Nat.le_of_ble_eq_true rfl) dX5_init_17 (fun q4 H hq4 hH => ?_)
  obtain ⟨L, f, hX, hH⟩ : ∃ (L' : List Nat) (f' : Nat → va_E), FX L0 f0 a L' f' [(a, .inr (6, [.ref q1, .null, .null, .int 0, .int 0, .int 0])), (q1, zA Z 201), (q4, zA Z 201)] ∧ PH D A s.heap L' f' H locs := ⟨_, _, hX.new hq4, hH⟩
  obtain ⟨m5, v6⟩ := hX.2.2.1 0 _ _ rfl
  refine ppF C hnm hH m5 v6 (T := TX5) (N := 6) rfl ixX5 tyX5 tyX5_ok nmX5 1 (by decide) rfl wd_202 (ty := (.array .int)) pfAI rfl rfl (Nat.le_of_ble_eq_true rfl) dX5_init_19 (fun H locs hH => ?_)
  obtain ⟨L, f, hX, hH⟩ : ∃ (L' : List Nat) (f' : Nat → va_E), FX L0 f0 a L' f' [(a, .inr (6, [.ref q1, .ref q4, .null, .int 0, .int 0, .int 0])), (q1, zA Z 201), (q4, zA Z 201)] ∧ PH D A s.heap L' f' H locs := ⟨_, _, hX.set (i := 0) rfl, hH⟩
  refine lv_aload_n hx hb dX5_init_22 rfl (lv_at hl 0 rfl) ?_
  refine lv_sipush (v := 402) hx hb dX5_init_23 (by decide) ?_
  refine pnewi C hH 402 (by decide) (by decide) (by decide) (Nat.le_of_ble_eq_true rfl) (Nat.le_of_ble_eq_true rfl) dX5_init_26 (fun q7 H hq7 hH => ?_)
  obtain ⟨L, f, hX, hH⟩ : ∃ (L' : List Nat) (f' : Nat → va_E), FX L0 f0 a L' f' [(a, .inr (6, [.ref q1, .ref q4, .null, .int 0, .int 0, .int 0])), (q1, zA Z 201), (q4, zA Z 201), (q7, zA Z 402)] ∧ PH D A s.heap L' f' H locs := ⟨_, _, hX.new hq7, hH⟩
  obtain ⟨m8, v9⟩ := hX.2.2.1 0 _ _ rfl
  refine ppF C hnm hH m8 v9 (T := TX5) (N := 6) rfl ixX5 tyX5 tyX5_ok nmX5 2 (by decide) rfl wd_203 (ty := (.array .int)) pfAI rfl rfl (Nat.le_of_ble_eq_true rfl) dX5_init_28 (fun H locs hH => ?_)
  obtain ⟨L, f, hX, hH⟩ : ∃ (L' : List Nat) (f' : Nat → va_E), FX L0 f0 a L' f' [(a, .inr (6, [.ref q1, .ref q4, .ref q7, .int 0, .int 0, .int 0])), (q1, zA Z 201), (q4, zA Z 201), (q7, zA Z 402)] ∧ PH D A s.heap L' f' H locs := ⟨_, _, hX.set (i := 0) rfl, hH⟩
  exact prv C hr hk hH (Nat.le_of_ble_eq_true rfl) (Nat.le_of_ble_eq_true rfl) ⟨q1, q4, q7, hX⟩ dX5_init_31
abbrev rmI_Reck : Room := { frames := 1, cells := 2, slots := 213, locals := 40 }
set_option maxHeartbeats 4000000 in
set_option maxRecDepth 100000 in
theorem c_I_Reck (l : Launch) (D : va_G) (Z : Nat → ClassId) (E : Nat → Nat) (L0 : List Nat) (f0 : Nat → va_E) {a : Nat}  (ha : a ∈ L0) (hf : f0 a = .inr (7, [.null, .null, .int 0])) (sz : Nat) : Met l yX6_init (Wd yX6_init cX6_init 1 none) rmI_Reck (va_Pc [.ref a] (pPre D Z E L0 f0 sz)) (va_Qv (fun (u : P2) => ∃ q1 q4 : Nat, FX L0 f0 a u.1 u.2 [(a, .inr (7, [.ref q1, .ref q4, .int 0])), (q1, zA Z 13), (q4, zA Z 200)]) (pPost D Z (cAs L0 sz)) (cAs L0 sz)) 2 213 (cAs L0 sz) := by
  refine pMetI (Qc := fun A => va_Qv (fun (u : P2) => ∃ q1 q4 : Nat, FX L0 f0 a u.1 u.2 [(a, .inr (7, [.ref q1, .ref q4, .int 0])), (q1, zA Z 13), (q4, zA Z 200)]) (pPost D Z A) A) (by decide) rfl rfl _ (Nat.le_of_ble_eq_true rfl) (fun p e s m args below meth c A C hr hk hnm ls hl hH => ?_) sz
  obtain ⟨⟨hx, hb, hml, hown, hts⟩, hK⟩ := id C
  have hl : lv_has ls 1 [(0, .ref a)] := hl
  obtain ⟨L, f, hX, hH⟩ : ∃ (L' : List Nat) (f' : Nat → va_E), FX L0 f0 a L' f' [(a, .inr (7, [.null, .null, .int 0]))] ∧ PH D A s.heap L' f' s.heap [] := ⟨L0, f0, FX.init ha hf, hH⟩
  refine lv_aload_n hx hb dX6_init_0 rfl (lv_at hl 0 rfl) ?_
  refine pobj C hl.1 wd_225 (Nat.le_of_ble_eq_true rfl) (Nat.le_of_ble_eq_true rfl) (Nat.le_of_ble_eq_true rfl) dX6_init_1 ?_
  refine lv_aload_n hx hb dX6_init_4 rfl (lv_at hl 0 rfl) ?_
  refine lv_bipush (v := 13) hx hb dX6_init_5 (by decide) ?_
  refine pnewi C hH 13 (by decide) (by decide) (by decide) (Nat.le_of_ble_eq_true rfl) (Nat.le_of_ble_eq_true rfl) dX6_init_7 (fun q1 H hq1 hH => ?_)
  obtain ⟨L, f, hX, hH⟩ : ∃ (L' : List Nat) (f' : Nat → va_E), FX L0 f0 a L' f' [(a, .inr (7, [.null, .null, .int 0])), (q1, zA Z 13)] ∧ PH D A s.heap L' f' H [] := ⟨_, _, hX.new hq1, hH⟩
  obtain ⟨m2, v3⟩ := hX.2.2.1 0 _ _ rfl
  refine ppF C hnm hH m2 v3 (T := TX6) (N := 3) rfl ixX6 tyX6 tyX6_ok nmX6 0 (by decide) rfl wd_226 (ty := (.array .int)) pfAI rfl rfl (Nat.le_of_ble_eq_true rfl) dX6_init_9 (fun H locs hH => ?_)
  obtain ⟨L, f, hX, hH⟩ : ∃ (L' : List Nat) (f' : Nat → va_E), FX L0 f0 a L' f' [(a, .inr (7, [.ref q1, .null, .int 0])), (q1, zA Z 13)] ∧ PH D A s.heap L' f' H locs := ⟨_, _, hX.set (i := 0) rfl, hH⟩
  refine lv_aload_n hx hb dX6_init_12 rfl (lv_at hl 0 rfl) ?_
  refine lv_sipush (v := 200) hx hb dX6_init_13 (by decide) ?_
  refine pnewi C hH 200 (by decide) (by decide) (by decide) (Nat.le_of_ble_eq_true rfl) (Nat.le_of_ble_eq_true rfl) dX6_init_16 (fun q4 H hq4 hH => ?_)
  obtain ⟨L, f, hX, hH⟩ : ∃ (L' : List Nat) (f' : Nat → va_E), FX L0 f0 a L' f' [(a, .inr (7, [.ref q1, .null, .int 0])), (q1, zA Z 13), (q4, zA Z 200)] ∧ PH D A s.heap L' f' H locs := ⟨_, _, hX.new hq4, hH⟩
  obtain ⟨m5, v6⟩ := hX.2.2.1 0 _ _ rfl
  refine ppF C hnm hH m5 v6 (T := TX6) (N := 3) rfl ixX6 tyX6 tyX6_ok nmX6 1 (by decide) rfl wd_227 (ty := (.array .int)) pfAI rfl rfl (Nat.le_of_ble_eq_true rfl) dX6_init_18 (fun H locs hH => ?_)
  obtain ⟨L, f, hX, hH⟩ : ∃ (L' : List Nat) (f' : Nat → va_E), FX L0 f0 a L' f' [(a, .inr (7, [.ref q1, .ref q4, .int 0])), (q1, zA Z 13), (q4, zA Z 200)] ∧ PH D A s.heap L' f' H locs := ⟨_, _, hX.set (i := 0) rfl, hH⟩
  exact prv C hr hk hH (Nat.le_of_ble_eq_true rfl) (Nat.le_of_ble_eq_true rfl) ⟨q1, q4, hX⟩ dX6_init_21
abbrev rmI_Load : Room := { frames := 4, cells := 1, slots := 3, locals := 160 }
set_option maxHeartbeats 4000000 in
set_option maxRecDepth 100000 in
theorem c_I_Load (l : Launch) (D : va_G) (Z : Nat → ClassId) (E : Nat → Nat) (L0 : List Nat) (f0 : Nat → va_E) {a : Nat} (n : Int32) (wh : Int32) (p1 : Nat) (p2 : Nat) (va_ : Int32) (du : Int32) (mi : Int32) (ha : a ∈ L0) (hf : f0 a = .inr (3, [.int 0, .int 0, .int 0, .null, .null, .int 0, .int 0, .int 0, .int 0, .int 0, .null, .int 0, .int 0, .int 0, .int 0, .int 0, .int 0, .int 0, .int 0])) {i1 x1 y1 z1 w1 i2 x2 y2 z2 w2 : Int32} (hp1 : p1 ∈ L0) (fp1 : f0 p1 = .inr (5, [.int i1, .int x1, .int y1, .int z1, .int w1])) (np1 : p1 ≠ a) (hp2 : p2 ∈ L0) (fp2 : f0 p2 = .inr (5, [.int i2, .int x2, .int y2, .int z2, .int w2])) (np2 : p2 ≠ a) (sz : Nat) : Met l yX2_init (Wd yX2_init cX2_init 8 none) rmI_Load (va_Pc [.ref a, .int n, .int wh, .ref p1, .ref p2, .int va_, .int du, .int mi] (pPre D Z E L0 f0 sz)) (va_Qv (fun (u : P2) => ∃ q1 : Nat, FX L0 f0 a u.1 u.2 [(a, .inr (3, [.int n, .int (wh / (1000 : Int32)), .int (wh - wh / (1000 : Int32) * (1000 : Int32)), .ref p1, .ref p2, .int (if 0 ≤ x2 - x1 then x2 - x1 else 0 - (x2 - x1)), .int (if y2 - y1 < 0 then (-(y2 - y1)) / (2 : Int32) else y2 - y1), .int va_, .int du, .int mi, .ref q1, .int 0, .int 0, .int (-1), .int 0, .int 0, .int 0, .int 0, .int 0])), (q1, .inr (0, [.int 0, .ref (E 0), .int 0]))]) (pPost D Z (cAs L0 sz)) (cAs L0 sz)) 1 3 (cAs L0 sz) := by
  refine pMetI (Qc := fun A => va_Qv (fun (u : P2) => ∃ q1 : Nat, FX L0 f0 a u.1 u.2 [(a, .inr (3, [.int n, .int (wh / (1000 : Int32)), .int (wh - wh / (1000 : Int32) * (1000 : Int32)), .ref p1, .ref p2, .int (if 0 ≤ x2 - x1 then x2 - x1 else 0 - (x2 - x1)), .int (if y2 - y1 < 0 then (-(y2 - y1)) / (2 : Int32) else y2 - y1), .int va_, .int du, .int mi, .ref q1, .int 0, .int 0, .int (-1), .int 0, .int 0, .int 0, .int 0, .int 0])), (q1, .inr (0, [.int 0, .ref (E 0), .int 0]))]) (pPost D Z A) A) (by decide) rfl rfl _ (Nat.le_of_ble_eq_true rfl) (fun p e s m args below meth c A C hr hk hnm ls hl hH => ?_) sz
  obtain ⟨⟨hx, hb, hml, hown, hts⟩, hK⟩ := id C
  have hl : lv_has ls 8 [(0, .ref a), (1, .int n), (2, .int wh), (3, .ref p1), (4, .ref p2), (5, .int va_), (6, .int du), (7, .int mi)] := hl
  obtain ⟨L, f, hX, hH⟩ : ∃ (L' : List Nat) (f' : Nat → va_E), FX L0 f0 a L' f' [(a, .inr (3, [.int 0, .int 0, .int 0, .null, .null, .int 0, .int 0, .int 0, .int 0, .int 0, .null, .int 0, .int 0, .int 0, .int 0, .int 0, .int 0, .int 0, .int 0]))] ∧ PH D A s.heap L' f' s.heap [] := ⟨L0, f0, FX.init ha hf, hH⟩
  refine lv_aload_n hx hb dX2_init_0 rfl (lv_at hl 0 rfl) ?_
  refine pobj C hl.1 wd_774 (Nat.le_of_ble_eq_true rfl) (Nat.le_of_ble_eq_true rfl) (Nat.le_of_ble_eq_true rfl) dX2_init_1 ?_
  refine lv_aload_n hx hb dX2_init_4 rfl (lv_at hl 0 rfl) ?_
  refine pnewo C hH (ci := 0) (N := 3) (T := TJx4a65c) rfl ixJx4a65c tyJx4a65c_ok wd_775 wd_34 wd_4 (fs := [.int 0, .null, .int 0]) (fun j hj => by match j, hj with | 0, _ => rfl | 1, _ => rfl | 2, _ => rfl) (Nat.le_of_ble_eq_true rfl) (Nat.le_of_ble_eq_true rfl) dX2_init_5 (fun q1 H hq1 hH => ?_)
  obtain ⟨L, f, hX, hH⟩ : ∃ (L' : List Nat) (f' : Nat → va_E), FX L0 f0 a L' f' [(a, .inr (3, [.int 0, .int 0, .int 0, .null, .null, .int 0, .int 0, .int 0, .int 0, .int 0, .null, .int 0, .int 0, .int 0, .int 0, .int 0, .int 0, .int 0, .int 0])), (q1, .inr (0, [.int 0, .null, .int 0]))] ∧ PH D A s.heap L' f' H [] := ⟨_, _, hX.new hq1, hH⟩
  refine lv_dup hx hb dX2_init_8 rfl ?_
  obtain ⟨m2, v3⟩ := hX.2.2.1 1 _ _ rfl
  refine pcIv C hH [] (c_I_AL l D Z E L f m2 v3) (cwTI 0 hts wd_776 wd_36 wd_4 wd_37 rfl rfl rfl (by decide +kernel) ⟨(Nat.le_of_ble_eq_true rfl), (Nat.le_of_ble_eq_true rfl)⟩) rfl hl.1 rfl (Nat.le_of_ble_eq_true rfl) dX2_init_9 ⟨(Nat.le_of_ble_eq_true rfl), (Nat.le_of_ble_eq_true rfl)⟩ (fun u H locs hu hH => ?_)
  obtain ⟨L, f, hX, hH⟩ : ∃ (L' : List Nat) (f' : Nat → va_E), FX L0 f0 a L' f' [(a, .inr (3, [.int 0, .int 0, .int 0, .null, .null, .int 0, .int 0, .int 0, .int 0, .int 0, .null, .int 0, .int 0, .int 0, .int 0, .int 0, .int 0, .int 0, .int 0])), (q1, .inr (0, [.int 0, .ref (E 0), .int 0]))] ∧ PH D A s.heap L' f' H locs := ⟨_, _, hX.call (i := 1) rfl hu, hH⟩
  obtain ⟨m4, v5⟩ := hX.2.2.1 0 _ _ rfl
  refine ppF C hnm hH m4 v5 (T := TX2) (N := 19) rfl ixX2 tyX2 tyX2_ok nmX2 10 (by decide) rfl wd_803 (ty := (.object "java/util/ArrayList")) pfAL rfl rfl (Nat.le_of_ble_eq_true rfl) dX2_init_12 (fun H locs hH => ?_)
  obtain ⟨L, f, hX, hH⟩ : ∃ (L' : List Nat) (f' : Nat → va_E), FX L0 f0 a L' f' [(a, .inr (3, [.int 0, .int 0, .int 0, .null, .null, .int 0, .int 0, .int 0, .int 0, .int 0, .ref q1, .int 0, .int 0, .int 0, .int 0, .int 0, .int 0, .int 0, .int 0])), (q1, .inr (0, [.int 0, .ref (E 0), .int 0]))] ∧ PH D A s.heap L' f' H locs := ⟨_, _, hX.set (i := 0) rfl, hH⟩
  refine lv_aload_n hx hb dX2_init_15 rfl (lv_at hl 0 rfl) ?_
  refine lv_iconst (v := 0) hx hb dX2_init_16 (by decide) ?_
  obtain ⟨m6, v7⟩ := hX.2.2.1 0 _ _ rfl
  refine pp C hH m6 v7 (T := TX2) (N := 19) rfl ixX2 tyX2 tyX2_ok nmX2 11 (by decide) rfl wd_805 (fun _ h => h) (ty := .int) pfI rfl rfl (Nat.le_of_ble_eq_true rfl) dX2_init_17 (fun H locs hH => ?_)
  obtain ⟨L, f, hX, hH⟩ : ∃ (L' : List Nat) (f' : Nat → va_E), FX L0 f0 a L' f' [(a, .inr (3, [.int 0, .int 0, .int 0, .null, .null, .int 0, .int 0, .int 0, .int 0, .int 0, .ref q1, .int 0, .int 0, .int 0, .int 0, .int 0, .int 0, .int 0, .int 0])), (q1, .inr (0, [.int 0, .ref (E 0), .int 0]))] ∧ PH D A s.heap L' f' H locs := ⟨_, _, hX.set (i := 0) rfl, hH⟩
  refine lv_aload_n hx hb dX2_init_20 rfl (lv_at hl 0 rfl) ?_
  refine lv_iconst (v := -1) hx hb dX2_init_21 (by decide) ?_
  obtain ⟨m8, v9⟩ := hX.2.2.1 0 _ _ rfl
  refine pp C hH m8 v9 (T := TX2) (N := 19) rfl ixX2 tyX2 tyX2_ok nmX2 13 (by decide) rfl wd_809 (fun _ h => h) (ty := .int) pfI rfl rfl (Nat.le_of_ble_eq_true rfl) dX2_init_22 (fun H locs hH => ?_)
  obtain ⟨L, f, hX, hH⟩ : ∃ (L' : List Nat) (f' : Nat → va_E), FX L0 f0 a L' f' [(a, .inr (3, [.int 0, .int 0, .int 0, .null, .null, .int 0, .int 0, .int 0, .int 0, .int 0, .ref q1, .int 0, .int 0, .int (-1), .int 0, .int 0, .int 0, .int 0, .int 0])), (q1, .inr (0, [.int 0, .ref (E 0), .int 0]))] ∧ PH D A s.heap L' f' H locs := ⟨_, _, hX.set (i := 0) rfl, hH⟩
  refine lv_aload_n hx hb dX2_init_25 rfl (lv_at hl 0 rfl) ?_
  refine lv_iload_n hx hb dX2_init_26 rfl (lv_at hl 1 rfl) ?_
  obtain ⟨m10, v11⟩ := hX.2.2.1 0 _ _ rfl
  refine ppF C hnm hH m10 v11 (T := TX2) (N := 19) rfl ixX2 tyX2 tyX2_ok nmX2 0 (by decide) rfl wd_779 (ty := .int) pfI rfl rfl (Nat.le_of_ble_eq_true rfl) dX2_init_27 (fun H locs hH => ?_)
  obtain ⟨L, f, hX, hH⟩ : ∃ (L' : List Nat) (f' : Nat → va_E), FX L0 f0 a L' f' [(a, .inr (3, [.int n, .int 0, .int 0, .null, .null, .int 0, .int 0, .int 0, .int 0, .int 0, .ref q1, .int 0, .int 0, .int (-1), .int 0, .int 0, .int 0, .int 0, .int 0])), (q1, .inr (0, [.int 0, .ref (E 0), .int 0]))] ∧ PH D A s.heap L' f' H locs := ⟨_, _, hX.set (i := 0) rfl, hH⟩
  refine lv_aload_n hx hb dX2_init_30 rfl (lv_at hl 0 rfl) ?_
  refine lv_iload_n hx hb dX2_init_31 rfl (lv_at hl 2 rfl) ?_
  refine lv_sipush (v := 1000) hx hb dX2_init_32 (by decide) ?_
  refine lv_idiv hx hb dX2_init_35 (by decide) ?_
  obtain ⟨m12, v13⟩ := hX.2.2.1 0 _ _ rfl
  refine ppF C hnm hH m12 v13 (T := TX2) (N := 19) rfl ixX2 tyX2 tyX2_ok nmX2 1 (by decide) rfl wd_781 (ty := .int) pfI rfl rfl (Nat.le_of_ble_eq_true rfl) dX2_init_36 (fun H locs hH => ?_)
  obtain ⟨L, f, hX, hH⟩ : ∃ (L' : List Nat) (f' : Nat → va_E), FX L0 f0 a L' f' [(a, .inr (3, [.int n, .int (wh / (1000 : Int32)), .int 0, .null, .null, .int 0, .int 0, .int 0, .int 0, .int 0, .ref q1, .int 0, .int 0, .int (-1), .int 0, .int 0, .int 0, .int 0, .int 0])), (q1, .inr (0, [.int 0, .ref (E 0), .int 0]))] ∧ PH D A s.heap L' f' H locs := ⟨_, _, hX.set (i := 0) rfl, hH⟩
  refine lv_aload_n hx hb dX2_init_39 rfl (lv_at hl 0 rfl) ?_
  refine lv_iload_n hx hb dX2_init_40 rfl (lv_at hl 2 rfl) ?_
  refine lv_sipush (v := 1000) hx hb dX2_init_41 (by decide) ?_
  refine lv_irem hx hb dX2_init_44 (by decide) ?_
  obtain ⟨m14, v15⟩ := hX.2.2.1 0 _ _ rfl
  refine ppF C hnm hH m14 v15 (T := TX2) (N := 19) rfl ixX2 tyX2 tyX2_ok nmX2 2 (by decide) rfl wd_784 (ty := .int) pfI rfl rfl (Nat.le_of_ble_eq_true rfl) dX2_init_45 (fun H locs hH => ?_)
  obtain ⟨L, f, hX, hH⟩ : ∃ (L' : List Nat) (f' : Nat → va_E), FX L0 f0 a L' f' [(a, .inr (3, [.int n, .int (wh / (1000 : Int32)), .int (wh - wh / (1000 : Int32) * (1000 : Int32)), .null, .null, .int 0, .int 0, .int 0, .int 0, .int 0, .ref q1, .int 0, .int 0, .int (-1), .int 0, .int 0, .int 0, .int 0, .int 0])), (q1, .inr (0, [.int 0, .ref (E 0), .int 0]))] ∧ PH D A s.heap L' f' H locs := ⟨_, _, hX.set (i := 0) rfl, hH⟩
  refine lv_aload_n hx hb dX2_init_48 rfl (lv_at hl 0 rfl) ?_
  refine lv_aload_n hx hb dX2_init_49 rfl (lv_at hl 3 rfl) ?_
  obtain ⟨m16, v17⟩ := hX.2.2.1 0 _ _ rfl
  refine ppF C hnm hH m16 v17 (T := TX2) (N := 19) rfl ixX2 tyX2 tyX2_ok nmX2 3 (by decide) rfl wd_787 (ty := (.object "PorterTurns$Place")) pfPl rfl rfl (Nat.le_of_ble_eq_true rfl) dX2_init_50 (fun H locs hH => ?_)
  obtain ⟨L, f, hX, hH⟩ : ∃ (L' : List Nat) (f' : Nat → va_E), FX L0 f0 a L' f' [(a, .inr (3, [.int n, .int (wh / (1000 : Int32)), .int (wh - wh / (1000 : Int32) * (1000 : Int32)), .ref p1, .null, .int 0, .int 0, .int 0, .int 0, .int 0, .ref q1, .int 0, .int 0, .int (-1), .int 0, .int 0, .int 0, .int 0, .int 0])), (q1, .inr (0, [.int 0, .ref (E 0), .int 0]))] ∧ PH D A s.heap L' f' H locs := ⟨_, _, hX.set (i := 0) rfl, hH⟩
  refine lv_aload_n hx hb dX2_init_53 rfl (lv_at hl 0 rfl) ?_
  refine lv_aload hx hb dX2_init_54 (lv_at hl 4 rfl) ?_
  obtain ⟨m18, v19⟩ := hX.2.2.1 0 _ _ rfl
  refine ppF C hnm hH m18 v19 (T := TX2) (N := 19) rfl ixX2 tyX2 tyX2_ok nmX2 4 (by decide) rfl wd_789 (ty := (.object "PorterTurns$Place")) pfPl rfl rfl (Nat.le_of_ble_eq_true rfl) dX2_init_56 (fun H locs hH => ?_)
  obtain ⟨L, f, hX, hH⟩ : ∃ (L' : List Nat) (f' : Nat → va_E), FX L0 f0 a L' f' [(a, .inr (3, [.int n, .int (wh / (1000 : Int32)), .int (wh - wh / (1000 : Int32) * (1000 : Int32)), .ref p1, .ref p2, .int 0, .int 0, .int 0, .int 0, .int 0, .ref q1, .int 0, .int 0, .int (-1), .int 0, .int 0, .int 0, .int 0, .int 0])), (q1, .inr (0, [.int 0, .ref (E 0), .int 0]))] ∧ PH D A s.heap L' f' H locs := ⟨_, _, hX.set (i := 0) rfl, hH⟩
  refine lv_aload_n hx hb dX2_init_59 rfl (lv_at hl 0 rfl) ?_
  refine lv_aload_n hx hb dX2_init_60 rfl (lv_at hl 3 rfl) ?_
  refine lv_aload hx hb dX2_init_61 (lv_at hl 4 rfl) ?_
  have ma := hX.1 _ hp1
  have va := (hX.2.1 _ hp1 np1).trans fp1
  have mb := hX.1 _ hp2
  have vb := (hX.2.1 _ hp2 np2).trans fp2
  refine pcVi C hH (precv C hH ma va (q := (RX4, TX4, 5)) rfl) [.ref p2] (c_P_farTo l D Z E L f ma va mb vb) (cwTV 1 hts wd_777 wd_348 wd_349 wd_15 wd_350 rfl rfl (by decide +kernel) ⟨Nat.le_of_ble_eq_true rfl, Nat.le_of_ble_eq_true rfl⟩) rfl hl.1 rfl (Nat.le_of_ble_eq_true rfl) dX2_init_63 ⟨(Nat.le_of_ble_eq_true rfl), (Nat.le_of_ble_eq_true rfl)⟩ (fun r u H locs hu hH => ?_)
  obtain ⟨rfl, rfl⟩ := hu
  have hH : PH D A s.heap L f H locs := hH
  obtain ⟨m20, v21⟩ := hX.2.2.1 0 _ _ rfl
  refine ppF C hnm hH m20 v21 (T := TX2) (N := 19) rfl ixX2 tyX2 tyX2_ok nmX2 5 (by decide) rfl wd_791 (ty := .int) pfI rfl rfl (Nat.le_of_ble_eq_true rfl) dX2_init_66 (fun H locs hH => ?_)
  obtain ⟨L, f, hX, hH⟩ : ∃ (L' : List Nat) (f' : Nat → va_E), FX L0 f0 a L' f' [(a, .inr (3, [.int n, .int (wh / (1000 : Int32)), .int (wh - wh / (1000 : Int32) * (1000 : Int32)), .ref p1, .ref p2, .int (if 0 ≤ x2 - x1 then x2 - x1 else 0 - (x2 - x1)), .int 0, .int 0, .int 0, .int 0, .ref q1, .int 0, .int 0, .int (-1), .int 0, .int 0, .int 0, .int 0, .int 0])), (q1, .inr (0, [.int 0, .ref (E 0), .int 0]))] ∧ PH D A s.heap L' f' H locs := ⟨_, _, hX.set (i := 0) rfl, hH⟩
  refine lv_aload_n hx hb dX2_init_69 rfl (lv_at hl 0 rfl) ?_
  refine lv_aload_n hx hb dX2_init_70 rfl (lv_at hl 3 rfl) ?_
  refine lv_aload hx hb dX2_init_71 (lv_at hl 4 rfl) ?_
  have ma := hX.1 _ hp1
  have va := (hX.2.1 _ hp1 np1).trans fp1
  have mb := hX.1 _ hp2
  have vb := (hX.2.1 _ hp2 np2).trans fp2
  refine pcVi C hH (precv C hH ma va (q := (RX4, TX4, 5)) rfl) [.ref p2] (c_P_upTo l D Z E L f ma va mb vb) (cwTV 1 hts wd_778 wd_355 wd_356 wd_15 wd_357 rfl rfl (by decide +kernel) ⟨Nat.le_of_ble_eq_true rfl, Nat.le_of_ble_eq_true rfl⟩) rfl hl.1 rfl (Nat.le_of_ble_eq_true rfl) dX2_init_73 ⟨(Nat.le_of_ble_eq_true rfl), (Nat.le_of_ble_eq_true rfl)⟩ (fun r u H locs hu hH => ?_)
  obtain ⟨rfl, rfl⟩ := hu
  have hH : PH D A s.heap L f H locs := hH
  obtain ⟨m22, v23⟩ := hX.2.2.1 0 _ _ rfl
  refine ppF C hnm hH m22 v23 (T := TX2) (N := 19) rfl ixX2 tyX2 tyX2_ok nmX2 6 (by decide) rfl wd_793 (ty := .int) pfI rfl rfl (Nat.le_of_ble_eq_true rfl) dX2_init_76 (fun H locs hH => ?_)
  obtain ⟨L, f, hX, hH⟩ : ∃ (L' : List Nat) (f' : Nat → va_E), FX L0 f0 a L' f' [(a, .inr (3, [.int n, .int (wh / (1000 : Int32)), .int (wh - wh / (1000 : Int32) * (1000 : Int32)), .ref p1, .ref p2, .int (if 0 ≤ x2 - x1 then x2 - x1 else 0 - (x2 - x1)), .int (if y2 - y1 < 0 then (-(y2 - y1)) / (2 : Int32) else y2 - y1), .int 0, .int 0, .int 0, .ref q1, .int 0, .int 0, .int (-1), .int 0, .int 0, .int 0, .int 0, .int 0])), (q1, .inr (0, [.int 0, .ref (E 0), .int 0]))] ∧ PH D A s.heap L' f' H locs := ⟨_, _, hX.set (i := 0) rfl, hH⟩
  refine lv_aload_n hx hb dX2_init_79 rfl (lv_at hl 0 rfl) ?_
  refine lv_iload hx hb dX2_init_80 (lv_at hl 5 rfl) ?_
  obtain ⟨m24, v25⟩ := hX.2.2.1 0 _ _ rfl
  refine ppF C hnm hH m24 v25 (T := TX2) (N := 19) rfl ixX2 tyX2 tyX2_ok nmX2 7 (by decide) rfl wd_796 (ty := .int) pfI rfl rfl (Nat.le_of_ble_eq_true rfl) dX2_init_82 (fun H locs hH => ?_)
  obtain ⟨L, f, hX, hH⟩ : ∃ (L' : List Nat) (f' : Nat → va_E), FX L0 f0 a L' f' [(a, .inr (3, [.int n, .int (wh / (1000 : Int32)), .int (wh - wh / (1000 : Int32) * (1000 : Int32)), .ref p1, .ref p2, .int (if 0 ≤ x2 - x1 then x2 - x1 else 0 - (x2 - x1)), .int (if y2 - y1 < 0 then (-(y2 - y1)) / (2 : Int32) else y2 - y1), .int va_, .int 0, .int 0, .ref q1, .int 0, .int 0, .int (-1), .int 0, .int 0, .int 0, .int 0, .int 0])), (q1, .inr (0, [.int 0, .ref (E 0), .int 0]))] ∧ PH D A s.heap L' f' H locs := ⟨_, _, hX.set (i := 0) rfl, hH⟩
  refine lv_aload_n hx hb dX2_init_85 rfl (lv_at hl 0 rfl) ?_
  refine lv_iload hx hb dX2_init_86 (lv_at hl 6 rfl) ?_
  obtain ⟨m26, v27⟩ := hX.2.2.1 0 _ _ rfl
  refine ppF C hnm hH m26 v27 (T := TX2) (N := 19) rfl ixX2 tyX2 tyX2_ok nmX2 8 (by decide) rfl wd_799 (ty := .int) pfI rfl rfl (Nat.le_of_ble_eq_true rfl) dX2_init_88 (fun H locs hH => ?_)
  obtain ⟨L, f, hX, hH⟩ : ∃ (L' : List Nat) (f' : Nat → va_E), FX L0 f0 a L' f' [(a, .inr (3, [.int n, .int (wh / (1000 : Int32)), .int (wh - wh / (1000 : Int32) * (1000 : Int32)), .ref p1, .ref p2, .int (if 0 ≤ x2 - x1 then x2 - x1 else 0 - (x2 - x1)), .int (if y2 - y1 < 0 then (-(y2 - y1)) / (2 : Int32) else y2 - y1), .int va_, .int du, .int 0, .ref q1, .int 0, .int 0, .int (-1), .int 0, .int 0, .int 0, .int 0, .int 0])), (q1, .inr (0, [.int 0, .ref (E 0), .int 0]))] ∧ PH D A s.heap L' f' H locs := ⟨_, _, hX.set (i := 0) rfl, hH⟩
  refine lv_aload_n hx hb dX2_init_91 rfl (lv_at hl 0 rfl) ?_
  refine lv_iload hx hb dX2_init_92 (lv_at hl 7 rfl) ?_
  obtain ⟨m28, v29⟩ := hX.2.2.1 0 _ _ rfl
  refine ppF C hnm hH m28 v29 (T := TX2) (N := 19) rfl ixX2 tyX2 tyX2_ok nmX2 9 (by decide) rfl wd_801 (ty := .int) pfI rfl rfl (Nat.le_of_ble_eq_true rfl) dX2_init_94 (fun H locs hH => ?_)
  obtain ⟨L, f, hX, hH⟩ : ∃ (L' : List Nat) (f' : Nat → va_E), FX L0 f0 a L' f' [(a, .inr (3, [.int n, .int (wh / (1000 : Int32)), .int (wh - wh / (1000 : Int32) * (1000 : Int32)), .ref p1, .ref p2, .int (if 0 ≤ x2 - x1 then x2 - x1 else 0 - (x2 - x1)), .int (if y2 - y1 < 0 then (-(y2 - y1)) / (2 : Int32) else y2 - y1), .int va_, .int du, .int mi, .ref q1, .int 0, .int 0, .int (-1), .int 0, .int 0, .int 0, .int 0, .int 0])), (q1, .inr (0, [.int 0, .ref (E 0), .int 0]))] ∧ PH D A s.heap L' f' H locs := ⟨_, _, hX.set (i := 0) rfl, hH⟩
  exact prv C hr hk hH (Nat.le_of_ble_eq_true rfl) (Nat.le_of_ble_eq_true rfl) ⟨q1, hX⟩ dX2_init_97
