/-! constructors (gen/pgen.py) -/
theorem pfAI : parseFieldDescriptor "[I" = some (.array .int) := by decide +kernel
theorem pfAL : parseFieldDescriptor "Ljava/util/ArrayList;" = some (.object "java/util/ArrayList") := by decide +kernel
theorem pfPl : parseFieldDescriptor "LPorterTurns$Place;" = some (.object "PorterTurns$Place") := by decide +kernel
theorem pfSky : parseFieldDescriptor "LPorterTurns$Sky;" = some (.object "PorterTurns$Sky") := by decide +kernel
theorem pfTape : parseFieldDescriptor "LPorterTurns$Tape;" = some (.object "PorterTurns$Tape") := by decide +kernel
theorem pfReader : parseFieldDescriptor "LPorterTurns$Reader;" = some (.object "PorterTurns$Reader") := by decide +kernel
theorem pfReck : parseFieldDescriptor "LPorterTurns$Reckoner;" = some (.object "PorterTurns$Reckoner") := by decide +kernel
set_option maxHeartbeats 4000000 in
set_option maxRecDepth 100000 in
theorem c_I_Place (l : Launch) (D : va_G) (Z : Nat → ClassId) (E : Nat → Nat) (L : List Nat) (f : Nat → va_E) {a : Nat} (n : Int32) (x : Int32) (y : Int32) (ha : a ∈ L) (hf : f a = .inr (5, [.int 0, .int 0, .int 0, .int 0, .int 0])) (sz : Nat) : Met l yX4_init (Wd yX4_init cX4_init 4 none) rmO (va_Pc [.ref a, .int n, .int x, .int y] (pPre D Z E L f sz)) (va_Qv (fun (u : P2) => u = (L, va_up f a (.inr (5, [.int n, .int x, .int y, .int 0, .int 0])))) (pPost D Z (cAs L sz)) (cAs L sz)) 0 0 (cAs L sz) := by
  refine pMetI (Qc := fun A => va_Qv (fun (u : P2) => u = (L, va_up f a (.inr (5, [.int n, .int x, .int y, .int 0, .int 0])))) (pPost D Z A) A) (by decide) rfl rfl _ (Nat.le_of_ble_eq_true rfl) (fun p e s m args below meth c A C hr hk hnm ls hl hH => ?_) sz
  obtain ⟨⟨hx, hb, hml, hown, hts⟩, hK⟩ := id C
  have hl : lv_has ls 4 [(0, .ref a), (1, .int n), (2, .int x), (3, .int y)] := hl
  have ee : f = va_up f a (.inr (5, [.int 0, .int 0, .int 0, .int 0, .int 0])) := funext (fun j => by unfold va_up; split <;> simp_all)
  obtain ⟨f0, e0⟩ : ∃ ff : Nat → va_E, ff = f := ⟨_, rfl⟩
  rw [← e0] at ee hH hf ⊢
  refine lv_aload_n hx hb dX4_init_0 rfl (lv_at hl 0 rfl) ?_
  refine pobj C hl.1 wd_292 (Nat.le_refl _) (Nat.le_of_ble_eq_true rfl) (Nat.le_of_ble_eq_true rfl) dX4_init_1 ?_
  refine lv_aload_n hx hb dX4_init_4 rfl (lv_at hl 0 rfl) ?_
  refine lv_iload_n hx hb dX4_init_5 rfl (lv_at hl 1 rfl) ?_
  refine ppF C hnm hH ha hf (T := TX4) (N := 5) rfl ixX4 tyX4 tyX4_ok nmX4 0 (by decide) rfl wd_293 (ty := .int) pfI rfl rfl (Nat.le_of_ble_eq_true rfl) dX4_init_6 (fun H locs hH => ?_)
  rw [ee, bx_uu] at hH
  obtain ⟨g, eg⟩ : ∃ ff : Nat → va_E, ff = va_up f0 a (.inr (5, [.int n, .int 0, .int 0, .int 0, .int 0])) := ⟨_, rfl⟩
  have hH : PH D A s.heap L g H locs := by rw [eg]; exact hH
  have hf : g a = .inr (5, [.int n, .int 0, .int 0, .int 0, .int 0]) := by rw [eg]; exact va_up_self _ _ _
  have ee := eg
  refine lv_aload_n hx hb dX4_init_9 rfl (lv_at hl 0 rfl) ?_
  refine lv_iload_n hx hb dX4_init_10 rfl (lv_at hl 2 rfl) ?_
  refine ppF C hnm hH ha hf (T := TX4) (N := 5) rfl ixX4 tyX4 tyX4_ok nmX4 1 (by decide) rfl wd_295 (ty := .int) pfI rfl rfl (Nat.le_of_ble_eq_true rfl) dX4_init_11 (fun H locs hH => ?_)
  rw [ee, bx_uu] at hH
  obtain ⟨g, eg⟩ : ∃ ff : Nat → va_E, ff = va_up f0 a (.inr (5, [.int n, .int x, .int 0, .int 0, .int 0])) := ⟨_, rfl⟩
  have hH : PH D A s.heap L g H locs := by rw [eg]; exact hH
  have hf : g a = .inr (5, [.int n, .int x, .int 0, .int 0, .int 0]) := by rw [eg]; exact va_up_self _ _ _
  have ee := eg
  refine lv_aload_n hx hb dX4_init_14 rfl (lv_at hl 0 rfl) ?_
  refine lv_iload_n hx hb dX4_init_15 rfl (lv_at hl 3 rfl) ?_
  refine ppF C hnm hH ha hf (T := TX4) (N := 5) rfl ixX4 tyX4 tyX4_ok nmX4 2 (by decide) rfl wd_296 (ty := .int) pfI rfl rfl (Nat.le_of_ble_eq_true rfl) dX4_init_16 (fun H locs hH => ?_)
  rw [ee, bx_uu] at hH
  obtain ⟨g, eg⟩ : ∃ ff : Nat → va_E, ff = va_up f0 a (.inr (5, [.int n, .int x, .int y, .int 0, .int 0])) := ⟨_, rfl⟩
  have hH : PH D A s.heap L g H locs := by rw [eg]; exact hH
  have hf : g a = .inr (5, [.int n, .int x, .int y, .int 0, .int 0]) := by rw [eg]; exact va_up_self _ _ _
  have ee := eg
  rw [ee] at hH
  exact prv C hr hk hH (Nat.zero_le _) (Nat.zero_le _) rfl dX4_init_19
set_option maxHeartbeats 4000000 in
set_option maxRecDepth 100000 in
theorem c_I_Man (l : Launch) (D : va_G) (Z : Nat → ClassId) (E : Nat → Nat) (L : List Nat) (f : Nat → va_E) {a : Nat} (n : Int32) (x : Int32) (y : Int32) (z : Int32) (ha : a ∈ L) (hf : f a = .inr (4, [.int 0, .int 0, .int 0, .int 0, .int 0, .int 0, .int 0, .int 0, .int 0, .int 0])) (sz : Nat) : Met l yX3_init (Wd yX3_init cX3_init 5 none) rmO (va_Pc [.ref a, .int n, .int x, .int y, .int z] (pPre D Z E L f sz)) (va_Qv (fun (u : P2) => u = (L, va_up f a (.inr (4, [.int n, .int x, .int y, .int z, .int 0, .int 0, .int 0, .int 0, .int (-1), .int 0])))) (pPost D Z (cAs L sz)) (cAs L sz)) 0 0 (cAs L sz) := by
  refine pMetI (Qc := fun A => va_Qv (fun (u : P2) => u = (L, va_up f a (.inr (4, [.int n, .int x, .int y, .int z, .int 0, .int 0, .int 0, .int 0, .int (-1), .int 0])))) (pPost D Z A) A) (by decide) rfl rfl _ (Nat.le_of_ble_eq_true rfl) (fun p e s m args below meth c A C hr hk hnm ls hl hH => ?_) sz
  obtain ⟨⟨hx, hb, hml, hown, hts⟩, hK⟩ := id C
  have hl : lv_has ls 5 [(0, .ref a), (1, .int n), (2, .int x), (3, .int y), (4, .int z)] := hl
  have ee : f = va_up f a (.inr (4, [.int 0, .int 0, .int 0, .int 0, .int 0, .int 0, .int 0, .int 0, .int 0, .int 0])) := funext (fun j => by unfold va_up; split <;> simp_all)
  obtain ⟨f0, e0⟩ : ∃ ff : Nat → va_E, ff = f := ⟨_, rfl⟩
  rw [← e0] at ee hH hf ⊢
  refine lv_aload_n hx hb dX3_init_0 rfl (lv_at hl 0 rfl) ?_
  refine pobj C hl.1 wd_379 (Nat.le_refl _) (Nat.le_of_ble_eq_true rfl) (Nat.le_of_ble_eq_true rfl) dX3_init_1 ?_
  refine lv_aload_n hx hb dX3_init_4 rfl (lv_at hl 0 rfl) ?_
  refine lv_iconst (v := -1) hx hb dX3_init_5 (by decide) ?_
  refine pp C hH ha hf (T := TX3) (N := 10) rfl ixX3 tyX3 tyX3_ok nmX3 8 (by decide) rfl wd_401 (fun _ h => h) (ty := .int) pfI rfl rfl (Nat.le_of_ble_eq_true rfl) dX3_init_6 (fun H locs hH => ?_)
  rw [ee, bx_uu] at hH
  obtain ⟨g, eg⟩ : ∃ ff : Nat → va_E, ff = va_up f0 a (.inr (4, [.int 0, .int 0, .int 0, .int 0, .int 0, .int 0, .int 0, .int 0, .int (-1), .int 0])) := ⟨_, rfl⟩
  have hH : PH D A s.heap L g H locs := by rw [eg]; exact hH
  have hf : g a = .inr (4, [.int 0, .int 0, .int 0, .int 0, .int 0, .int 0, .int 0, .int 0, .int (-1), .int 0]) := by rw [eg]; exact va_up_self _ _ _
  have ee := eg
  refine lv_aload_n hx hb dX3_init_9 rfl (lv_at hl 0 rfl) ?_
  refine lv_iload_n hx hb dX3_init_10 rfl (lv_at hl 1 rfl) ?_
  refine ppF C hnm hH ha hf (T := TX3) (N := 10) rfl ixX3 tyX3 tyX3_ok nmX3 0 (by decide) rfl wd_380 (ty := .int) pfI rfl rfl (Nat.le_of_ble_eq_true rfl) dX3_init_11 (fun H locs hH => ?_)
  rw [ee, bx_uu] at hH
  obtain ⟨g, eg⟩ : ∃ ff : Nat → va_E, ff = va_up f0 a (.inr (4, [.int n, .int 0, .int 0, .int 0, .int 0, .int 0, .int 0, .int 0, .int (-1), .int 0])) := ⟨_, rfl⟩
  have hH : PH D A s.heap L g H locs := by rw [eg]; exact hH
  have hf : g a = .inr (4, [.int n, .int 0, .int 0, .int 0, .int 0, .int 0, .int 0, .int 0, .int (-1), .int 0]) := by rw [eg]; exact va_up_self _ _ _
  have ee := eg
  refine lv_aload_n hx hb dX3_init_14 rfl (lv_at hl 0 rfl) ?_
  refine lv_iload_n hx hb dX3_init_15 rfl (lv_at hl 2 rfl) ?_
  refine ppF C hnm hH ha hf (T := TX3) (N := 10) rfl ixX3 tyX3 tyX3_ok nmX3 1 (by decide) rfl wd_384 (ty := .int) pfI rfl rfl (Nat.le_of_ble_eq_true rfl) dX3_init_16 (fun H locs hH => ?_)
  rw [ee, bx_uu] at hH
  obtain ⟨g, eg⟩ : ∃ ff : Nat → va_E, ff = va_up f0 a (.inr (4, [.int n, .int x, .int 0, .int 0, .int 0, .int 0, .int 0, .int 0, .int (-1), .int 0])) := ⟨_, rfl⟩
  have hH : PH D A s.heap L g H locs := by rw [eg]; exact hH
  have hf : g a = .inr (4, [.int n, .int x, .int 0, .int 0, .int 0, .int 0, .int 0, .int 0, .int (-1), .int 0]) := by rw [eg]; exact va_up_self _ _ _
  have ee := eg
  refine lv_aload_n hx hb dX3_init_19 rfl (lv_at hl 0 rfl) ?_
  refine lv_iload_n hx hb dX3_init_20 rfl (lv_at hl 3 rfl) ?_
  refine ppF C hnm hH ha hf (T := TX3) (N := 10) rfl ixX3 tyX3 tyX3_ok nmX3 2 (by decide) rfl wd_386 (ty := .int) pfI rfl rfl (Nat.le_of_ble_eq_true rfl) dX3_init_21 (fun H locs hH => ?_)
  rw [ee, bx_uu] at hH
  obtain ⟨g, eg⟩ : ∃ ff : Nat → va_E, ff = va_up f0 a (.inr (4, [.int n, .int x, .int y, .int 0, .int 0, .int 0, .int 0, .int 0, .int (-1), .int 0])) := ⟨_, rfl⟩
  have hH : PH D A s.heap L g H locs := by rw [eg]; exact hH
  have hf : g a = .inr (4, [.int n, .int x, .int y, .int 0, .int 0, .int 0, .int 0, .int 0, .int (-1), .int 0]) := by rw [eg]; exact va_up_self _ _ _
  have ee := eg
  refine lv_aload_n hx hb dX3_init_24 rfl (lv_at hl 0 rfl) ?_
  refine lv_iload hx hb dX3_init_25 (lv_at hl 4 rfl) ?_
  refine ppF C hnm hH ha hf (T := TX3) (N := 10) rfl ixX3 tyX3 tyX3_ok nmX3 3 (by decide) rfl wd_389 (ty := .int) pfI rfl rfl (Nat.le_of_ble_eq_true rfl) dX3_init_27 (fun H locs hH => ?_)
  rw [ee, bx_uu] at hH
  obtain ⟨g, eg⟩ : ∃ ff : Nat → va_E, ff = va_up f0 a (.inr (4, [.int n, .int x, .int y, .int z, .int 0, .int 0, .int 0, .int 0, .int (-1), .int 0])) := ⟨_, rfl⟩
  have hH : PH D A s.heap L g H locs := by rw [eg]; exact hH
  have hf : g a = .inr (4, [.int n, .int x, .int y, .int z, .int 0, .int 0, .int 0, .int 0, .int (-1), .int 0]) := by rw [eg]; exact va_up_self _ _ _
  have ee := eg
  rw [ee] at hH
  exact prv C hr hk hH (Nat.zero_le _) (Nat.zero_le _) rfl dX3_init_30
set_option maxHeartbeats 4000000 in
set_option maxRecDepth 100000 in
theorem c_I_Law (l : Launch) (D : va_G) (Z : Nat → ClassId) (E : Nat → Nat) (L : List Nat) (f : Nat → va_E) {a : Nat} (n : Int32) (x : Int32) (y : Int32) (z : Int32) (w : Int32) (d : Nat) (ha : a ∈ L) (hf : f a = .inr (2, [.int 0, .int 0, .int 0, .int 0, .int 0, .null])) (sz : Nat) : Met l yX1_init (Wd yX1_init cX1_init 7 none) rmO (va_Pc [.ref a, .int n, .int x, .int y, .int z, .int w, .ref d] (pPre D Z E L f sz)) (va_Qv (fun (u : P2) => u = (L, va_up f a (.inr (2, [.int n, .int x, .int y, .int z, .int w, .ref d])))) (pPost D Z (cAs L sz)) (cAs L sz)) 0 0 (cAs L sz) := by
  refine pMetI (Qc := fun A => va_Qv (fun (u : P2) => u = (L, va_up f a (.inr (2, [.int n, .int x, .int y, .int z, .int w, .ref d])))) (pPost D Z A) A) (by decide) rfl rfl _ (Nat.le_of_ble_eq_true rfl) (fun p e s m args below meth c A C hr hk hnm ls hl hH => ?_) sz
  obtain ⟨⟨hx, hb, hml, hown, hts⟩, hK⟩ := id C
  have hl : lv_has ls 7 [(0, .ref a), (1, .int n), (2, .int x), (3, .int y), (4, .int z), (5, .int w), (6, .ref d)] := hl
  have ee : f = va_up f a (.inr (2, [.int 0, .int 0, .int 0, .int 0, .int 0, .null])) := funext (fun j => by unfold va_up; split <;> simp_all)
  obtain ⟨f0, e0⟩ : ∃ ff : Nat → va_E, ff = f := ⟨_, rfl⟩
  rw [← e0] at ee hH hf ⊢
  refine lv_aload_n hx hb dX1_init_0 rfl (lv_at hl 0 rfl) ?_
  refine pobj C hl.1 wd_659 (Nat.le_refl _) (Nat.le_of_ble_eq_true rfl) (Nat.le_of_ble_eq_true rfl) dX1_init_1 ?_
  refine lv_aload_n hx hb dX1_init_4 rfl (lv_at hl 0 rfl) ?_
  refine lv_iload_n hx hb dX1_init_5 rfl (lv_at hl 1 rfl) ?_
  refine ppF C hnm hH ha hf (T := TX1) (N := 6) rfl ixX1 tyX1 tyX1_ok nmX1 0 (by decide) rfl wd_660 (ty := .int) pfI rfl rfl (Nat.le_of_ble_eq_true rfl) dX1_init_6 (fun H locs hH => ?_)
  rw [ee, bx_uu] at hH
  obtain ⟨g, eg⟩ : ∃ ff : Nat → va_E, ff = va_up f0 a (.inr (2, [.int n, .int 0, .int 0, .int 0, .int 0, .null])) := ⟨_, rfl⟩
  have hH : PH D A s.heap L g H locs := by rw [eg]; exact hH
  have hf : g a = .inr (2, [.int n, .int 0, .int 0, .int 0, .int 0, .null]) := by rw [eg]; exact va_up_self _ _ _
  have ee := eg
  refine lv_aload_n hx hb dX1_init_9 rfl (lv_at hl 0 rfl) ?_
  refine lv_iload_n hx hb dX1_init_10 rfl (lv_at hl 2 rfl) ?_
  refine ppF C hnm hH ha hf (T := TX1) (N := 6) rfl ixX1 tyX1 tyX1_ok nmX1 1 (by decide) rfl wd_662 (ty := .int) pfI rfl rfl (Nat.le_of_ble_eq_true rfl) dX1_init_11 (fun H locs hH => ?_)
  rw [ee, bx_uu] at hH
  obtain ⟨g, eg⟩ : ∃ ff : Nat → va_E, ff = va_up f0 a (.inr (2, [.int n, .int x, .int 0, .int 0, .int 0, .null])) := ⟨_, rfl⟩
  have hH : PH D A s.heap L g H locs := by rw [eg]; exact hH
  have hf : g a = .inr (2, [.int n, .int x, .int 0, .int 0, .int 0, .null]) := by rw [eg]; exact va_up_self _ _ _
  have ee := eg
  refine lv_aload_n hx hb dX1_init_14 rfl (lv_at hl 0 rfl) ?_
  refine lv_iload_n hx hb dX1_init_15 rfl (lv_at hl 3 rfl) ?_
  refine ppF C hnm hH ha hf (T := TX1) (N := 6) rfl ixX1 tyX1 tyX1_ok nmX1 2 (by decide) rfl wd_664 (ty := .int) pfI rfl rfl (Nat.le_of_ble_eq_true rfl) dX1_init_16 (fun H locs hH => ?_)
  rw [ee, bx_uu] at hH
  obtain ⟨g, eg⟩ : ∃ ff : Nat → va_E, ff = va_up f0 a (.inr (2, [.int n, .int x, .int y, .int 0, .int 0, .null])) := ⟨_, rfl⟩
  have hH : PH D A s.heap L g H locs := by rw [eg]; exact hH
  have hf : g a = .inr (2, [.int n, .int x, .int y, .int 0, .int 0, .null]) := by rw [eg]; exact va_up_self _ _ _
  have ee := eg
  refine lv_aload_n hx hb dX1_init_19 rfl (lv_at hl 0 rfl) ?_
  refine lv_iload hx hb dX1_init_20 (lv_at hl 4 rfl) ?_
  refine ppF C hnm hH ha hf (T := TX1) (N := 6) rfl ixX1 tyX1 tyX1_ok nmX1 3 (by decide) rfl wd_666 (ty := .int) pfI rfl rfl (Nat.le_of_ble_eq_true rfl) dX1_init_22 (fun H locs hH => ?_)
  rw [ee, bx_uu] at hH
  obtain ⟨g, eg⟩ : ∃ ff : Nat → va_E, ff = va_up f0 a (.inr (2, [.int n, .int x, .int y, .int z, .int 0, .null])) := ⟨_, rfl⟩
  have hH : PH D A s.heap L g H locs := by rw [eg]; exact hH
  have hf : g a = .inr (2, [.int n, .int x, .int y, .int z, .int 0, .null]) := by rw [eg]; exact va_up_self _ _ _
  have ee := eg
  refine lv_aload_n hx hb dX1_init_25 rfl (lv_at hl 0 rfl) ?_
  refine lv_iload hx hb dX1_init_26 (lv_at hl 5 rfl) ?_
  refine ppF C hnm hH ha hf (T := TX1) (N := 6) rfl ixX1 tyX1 tyX1_ok nmX1 4 (by decide) rfl wd_668 (ty := .int) pfI rfl rfl (Nat.le_of_ble_eq_true rfl) dX1_init_28 (fun H locs hH => ?_)
  rw [ee, bx_uu] at hH
  obtain ⟨g, eg⟩ : ∃ ff : Nat → va_E, ff = va_up f0 a (.inr (2, [.int n, .int x, .int y, .int z, .int w, .null])) := ⟨_, rfl⟩
  have hH : PH D A s.heap L g H locs := by rw [eg]; exact hH
  have hf : g a = .inr (2, [.int n, .int x, .int y, .int z, .int w, .null]) := by rw [eg]; exact va_up_self _ _ _
  have ee := eg
  refine lv_aload_n hx hb dX1_init_31 rfl (lv_at hl 0 rfl) ?_
  refine lv_aload hx hb dX1_init_32 (lv_at hl 6 rfl) ?_
  refine ppF C hnm hH ha hf (T := TX1) (N := 6) rfl ixX1 tyX1 tyX1_ok nmX1 5 (by decide) rfl wd_670 (ty := (.array .int)) pfAI rfl rfl (Nat.le_of_ble_eq_true rfl) dX1_init_34 (fun H locs hH => ?_)
  rw [ee, bx_uu] at hH
  obtain ⟨g, eg⟩ : ∃ ff : Nat → va_E, ff = va_up f0 a (.inr (2, [.int n, .int x, .int y, .int z, .int w, .ref d])) := ⟨_, rfl⟩
  have hH : PH D A s.heap L g H locs := by rw [eg]; exact hH
  have hf : g a = .inr (2, [.int n, .int x, .int y, .int z, .int w, .ref d]) := by rw [eg]; exact va_up_self _ _ _
  have ee := eg
  rw [ee] at hH
  exact prv C hr hk hH (Nat.zero_le _) (Nat.zero_le _) rfl dX1_init_37
