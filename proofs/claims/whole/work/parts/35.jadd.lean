/-! ArrayList: add (gen/jlist5.txt) -/
def newCap (cap : Nat) : Nat := if cap = 0 then 10 else cap + max 1 (cap / 2)
abbrev rmN : Room := { frames := 1, cells := 0, slots := 0, locals := 40 }
abbrev rmC3 (N : Nat) : Room := { frames := 1, cells := 1, slots := N, locals := 200 }
abbrev rmC2 (N : Nat) : Room := { frames := 2, cells := 1, slots := N, locals := 260 }
abbrev rmG (N : Nat) : Room := { frames := 3, cells := 1, slots := N, locals := 320 }
abbrev rmG0 (N : Nat) : Room := { frames := 4, cells := 1, slots := N, locals := 380 }
abbrev rmA3 (c N : Nat) : Room := { frames := 5, cells := c, slots := N, locals := 440 }
abbrev rmA (c N : Nat) : Room := { frames := 6, cells := c, slots := N, locals := 500 }
theorem pfO : parseFieldDescriptor "[Ljava/lang/Object;" = some (.array (.object "java/lang/Object")) := by decide +kernel
set_option maxHeartbeats 4000000 in
set_option maxRecDepth 100000 in
theorem c_newLength (l : Launch) (D : va_G) (Z : Nat → ClassId) (E : Nat → Nat) (L : List Nat) (f : Nat → va_E) (n : Nat) (hn : n < 2 ^ 20) (sz : Nat) : Met l yJ8_newLength_cabcc (Wd yJ8_newLength_cabcc cJ8_newLength_cabcc 4 (some .int)) rmN (va_Pc [.int (nI n), .int (nI 1), .int (nI (n / 2))] (pPre D Z E L f sz)) (va_Qi (fun r (u : P2) => r = nI (n + max 1 (n / 2)) ∧ u = (L, f)) (pPost D Z (cAs L sz)) (cAs L sz)) 0 0 (cAs L sz) := by
  refine pMet (Qc := fun A => va_Qi (fun r (u : P2) => r = nI (n + max 1 (n / 2)) ∧ u = (L, f)) (pPost D Z A) A) (by decide) rfl _ (Nat.le_of_ble_eq_true rfl) (fun p e s m args below meth c A C hr hk ls hl hH => ?_) sz
  obtain ⟨⟨hx, hb, hml, hown, hts⟩, hK⟩ := id C
  have hl : lv_has ls 4 [(0, .int (nI n)), (1, .int (nI 1)), (2, .int (nI (n / 2)))] := hl
  have em : (if nI 1 < nI (n / 2) then nI (n / 2) else nI 1) = nI (max 1 (n / 2)) := by
    by_cases c1 : 1 < n / 2
    · rw [if_pos (nI_lt c1 (by omega)), Nat.max_eq_right (by omega)]
    · rw [if_neg (nI_nlt (by omega) (by decide)), Nat.max_eq_left (by omega)]
  refine lv_iload_n hx hb dJ8_newLength_cabcc_0 rfl (lv_at hl 0 rfl) ?_
  refine lv_iload_n hx hb dJ8_newLength_cabcc_1 rfl (lv_at hl 1 rfl) ?_
  refine lv_iload_n hx hb dJ8_newLength_cabcc_2 rfl (lv_at hl 2 rfl) ?_
  refine va_mmax hx hb (by rw [hml, hl.1]) hown (hts _ wd_122) (hts _ wd_123) (hts _ wd_7) (hts _ wd_124) (Nat.le_refl _) (Nat.le_of_ble_eq_true rfl) (Nat.le_refl _) (Nat.le_refl _) dJ8_newLength_cabcc_3 ?_
  rw [em]
  refine lv_iadd hx hb dJ8_newLength_cabcc_6 ?_
  rw [nI_add]
  refine lv_istore_n (lv' := [(3, .int (nI (n + max 1 (n / 2)))), (0, .int (nI n)), (1, .int (nI 1)), (2, .int (nI (n / 2)))]) hx hb dJ8_newLength_cabcc_7 rfl hl (by decide) rfl (fun ls hl => ?_)
  have hm : max 1 (n / 2) < 2 ^ 20 := by omega
  have hm1 : 1 ≤ max 1 (n / 2) := Nat.le_max_left _ _
  refine lv_iconst (v := 0) hx hb dJ8_newLength_cabcc_8 (by decide) ?_
  refine lv_iload_n hx hb dJ8_newLength_cabcc_9 rfl (lv_at hl 0 rfl) ?_
  refine lv_icmp_ge (tgt := 21) hx hb dJ8_newLength_cabcc_10 (by decide) (fun c1 => absurd c1 (nI_nle (by omega) (by omega))) (fun _ => ?_)
  refine lv_iload_n hx hb dJ8_newLength_cabcc_13 rfl (lv_at hl 0 rfl) ?_
  refine lv_ldc (own := RJ8) (index := 200) (v := 2147483639) hx hb hown (hts _ wd_125) dJ8_newLength_cabcc_14 ?_
  refine lv_icmp_gt (tgt := 21) hx hb dJ8_newLength_cabcc_16 (by decide) (fun c1 => absurd c1 (show ¬ nI 2147483639 < _ from nI_nlt (by omega) (by decide))) (fun _ => ?_)
  refine lv_iload_n hx hb dJ8_newLength_cabcc_19 rfl (lv_at hl 0 rfl) ?_
  exact pri C hr hk hH (Nat.zero_le _) (Nat.zero_le _) ⟨rfl, rfl⟩ dJ8_newLength_cabcc_20
set_option maxHeartbeats 4000000 in
set_option maxRecDepth 100000 in
theorem c_copyOf3 (l : Launch) (D : va_G) (Z : Nat → ClassId) (E : Nat → Nat) (L : List Nat) (f : Nat → va_E) {d n : Nat} {row : Nat → Option Nat} (N : Nat) (hd : d ∈ L) (hfd : f d = cRow Z n row) (hnN : n ≤ N) (hN : N < 2 ^ 21) (hel : ∀ m, m < n → ∀ y, row m = some y → okE L f y) (sz : Nat) : Met l yJ7_copyOf_6403c (Wd yJ7_copyOf_6403c cJ7_copyOf_6403c 4 (some (.array (.object "java/lang/Object")))) (rmC3 N) (va_Pc [.ref d, .int (nI N), .ref (E 1)] (pPre D Z E L f sz)) (va_Qq (fun r (u : P2) => ∃ q row', r = some q ∧ q ∉ L ∧ u = (L ++ [q], va_up f q (cRow Z N row')) ∧ ∀ m, m < n → row' m = row m) (pPost D Z (cAs L sz)) (cAs L sz)) 1 N (cAs L sz) := by
  refine pMet (Qc := fun A => va_Qq (fun r (u : P2) => ∃ q row', r = some q ∧ q ∉ L ∧ u = (L ++ [q], va_up f q (cRow Z N row')) ∧ ∀ m, m < n → row' m = row m) (pPost D Z A) A) (by decide) rfl _ (Nat.le_of_ble_eq_true rfl) (fun p e s m args below meth c A C hr hk ls hl hH => ?_) sz
  obtain ⟨⟨hx, hb, hml, hown, hts⟩, hK⟩ := id C
  obtain ⟨-, -, -, -, -, -, hMi, -⟩ := id C.2.2.1
  have hl : lv_has ls 4 [(0, .ref d), (1, .int (nI N)), (2, .ref (E 1))] := hl
  refine lv_aload_n hx hb dJ7_copyOf_6403c_0 rfl (lv_at hl 2 rfl) ?_
  refine va_ldcM hx hb hown (hts _ wd_151) hMi dJ7_copyOf_6403c_1 ?_
  refine lv_acmp_ne (rx := some (E 1)) (ry := some (E 1)) (tgt := 13) hx hb dJ7_copyOf_6403c_3 (by decide) (fun c1 => absurd rfl c1) (fun _ => ?_)
  refine lv_iload_n hx hb dJ7_copyOf_6403c_6 rfl (lv_at hl 1 rfl) ?_
  refine pnewq C hH wd_153 (nI_pos (by omega)) (nI_clamp (by omega)) (by omega) (Nat.le_of_eq (Nat.zero_add 1)) (Nat.le_of_eq (Nat.zero_add N)) dJ7_copyOf_6403c_7 (fun q H hq hH1 => ?_)
  refine lv_goto (tgt := 24) hx hb dJ7_copyOf_6403c_10 (by decide) ?_
  refine lv_astore_n (lv' := [(3, .ref q), (0, .ref d), (1, .int (nI N)), (2, .ref (E 1))]) hx hb dJ7_copyOf_6403c_24 rfl hl (by decide) rfl (fun ls hl => ?_)
  have hqd : d ≠ q := fun h => hq (h ▸ hd)
  have hd1 : d ∈ L ++ [q] := List.mem_append_left _ hd
  have hfd1 : va_up f q (cRow Z N (fun _ => none)) d = cRow Z n row := by rw [va_up_ne _ _ hqd]; exact hfd
  refine lv_aload_n hx hb dJ7_copyOf_6403c_25 rfl (lv_at hl 1 rfl) ?_
  refine lv_iconst (v := 0) hx hb dJ7_copyOf_6403c_26 (by decide) ?_
  refine lv_aload_n hx hb dJ7_copyOf_6403c_27 rfl (lv_at hl 0 rfl) ?_
  refine lv_iconst (v := 0) hx hb dJ7_copyOf_6403c_28 (by decide) ?_
  refine lv_aload_n hx hb dJ7_copyOf_6403c_29 rfl (lv_at hl 1 rfl) ?_
  refine plen C hH1 hd1 hfd1 dJ7_copyOf_6403c_30 ?_
  refine lv_iload_n hx hb dJ7_copyOf_6403c_31 rfl (lv_at hl 2 rfl) ?_
  refine va_mmin hx hb (by rw [hml, hl.1]) hown (hts _ wd_154) (hts _ wd_155) (hts _ wd_7) (hts _ wd_156) (Nat.le_refl _) (Nat.le_of_ble_eq_true rfl) (Nat.le_of_eq (Nat.zero_add 1)) (Nat.le_of_eq (Nat.zero_add N)) dJ7_copyOf_6403c_32 ?_
  rw [if_neg (nI_nlt hnN (by omega))]
  have e3 : (nI n).toNatClampNeg = n := nI_clamp (by omega)
  refine pcopy C hH1 hl.1 wd_157 hd1 hfd1 (List.mem_append_right _ (List.mem_singleton.mpr rfl)) (va_up_self _ _ _) (by decide) (by decide) (nI_pos (by omega)) (by rw [e3, sb_cl0]; omega) (by rw [e3, sb_cl0]; omega) (fun x hx y hy => ?_) (Nat.le_refl _) (Nat.le_of_ble_eq_true rfl) dJ7_copyOf_6403c_35 (fun H locs hP => ?_)
  · rw [e3] at hx
    rw [sb_cl0, Nat.zero_add] at hy
    obtain ⟨ci, fs, k1, k2, k3, k4⟩ := hel x hx y hy
    have hyq : y ≠ q := fun h => hq (h ▸ k1)
    have hk : okE (L ++ [q]) (va_up f q (cRow Z N (fun _ => none))) y := ⟨ci, fs, List.mem_append_left _ k1, by rw [va_up_ne _ _ hyq]; exact k2, k3, k4⟩
    exact hk.any C hH1
  · rw [bx_uu, sb_cl0, e3] at hP
    refine lv_aload_n hx hb dJ7_copyOf_6403c_38 rfl (lv_at hl 0 rfl) ?_
    exact prq C (o := some q) hr (Or.inr ⟨_, rfl⟩) hk hP (Nat.le_of_eq (Nat.zero_add 1)) (Nat.le_of_eq (Nat.zero_add N)) ⟨q, _, rfl, hq, rfl, fun m hm => by rw [pk_cpy_in (by omega) (by omega)]; exact congrArg row (by omega)⟩ dJ7_copyOf_6403c_39
set_option maxHeartbeats 4000000 in
set_option maxRecDepth 100000 in
theorem c_copyOf2 (l : Launch) (D : va_G) (Z : Nat → ClassId) (E : Nat → Nat) (L : List Nat) (f : Nat → va_E) {d n : Nat} {row : Nat → Option Nat} (N : Nat) (hd : d ∈ L) (hfd : f d = cRow Z n row) (hnN : n ≤ N) (hN : N < 2 ^ 21) (hel : ∀ m, m < n → ∀ y, row m = some y → okE L f y) (sz : Nat) : Met l yJ7_copyOf_1904c (Wd yJ7_copyOf_1904c cJ7_copyOf_1904c 2 (some (.array (.object "java/lang/Object")))) (rmC2 N) (va_Pc [.ref d, .int (nI N)] (pPre D Z E L f sz)) (va_Qq (fun r (u : P2) => ∃ q row', r = some q ∧ q ∉ L ∧ u = (L ++ [q], va_up f q (cRow Z N row')) ∧ ∀ m, m < n → row' m = row m) (pPost D Z (cAs L sz)) (cAs L sz)) 1 N (cAs L sz) := by
  refine pMet (Qc := fun A => va_Qq (fun r (u : P2) => ∃ q row', r = some q ∧ q ∉ L ∧ u = (L ++ [q], va_up f q (cRow Z N row')) ∧ ∀ m, m < n → row' m = row m) (pPost D Z A) A) (by decide) rfl _ (Nat.le_of_ble_eq_true rfl) (fun p e s m args below meth c A C hr hk ls hl hH => ?_) sz
  obtain ⟨⟨hx, hb, hml, hown, hts⟩, hK⟩ := id C
  obtain ⟨-, -, -, -, -, -, hMi, hDc, -⟩ := id C.2.2.1
  have hl : lv_has ls 2 [(0, .ref d), (1, .int (nI N))] := hl
  refine lv_aload_n hx hb dJ7_copyOf_1904c_0 rfl (lv_at hl 0 rfl) ?_
  refine lv_iload_n hx hb dJ7_copyOf_1904c_1 rfl (lv_at hl 1 rfl) ?_
  refine lv_aload_n hx hb dJ7_copyOf_1904c_2 rfl (lv_at hl 0 rfl) ?_
  have hrecv : ∃ cell : Cell, s.heap[d]? = some cell ∧ cell.vm.isStatics = false ∧ s.vm.findClass "[Ljava/lang/Object;" = some cell.cls := by
    obtain ⟨q0, hq⟩ := va_pl_get (X := []) (f := f) hd
    rw [hfd] at hq
    have h9 := hH.1 q0 _ hq
    obtain ⟨_, _, _, _, _, e1⟩ := (hK.1.2 3 _ rfl).2
    exact ⟨_, h9, rfl, e1⟩
  refine va_getC hx hb (by rw [hml, hl.1]) hown (hts _ wd_132) hDc.use (hts _ wd_1588) (hts _ wd_133) (hts _ wd_147) hMi hrecv (Nat.le_of_ble_eq_true rfl) (Nat.le_of_ble_eq_true rfl) dJ7_copyOf_1904c_3 ?_
  refine pcSq C hH [.ref d, .int (nI N), .ref (E 1)] (c_copyOf3 l D Z E L f N hd hfd hnN hN hel) (cwTS 3 hts wd_148 wd_149 wd_8 wd_150 rfl rfl (by decide +kernel) ⟨Nat.le_of_ble_eq_true rfl, Nat.le_of_ble_eq_true rfl⟩) rfl hl.1 rfl (Nat.le_of_ble_eq_true rfl) dJ7_copyOf_1904c_6 ⟨Nat.le_of_eq (Nat.zero_add 1), Nat.le_of_eq (Nat.zero_add N)⟩ (fun r u H locs hw hP => ?_)
  exact prq C hr (Or.inr ⟨_, rfl⟩) hk hP (Nat.le_of_eq (Nat.zero_add 1)) (Nat.le_of_eq (Nat.zero_add N)) hw dJ7_copyOf_1904c_9
set_option maxHeartbeats 4000000 in
set_option maxRecDepth 100000 in
theorem c_growA (l : Launch) (D : va_G) (Z : Nat → ClassId) (E : Nat → Nat) (L : List Nat) (f : Nat → va_E) {a : Nat} {md n : Int32} (ha : a ∈ L) (hf : f a = .inr (0, [.int md, .ref (E 0), .int n])) (sz : Nat) : Met l yJx4a65c_grow_92f84 (Wd yJx4a65c_grow_92f84 cJx4a65c_grow_92f84 4 (some (.array (.object "java/lang/Object")))) (rmG 10) (va_Pc [.ref a, .int (nI 1)] (pPre D Z E L f sz)) (va_Qq (fun r (u : P2) => ∃ q row', r = some q ∧ q ∉ L ∧ u = (L ++ [q], va_up (va_up f q (cRow Z 10 row')) a (.inr (0, [.int md, .ref q, .int n])))) (pPost D Z (cAs L sz)) (cAs L sz)) 1 10 (cAs L sz) := by
  refine pMet (Qc := fun A => va_Qq (fun r (u : P2) => ∃ q row', r = some q ∧ q ∉ L ∧ u = (L ++ [q], va_up (va_up f q (cRow Z 10 row')) a (.inr (0, [.int md, .ref q, .int n])))) (pPost D Z A) A) (by decide) rfl _ (Nat.le_of_ble_eq_true rfl) (fun p e s m args below meth c A C hr hk ls hl hH => ?_) sz
  obtain ⟨⟨hx, hb, hml, hown, hts⟩, hK⟩ := id C
  obtain ⟨hZ, hT0, -⟩ := id C.2.2.1
  have hl : lv_has ls 4 [(0, .ref a), (1, .int (nI 1))] := hl
  refine lv_aload_n hx hb dJx4a65c_grow_92f84_0 rfl (lv_at hl 0 rfl) ?_
  refine pg C hH ha hf (T := TJx4a65c) (N := 3) rfl ixJx4a65c 1 (by decide) rfl wd_47 (fun _ h => h) rfl dJx4a65c_grow_92f84_1 ?_
  refine va_tlen hx hb hT0 hH.2.2 (v := 0) rfl dJx4a65c_grow_92f84_4 ?_
  refine lv_istore_n (lv' := [(2, .int 0), (0, .ref a), (1, .int (nI 1))]) hx hb dJx4a65c_grow_92f84_5 rfl hl (by decide) rfl (fun ls hl => ?_)
  refine lv_iload_n hx hb dJx4a65c_grow_92f84_6 rfl (lv_at hl 0 rfl) ?_
  refine lv_if_gt (tgt := 20) hx hb dJx4a65c_grow_92f84_7 (by decide) (fun c1 => absurd c1 (by decide)) (fun _ => ?_)
  refine lv_aload_n hx hb dJx4a65c_grow_92f84_10 rfl (lv_at hl 1 rfl) ?_
  refine pg C hH ha hf (T := TJx4a65c) (N := 3) rfl ixJx4a65c 1 (by decide) rfl wd_47 (fun _ h => h) rfl dJx4a65c_grow_92f84_11 ?_
  refine va_gets hx hb hZ hH.2.2 hown (hts _ wd_45) (fun _ h => h) dJx4a65c_grow_92f84_14 ?_
  refine lv_acmp_eq (rx := some (E 0)) (ry := some (E 0)) (tgt := 45) hx hb dJx4a65c_grow_92f84_17 (by decide) (fun _ => ?_) (fun c1 => absurd rfl c1)
  refine lv_aload_n hx hb dJx4a65c_grow_92f84_45 rfl (lv_at hl 1 rfl) ?_
  refine lv_bipush (v := 10) hx hb dJx4a65c_grow_92f84_46 (by decide) ?_
  refine lv_iload_n hx hb dJx4a65c_grow_92f84_48 rfl (lv_at hl 2 rfl) ?_
  refine va_mmax hx hb (by rw [hml, hl.1]) hown (hts _ wd_160) (hts _ wd_123) (hts _ wd_7) (hts _ wd_124) (Nat.le_of_ble_eq_true rfl) (Nat.le_of_ble_eq_true rfl) (Nat.zero_le _) (Nat.zero_le _) dJx4a65c_grow_92f84_49 ?_
  rw [show (if (10 : Int32) < nI 1 then nI 1 else 10) = 10 from by decide]
  refine pnewq C hH wd_161 (N := 10) (by decide) (by decide) (by decide) (Nat.le_refl _) (Nat.le_refl _) dJx4a65c_grow_92f84_52 (fun q H hq hH1 => ?_)
  refine lv_dup_x1 hx hb dJx4a65c_grow_92f84_55 rfl rfl ?_
  have haq : a ≠ q := fun h => hq (h ▸ ha)
  refine pp C hH1 (List.mem_append_left _ ha) (by rw [va_up_ne _ _ haq]; exact hf) (T := TJx4a65c) (N := 3) rfl ixJx4a65c tyJx4a65c tyJx4a65c_ok nmJx4a65c 1 (by decide) rfl wd_47 (fun _ h => h) (ty := .array (.object "java/lang/Object")) pfO rfl rfl (Nat.le_of_ble_eq_true rfl) dJx4a65c_grow_92f84_56 (fun H locs hH1 => ?_)
  exact prq C (o := some q) hr (Or.inr ⟨_, rfl⟩) hk hH1 (Nat.le_refl _) (Nat.le_refl _) ⟨q, _, rfl, hq, rfl⟩ dJx4a65c_grow_92f84_59
set_option maxHeartbeats 4000000 in
set_option maxRecDepth 100000 in
theorem c_growB (l : Launch) (D : va_G) (Z : Nat → ClassId) (E : Nat → Nat) (L : List Nat) (f : Nat → va_E) {a d n : Nat} {md : Int32} {row : Nat → Option Nat} (ha : a ∈ L) (hf : f a = .inr (0, [.int md, .ref d, .int (nI n)])) (hd : d ∈ L) (hfd : f d = cRow Z n row) (hn0 : 0 < n) (hn : n < 2 ^ 20) (hel : ∀ m, m < n → ∀ y, row m = some y → okE L f y) (sz : Nat) : Met l yJx4a65c_grow_92f84 (Wd yJx4a65c_grow_92f84 cJx4a65c_grow_92f84 4 (some (.array (.object "java/lang/Object")))) (rmG (n + max 1 (n / 2))) (va_Pc [.ref a, .int (nI (n + 1))] (pPre D Z E L f sz)) (va_Qq (fun r (u : P2) => ∃ q row', r = some q ∧ q ∉ L ∧ u = (L ++ [q], va_up (va_up f q (cRow Z (n + max 1 (n / 2)) row')) a (.inr (0, [.int md, .ref q, .int (nI n)]))) ∧ ∀ m, m < n → row' m = row m) (pPost D Z (cAs L sz)) (cAs L sz)) 1 (n + max 1 (n / 2)) (cAs L sz) := by
  refine pMet (Qc := fun A => va_Qq (fun r (u : P2) => ∃ q row', r = some q ∧ q ∉ L ∧ u = (L ++ [q], va_up (va_up f q (cRow Z (n + max 1 (n / 2)) row')) a (.inr (0, [.int md, .ref q, .int (nI n)]))) ∧ ∀ m, m < n → row' m = row m) (pPost D Z A) A) (by decide) rfl _ (Nat.le_of_ble_eq_true rfl) (fun p e s m args below meth c A C hr hk ls hl hH => ?_) sz
  obtain ⟨⟨hx, hb, hml, hown, hts⟩, hK⟩ := id C
  have hl : lv_has ls 4 [(0, .ref a), (1, .int (nI (n + 1)))] := hl
  have hm : max 1 (n / 2) < 2 ^ 20 := by omega
  refine lv_aload_n hx hb dJx4a65c_grow_92f84_0 rfl (lv_at hl 0 rfl) ?_
  refine pg C hH ha hf (T := TJx4a65c) (N := 3) rfl ixJx4a65c 1 (by decide) rfl wd_47 (fun _ h => h) rfl dJx4a65c_grow_92f84_1 ?_
  refine plen C hH hd hfd dJx4a65c_grow_92f84_4 ?_
  refine lv_istore_n (lv' := [(2, .int (nI n)), (0, .ref a), (1, .int (nI (n + 1)))]) hx hb dJx4a65c_grow_92f84_5 rfl hl (by decide) rfl (fun ls hl => ?_)
  refine lv_iload_n hx hb dJx4a65c_grow_92f84_6 rfl (lv_at hl 0 rfl) ?_
  refine lv_if_gt (tgt := 20) hx hb dJx4a65c_grow_92f84_7 (by decide) (fun _ => ?_) (fun c1 => absurd (show nI 0 < nI n from nI_lt hn0 (by omega)) c1)
  refine lv_iload_n hx hb dJx4a65c_grow_92f84_20 rfl (lv_at hl 0 rfl) ?_
  refine lv_iload_n hx hb dJx4a65c_grow_92f84_21 rfl (lv_at hl 2 rfl) ?_
  refine lv_iload_n hx hb dJx4a65c_grow_92f84_22 rfl (lv_at hl 0 rfl) ?_
  refine lv_isub hx hb dJx4a65c_grow_92f84_23 ?_
  refine lv_iload_n hx hb dJx4a65c_grow_92f84_24 rfl (lv_at hl 0 rfl) ?_
  refine lv_iconst (v := 1) hx hb dJx4a65c_grow_92f84_25 (by decide) ?_
  refine lv_ishr hx hb dJx4a65c_grow_92f84_26 ?_
  rw [pk_sub (show n ≤ n + 1 by omega), Nat.add_sub_cancel_left, show nI n >>> ((1 : Int32) &&& 31) = nI (n / 2) from by
    have k := pk_shrN (n := n) (by omega) ((1 : Int32) &&& 31) 1 (by decide)
    rw [Nat.pow_one] at k
    exact k]
  refine pcSi C hH [.int (nI n), .int (nI 1), .int (nI (n / 2))] (c_newLength l D Z E L f n hn) (cwTS 3 hts wd_119 wd_120 wd_6 wd_121 rfl rfl (by decide +kernel) ⟨Nat.le_of_ble_eq_true rfl, Nat.le_of_ble_eq_true rfl⟩) rfl hl.1 rfl (Nat.le_of_ble_eq_true rfl) dJx4a65c_grow_92f84_27 ⟨Nat.zero_le _, Nat.zero_le _⟩ (fun r u H locs hw hH => ?_)
  obtain ⟨rfl, rfl⟩ := hw
  have hH : PH D A s.heap L f H locs := hH
  refine lv_istore_n (lv' := [(3, .int (nI (n + max 1 (n / 2)))), (2, .int (nI n)), (0, .ref a), (1, .int (nI (n + 1)))]) hx hb dJx4a65c_grow_92f84_30 rfl hl (by decide) rfl (fun ls hl => ?_)
  refine lv_aload_n hx hb dJx4a65c_grow_92f84_31 rfl (lv_at hl 2 rfl) ?_
  refine lv_aload_n hx hb dJx4a65c_grow_92f84_32 rfl (lv_at hl 2 rfl) ?_
  refine pg C hH ha hf (T := TJx4a65c) (N := 3) rfl ixJx4a65c 1 (by decide) rfl wd_47 (fun _ h => h) rfl dJx4a65c_grow_92f84_33 ?_
  refine lv_iload_n hx hb dJx4a65c_grow_92f84_36 rfl (lv_at hl 0 rfl) ?_
  refine pcSq C hH [.ref d, .int (nI (n + max 1 (n / 2)))] (c_copyOf2 l D Z E L f (n + max 1 (n / 2)) hd hfd (by omega) (by omega) hel) (cwTS 2 hts wd_129 wd_130 wd_8 wd_131 rfl rfl (by decide +kernel) ⟨Nat.le_of_ble_eq_true rfl, Nat.le_of_ble_eq_true rfl⟩) rfl hl.1 rfl (Nat.le_of_ble_eq_true rfl) dJx4a65c_grow_92f84_37 ⟨Nat.le_of_eq (Nat.zero_add 1), Nat.le_of_eq (Nat.zero_add _)⟩ (fun r u H locs hw hH => ?_)
  obtain ⟨q, row', rfl, hq, rfl, hrow⟩ := hw
  refine lv_dup_x1 hx hb dJx4a65c_grow_92f84_40 rfl rfl ?_
  have haq : a ≠ q := fun h => hq (h ▸ ha)
  refine pp C hH (List.mem_append_left _ ha) (show va_up f q _ a = _ by rw [va_up_ne _ _ haq]; exact hf) (v := .ref q) (T := TJx4a65c) (N := 3) rfl ixJx4a65c tyJx4a65c tyJx4a65c_ok nmJx4a65c 1 (by decide) rfl wd_47 (fun _ h => h) (ty := .array (.object "java/lang/Object")) pfO rfl rfl (Nat.le_of_ble_eq_true rfl) dJx4a65c_grow_92f84_41 (fun H locs hH1 => ?_)
  exact prq C (o := some q) hr (Or.inr ⟨_, rfl⟩) hk hH1 (Nat.le_of_eq (Nat.zero_add 1)) (Nat.le_of_eq (Nat.zero_add _)) ⟨q, row', rfl, hq, rfl, hrow⟩ dJx4a65c_grow_92f84_44
