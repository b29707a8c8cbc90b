/-! over the pool: today, the steps that were read (gen/mk5.txt) -/
abbrev rmC4 (N : Nat) : Room := { frames := 1, cells := 1, slots := N, locals := 200 }
abbrev rmC5 (N : Nat) : Room := { frames := 2, cells := 1, slots := N, locals := 260 }
section Mk6Rows
variable {p : Program} {l : Launch} {e : Env} {R : Room} {s : State} {m : MethodId} {args : Array Value} {below : List Frame} {meth : Method} {c : Code} {H : Heap} {locs : List Loc} {cells slots : Nat} {Q : State → Prop} {pc nL : Nat} {ls : Array Slot} {rest : List Value} {D : va_G} {Z : Nat → ClassId} {E : Nat → Nat} {A : Nat → Prop} {cc : ByteArray} {own : String} {L : List Nat} {f : Nat → va_E} {idx : Nat}
def iA (Z : Nat → ClassId) (n : Nat) (g : Nat → Int32) : va_E := .inl (Z 1, n, .inl g)
theorem pleni (C : CC p s m args c cc nL own D Z E A) (hH : PH D A s.heap L f H locs) {a n : Nat} {g : Nat → Int32} (ha : a ∈ L) (hf : f a = iA Z n g) (hdg : decode cc pc = .ok (.arraylength, 1))
    (kk : W p l e R s m args below meth c H locs cells slots Q (F0 m (pc + 1) ls (.int (nI n) :: rest))) : W p l e R s m args below meth c H locs cells slots Q (F0 m pc ls (.ref a :: rest)) := by
  obtain ⟨q0, hq⟩ := va_pl_get (X := []) (f := f) ha
  rw [hf] at hq
  exact va_alen C.1.1 C.1.2.1 C.2.1 hH.1 q0 1 hq rfl rfl hdg kk
theorem pcopyi (C : CC p s m args c cc nL own D Z E A) (hH : PH D A s.heap L f H locs) (hsz : ls.size = nL) (hl : Cond.methodLink own idx arraycopyName ∈ TB) {a0 a n0 n1 : Nat} {f0 g : Nat → Int32} (ha0 : a0 ∈ L) (hf0 : f a0 = iA Z n0 f0) (ha : a ∈ L) (hf : f a = iA Z n1 g) {sp dp n : Int32} (h1 : ¬ sp < 0) (h2 : ¬ dp < 0) (h3 : ¬ n < 0) (h4 : sp.toNatClampNeg + n.toNatClampNeg ≤ n0) (h5 : dp.toNatClampNeg + n.toNatClampNeg ≤ n1) (hframes : 1 ≤ R.frames) (hlocals : (rest.map fun v => v.category).sum + (nativeFrameWords "java/lang/System" "arraycopy" 5 + 11) ≤ R.locals) (hdg : decode cc pc = .ok (.invokestatic idx, 3))
    (kk : ∀ (H1 : Heap) (locs1 : List Loc), PH D A s.heap L (va_up f a (iA Z n1 (va_cpy f0 g sp.toNatClampNeg dp.toNatClampNeg n.toNatClampNeg))) H1 locs1 → W p l e R s m args below meth c H1 locs1 cells slots Q (F0 m (pc + 3) ls rest)) : W p l e R s m args below meth c H locs cells slots Q (F0 m pc ls (.int n :: .int dp :: .ref a :: .int sp :: .ref a0 :: rest)) := by
  obtain ⟨q0, hq0⟩ := va_pl_get (X := []) (f := f) ha0
  obtain ⟨q1, hq1⟩ := va_pl_get (X := []) (f := f) ha
  have hq := hq1
  rw [hf0] at hq0
  rw [hf] at hq1
  refine va_copyi C.1.1 C.1.2.1 (by rw [C.1.2.2.1, hsz]) C.1.2.2.2.1 (C.1.2.2.2.2 _ hl) (C.1.2.2.2.2 _ wd_159) (C.1.2.2.2.2 _ wd_158) (C.1.2.2.2.2 _ wd_9) C.2.1 hH.1 hH.2.1 hH.2.2 q0 q1 1 1 hq0 hq1 rfl rfl rfl h1 h2 h3 h4 h5 (fun _ _ => rfl) hframes hlocals hdg (fun H1 locs1 g1 g2 g3 => ?_)
  have e := va_pl_set (X := []) (e := iA Z n1 (va_cpy f0 g sp.toNatClampNeg dp.toNatClampNeg n.toNatClampNeg)) hH.2.1 ha hq
  exact kk H1 locs1 ⟨(show (va_pl L f).set q1 _ = va_pl L _ from e) ▸ g1, (show (va_pl L f).set q1 _ = va_pl L _ from e) ▸ g2, g3⟩
end Mk6Rows
set_option maxHeartbeats 4000000 in
set_option maxRecDepth 100000 in
theorem c_P_copyI (l : Launch) (D : va_G) (Z : Nat → ClassId) (E : Nat → Nat) (L : List Nat) (f : Nat → va_E) {d n : Nat} {g : Nat → Int32} (N : Nat) (hd : d ∈ L) (hfd : f d = iA Z n g) (hnN : N < n) (hN : n < 2 ^ 21) (sz : Nat) : Met l yJ7_copyOf_59c91 (Wd yJ7_copyOf_59c91 cJ7_copyOf_59c91 3 (some (.array .int))) (rmC4 N) (va_Pc [.ref d, .int (nI N)] (pPre D Z E L f sz)) (va_Qq (fun r (u : P2) => ∃ q, r = some q ∧ q ∉ L ∧ u = (L ++ [q], va_up f q (iA Z N (va_cpy g (fun _ => 0) 0 0 N)))) (pPost D Z (cAs L sz)) (cAs L sz)) 1 N (cAs L sz) := by
  refine pMet (Qc := fun A => va_Qq (fun r (u : P2) => ∃ q, r = some q ∧ q ∉ L ∧ u = (L ++ [q], va_up f q (iA Z N (va_cpy g (fun _ => 0) 0 0 N)))) (pPost D Z A) A) (by decide) rfl _ (Nat.le_of_ble_eq_true rfl) (fun p e s m args below meth c A C hr hk ls hl hH => ?_) sz
  obtain ⟨⟨hx, hb, hml, hown, hts⟩, hK⟩ := id C
  have hl : lv_has ls 3 [(0, .ref d), (1, .int (nI N))] := hl
  refine lv_iload_n hx hb dJ7_copyOf_59c91_0 rfl (lv_at hl 1 rfl) ?_
  refine lv_aload_n hx hb dJ7_copyOf_59c91_1 rfl (lv_at hl 0 rfl) ?_
  refine pleni C hH hd hfd dJ7_copyOf_59c91_2 ?_
  refine lv_icmp_ne (tgt := 14) hx hb dJ7_copyOf_59c91_3 (by decide) (fun c1 => ?_) (fun c1 => absurd (congrArg Int32.toNatClampNeg c1) (by rw [nI_clamp (n := N) (by omega), nI_clamp (n := n) (by omega)]; omega))
  refine lv_iload_n hx hb dJ7_copyOf_59c91_14 rfl (lv_at hl 1 rfl) ?_
  refine pnewi C hH N (nI_pos (by omega)) (nI_clamp (by omega)) (by omega) (Nat.le_of_eq (Nat.zero_add 1)) (Nat.le_of_eq (Nat.zero_add N)) dJ7_copyOf_59c91_15 (fun q H hq hH1 => ?_)
  refine lv_astore_n (lv' := [(2, .ref q), (0, .ref d), (1, .int (nI N))]) hx hb dJ7_copyOf_59c91_17 rfl hl (by decide) rfl (fun ls hl => ?_)
  have hqd : d ≠ q := fun h => hq (h ▸ hd)
  have hd1 : d ∈ L ++ [q] := List.mem_append_left _ hd
  have hfd1 : va_up f q (zA Z N) d = iA Z n g := by rw [va_up_ne _ _ hqd]; exact hfd
  refine lv_aload_n hx hb dJ7_copyOf_59c91_18 rfl (lv_at hl 1 rfl) ?_
  refine lv_iconst (v := 0) hx hb dJ7_copyOf_59c91_19 (by decide) ?_
  refine lv_aload_n hx hb dJ7_copyOf_59c91_20 rfl (lv_at hl 0 rfl) ?_
  refine lv_iconst (v := 0) hx hb dJ7_copyOf_59c91_21 (by decide) ?_
  refine lv_aload_n hx hb dJ7_copyOf_59c91_22 rfl (lv_at hl 1 rfl) ?_
  refine pleni C hH1 hd1 hfd1 dJ7_copyOf_59c91_23 ?_
  refine lv_iload_n hx hb dJ7_copyOf_59c91_24 rfl (lv_at hl 2 rfl) ?_
  refine va_mmin hx hb (by rw [hml, hl.1]) hown (hts _ wd_154) (hts _ wd_155) (hts _ wd_7) (hts _ wd_156) (Nat.le_refl _) (Nat.le_of_ble_eq_true rfl) (Nat.le_of_eq (Nat.zero_add 1)) (Nat.le_of_eq (Nat.zero_add N)) dJ7_copyOf_59c91_25 ?_
  rw [if_pos (nI_lt (by omega) (by omega))]
  have e3 : (nI N).toNatClampNeg = N := nI_clamp (by omega)
  refine pcopyi C hH1 hl.1 wd_157 hd1 hfd1 (List.mem_append_right _ (List.mem_singleton.mpr rfl)) (va_up_self _ _ _) (by decide) (by decide) (nI_pos (by omega)) (by rw [e3, sb_cl0]; omega) (by rw [e3, sb_cl0]; omega) (Nat.le_refl _) (Nat.le_of_ble_eq_true rfl) dJ7_copyOf_59c91_28 (fun H locs hP => ?_)
  rw [bx_uu, sb_cl0, e3] at hP
  refine lv_aload_n hx hb dJ7_copyOf_59c91_31 rfl (lv_at hl 0 rfl) ?_
  exact prq C (o := some q) hr (Or.inr ⟨_, rfl⟩) hk hP (Nat.le_of_eq (Nat.zero_add 1)) (Nat.le_of_eq (Nat.zero_add N)) ⟨q, rfl, hq, rfl⟩ dJ7_copyOf_59c91_32
set_option maxHeartbeats 4000000 in
set_option maxRecDepth 100000 in
theorem c_P_steps (l : Launch) (D : va_G) (Z : Nat → ClassId) (E : Nat → Nat) (L : List Nat) (f : Nat → va_E) {a d1 d2 d : Nat} {z1 z3 : Int32} {g : Nat → Int32} (N : Nat) (ha : a ∈ L) (hf : f a = .inr (6, [.ref d1, .ref d2, .ref d, .int z1, .int (nI N), .int z3])) (hd : d ∈ L) (hfd : f d = iA Z 402 g) (hN : N < 402) (sz : Nat) : Met l yX5_stepsRead (Wd yX5_stepsRead cX5_stepsRead 2 (some (.array .int))) (rmC5 N) (va_Pc [.ref a] (pPre D Z E L f sz)) (va_Qq (fun r (u : P2) => ∃ q, r = some q ∧ q ∉ L ∧ u = (L ++ [q], va_up f q (iA Z N (va_cpy g (fun _ => 0) 0 0 N)))) (pPost D Z (cAs L sz)) (cAs L sz)) 1 N (cAs L sz) := by
  refine pMet (Qc := fun A => va_Qq (fun r (u : P2) => ∃ q, r = some q ∧ q ∉ L ∧ u = (L ++ [q], va_up f q (iA Z N (va_cpy g (fun _ => 0) 0 0 N)))) (pPost D Z A) A) (by decide) rfl _ (Nat.le_of_ble_eq_true rfl) (fun p e s m args below meth c A C hr hk ls hl hH => ?_) sz
  obtain ⟨⟨hx, hb, hml, hown, hts⟩, hK⟩ := id C
  have hl : lv_has ls 2 [(0, .ref a)] := hl
  refine lv_iconst (v := 0) hx hb dX5_stepsRead_0 (by decide) ?_
  refine lv_aload_n hx hb dX5_stepsRead_1 rfl (lv_at hl 0 rfl) ?_
  refine pg C hH ha hf (T := TX5) (N := 6) rfl ixX5 4 (by decide) rfl wd_205 (fun _ h => h) rfl dX5_stepsRead_2 ?_
  refine lv_sipush (v := 402) hx hb dX5_stepsRead_5 (by decide) ?_
  refine va_mmin hx hb (by rw [hml, hl.1]) hown (hts _ wd_644) (hts _ wd_155) (hts _ wd_7) (hts _ wd_156) (Nat.le_of_ble_eq_true rfl) (Nat.le_of_ble_eq_true rfl) (Nat.zero_le _) (Nat.zero_le _) dX5_stepsRead_8 ?_
  rw [if_neg (show ¬ (402 : Int32) < nI N from nI_nlt (a := 402) (b := N) (by omega) (by omega))]
  refine va_mmax hx hb (by rw [hml, hl.1]) hown (hts _ wd_645) (hts _ wd_123) (hts _ wd_7) (hts _ wd_124) (Nat.le_of_ble_eq_true rfl) (Nat.le_of_ble_eq_true rfl) (Nat.zero_le _) (Nat.zero_le _) dX5_stepsRead_11 ?_
  have emx : (if (0 : Int32) < nI N then nI N else 0) = nI N := by
    by_cases h0 : N = 0
    · subst h0; rfl
    · rw [if_pos (show (0 : Int32) < nI N from nI_lt (a := 0) (b := N) (by omega) (by omega))]
  refine lv_topi (fun x3 ex3 => ?_)
  have ex4 : x3 = nI N := by rw [ex3]; first | exact emx | (split <;> first | rfl | (rename_i hq; exact absurd (show (0 : Int32) ≤ nI N from Int32.not_lt.mp (nI_pos (by omega))) (by simpa using hq)))
  subst ex4
  refine lv_istore_n (lv' := [(1, .int (nI N)), (0, .ref a)]) hx hb dX5_stepsRead_14 rfl hl (by decide) rfl (fun ls hl => ?_)
  refine lv_aload_n hx hb dX5_stepsRead_15 rfl (lv_at hl 1 rfl) ?_
  refine pg C hH ha hf (T := TX5) (N := 6) rfl ixX5 2 (by decide) rfl wd_203 (fun _ h => h) rfl dX5_stepsRead_16 ?_
  refine lv_iload_n hx hb dX5_stepsRead_19 rfl (lv_at hl 0 rfl) ?_
  refine pcSq C hH [.ref d, .int (nI N)] (c_P_copyI l D Z E L f N hd hfd hN (by omega)) (cwTS 2 hts wd_646 wd_647 wd_8 wd_648 rfl rfl (by decide +kernel) ⟨Nat.le_of_ble_eq_true rfl, Nat.le_of_ble_eq_true rfl⟩) rfl hl.1 rfl (Nat.le_of_ble_eq_true rfl) dX5_stepsRead_20 ⟨Nat.le_of_eq (Nat.zero_add 1), Nat.le_of_eq (Nat.zero_add N)⟩ (fun r u H locs hu hH => ?_)
  obtain ⟨q, rfl, hq, rfl⟩ := hu
  exact prq C (o := some q) hr (Or.inr ⟨_, rfl⟩) hk hH (Nat.le_of_eq (Nat.zero_add 1)) (Nat.le_of_eq (Nat.zero_add N)) ⟨q, rfl, hq, rfl⟩ dX5_stepsRead_23
set_option maxHeartbeats 4000000 in
set_option maxRecDepth 100000 in
theorem c_P_today (l : Launch) (D : va_G) (Z : Nat → ClassId) (E : Nat → Nat) (L : List Nat) (f : Nat → va_E) {a : Nat} {fs : List Value} {v : Int32} (ha : a ∈ L) (hf : f a = .inr (10, fs)) (hv : fs[11]? = some (.int v)) (sz : Nat) : Met l yX10_today (Wd yX10_today cX10_today 1 (some .int)) rm_C_today (va_Pc [.ref a] (pPre D Z E L f sz)) (va_Qi (fun r (u : P2) => r = v / (600 : Int32) ∧ u = (L, f)) (pPost D Z (cAs L sz)) (cAs L sz)) 0 0 (cAs L sz) := by
  refine pMet (Qc := fun A => va_Qi (fun r (u : P2) => r = v / (600 : Int32) ∧ u = (L, f)) (pPost D Z A) A) (by decide) rfl _ (Nat.le_of_ble_eq_true rfl) (fun p e s m args below meth c A C hr hk ls hl hH => ?_) sz
  obtain ⟨⟨hx, hb, hml, hown, hts⟩, hK⟩ := id C
  have hl : lv_has ls 1 [(0, .ref a)] := hl
  refine lv_aload_n hx hb dX10_today_0 rfl (lv_at hl 0 rfl) ?_
  refine pg C hH ha hf rfl ixX10 11 (by decide) rfl wd_247 (fun _ h => h) hv dX10_today_1 ?_
  refine lv_sipush (v := 600) hx hb dX10_today_4 (by decide) ?_
  refine lv_idiv hx hb dX10_today_7 (by decide) ?_
  exact pri C hr hk hH (Nat.zero_le _) (Nat.zero_le _) ⟨rfl, rfl⟩ dX10_today_8
