/-! over the pool: a list's add, a place's way (gen/mk4.txt) -/
theorem prz {p : Program} {l : Launch} {e : Env} {R : Room} {s : State} {m : MethodId} {args : Array Value} {below : List Frame} {meth : Method} {c : Code} {H : Heap} {locs : List Loc} {cells slots pc nL : Nat} {ls : Array Slot} {D : va_G} {Z : Nat → ClassId} {E : Nat → Nat} {A : Nat → Prop} {cc : ByteArray} {own : String} {L : List Nat} {f : Nat → va_E} (C : CC p s m args c cc nL own D Z E A) (hr : meth.sig.returnType = some .boolean) (hk : meth.locks = false) (hH : PH D A s.heap L f H locs) {post : Int32 → P2 → Prop} {v : Int32} {mc ms : Nat} (h1 : cells ≤ mc) (h2 : slots ≤ ms) (hz : bz v) (hp : post v (L, f)) (hdg : decode cc pc = .ok (.ireturn, 1)) : W p l e R s m args below meth c H locs cells slots (MQ below (va_Qi post (pPost D Z A) A) args s mc ms A) (F0 m pc ls [.int v]) :=
  W.widen h1 h2 (W.zret C.1.1 C.1.2.1 hr hz.nar (fun u hu hW => ⟨⟨v, (L, f), rfl, hp, pEnd C hH u hu hW⟩, hH.2.2.F hu⟩) hH.2.2.2.2 hdg hk)
set_option maxHeartbeats 4000000 in
set_option maxRecDepth 100000 in
theorem c_P_add (l : Launch) (D : va_G) (Z : Nat → ClassId) (E : Nat → Nat) (L : List Nat) (f : Nat → va_E) {a d n cap v : Nat} {md : Int32} {row : Nat → Option Nat} (ha : a ∈ L) (hf : f a = .inr (0, [.int md, .ref d, .int (nI n)])) (h0 : cap = 0 → n = 0 ∧ d = E 0) (h1 : cap ≠ 0 → d ∈ L ∧ f d = cRow Z cap row ∧ n ≤ cap) (hcap : cap < 2 ^ 20) (hel : ∀ m, m < n → ∀ y, row m = some y → okE L f y) (hv : okE L f v) (sz : Nat) : Met l yJx4a65c_add_9ea2d (Wd yJx4a65c_add_9ea2d cJx4a65c_add_9ea2d 2 (some .boolean)) (rmA (aC n cap) (aS n cap)) (va_Pc [.ref a, .ref v] (pPre D Z E L f sz)) (va_Qi (fun r (u : P2) => r = 1 ∧ addQ Z L f a d n cap v (md + 1) row u) (pPost D Z (cAs L sz)) (cAs L sz)) (aC n cap) (aS n cap) (cAs L sz) := by
  refine pMet (Qc := fun A => va_Qi (fun r (u : P2) => r = 1 ∧ addQ Z L f a d n cap v (md + 1) row u) (pPost D Z A) A) (by decide) rfl _ (Nat.le_of_ble_eq_true rfl) (fun p e s m args below meth c A C hr hk ls hl hP => ?_) sz
  obtain ⟨⟨hx, hb, hml, hown, hts⟩, hK⟩ := id C
  have hl : lv_has ls 2 [(0, .ref a), (1, .ref v)] := hl
  refine lv_aload_n hx hb dJx4a65c_add_9ea2d_0 rfl (lv_at hl 0 rfl) ?_
  refine lv_dup hx hb dJx4a65c_add_9ea2d_1 rfl ?_
  refine pg C hP ha hf (T := TJx4a65c) (N := 3) rfl ixJx4a65c 0 (by decide) rfl wd_50 (u_same (hts _ wd_51)) rfl dJx4a65c_add_9ea2d_2 ?_
  refine lv_iconst (v := 1) hx hb dJx4a65c_add_9ea2d_5 (by decide) ?_
  refine lv_iadd hx hb dJx4a65c_add_9ea2d_6 ?_
  refine pp C hP ha hf (T := TJx4a65c) (N := 3) rfl ixJx4a65c tyJx4a65c tyJx4a65c_ok nmJx4a65c 0 (by decide) rfl wd_50 (u_same (hts _ wd_51)) pfI rfl rfl (Nat.le_of_ble_eq_true rfl) dJx4a65c_add_9ea2d_7 (fun H locs hP => ?_)
  have a2' := va_up_self f a (.inr (0, [.int (md + 1), .ref d, .int (nI n)]))
  have hP : PH D A s.heap L (va_up f a (.inr (0, [.int (md + 1), .ref d, .int (nI n)]))) H locs := hP
  refine lv_aload_n hx hb dJx4a65c_add_9ea2d_10 rfl (lv_at hl 0 rfl) ?_
  refine lv_aload_n hx hb dJx4a65c_add_9ea2d_11 rfl (lv_at hl 1 rfl) ?_
  refine lv_aload_n hx hb dJx4a65c_add_9ea2d_12 rfl (lv_at hl 0 rfl) ?_
  refine pg C hP ha a2' (T := TJx4a65c) (N := 3) rfl ixJx4a65c 1 (by decide) rfl wd_47 (fun _ h => h) rfl dJx4a65c_add_9ea2d_13 ?_
  refine lv_aload_n hx hb dJx4a65c_add_9ea2d_16 rfl (lv_at hl 0 rfl) ?_
  refine pg C hP ha a2' (T := TJx4a65c) (N := 3) rfl ixJx4a65c 2 (by decide) rfl wd_48 (fun _ h => h) rfl dJx4a65c_add_9ea2d_17 ?_
  refine pcVv C hP (precv C hP ha a2' (q := (RJx4a65c, TJx4a65c, 3)) rfl) [.ref v, .ref d, .int (nI n)] (c_add3 l D Z E L _ (n := n) (cap := cap) (v := v) (row := row) ha a2' h0 (fun hc => ⟨(h1 hc).1, ?_, (h1 hc).2.2⟩) hcap (fun m hm y hy => (hel m hm y hy).up0 hf) (hv.up0 hf)) (cwTV 3 hts wd_107 wd_109 ws_0 wd_4 wd_110 rfl rfl (by decide +kernel) ⟨Nat.le_of_ble_eq_true rfl, Nat.le_of_ble_eq_true rfl⟩) rfl hl.1 rfl (Nat.le_of_ble_eq_true rfl) dJx4a65c_add_9ea2d_20 ⟨Nat.le_of_eq (Nat.zero_add _), Nat.le_of_eq (Nat.zero_add _)⟩ (fun u H locs hw hP => ?_)
  · have hne : d ≠ a := (obj_ne_row hf (h1 hc).2.1).symm
    rw [va_up_ne _ _ hne]
    exact (h1 hc).2.1
  obtain ⟨e1, N, row1, g1, g2, g3, g4, g5, g6, g7, g8, g9, g10⟩ := hw
  refine lv_iconst (v := 1) hx hb dJx4a65c_add_9ea2d_23 (by decide) ?_
  exact prz C hr hk hP (Nat.le_of_eq (Nat.zero_add _)) (Nat.le_of_eq (Nat.zero_add _)) bz1 ⟨rfl, e1, N, row1, g1, fun x hxL hxa hxd => (g2 x hxL hxa hxd).trans (va_up_ne _ _ hxa), g3, g4, g5, g6, g7, g8, g9, g10⟩ dJx4a65c_add_9ea2d_24
set_option maxHeartbeats 4000000 in
set_option maxRecDepth 100000 in
theorem c_P_farTo (l : Launch) (D : va_G) (Z : Nat → ClassId) (E : Nat → Nat) (L : List Nat) (f : Nat → va_E) {a b : Nat} {n x y w z n' x' y' w' z' : Int32} (ha : a ∈ L) (hf : f a = .inr (5, [.int n, .int x, .int y, .int w, .int z])) (hb' : b ∈ L) (hf' : f b = .inr (5, [.int n', .int x', .int y', .int w', .int z'])) (sz : Nat) : Met l yX4_farTo (Wd yX4_farTo cX4_farTo 2 (some .int)) rm_Place_farTo (va_Pc [.ref a, .ref b] (pPre D Z E L f sz)) (va_Qi (fun r (u : P2) => r = (if 0 ≤ x' - x then x' - x else 0 - (x' - x)) ∧ u = (L, f)) (pPost D Z (cAs L sz)) (cAs L sz)) 0 0 (cAs L sz) := by
  refine pMet (Qc := fun A => va_Qi (fun r (u : P2) => r = (if 0 ≤ x' - x then x' - x else 0 - (x' - x)) ∧ u = (L, f)) (pPost D Z A) A) (by decide) rfl _ (Nat.le_of_ble_eq_true rfl) (fun p e s m args below meth c A C hr hk ls hl hH => ?_) sz
  obtain ⟨⟨hx, hb, hml, hown, hts⟩, hK⟩ := id C
  have hl : lv_has ls 2 [(0, .ref a), (1, .ref b)] := hl
  refine lv_aload_n hx hb dX4_farTo_0 rfl (lv_at hl 1 rfl) ?_
  refine pg C hH hb' hf' rfl ixX4 1 (by decide) rfl wd_295 (fun _ h => h) rfl dX4_farTo_1 ?_
  refine lv_aload_n hx hb dX4_farTo_4 rfl (lv_at hl 0 rfl) ?_
  refine pg C hH ha hf rfl ixX4 1 (by decide) rfl wd_295 (fun _ h => h) rfl dX4_farTo_5 ?_
  refine lv_isub hx hb dX4_farTo_8 ?_
  refine va_mabs hx hb (by rw [hml, hl.1]) hown (hts _ wd_351) (hts _ wd_352) (hts _ wd_7) (hts _ wd_353) (Nat.le_of_ble_eq_true rfl) (Nat.le_of_ble_eq_true rfl) (show 0 ≤ 0 ∧ 0 ≤ 0 from ⟨Nat.zero_le _, Nat.zero_le _⟩).1 (show 0 ≤ 0 ∧ 0 ≤ 0 from ⟨Nat.zero_le _, Nat.zero_le _⟩).2 dX4_farTo_9 ?_
  exact pri C hr hk hH (Nat.zero_le _) (Nat.zero_le _) ⟨rfl, rfl⟩ dX4_farTo_12
set_option maxHeartbeats 4000000 in
set_option maxRecDepth 100000 in
theorem c_P_upTo (l : Launch) (D : va_G) (Z : Nat → ClassId) (E : Nat → Nat) (L : List Nat) (f : Nat → va_E) {a b : Nat} {n x y w z n' x' y' w' z' : Int32} (ha : a ∈ L) (hf : f a = .inr (5, [.int n, .int x, .int y, .int w, .int z])) (hb' : b ∈ L) (hf' : f b = .inr (5, [.int n', .int x', .int y', .int w', .int z'])) (sz : Nat) : Met l yX4_upTo (Wd yX4_upTo cX4_upTo 3 (some .int)) rm_Place_upTo (va_Pc [.ref a, .ref b] (pPre D Z E L f sz)) (va_Qi (fun r (u : P2) => r = (if y' - y < 0 then (-(y' - y)) / (2 : Int32) else y' - y) ∧ u = (L, f)) (pPost D Z (cAs L sz)) (cAs L sz)) 0 0 (cAs L sz) := by
  refine pMet (Qc := fun A => va_Qi (fun r (u : P2) => r = (if y' - y < 0 then (-(y' - y)) / (2 : Int32) else y' - y) ∧ u = (L, f)) (pPost D Z A) A) (by decide) rfl _ (Nat.le_of_ble_eq_true rfl) (fun p e s m args below meth c A C hr hk ls hl hH => ?_) sz
  obtain ⟨⟨hx, hb, hml, hown, hts⟩, hK⟩ := id C
  have hl : lv_has ls 3 [(0, .ref a), (1, .ref b)] := hl
  refine lv_aload_n hx hb dX4_upTo_0 rfl (lv_at hl 1 rfl) ?_
  refine pg C hH hb' hf' rfl ixX4 2 (by decide) rfl wd_296 (fun _ h => h) rfl dX4_upTo_1 ?_
  refine lv_aload_n hx hb dX4_upTo_4 rfl (lv_at hl 0 rfl) ?_
  refine pg C hH ha hf rfl ixX4 2 (by decide) rfl wd_296 (fun _ h => h) rfl dX4_upTo_5 ?_
  refine lv_isub hx hb dX4_upTo_8 ?_
  refine lv_topi (fun x3 ex3 => ?_)
  refine lv_istore_n (lv' := [(2, .int x3), (0, .ref a), (1, .ref b)]) hx hb dX4_upTo_9 rfl hl (by decide) rfl (fun ls hl => ?_)
  refine lv_iload_n hx hb dX4_upTo_10 rfl (lv_at hl 0 rfl) ?_
  refine lv_if_lt (tgt := 18) hx hb dX4_upTo_11 (by decide) (fun c4 => ?_) (fun c4 => ?_)
  · refine lv_iload_n hx hb dX4_upTo_18 rfl (lv_at hl 0 rfl) ?_
    refine lv_ineg hx hb dX4_upTo_19 ?_
    refine lv_iconst (v := 2) hx hb dX4_upTo_20 (by decide) ?_
    refine lv_idiv hx hb dX4_upTo_21 (by decide) ?_
    exact pri C hr hk hH (Nat.zero_le _) (Nat.zero_le _) ⟨by rw [← ex3, if_pos c4], rfl⟩ dX4_upTo_22
  · refine lv_iload_n hx hb dX4_upTo_14 rfl (lv_at hl 0 rfl) ?_
    refine lv_goto (tgt := 22) hx hb dX4_upTo_15 (by decide) ?_
    exact pri C hr hk hH (Nat.zero_le _) (Nat.zero_le _) ⟨by rw [← ex3, if_neg c4], rfl⟩ dX4_upTo_22
