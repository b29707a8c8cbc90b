/-! ArrayList: add, the rest (gen/jlist6.txt) -/
def aC (n cap : Nat) : Nat := if n < cap then 0 else 1
def aS (n cap : Nat) : Nat := if n < cap then 0 else newCap cap
set_option maxHeartbeats 4000000 in
set_option maxRecDepth 100000 in
theorem c_grow0 (l : Launch) (D : va_G) (Z : Nat → ClassId) (E : Nat → Nat) (L : List Nat) (f : Nat → va_E) {a d n : Nat} {md : Int32} {row : Nat → Option Nat} (ha : a ∈ L) (hf : f a = .inr (0, [.int md, .ref d, .int (nI n)])) (h0 : n = 0 → d = E 0) (h1 : n ≠ 0 → d ∈ L ∧ f d = cRow Z n row) (hn : n < 2 ^ 20) (hel : ∀ m, m < n → ∀ y, row m = some y → okE L f y) (sz : Nat) : Met l yJx4a65c_grow_d5877 (Wd yJx4a65c_grow_d5877 cJx4a65c_grow_d5877 1 (some (.array (.object "java/lang/Object")))) (rmG0 (newCap n)) (va_Pc [.ref a] (pPre D Z E L f sz)) (va_Qq (fun r (u : P2) => ∃ q row', r = some q ∧ q ∉ L ∧ u = (L ++ [q], va_up (va_up f q (cRow Z (newCap n) row')) a (.inr (0, [.int md, .ref q, .int (nI n)]))) ∧ ∀ m, m < n → row' m = row m) (pPost D Z (cAs L sz)) (cAs L sz)) 1 (newCap n) (cAs L sz) := by
  refine pMet (Qc := fun A => va_Qq (fun r (u : P2) => ∃ q row', r = some q ∧ q ∉ L ∧ u = (L ++ [q], va_up (va_up f q (cRow Z (newCap n) row')) a (.inr (0, [.int md, .ref q, .int (nI n)]))) ∧ ∀ m, m < n → row' m = row m) (pPost D Z A) A) (by decide) rfl _ (Nat.le_of_ble_eq_true rfl) (fun p e s m args below meth c A C hr hk ls hl hH => ?_) sz
  obtain ⟨⟨hx, hb, hml, hown, hts⟩, hK⟩ := id C
  have hl : lv_has ls 1 [(0, .ref a)] := hl
  refine lv_aload_n hx hb dJx4a65c_grow_d5877_0 rfl (lv_at hl 0 rfl) ?_
  refine lv_aload_n hx hb dJx4a65c_grow_d5877_1 rfl (lv_at hl 0 rfl) ?_
  refine pg C hH ha hf (T := TJx4a65c) (N := 3) rfl ixJx4a65c 2 (by decide) rfl wd_48 (fun _ h => h) rfl dJx4a65c_grow_d5877_2 ?_
  refine lv_iconst (v := 1) hx hb dJx4a65c_grow_d5877_5 (by decide) ?_
  refine lv_iadd hx hb dJx4a65c_grow_d5877_6 ?_
  rw [nI_1]
  by_cases hn0 : n = 0
  · subst hn0
    have hd := h0 rfl
    subst hd
    refine pcVq C hH (precv C hH ha hf (q := (RJx4a65c, TJx4a65c, 3)) rfl) [.int (nI 1)] (c_growA l D Z E L f ha hf) (cwTV 1 hts wd_115 wd_117 ws_2 wd_4 wd_118 rfl rfl (by decide +kernel) ⟨Nat.le_of_ble_eq_true rfl, Nat.le_of_ble_eq_true rfl⟩) rfl hl.1 rfl (Nat.le_of_ble_eq_true rfl) dJx4a65c_grow_d5877_7 ⟨Nat.le_refl _, Nat.le_refl _⟩ (fun r u H locs hw hP => ?_)
    obtain ⟨q, row', rfl, hq, rfl⟩ := hw
    exact prq C hr (Or.inr ⟨_, rfl⟩) hk hP (Nat.le_refl _) (Nat.le_refl _) ⟨q, row', rfl, hq, rfl, fun m hm => absurd hm (Nat.not_lt_zero _)⟩ dJx4a65c_grow_d5877_10
  · obtain ⟨hd, hfd⟩ := h1 hn0
    have eN : newCap n = n + max 1 (n / 2) := if_neg hn0
    rw [eN]
    refine pcVq C hH (precv C hH ha hf (q := (RJx4a65c, TJx4a65c, 3)) rfl) [.int (nI (n + 1))] (c_growB l D Z E L f ha hf hd hfd (Nat.pos_of_ne_zero hn0) hn hel) (cwTV 1 hts wd_115 wd_117 ws_2 wd_4 wd_118 rfl rfl (by decide +kernel) ⟨Nat.le_of_ble_eq_true rfl, Nat.le_of_ble_eq_true rfl⟩) rfl hl.1 rfl (Nat.le_of_ble_eq_true rfl) dJx4a65c_grow_d5877_7 ⟨Nat.le_of_eq (Nat.zero_add 1), Nat.le_of_eq (Nat.zero_add _)⟩ (fun r u H locs hw hP => ?_)
    exact prq C hr (Or.inr ⟨_, rfl⟩) hk hP (Nat.le_of_eq (Nat.zero_add 1)) (Nat.le_of_eq (Nat.zero_add _)) hw dJx4a65c_grow_d5877_10
def addQ (Z : Nat → ClassId) (L : List Nat) (f : Nat → va_E) (a d n cap v : Nat) (md : Int32) (row : Nat → Option Nat) (u : P2) : Prop := ∃ (e1 N : Nat) (row1 : Nat → Option Nat), (∀ x ∈ L, x ∈ u.1) ∧ (∀ x ∈ L, x ≠ a → (cap ≠ 0 → x ≠ d) → u.2 x = f x) ∧ u.2 a = .inr (0, [.int md, .ref e1, .int (nI (n + 1))]) ∧ e1 ∈ u.1 ∧ u.2 e1 = cRow Z N row1 ∧ N = (if n < cap then cap else newCap cap) ∧ n < N ∧ (∀ m, m < n → row1 m = row m) ∧ row1 n = some v ∧ ((e1 = d ∧ cap ≠ 0) ∨ e1 ∉ L)
set_option maxHeartbeats 4000000 in
set_option maxRecDepth 100000 in
theorem c_add3 (l : Launch) (D : va_G) (Z : Nat → ClassId) (E : Nat → Nat) (L : List Nat) (f : Nat → va_E) {a d n cap v : Nat} {md : Int32} {row : Nat → Option Nat} (ha : a ∈ L) (hf : f a = .inr (0, [.int md, .ref d, .int (nI n)])) (h0 : cap = 0 → n = 0 ∧ d = E 0) (h1 : cap ≠ 0 → d ∈ L ∧ f d = cRow Z cap row ∧ n ≤ cap) (hcap : cap < 2 ^ 20) (hel : ∀ m, m < n → ∀ y, row m = some y → okE L f y) (hv : okE L f v) (sz : Nat) : Met l yJx4a65c_add_72be8 (Wd yJx4a65c_add_72be8 cJx4a65c_add_72be8 4 none) (rmA3 (aC n cap) (aS n cap)) (va_Pc [.ref a, .ref v, .ref d, .int (nI n)] (pPre D Z E L f sz)) (va_Qv (addQ Z L f a d n cap v md row) (pPost D Z (cAs L sz)) (cAs L sz)) (aC n cap) (aS n cap) (cAs L sz) := by
  refine pMet (Qc := fun A => va_Qv (addQ Z L f a d n cap v md row) (pPost D Z A) A) (by decide) rfl _ (Nat.le_of_ble_eq_true rfl) (fun p e s m args below meth c A C hr hk ls hl hH => ?_) sz
  obtain ⟨⟨hx, hb, hml, hown, hts⟩, hK⟩ := id C
  obtain ⟨hZ, hT0, -⟩ := id C.2.2.1
  have hl : lv_has ls 4 [(0, .ref a), (1, .ref v), (2, .ref d), (3, .int (nI n))] := hl
  have hncap : n ≤ cap := by
    by_cases hc : cap = 0
    · rw [(h0 hc).1]; exact Nat.zero_le _
    · exact (h1 hc).2.2
  have tail : ∀ (e1 N : Nat) (row1 : Nat → Option Nat) (L1 : List Nat) (f1 : Nat → va_E) (cells slots : Nat) (H : Heap) (locs : List Loc) (ls : Array Slot), cells ≤ aC n cap → slots ≤ aS n cap → PH D A s.heap L1 f1 H locs → (∀ x ∈ L, x ∈ L1) → (∀ x ∈ L, x ≠ a → f1 x = f x) → f1 a = .inr (0, [.int md, .ref e1, .int (nI n)]) → e1 ∈ L1 → f1 e1 = cRow Z N row1 → N = (if n < cap then cap else newCap cap) → n < N → (∀ m, m < n → row1 m = row m) → ((e1 = d ∧ cap ≠ 0) ∨ e1 ∉ L) → lv_has ls 4 [(0, .ref a), (1, .ref v), (2, .ref e1), (3, .int (nI n))] → W p l e (rmA3 (aC n cap) (aS n cap)) s m args below meth c H locs cells slots (MQ below (va_Qv (addQ Z L f a d n cap v md row) (pPost D Z A) A) args s (aC n cap) (aS n cap) A) (F0 m 11 ls []) := by
    intro e1 N row1 L1 f1 cells slots H locs ls hc1 hc2 hP hL hfx hfa he1 hfe hN hnN hrow hfr hl
    have hae : a ≠ e1 := obj_ne_row hfa hfe
    have hva : v ≠ a := fun q => by
      obtain ⟨ci, fs, k1, k2, k3, k4⟩ := hv
      rw [q, hf] at k2
      cases k2
      omega
    have hv1 : okE L1 f1 v := by
      obtain ⟨ci, fs, k1, k2, k3, k4⟩ := hv
      exact ⟨ci, fs, hL _ k1, (hfx _ k1 hva).trans k2, k3, k4⟩
    have hnb : n < 2 ^ 31 := by omega
    refine lv_aload_n hx hb dJx4a65c_add_72be8_11 rfl (lv_at hl 2 rfl) ?_
    refine lv_iload_n hx hb dJx4a65c_add_72be8_12 rfl (lv_at hl 3 rfl) ?_
    refine lv_aload_n hx hb dJx4a65c_add_72be8_13 rfl (lv_at hl 1 rfl) ?_
    refine past C hP he1 hfe (hv1.any C hP) (vin hnN hnb) dJx4a65c_add_72be8_14 (fun H locs hP => ?_)
    rw [nI_clamp hnb] at hP
    refine lv_aload_n hx hb dJx4a65c_add_72be8_15 rfl (lv_at hl 0 rfl) ?_
    refine lv_iload_n hx hb dJx4a65c_add_72be8_16 rfl (lv_at hl 3 rfl) ?_
    refine lv_iconst (v := 1) hx hb dJx4a65c_add_72be8_17 (by decide) ?_
    refine lv_iadd hx hb dJx4a65c_add_72be8_18 ?_
    rw [nI_1]
    refine pp C hP (hL _ ha) (by rw [va_up_ne _ _ hae]; exact hfa) (T := TJx4a65c) (N := 3) rfl ixJx4a65c tyJx4a65c tyJx4a65c_ok nmJx4a65c 2 (by decide) rfl wd_48 (fun _ h => h) pfI rfl rfl (Nat.le_of_ble_eq_true rfl) dJx4a65c_add_72be8_19 (fun H locs hP => ?_)
    refine prv C hr hk hP hc1 hc2 ⟨e1, N, va_up row1 n (some v), hL, fun x hxL hxa hxd => ?_, va_up_self _ _ _, he1, ?_, hN, hnN, fun m hm => ?_, va_up_self _ _ _, hfr⟩ dJx4a65c_add_72be8_22
    · show va_up (va_up f1 e1 _) a _ x = f x
      rw [va_up_ne _ _ hxa, va_up_ne _ _ (fun q => ?_)]
      · exact hfx x hxL hxa
      · rcases hfr with ⟨q1, q2⟩ | q1
        · exact hxd q2 (q.trans q1)
        · exact q1 (q ▸ hxL)
    · show va_up (va_up f1 e1 _) a _ e1 = _
      rw [va_up_ne _ _ hae.symm, va_up_self]
    · rw [va_up_ne _ _ (Nat.ne_of_lt hm)]
      exact hrow m hm
  refine lv_iload_n hx hb dJx4a65c_add_72be8_0 rfl (lv_at hl 3 rfl) ?_
  refine lv_aload_n hx hb dJx4a65c_add_72be8_1 rfl (lv_at hl 2 rfl) ?_
  have hlen : ∀ (kk : W p l e (rmA3 (aC n cap) (aS n cap)) s m args below meth c s.heap [] 0 0 (MQ below (va_Qv (addQ Z L f a d n cap v md row) (pPost D Z A) A) args s (aC n cap) (aS n cap) A) (F0 m 3 ls [.int (nI cap), .int (nI n)])), W p l e (rmA3 (aC n cap) (aS n cap)) s m args below meth c s.heap [] 0 0 (MQ below (va_Qv (addQ Z L f a d n cap v md row) (pPost D Z A) A) args s (aC n cap) (aS n cap) A) (F0 m 2 ls [.ref d, .int (nI n)]) := by
    intro kk
    by_cases hc : cap = 0
    · obtain ⟨-, hd⟩ := h0 hc
      rw [show Value.ref d = Value.ref (E 0) from by rw [hd]]
      exact va_tlen hx hb hT0 hH.2.2 (v := nI cap) (by rw [hc]; rfl) dJx4a65c_add_72be8_2 kk
    · obtain ⟨hd, hfd, -⟩ := h1 hc
      exact plen C hH hd hfd dJx4a65c_add_72be8_2 kk
  refine hlen ?_
  refine lv_icmp_ne (tgt := 11) hx hb dJx4a65c_add_72be8_3 (by decide) (fun c1 => ?_) (fun c1 => ?_)
  · have hlt : n < cap := by
      rcases Nat.lt_or_ge n cap with q | q
      · exact q
      · exact absurd (by rw [Nat.le_antisymm hncap q]) c1
    have hc : cap ≠ 0 := by omega
    obtain ⟨hd, hfd, -⟩ := h1 hc
    exact tail d cap row L f 0 0 s.heap [] ls (Nat.zero_le _) (Nat.zero_le _) hH (fun _ h => h) (fun _ _ _ => rfl) hf hd hfd (by rw [if_pos hlt]) hlt (fun _ _ => rfl) (Or.inl ⟨rfl, hc⟩) hl
  · have hnc : n = cap := (nI_eq (by omega) (by omega)).mp c1
    have hno : ¬ n < cap := by omega
    refine lv_aload_n hx hb dJx4a65c_add_72be8_6 rfl (lv_at hl 0 rfl) ?_
    have eC : aC n cap = 1 := if_neg hno
    have eS : aS n cap = newCap cap := if_neg hno
    refine pcVq C hH (precv C hH ha hf (q := (RJx4a65c, TJx4a65c, 3)) rfl) [] (c_grow0 l D Z E L f (n := n) (row := row) ha hf (fun q => (h0 (by omega)).2) (fun q => ⟨(h1 (by omega)).1, by rw [hnc]; exact (h1 (by omega)).2.1⟩) (by omega) hel) (cwTV 0 hts wd_111 wd_113 ws_1 wd_4 wd_114 rfl rfl (by decide +kernel) ⟨Nat.le_of_ble_eq_true rfl, Nat.le_of_ble_eq_true rfl⟩) rfl hl.1 rfl (Nat.le_of_ble_eq_true rfl) dJx4a65c_add_72be8_7 ⟨by show 0 + 1 ≤ aC n cap; rw [eC]; exact Nat.le_refl _, by show 0 + newCap n ≤ aS n cap; rw [eS, hnc, Nat.zero_add]; exact Nat.le_refl _⟩ (fun r u H locs hw hP => ?_)
    obtain ⟨q, row', rfl, hq, rfl, hrow⟩ := hw
    refine lq_astore_n (o := some q) (lv' := [(2, .ref q), (0, .ref a), (1, .ref v), (3, .int (nI n))]) hx hb dJx4a65c_add_72be8_10 rfl hl (by decide) rfl (fun ls hl => ?_)
    have haq : a ≠ q := fun h => hq (h ▸ ha)
    have hbig : n < newCap n := by
      unfold newCap
      split <;> omega
    refine tail q (newCap n) row' (L ++ [q]) _ (0 + 1) (0 + newCap n) H locs ls (by rw [eC]; exact Nat.le_refl _) (by rw [eS, hnc, Nat.zero_add]; exact Nat.le_refl _) hP (fun _ h => List.mem_append_left _ h) (fun x hxL hxa => ?_) (va_up_self _ _ _) (List.mem_append_right _ (List.mem_singleton.mpr rfl)) ?_ (by rw [if_neg hno, hnc]) hbig hrow (Or.inr hq) (lv_sub hl [1, 2, 0, 3] rfl)
    · show va_up (va_up f q _) a _ x = f x
      have hxq : x ≠ q := fun h => hq (h ▸ hxL)
      rw [va_up_ne _ _ hxa, va_up_ne _ _ hxq]
    · show va_up (va_up f q _) a _ q = _
      rw [va_up_ne _ _ haq.symm, va_up_self]
set_option maxHeartbeats 4000000 in
set_option maxRecDepth 100000 in
theorem c_L_add (l : Launch) (D : va_G) (Z : Nat → ClassId) (E : Nat → Nat) (ad : Nat → Nat → Nat) (t : CS) (k j : Nat) (hk6 : k < cnt t 6) (hcap : tK t k < 2 ^ 20) (hel : ∀ x ∈ tT t k, x < cnt t (ek k)) (hj : j < cnt t (ek k)) (L : List Nat) (sz : Nat) : Met l yJx4a65c_add_9ea2d (Wd yJx4a65c_add_9ea2d cJx4a65c_add_9ea2d 2 (some .boolean)) (rmA (aC (tT t k).length (tK t k)) (aS (tT t k).length (tK t k))) (va_Pc [.ref (ad 6 k), .ref (ad (ek k) j)] (cPre D Z E ad L sz t)) (va_Qi (fun r t1 => r = 1 ∧ t1 = sK (sT t k (tT t k ++ [j])) k (if (tT t k).length < tK t k then tK t k else newCap (tK t k))) (cPost D Z E ad (cAs L sz)) (cAs L sz)) (aC (tT t k).length (tK t k)) (aS (tT t k).length (tK t k)) (cAs L sz) := by
  refine cMet (Qc := fun A => va_Qi (fun r t1 => r = 1 ∧ t1 = sK (sT t k (tT t k ++ [j])) k (if (tT t k).length < tK t k then tK t k else newCap (tK t k))) (cPost D Z E ad A) A) (by decide) rfl _ (Nat.le_of_ble_eq_true rfl) (fun p e s m args below meth c A C hr hk ls hl hH => ?_) L sz
  obtain ⟨⟨hx, hb, hml, hown, hts⟩, hK⟩ := id C
  have hl : lv_has ls 2 [(0, .ref (ad 6 k)), (1, .ref (ad (ek k) j))] := hl
  obtain ⟨L, f, hP, hR⟩ := hH
  obtain ⟨h1, h2, ea, md, h3, h4⟩ := id hR
  obtain ⟨a1, a2, a3, a4⟩ := h3 k hk6
  obtain ⟨row, hrow⟩ : ∃ row, tK t k ≠ 0 → ea k ∈ L ∧ f (ea k) = cRow Z (tK t k) row ∧ (tT t k).length ≤ tK t k ∧ ∀ j, j < (tT t k).length → row j = some (ad (ek k) ((tT t k).getD j 0)) := by
    by_cases hc : tK t k = 0
    · exact ⟨fun _ => none, fun q => absurd hc q⟩
    · obtain ⟨b1, row, b⟩ := a4 hc
      exact ⟨row, fun _ => ⟨b1, b⟩⟩
  generalize hes : (if tK t k = 0 then E 0 else ea k) = d at a2
  have helf : ∀ m, m < (tT t k).length → ∀ y, row m = some y → okE L f y := fun m hm y hy => by
    have hc : tK t k ≠ 0 := fun q => by rw [a3 q] at hm; exact absurd hm (Nat.not_lt_zero _)
    rw [(hrow hc).2.2.2 m hm] at hy
    cases hy
    refine okE.of hR (ek_lt k) (hel _ ?_)
    rw [List.getD_eq_getElem?_getD, List.getElem?_eq_getElem hm]
    exact List.getElem_mem _
  refine lv_aload_n hx hb dJx4a65c_add_9ea2d_0 rfl (lv_at hl 0 rfl) ?_
  refine lv_dup hx hb dJx4a65c_add_9ea2d_1 rfl ?_
  refine pg C hP a1 a2 (T := TJx4a65c) (N := 3) rfl ixJx4a65c 0 (by decide) rfl wd_50 (u_same (hts _ wd_51)) rfl dJx4a65c_add_9ea2d_2 ?_
  refine lv_iconst (v := 1) hx hb dJx4a65c_add_9ea2d_5 (by decide) ?_
  refine lv_iadd hx hb dJx4a65c_add_9ea2d_6 ?_
  refine pp C hP a1 a2 (T := TJx4a65c) (N := 3) rfl ixJx4a65c tyJx4a65c tyJx4a65c_ok nmJx4a65c 0 (by decide) rfl wd_50 (u_same (hts _ wd_51)) pfI rfl rfl (Nat.le_of_ble_eq_true rfl) dJx4a65c_add_9ea2d_7 (fun H locs hP => ?_)
  have a2' := va_up_self f (ad 6 k) (.inr (0, [.int (md k + 1), .ref d, .int (nI (tT t k).length)]))
  have hP : PH D A s.heap L (va_up f (ad 6 k) (.inr (0, [.int (md k + 1), .ref d, .int (nI (tT t k).length)]))) H locs := hP
  refine lv_aload_n hx hb dJx4a65c_add_9ea2d_10 rfl (lv_at hl 0 rfl) ?_
  refine lv_aload_n hx hb dJx4a65c_add_9ea2d_11 rfl (lv_at hl 1 rfl) ?_
  refine lv_aload_n hx hb dJx4a65c_add_9ea2d_12 rfl (lv_at hl 0 rfl) ?_
  refine pg C hP a1 a2' (T := TJx4a65c) (N := 3) rfl ixJx4a65c 1 (by decide) rfl wd_47 (fun _ h => h) rfl dJx4a65c_add_9ea2d_13 ?_
  refine lv_aload_n hx hb dJx4a65c_add_9ea2d_16 rfl (lv_at hl 0 rfl) ?_
  refine pg C hP a1 a2' (T := TJx4a65c) (N := 3) rfl ixJx4a65c 2 (by decide) rfl wd_48 (fun _ h => h) rfl dJx4a65c_add_9ea2d_17 ?_
  have hed : tK t k ≠ 0 → d = ea k := fun hc => by rw [← hes, if_neg hc]
  refine pcVv C hP (precv C hP a1 a2' (q := (RJx4a65c, TJx4a65c, 3)) rfl) [.ref (ad (ek k) j), .ref d, .int (nI (tT t k).length)] (c_add3 l D Z E L _ (n := (tT t k).length) (cap := tK t k) (v := ad (ek k) j) (row := row) a1 a2' (fun hc => ⟨by rw [a3 hc]; rfl, by rw [← hes, if_pos hc]⟩) (fun hc => ⟨by rw [hed hc]; exact (hrow hc).1, ?_, (hrow hc).2.2.1⟩) hcap (fun m hm y hy => (helf m hm y hy).up0 a2) ((okE.of hR (ek_lt k) hj).up0 a2)) (cwTV 3 hts wd_107 wd_109 ws_0 wd_4 wd_110 rfl rfl (by decide +kernel) ⟨Nat.le_of_ble_eq_true rfl, Nat.le_of_ble_eq_true rfl⟩) rfl hl.1 rfl (Nat.le_of_ble_eq_true rfl) dJx4a65c_add_9ea2d_20 ⟨Nat.le_of_eq (Nat.zero_add _), Nat.le_of_eq (Nat.zero_add _)⟩ (fun u H locs hw hP => ?_)
  · have hne : ea k ≠ ad 6 k := (obj_ne_row a2 (hrow hc).2.1).symm
    rw [hed hc, va_up_ne _ _ hne]
    exact (hrow hc).2.1
  obtain ⟨e1, N, row1, g1, g2, g3, g4, g5, g6, g7, g8, g9, g10⟩ := hw
  refine lv_iconst (v := 1) hx hb dJx4a65c_add_9ea2d_23 (by decide) ?_
  refine crz C hr hk ⟨u.1, u.2, hP, ?_⟩ (Nat.le_of_eq (Nat.zero_add _)) (Nat.le_of_eq (Nat.zero_add _)) bz1 ⟨rfl, rfl⟩ dJx4a65c_add_9ea2d_24
  have hN0 : N ≠ 0 := by omega
  rw [← g6]
  refine CR_list h1 h2 h3 h4 k hk6 e1 (md k + 1) N (tT t k ++ [j]) g1 (fun x hxL hxa hxe => (g2 x hxL hxa (fun hc => by rw [hed hc]; exact hxe hc)).trans (va_up_ne _ _ hxa)) ⟨g1 _ a1, ?_, fun q => absurd q hN0, fun _ => ⟨g4, row1, g5, ?_, fun m hm => ?_⟩⟩ (fun _ => ?_)
  · rw [g3, if_neg hN0, List.length_append]
    rfl
  · rw [List.length_append]
    exact g7
  · rw [List.length_append] at hm
    have hm : m < (tT t k).length + 1 := hm
    by_cases hml : m < (tT t k).length
    · have hc : tK t k ≠ 0 := fun q => by rw [a3 q] at hml; exact absurd hml (Nat.not_lt_zero _)
      rw [g8 m hml, (hrow hc).2.2.2 m hml, List.getD_eq_getElem?_getD, List.getD_eq_getElem?_getD, List.getElem?_append_left hml]
    · have e : m = (tT t k).length := by omega
      rw [e, g9, List.getD_eq_getElem?_getD, List.getElem?_append_right (Nat.le_refl _), Nat.sub_self]
      rfl
  · rcases g10 with ⟨q1, q2⟩ | q1
    · exact Or.inl ⟨by rw [q1, hed q2], q2⟩
    · exact Or.inr q1
