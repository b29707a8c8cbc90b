/-! ArrayList: what changes a list (gen/jlist3.txt) -/
theorem CR_list {Z : Nat → ClassId} {E : Nat} {ad : Nat → Nat → Nat} {t : CS} {L L' : List Nat} {f f' : Nat → va_E} {ea : Nat → Nat} {md : Nat → Int32} (h1 : ∀ κ i, κ ≠ 6 → i < cnt t κ → ad κ i ∈ L ∧ f (ad κ i) = cellOf Z ad t κ i) (h2 : ∀ κ i κ' i', i < cnt t κ → i' < cnt t κ' → ad κ i = ad κ' i' → κ = κ' ∧ i = i') (h3 : ∀ k, k < cnt t 6 → LR Z E ad L f (ea k) (md k) k (tK t k) (tT t k)) (h4 : ∀ k k', k < cnt t 6 → k' < cnt t 6 → tK t k ≠ 0 → tK t k' ≠ 0 → ea k = ea k' → k = k')
    (k : Nat) (hk : k < cnt t 6) (e' : Nat) (md' : Int32) (cap' : Nat) (xs' : List Nat) (hL : ∀ q ∈ L, q ∈ L') (hf : ∀ q ∈ L, q ≠ ad 6 k → (tK t k ≠ 0 → q ≠ ea k) → f' q = f q) (hLR : LR Z E ad L' f' e' md' k cap' xs') (hfr : cap' ≠ 0 → (e' = ea k ∧ tK t k ≠ 0) ∨ e' ∉ L) : CR Z E ad (sK (sT t k xs') k cap') L' f' := by
  have hn : ∀ x, x < cnt t 6 → tK t x ≠ 0 → ∃ row, ea x ∈ L ∧ f (ea x) = cRow Z (tK t x) row := fun x hx hc => by
    obtain ⟨-, -, -, a4⟩ := h3 x hx
    obtain ⟨b1, row, b2, -⟩ := a4 hc
    exact ⟨row, b1, b2⟩
  refine ⟨fun κ i h6 hi => ?_, h2, fun x => if x = k then e' else ea x, fun x => if x = k then md' else md x, fun x hx => ?_, fun x y hx hy hcx hcy hxy => ?_⟩
  · obtain ⟨a1, a2⟩ := h1 κ i h6 hi
    refine ⟨hL _ a1, (hf _ a1 (fun q => h6 (h2 κ i 6 k hi hk q).1) (fun hc q => ?_)).trans a2⟩
    obtain ⟨row, b1, b2⟩ := hn k hk hc
    rw [q, b2] at a2
    exact cRow_ne a2
  · by_cases e : x = k
    · subst e
      show LR Z E ad L' f' (if x = x then e' else ea x) (if x = x then md' else md x) x (va_up (tK t) x cap' x) (va_up (tT t) x xs' x)
      rw [if_pos rfl, if_pos rfl, va_up_self, va_up_self]
      exact hLR
    · show LR Z E ad L' f' (if x = k then e' else ea x) (if x = k then md' else md x) x (va_up (tK t) k cap' x) (va_up (tT t) k xs' x)
      rw [if_neg e, if_neg e, va_up_ne _ _ e, va_up_ne _ _ e]
      obtain ⟨a1, a2, a3, a4⟩ := h3 x hx
      have n1 : ad 6 x ≠ ad 6 k := fun q => e (h2 6 x 6 k hx hk q).2
      have n2 : tK t k ≠ 0 → ad 6 x ≠ ea k := fun hc q => by
        obtain ⟨row, b1, b2⟩ := hn k hk hc
        rw [q, b2] at a2
        unfold cRow at a2
        cases a2
      refine ⟨hL _ a1, (hf _ a1 n1 n2).trans a2, a3, fun hc => ?_⟩
      obtain ⟨b1, row, b2, b3⟩ := a4 hc
      have n3 : ea x ≠ ad 6 k := fun q => by
        have a5 := (h3 k hk).2.1
        rw [← q, b2] at a5
        unfold cRow at a5
        cases a5
      exact ⟨hL _ b1, row, (hf _ b1 n3 (fun hck q => e (h4 x k hx hk hc hck q))).trans b2, b3⟩
  · have hcx : va_up (tK t) k cap' x ≠ 0 := hcx
    have hcy : va_up (tK t) k cap' y ≠ 0 := hcy
    have hxy : (if x = k then e' else ea x) = (if y = k then e' else ea y) := hxy
    by_cases ex : x = k
    · by_cases ey : y = k
      · rw [ex, ey]
      · rw [if_pos ex, if_neg ey] at hxy
        rw [va_up_ne _ _ ey] at hcy
        rw [ex, va_up_self] at hcx
        obtain ⟨row, b1, -⟩ := hn y hy hcy
        rcases hfr hcx with ⟨q, qc⟩ | q
        · exact absurd (h4 k y hk hy qc hcy (by rw [← q, hxy])) (fun z => ey z.symm)
        · exact absurd (hxy ▸ b1) q
    · by_cases ey : y = k
      · rw [if_neg ex, if_pos ey] at hxy
        rw [va_up_ne _ _ ex] at hcx
        rw [ey, va_up_self] at hcy
        obtain ⟨row, b1, -⟩ := hn x hx hcx
        rcases hfr hcy with ⟨q, qc⟩ | q
        · exact absurd (h4 x k hx hk hcx qc (by rw [hxy, q])) ex
        · exact absurd (hxy ▸ b1) q
      · rw [if_neg ex, if_neg ey] at hxy
        rw [va_up_ne _ _ ex] at hcx
        rw [va_up_ne _ _ ey] at hcy
        exact h4 x y hx hy hcx hcy hxy
theorem sKT_id (t : CS) (k : Nat) (xs : List Nat) : sK (sT t k xs) k (tK t k) = sT t k xs := by
  show (t.1, t.2.1, va_up t.2.2.1 k xs, t.2.2.2.1, t.2.2.2.2.1, va_up t.2.2.2.2.2 k (t.2.2.2.2.2 k)) = (t.1, t.2.1, va_up t.2.2.1 k xs, t.2.2.2)
  rw [show va_up t.2.2.2.2.2 k (t.2.2.2.2.2 k) = t.2.2.2.2.2 from funext (fun j => by unfold va_up; split <;> simp_all)]
/-- the row's elements are objects that an array of Object takes -/
def okE (L : List Nat) (f : Nat → va_E) (y : Nat) : Prop := ∃ (ci : Nat) (fs : List Value), y ∈ L ∧ f y = .inr (ci, fs) ∧ 1 ≤ ci ∧ ci ≤ 5
theorem okE.up0 {L : List Nat} {f : Nat → va_E} {y a : Nat} {fs : List Value} {e : va_E} (h : okE L f y) (ha : f a = .inr (0, fs)) : okE L (va_up f a e) y := by
  obtain ⟨ci, gs, h1, h2, h3, h4⟩ := h
  refine ⟨ci, gs, h1, ?_, h3, h4⟩
  rw [va_up_ne _ _ (fun q => ?_)]
  · exact h2
  · rw [q, ha] at h2
    cases h2
    omega
theorem okE.upR {Z : Nat → ClassId} {L : List Nat} {f : Nat → va_E} {y a cap : Nat} {row : Nat → Option Nat} {e : va_E} (h : okE L f y) (ha : f a = cRow Z cap row) : okE L (va_up f a e) y := by
  obtain ⟨ci, gs, h1, h2, h3, h4⟩ := h
  refine ⟨ci, gs, h1, ?_, h3, h4⟩
  rw [va_up_ne _ _ (fun q => ?_)]
  · exact h2
  · rw [q, ha] at h2
    unfold cRow at h2
    cases h2
theorem okE.any {p : Program} {s : State} {m : MethodId} {args : Array Value} {c : Code} {cc : ByteArray} {nL : Nat} {own : String} {D : va_G} {Z : Nat → ClassId} {E : Nat → Nat} {A : Nat → Prop} {L : List Nat} {f : Nat → va_E} {H : Heap} {locs : List Loc} {y : Nat} (h : okE L f y) (C : CC p s m args c cc nL own D Z E A) (hH : PH D A s.heap L f H locs) : va_Any "java/lang/Object" s H y := by
  obtain ⟨ci, gs, h1, h2, h3, h4⟩ := h
  obtain ⟨-, -, -, -, -, -, -, -, k0, k1, k2, k3, k4, -⟩ := C.2.2.1
  have hci : ci = 1 ∨ ci = 2 ∨ ci = 3 ∨ ci = 4 ∨ ci = 5 := by omega
  rcases hci with rfl | rfl | rfl | rfl | rfl
  · exact pany C hH h1 h2 (r := (RX0, TX0, 10)) rfl k0
  · exact pany C hH h1 h2 (r := (RX1, TX1, 6)) rfl k1
  · exact pany C hH h1 h2 (r := (RX2, TX2, 19)) rfl k2
  · exact pany C hH h1 h2 (r := (RX3, TX3, 10)) rfl k3
  · exact pany C hH h1 h2 (r := (RX4, TX4, 5)) rfl k4
theorem okE.of {Z : Nat → ClassId} {E : Nat} {ad : Nat → Nat → Nat} {t : CS} {L : List Nat} {f : Nat → va_E} (h : CR Z E ad t L f) {κ i : Nat} (hκ : κ < 5) (hi : i < cnt t κ) : okE L f (ad κ i) := by
  obtain ⟨h1, h2⟩ := h.1 κ i (by omega) hi
  match κ, hκ, h1, h2 with
  | 0, _, h1, h2 => exact ⟨1, _, h1, h2, by omega, by omega⟩
  | 1, _, h1, h2 => exact ⟨2, _, h1, h2, by omega, by omega⟩
  | 2, _, h1, h2 => exact ⟨3, _, h1, h2, by omega, by omega⟩
  | 3, _, h1, h2 => exact ⟨4, _, h1, h2, by omega, by omega⟩
  | 4, _, h1, h2 => exact ⟨5, _, h1, h2, by omega, by omega⟩
def tyL : Nat → FieldType := tyJx4a65c
set_option maxHeartbeats 4000000 in
set_option maxRecDepth 100000 in
theorem b_clear {p : Program} {l : Launch} {e : Env} {s : State} {m : MethodId} {args : Array Value} {below : List Frame} {meth : Method} {c : Code} {D : va_G} {Z : Nat → ClassId} {E : Nat → Nat} {A : Nat → Prop} {Qc : Array Value → State → Outcome → State → Prop} {L : List Nat} {f : Nat → va_E} {es cap n : Nat} (C : CC p s m args c cJx4a65c_clear_da8c8 4 RJx4a65c D Z E A) (hn : n < 2 ^ 31) (hc : n ≠ 0 → es ∈ L ∧ n ≤ cap)
    (kk : ∀ (row : Nat → Option Nat) (H : Heap) (locs : List Loc) (ls : Array Slot), (n ≠ 0 → PH D A s.heap L (va_up f es (cRow Z cap row)) H locs) → (n = 0 → PH D A s.heap L f H locs) → W p l e rmJ0 s m args below meth c H locs 0 0 (MQ below Qc args s 0 0 A) (F0 m 42 ls [])) :
    ∀ (d i : Nat) (row : Nat → Option Nat) (H : Heap) (locs : List Loc) (ls : Array Slot), i + d = n → (n ≠ 0 → PH D A s.heap L (va_up f es (cRow Z cap row)) H locs) → (n = 0 → PH D A s.heap L f H locs) → lv_has ls 4 [(1, .ref es), (2, .int (nI n)), (3, .int (nI i))] → W p l e rmJ0 s m args below meth c H locs 0 0 (MQ below Qc args s 0 0 A) (F0 m 27 ls []) := by
  obtain ⟨⟨hx, hb, hml, hown, hts⟩, hK⟩ := id C
  intro d
  induction d with
  | zero =>
    intro i row H locs ls hi hP hP0 hl
    refine lv_iload_n hx hb dJx4a65c_clear_da8c8_27 rfl (lv_at hl 2 rfl) ?_
    refine lv_iload_n hx hb dJx4a65c_clear_da8c8_28 rfl (lv_at hl 1 rfl) ?_
    refine lv_icmp_ge (tgt := 42) hx hb dJx4a65c_clear_da8c8_29 (by decide) (fun _ => kk row H locs ls hP hP0) (fun c1 => absurd (nI_le (by omega) (by omega)) c1)
  | succ d ih =>
    intro i row H locs ls hi hP hP0 hl
    have hn0 : n ≠ 0 := by omega
    obtain ⟨hes, hcap⟩ := hc hn0
    refine lv_iload_n hx hb dJx4a65c_clear_da8c8_27 rfl (lv_at hl 2 rfl) ?_
    refine lv_iload_n hx hb dJx4a65c_clear_da8c8_28 rfl (lv_at hl 1 rfl) ?_
    refine lv_icmp_ge (tgt := 42) hx hb dJx4a65c_clear_da8c8_29 (by decide) (fun c1 => absurd c1 (nI_ge (by omega) (by omega))) (fun _ => ?_)
    refine lv_aload_n hx hb dJx4a65c_clear_da8c8_32 rfl (lv_at hl 0 rfl) ?_
    refine lv_iload_n hx hb dJx4a65c_clear_da8c8_33 rfl (lv_at hl 2 rfl) ?_
    refine lv_null hx hb dJx4a65c_clear_da8c8_34 ?_
    refine pastN C (hP hn0) hes (va_up_self _ _ _) (vin (by omega) (by omega)) dJx4a65c_clear_da8c8_35 (fun H locs hP1 => ?_)
    rw [bx_uu] at hP1
    refine lv_iinc (v := nI (i + 1)) (lv' := [(3, .int (nI (i + 1))), (1, .ref es), (2, .int (nI n))]) hx hb dJx4a65c_clear_da8c8_36 hl (k := 2) rfl (nI_1 i) (by decide) rfl (fun ls hl => ?_)
    refine lv_goto (tgt := 27) hx hb dJx4a65c_clear_da8c8_39 (by decide) ?_
    exact ih (i + 1) _ H locs ls (by omega) (fun _ => hP1) (fun q => absurd q hn0) (lv_sub hl [1, 2, 0] rfl)
set_option maxHeartbeats 4000000 in
set_option maxRecDepth 100000 in
theorem c_L_clear (l : Launch) (D : va_G) (Z : Nat → ClassId) (E : Nat → Nat) (ad : Nat → Nat → Nat) (t : CS) (k : Nat) (hk6 : k < cnt t 6) (hbig : (tT t k).length < 2 ^ 31) (L : List Nat) (sz : Nat) : Met l yJx4a65c_clear_da8c8 (Wd yJx4a65c_clear_da8c8 cJx4a65c_clear_da8c8 4 none) rmJ0 (va_Pc [.ref (ad 6 k)] (cPre D Z E ad L sz t)) (va_Qv (fun t1 => t1 = sT t k []) (cPost D Z E ad (cAs L sz)) (cAs L sz)) 0 0 (cAs L sz) := by
  refine cMet (Qc := fun A => va_Qv (fun t1 => t1 = sT t k []) (cPost D Z E ad A) A) (by decide) rfl _ (Nat.le_of_ble_eq_true rfl) (fun p e s m args below meth c A C hr hk ls hl hH => ?_) L sz
  obtain ⟨⟨hx, hb, hml, hown, hts⟩, hK⟩ := id C
  have hl : lv_has ls 4 [(0, .ref (ad 6 k))] := hl
  obtain ⟨L, f, hP, hR⟩ := hH
  obtain ⟨h1, h2, ea, md, h3, h4⟩ := id hR
  obtain ⟨a1, a2, a3, a4⟩ := h3 k hk6
  generalize hes : (if tK t k = 0 then E 0 else ea k) = es at a2
  refine lv_aload_n hx hb dJx4a65c_clear_da8c8_0 rfl (lv_at hl 0 rfl) ?_
  refine lv_dup hx hb dJx4a65c_clear_da8c8_1 rfl ?_
  refine pg C hP a1 a2 (T := TJx4a65c) (N := 3) rfl ixJx4a65c 0 (by decide) rfl wd_50 (u_same (hts _ wd_51)) rfl dJx4a65c_clear_da8c8_2 ?_
  refine lv_iconst (v := 1) hx hb dJx4a65c_clear_da8c8_5 (by decide) ?_
  refine lv_iadd hx hb dJx4a65c_clear_da8c8_6 ?_
  refine pp C hP a1 a2 (T := TJx4a65c) (N := 3) rfl ixJx4a65c tyJx4a65c tyJx4a65c_ok nmJx4a65c 0 (by decide) rfl wd_50 (u_same (hts _ wd_51)) pfI rfl rfl (Nat.le_of_ble_eq_true rfl) dJx4a65c_clear_da8c8_7 (fun H locs hP => ?_)
  have a2' := va_up_self f (ad 6 k) (.inr (0, [.int (md k + 1), .ref es, .int (nI (tT t k).length)]))
  refine lv_aload_n hx hb dJx4a65c_clear_da8c8_10 rfl (lv_at hl 0 rfl) ?_
  refine pg C hP a1 a2' (T := TJx4a65c) (N := 3) rfl ixJx4a65c 1 (by decide) rfl wd_47 (fun _ h => h) rfl dJx4a65c_clear_da8c8_11 ?_
  refine lv_astore_n (lv' := [(1, .ref es), (0, .ref (ad 6 k))]) hx hb dJx4a65c_clear_da8c8_14 rfl hl (by decide) rfl (fun ls hl => ?_)
  refine lv_aload_n hx hb dJx4a65c_clear_da8c8_15 rfl (lv_at hl 1 rfl) ?_
  refine pg C hP a1 a2' (T := TJx4a65c) (N := 3) rfl ixJx4a65c 2 (by decide) rfl wd_48 (fun _ h => h) rfl dJx4a65c_clear_da8c8_16 ?_
  refine lv_istore_n (lv' := [(2, .int (nI (tT t k).length)), (1, .ref es), (0, .ref (ad 6 k))]) hx hb dJx4a65c_clear_da8c8_19 rfl hl (by decide) rfl (fun ls hl => ?_)
  refine lv_aload_n hx hb dJx4a65c_clear_da8c8_20 rfl (lv_at hl 2 rfl) ?_
  refine lv_iconst (v := 0) hx hb dJx4a65c_clear_da8c8_21 (by decide) ?_
  refine lv_dup_x1 hx hb dJx4a65c_clear_da8c8_22 rfl rfl ?_
  refine pp C hP a1 a2' (T := TJx4a65c) (N := 3) rfl ixJx4a65c tyJx4a65c tyJx4a65c_ok nmJx4a65c 2 (by decide) rfl wd_48 (fun _ h => h) pfI rfl rfl (Nat.le_of_ble_eq_true rfl) dJx4a65c_clear_da8c8_23 (fun H locs hP => ?_)
  rw [bx_uu] at hP
  have hP : PH D A s.heap L (va_up f (ad 6 k) (.inr (0, [.int (md k + 1), .ref es, .int 0]))) H locs := hP
  refine lv_istore_n (lv' := [(3, .int 0), (2, .int (nI (tT t k).length)), (1, .ref es), (0, .ref (ad 6 k))]) hx hb dJx4a65c_clear_da8c8_26 rfl hl (by decide) rfl (fun ls hl => ?_)
  by_cases hc : tK t k = 0
  · have hxs := a3 hc
    rw [if_pos hc] at hes
    refine b_clear (es := es) (cap := 0) (n := (tT t k).length) C hbig (fun q => absurd (by rw [hxs]; rfl) q) (fun row H locs ls _ hP0 => ?_) (tT t k).length 0 (fun _ => none) H locs ls (by omega) (fun q => absurd (by rw [hxs]; rfl) q) (fun _ => hP) (lv_sub hl [2, 1, 0] rfl)
    refine crv C hr hk ⟨L, _, hP0 (by rw [hxs]; rfl), ?_⟩ (Nat.zero_le _) (Nat.zero_le _) rfl dJx4a65c_clear_da8c8_42
    rw [← sKT_id t k []]
    refine CR_list h1 h2 h3 h4 k hk6 (ea k) (md k + 1) (tK t k) [] (fun _ h => h) (fun q _ hq _ => va_up_ne _ _ hq) ⟨a1, ?_, fun _ => rfl, fun q => absurd hc q⟩ (fun q => absurd hc q)
    rw [va_up_self, if_pos hc, hes]
    rfl
  · obtain ⟨b1, row, b2, b3, b4⟩ := a4 hc
    rw [if_neg hc] at hes
    subst hes
    have hne : ea k ≠ ad 6 k := fun q => by
      rw [← q, b2] at a2
      unfold cRow at a2
      cases a2
    have e0 : va_up (va_up f (ad 6 k) (.inr (0, [.int (md k + 1), .ref (ea k), .int 0]))) (ea k) (cRow Z (tK t k) row) = va_up f (ad 6 k) (.inr (0, [.int (md k + 1), .ref (ea k), .int 0])) := funext (fun j => by
      by_cases hj : j = ea k
      · rw [hj, va_up_self, va_up_ne _ _ hne, b2]
      · rw [va_up_ne _ _ hj])
    refine b_clear (es := ea k) (cap := tK t k) (n := (tT t k).length) C hbig (fun q => ⟨b1, b3⟩) (fun row1 H locs ls hP1 hP0 => ?_) (tT t k).length 0 row H locs ls (by omega) (fun _ => by rw [e0]; exact hP) (fun _ => hP) (lv_sub hl [2, 1, 0] rfl)
    have hfin : ∃ row2, PH D A s.heap L (va_up (va_up f (ad 6 k) (.inr (0, [.int (md k + 1), .ref (ea k), .int 0]))) (ea k) (cRow Z (tK t k) row2)) H locs := by
      by_cases hz : (tT t k).length = 0
      · exact ⟨row, by rw [e0]; exact hP0 hz⟩
      · exact ⟨row1, hP1 hz⟩
    obtain ⟨row2, hP2⟩ := hfin
    refine crv C hr hk ⟨L, _, hP2, ?_⟩ (Nat.zero_le _) (Nat.zero_le _) rfl dJx4a65c_clear_da8c8_42
    rw [← sKT_id t k []]
    refine CR_list h1 h2 h3 h4 k hk6 (ea k) (md k + 1) (tK t k) [] (fun _ h => h) (fun q _ hq hq2 => by rw [va_up_ne _ _ (hq2 hc), va_up_ne _ _ hq]) ⟨a1, ?_, fun _ => rfl, fun _ => ⟨b1, row2, va_up_self _ _ _, Nat.zero_le _, fun j hj => absurd hj (Nat.not_lt_zero _)⟩⟩ (fun _ => Or.inl ⟨rfl, hc⟩)
    rw [va_up_ne _ _ hne.symm, va_up_self, if_neg hc]
    rfl
