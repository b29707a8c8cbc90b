/-! new places and men (gen/mk2.txt) -/
def sN (t : CS) (κ n : Nat) : CS := (t.1, t.2.1, t.2.2.1, va_up t.2.2.2.1 κ n, t.2.2.2.2)
def adN (ad : Nat → Nat → Nat) (κ n q : Nat) : Nat → Nat → Nat := fun k i => if k = κ ∧ i = n then q else ad k i
theorem adN_ne {ad : Nat → Nat → Nat} {κ n q k i : Nat} (h : ¬ (k = κ ∧ i = n)) : adN ad κ n q k i = ad k i := if_neg h
theorem adN_eq {ad : Nat → Nat → Nat} {κ n q : Nat} : adN ad κ n q κ n = q := if_pos ⟨rfl, rfl⟩
def cPostN (D : va_G) (Z : Nat → ClassId) (E : Nat → Nat) (a0 : Nat) (A : Nat → Prop) (t : CS) (U : State) : Prop := ∃ ad : Nat → Nat → Nat, ad 5 0 = a0 ∧ cPost D Z E ad A t U
abbrev CWn (a0 : Nat) (p : Program) (l : Launch) (e : Env) (R : Room) (s : State) (m : MethodId) (args : Array Value) (below : List Frame) (meth : Method) (c : Code) (D : va_G) (Z : Nat → ClassId) (E : Nat → Nat) (A : Nat → Prop) (mc ms : Nat) (post : Int32 → CS → Prop) (H : Heap) (locs : List Loc) (cells slots : Nat) (g : JFrame) : Prop := W p l e R s m args below meth c H locs cells slots (MQ below (va_Qi post (cPostN D Z E a0 A) A) args s mc ms A) g
theorem criN {p : Program} {l : Launch} {e : Env} {R : Room} {s : State} {m : MethodId} {args : Array Value} {below : List Frame} {meth : Method} {c : Code} {H : Heap} {locs : List Loc} {cells slots pc nL a0 : Nat} {ls : Array Slot} {D : va_G} {Z : Nat → ClassId} {E : Nat → Nat} {ad : Nat → Nat → Nat} {t : CS} {A : Nat → Prop} {cc : ByteArray} {own : String} (C : CC p s m args c cc nL own D Z E A) (hr : meth.sig.returnType = some .int) (hk : meth.locks = false) (hH : CH D Z E ad A s.heap t H locs) (ha0 : ad 5 0 = a0) {mc ms : Nat} (h1 : cells ≤ mc) (h2 : slots ≤ ms) {post : Int32 → CS → Prop} {v : Int32} (hp : post v t) (hdg : decode cc pc = .ok (.ireturn, 1)) : CWn a0 p l e R s m args below meth c D Z E A mc ms post H locs cells slots (F0 m pc ls [.int v]) := by
  refine W.widen h1 h2 (W.iret C.1.1 C.1.2.1 hr (fun u hu hW => ⟨⟨v, t, rfl, hp, ad, ha0, cEnd C hH u hu hW⟩, ?_⟩) ?_ hdg hk)
  · exact (chS hH).2.2
  · exact (chS hH).F hu
/-- all that is in lists is there, all loads' places are -/
def allOk (t : CS) : Prop := (∀ k, k < tN t 2 + 11 → elOk t k) ∧ ∀ i, i < tN t 2 → tG t 0 i < tN t 4 ∧ tG t 1 i < tN t 4
theorem CR_ext {Z : Nat → ClassId} {E : Nat} {ad ad' : Nat → Nat → Nat} {t t' : CS} {L L' : List Nat} {f f' : Nat → va_E} (h : CR Z E ad t L f) (hok : allOk t) (hL : ∀ x ∈ L, x ∈ L') (hf : ∀ x ∈ L, f' x = f x) (hcnt : ∀ κ i, i < cnt t κ → i < cnt t' κ) (had : ∀ κ i, i < cnt t κ → ad' κ i = ad κ i) (hcell : ∀ κ i, κ ≠ 6 → i < cnt t κ → cellOf Z ad' t' κ i = cellOf Z ad t κ i) (hnew : ∀ κ i, κ ≠ 6 → i < cnt t' κ → ¬ i < cnt t κ → ad' κ i ∈ L' ∧ f' (ad' κ i) = cellOf Z ad' t' κ i) (hfresh : ∀ κ i, i < cnt t' κ → ¬ i < cnt t κ → ad' κ i ∉ L) (hinj : ∀ κ i κ' i', i < cnt t' κ → ¬ i < cnt t κ → i' < cnt t' κ' → ¬ i' < cnt t κ' → ad' κ i = ad' κ' i' → κ = κ' ∧ i = i') (hTK : ∀ k, k < cnt t 6 → tT t' k = tT t k ∧ tK t' k = tK t k) (hnl : ∀ k, k < cnt t' 6 → ¬ k < cnt t 6 → ad' 6 k ∈ L' ∧ (∃ md : Int32, f' (ad' 6 k) = .inr (0, [.int md, .ref E, .int 0])) ∧ tT t' k = [] ∧ tK t' k = 0) : CR Z E ad' t' L' f' := by
  obtain ⟨h1, h2, ea, md, h3, h4⟩ := h
  have hin : ∀ κ i, i < cnt t κ → ad κ i ∈ L := fun κ i hi => by
    by_cases e : κ = 6
    · subst e; exact (h3 i hi).1
    · exact (h1 κ i e hi).1
  obtain ⟨md', hm1, hm2⟩ : ∃ md' : Nat → Int32, (∀ k, k < cnt t 6 → md' k = md k) ∧ ∀ k, k < cnt t' 6 → ¬ k < cnt t 6 → f' (ad' 6 k) = .inr (0, [.int (md' k), .ref E, .int 0]) :=
    ⟨fun k => if hk : k < cnt t 6 then md k else (if hk' : k < cnt t' 6 then (hnl k hk' hk).2.1.choose else 0), fun k hk => dif_pos hk, fun k hk' hk => by
      have h := (hnl k hk' hk).2.1.choose_spec
      simp only [dif_neg hk, dif_pos hk']
      exact h⟩
  refine ⟨fun κ i h6 hi => ?_, fun κ i κ' i' hi hi' q => ?_, ea, md', fun k hk' => ?_, fun k k' hk hk' hc hc' q => ?_⟩
  · by_cases ho : i < cnt t κ
    · obtain ⟨a1, a2⟩ := h1 κ i h6 ho
      rw [had κ i ho]
      exact ⟨hL _ a1, (hf _ a1).trans (a2.trans (hcell κ i h6 ho).symm)⟩
    · exact hnew κ i h6 hi ho
  · by_cases ho : i < cnt t κ
    · by_cases ho' : i' < cnt t κ'
      · rw [had κ i ho, had κ' i' ho'] at q
        exact h2 κ i κ' i' ho ho' q
      · rw [had κ i ho] at q
        exact absurd (q ▸ hin κ i ho) (hfresh κ' i' hi' ho')
    · by_cases ho' : i' < cnt t κ'
      · rw [had κ' i' ho'] at q
        exact absurd (q ▸ hin κ' i' ho') (hfresh κ i hi ho)
      · exact hinj κ i κ' i' hi ho hi' ho' q
  · by_cases ho : k < cnt t 6
    · obtain ⟨a1, a2, a3, a4⟩ := h3 k ho
      obtain ⟨e1, e2⟩ := hTK k ho
      rw [e1, e2, hm1 k ho]
      refine ⟨by rw [had 6 k ho]; exact hL _ a1, by rw [had 6 k ho]; exact (hf _ a1).trans a2, a3, fun hc => ?_⟩
      obtain ⟨b1, row, b2, b3, b4⟩ := a4 hc
      refine ⟨hL _ b1, row, (hf _ b1).trans b2, b3, fun j hj => ?_⟩
      rw [b4 j hj, had]
      refine hok.1 k ho _ ?_
      rw [List.getD_eq_getElem?_getD, List.getElem?_eq_getElem hj]
      exact List.getElem_mem _
    · obtain ⟨a1, a2, a3, a4⟩ := hnl k hk' ho
      rw [a3, a4]
      exact ⟨a1, hm2 k hk' ho, fun _ => rfl, fun q => absurd rfl q⟩
  · have ho : k < cnt t 6 := by
      by_cases o : k < cnt t 6
      · exact o
      · exact absurd (hnl k hk o).2.2.2 hc
    have ho' : k' < cnt t 6 := by
      by_cases o : k' < cnt t 6
      · exact o
      · exact absurd (hnl k' hk' o).2.2.2 hc'
    exact h4 k k' ho ho' (by rw [← (hTK k ho).2]; exact hc) (by rw [← (hTK k' ho').2]; exact hc') q
set_option maxHeartbeats 4000000 in
set_option maxRecDepth 100000 in
theorem c_P_size (l : Launch) (D : va_G) (Z : Nat → ClassId) (E : Nat → Nat) (L : List Nat) (f : Nat → va_E) {a d : Nat} {md n : Int32} (ha : a ∈ L) (hf : f a = .inr (0, [.int md, .ref d, .int n])) (sz : Nat) : Met l yJx4a65c_size_8abf5 (Wd yJx4a65c_size_8abf5 cJx4a65c_size_8abf5 1 (some .int)) rmJ0 (va_Pc [.ref a] (pPre D Z E L f sz)) (va_Qi (fun r (u : P2) => r = n ∧ u = (L, f)) (pPost D Z (cAs L sz)) (cAs L sz)) 0 0 (cAs L sz) := by
  refine pMet (Qc := fun A => va_Qi (fun r (u : P2) => r = n ∧ u = (L, f)) (pPost D Z A) A) (by decide) rfl _ (Nat.le_of_ble_eq_true rfl) (fun p e s m args below meth c A C hr hk ls hl hH => ?_) sz
  obtain ⟨⟨hx, hb, hml, hown, hts⟩, hK⟩ := id C
  have hl : lv_has ls 1 [(0, .ref a)] := hl
  refine lv_aload_n hx hb dJx4a65c_size_8abf5_0 rfl (lv_at hl 0 rfl) ?_
  refine pg C hH ha hf (T := TJx4a65c) (N := 3) rfl ixJx4a65c 2 (by decide) rfl wd_48 (fun _ h => h) rfl dJx4a65c_size_8abf5_1 ?_
  exact pri C hr hk hH (Nat.zero_le _) (Nat.zero_le _) ⟨rfl, rfl⟩ dJx4a65c_size_8abf5_4
def mkPlace (t : CS) (x y : Int32) : CS := sN (sF (sF (sF (sF t 129 (tN t 4) x) 130 (tN t 4) y) 131 (tN t 4) 0) 132 (tN t 4) 0) 4 (tN t 4 + 1)
def mkMan (t : CS) (a b c : Int32) : CS := sN (sF (sF (sF (sF (sF (sF (sF (sF (sF t 97 (tN t 3) a) 98 (tN t 3) b) 99 (tN t 3) c) 100 (tN t 3) 0) 101 (tN t 3) 0) 102 (tN t 3) 0) 103 (tN t 3) 0) 104 (tN t 3) (-1)) 105 (tN t 3) 0) 3 (tN t 3 + 1)
theorem cnt_sN4 (t : CS) (F : MS) (n κ : Nat) : cnt (F, t.2.1, t.2.2.1, va_up t.2.2.2.1 4 n, t.2.2.2.2) κ = if κ = 4 then n else cnt t κ := by
  match κ with
  | 0 => rfl
  | 1 => rfl
  | 2 => rfl
  | 3 => rfl
  | 4 => rfl
  | 5 => rfl
  | 6 => rfl
  | 7 => rfl
  | κ + 8 => rfl
theorem cnt_sN3 (t : CS) (F : MS) (n κ : Nat) : cnt (F, t.2.1, t.2.2.1, va_up t.2.2.2.1 3 n, t.2.2.2.2) κ = if κ = 3 then n else cnt t κ := by
  match κ with
  | 0 => rfl
  | 1 => rfl
  | 2 => rfl
  | 3 => rfl
  | 4 => rfl
  | 5 => rfl
  | 6 => rfl
  | 7 => rfl
  | κ + 8 => rfl
