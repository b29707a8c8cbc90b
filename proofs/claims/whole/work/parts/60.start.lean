/-! the law's entry: both objects, then the loop -/
theorem FX.apart {L0 L : List Nat} {f0 f : Nat → va_E} {a : Nat} {es : List (Nat × va_E)} (h : FX L0 f0 a L f es) : ∀ q ∈ es.map Prod.fst, q = a ∨ q ∉ L0 := fun q hq => by
  obtain ⟨x, hx, rfl⟩ := List.mem_map.mp hq
  obtain ⟨k, hk⟩ := List.getElem?_of_mem hx
  by_cases e : x.1 = a
  · exact Or.inl e
  · exact Or.inr (h.2.2.2.2 k x.1 x.2 hk e)
set_option maxHeartbeats 4000000 in
set_option maxRecDepth 100000 in
theorem mi_world2 {Z : Nat → ClassId} {L0 : List Nat} {f0 : Nat → va_E} {a : Nat} {u : P2} (h : miQ Z L0 f0 a u) {D : va_G} {A : Nat → Prop} {H : Heap} (hP : va_P D vwCl (va_pl u.1 u.2) H) (hD : va_D A (va_pl u.1 u.2)) : (∀ x ∈ L0, x ∈ u.1) ∧ (∀ x ∈ L0, x ≠ a → u.2 x = f0 x) ∧ ∃ b : Nat → Nat, b 69 = a ∧ va_P D vwCl (mW Z b σ0) H ∧ va_D A (mW Z b σ0) ∧ ∀ q ∈ mAd b, q = a ∨ q ∉ L0 := by
  obtain ⟨q1, q4, q7, q10, q13, q16, q19, q22, q25, q28, q31, q34, q37, q40, q43, q46, q49, q52, q55, q58, q61, q64, q67, q70, q73, q76, q79, q82, q85, q88, q91, q94, q97, q100, q103, q106, q109, q112, q115, q118, q121, q124, q127, q130, q133, q136, q139, q142, q145, q148, q151, q154, q157, q160, hX⟩ := h
  exact ⟨hX.1, hX.2.1, mB a q1 q4 q7 q10 q13 q16 q19 q22 q25 q28 q31 q34 q37 q40 q43 q46 q49 q52 q55 q58 q61 q64 q67 q70 q73 q76 q79 q82 q85 q88 q91 q94 q97 q100 q103 q106 q109 q112 q115 q118 q121 q124 q127 q130 q133 q136 q139 q142 q145 q148 q151 q154 q157 q160, rfl, (hX.world hP hD).1, (hX.world hP hD).2.1, hX.apart⟩
theorem pcIvW {p : Program} {l : Launch} {e : Env} {s : State} {m : MethodId} {args : Array Value} {below : List Frame} {meth : Method} {c : Code} {H : Heap} {locs : List Loc} {cells slots : Nat} {Q : State → Prop} {pc nL : Nat} {ls : Array Slot} {rest : List Value} {D : va_G} {Z : Nat → ClassId} {E : Nat → Nat} {A : Nat → Prop} {L : List Nat} {f : Nat → va_E} {cc : ByteArray} {own : String} {idx : Nat} {R : Room} (C : CC p s m args c cc nL own D Z E A) (hN : NW4 s) (hP : PH D A s.heap L f H locs) {r0 : Nat} {y : MethodName} {rm : Room} {post : P2 → Prop} {bytes : ByteArray} {maxL n mc ms : Nat} (As : List Value) {st : List Value}
    (hM : ∀ sz, Met l y (Wd y bytes maxL none) rm (va_Pc (.ref r0 :: As) (pPreN D Z E L f sz)) (va_Qv post (pPost D Z (cAs L sz)) (cAs L sz)) mc ms (cAs L sz)) (cw : CallB R s args own idx y bytes maxL none (Wd y bytes maxL none) rm mc ms n ∧ y.name = "<init>" ∧ (Cond.instanceMethod y).before args s = true) (hn : As.length = n) (hsz : ls.size = nL) (hst : st = As.reverse ++ .ref r0 :: rest) (hro : (rest.map fun v => v.category).sum ≤ 8) (hdg : decode cc pc = .ok (.invokespecial idx, 3)) (hc : cells + mc ≤ R.cells ∧ slots + ms ≤ R.slots)
    (kk : ∀ (u : P2) (H1 : Heap) (locs1 : List Loc), post u → PH D A s.heap u.1 u.2 H1 locs1 → W p l e R s m args below meth c H1 locs1 (cells + mc) (slots + ms) Q (F0 m (pc + 3) ls rest)) : W p l e R s m args below meth c H locs cells slots Q (F0 m pc ls st) := by
  subst hst
  exact va_callv (va_runI (As := As) (rest := rest) C.1 (hM H.size) cw ⟨pPreN_blind _ _, fun U hU hW => ⟨rfl, (pstart C hP [] U hU hW).2, va_Nw.warmM hW hN.1, va_Nw.warmM hW hN.2.1, va_Nw.warmM hW hN.2.2.1, va_Nw.warmM hW hN.2.2.2⟩⟩ rfl hn hsz rfl (lv_room hro) hdg hc) hP.2.2 (fun q _ h => cAs_sub C.2.2.2 hP.2.1 hP.2.2 q h) (cAs_sub C.2.2.2 hP.2.1 hP.2.2) (fun u t1 H1 locs1 ht hvm hw hB hz1 hk1 hS => kk u H1 locs1 hw (pback C hP ht hB hS))
def FSM : List Value := [.int 0, .int 0, .int 0, .null, .null, .int 0, .null, .null, .null, .null, .int 0, .null, .null, .null, .null, .null, .null, .null, .null, .null, .null, .null, .null, .null, .null, .int 0, .int 0, .null, .null, .null, .null, .null, .null, .null, .int 0, .int 0, .int 0, .int 0, .null, .int 0, .int 0, .null, .null, .int 0, .null, .null, .null, .null, .null, .null, .null, .null, .null, .null, .null, .null, .null, .null, .null, .null, .int 0, .null, .null, .null, .null, .null, .null, .null, .null]
theorem FSM_ok (j : Nat) (hj : j < 69) : defaultValue (tyX11 j) = vp_V FSM j := by
  match j, hj with
  | 0, _ => exact rfl
  | 1, _ => exact rfl
  | 2, _ => exact rfl
  | 3, _ => exact rfl
  | 4, _ => exact rfl
  | 5, _ => exact rfl
  | 6, _ => exact rfl
  | 7, _ => exact rfl
  | 8, _ => exact rfl
  | 9, _ => exact rfl
  | 10, _ => exact rfl
  | 11, _ => exact rfl
  | 12, _ => exact rfl
  | 13, _ => exact rfl
  | 14, _ => exact rfl
  | 15, _ => exact rfl
  | 16, _ => exact rfl
  | 17, _ => exact rfl
  | 18, _ => exact rfl
  | 19, _ => exact rfl
  | 20, _ => exact rfl
  | 21, _ => exact rfl
  | 22, _ => exact rfl
  | 23, _ => exact rfl
  | 24, _ => exact rfl
  | 25, _ => exact rfl
  | 26, _ => exact rfl
  | 27, _ => exact rfl
  | 28, _ => exact rfl
  | 29, _ => exact rfl
  | 30, _ => exact rfl
  | 31, _ => exact rfl
  | 32, _ => exact rfl
  | 33, _ => exact rfl
  | 34, _ => exact rfl
  | 35, _ => exact rfl
  | 36, _ => exact rfl
  | 37, _ => exact rfl
  | 38, _ => exact rfl
  | 39, _ => exact rfl
  | 40, _ => exact rfl
  | 41, _ => exact rfl
  | 42, _ => exact rfl
  | 43, _ => exact rfl
  | 44, _ => exact rfl
  | 45, _ => exact rfl
  | 46, _ => exact rfl
  | 47, _ => exact rfl
  | 48, _ => exact rfl
  | 49, _ => exact rfl
  | 50, _ => exact rfl
  | 51, _ => exact rfl
  | 52, _ => exact rfl
  | 53, _ => exact rfl
  | 54, _ => exact rfl
  | 55, _ => exact rfl
  | 56, _ => exact rfl
  | 57, _ => exact rfl
  | 58, _ => exact rfl
  | 59, _ => exact rfl
  | 60, _ => exact rfl
  | 61, _ => exact rfl
  | 62, _ => exact rfl
  | 63, _ => exact rfl
  | 64, _ => exact rfl
  | 65, _ => exact rfl
  | 66, _ => exact rfl
  | 67, _ => exact rfl
  | 68, _ => rfl
  | j + 69, h => exact absurd h (by omega)
set_option maxHeartbeats 8000000 in
set_option maxRecDepth 100000 in
theorem whole_start_of {Inv : CS → MS → Prop} (hI : Inv tInit σ0) (hstep : StepOk Inv) {p : Program} {e : Env} {s : State} {m : MethodId} {below : List Frame} {meth : Method} {c : Code} (l : Launch) {b L : Nat} {xs : Nat → Int32} (hL : L ≤ 3072) (C0 : lw_At p s m meth c b L xs) : W p l e room_1 s m #[Value.ref b] below meth c s.heap [] 0 0 (lw_Z below #[Value.ref b] s) (entryFrame m ([Value.ref b] : List Value).toArray 4) := by
  obtain ⟨hx, hb, hr, hml, hown, hts0, hX, hbl, hlocks, hgv⟩ := C0
  obtain ⟨D, Z, hK⟩ := known_K hts0
  obtain ⟨E, hE⟩ := known_E hts0 hgv
  have hN := known_N hts0
  have hts : ∀ w ∈ TB, w.before #[Value.ref b] s = true := fun w h => hts0 w (tb_in h)
  have C : CC p s m #[Value.ref b] c code 4 RL D Z E (lA s) := ⟨⟨hx, hb, hml, hown, hts⟩, hK, hE, fun q h => h⟩
  have hl := lv_entry ([.ref b]) (n := 4) (Nat.le_of_ble_eq_true rfl)
  rw [lg_entry_eq]
  generalize (lg_sl ([.ref b]) ++ List.replicate (4 - (lg_sl ([.ref b])).length) Slot.unset).toArray = ls at hl ⊢
  have hl : lv_has ls 4 [(0, .ref b)] := hl
  have hP0 : PH D (lA s) s.heap [] (fun _ => .inr (0, [])) s.heap [] := ⟨fun k q h => by simp [va_pl] at h, ⟨fun i j p q h => by simp [va_pl] at h, fun k q h => by simp [va_pl] at h⟩, va_S.rf⟩
  refine pnewo C hP0 (ci := 10) (N := 13) (T := TX10) rfl ixX10 tyX10_ok wd_25 wd_26 wd_1 (fs := [.null, .null, .null, .null, .null, .null, .null, .null, .null, .null, .null, .int 0, .int 0]) (fun j hj => by match j, hj with | 0, _ => rfl | 1, _ => rfl | 2, _ => rfl | 3, _ => rfl | 4, _ => rfl | 5, _ => rfl | 6, _ => rfl | 7, _ => rfl | 8, _ => rfl | 9, _ => rfl | 10, _ => rfl | 11, _ => rfl | 12, _ => rfl) (Nat.le_of_ble_eq_true rfl) (Nat.le_of_ble_eq_true rfl) dL_law_0 (fun a H hq hH => ?_)
  refine lv_dup hx hb dL_law_3 rfl ?_
  have ha : a ∈ ([] ++ [a] : List Nat) := List.mem_cons_self
  have hfa : va_up (fun _ => (.inr (0, []) : va_E)) a (.inr (10, [.null, .null, .null, .null, .null, .null, .null, .null, .null, .null, .null, .int 0, .int 0])) a = .inr (10, [.null, .null, .null, .null, .null, .null, .null, .null, .null, .null, .null, .int 0, .int 0]) := if_pos rfl
  refine pcIvW C hN hH [] (c_I_PT l D Z E _ _ ha hfa) (cwTI 0 hts wd_27 wd_28 wd_1 wd_29 rfl rfl rfl (by decide +kernel) ⟨(Nat.le_of_ble_eq_true rfl), (Nat.le_of_ble_eq_true rfl)⟩) rfl hl.1 rfl (Nat.le_of_ble_eq_true rfl) dL_law_4 ⟨(Nat.le_of_ble_eq_true rfl), (Nat.le_of_ble_eq_true rfl)⟩ (fun u H locs hu hH => ?_)
  obtain ⟨ad, had, hR⟩ := CR_init hu
  obtain ⟨L1, f1⟩ := u
  refine lv_astore_n (i := 1) (lv' := [(1, .ref a), (0, .ref b)]) hx hb dL_law_7 rfl hl (by decide) rfl (fun ls hl => ?_)
  refine pnewo C hH (ci := 11) (N := 69) (T := TX11) rfl ixX11 tyX11_ok wd_1024 wd_1025 wd_14 (fs := FSM) (fun j hj => FSM_ok j hj) (Nat.le_of_ble_eq_true rfl) (Nat.le_of_ble_eq_true rfl) dL_law_8 (fun a2 H hq2 hH2 => ?_)
  refine lv_dup hx hb dL_law_11 rfl ?_
  have ha2 : a2 ∈ (L1 ++ [a2] : List Nat) := List.mem_append_right _ List.mem_cons_self
  refine pcIv C hH2 [] (c_I_M l D Z E _ _ ha2 (if_pos rfl)) (cwTI 0 hts wd_1026 wd_1027 wd_14 wd_1028 rfl rfl rfl (by decide +kernel) ⟨(Nat.le_of_ble_eq_true rfl), (Nat.le_of_ble_eq_true rfl)⟩) rfl hl.1 rfl (Nat.le_of_ble_eq_true rfl) dL_law_12 ⟨(Nat.le_of_ble_eq_true rfl), (Nat.le_of_ble_eq_true rfl)⟩ (fun u H locs hu hH3 => ?_)
  obtain ⟨hs1, hs2, bb, hbb, hPm, hDm, hap⟩ := mi_world2 hu hH3.1 hH3.2.1
  have hin : ∀ x ∈ L1, x ∈ u.1 ∧ u.2 x = f1 x ∧ x ≠ a2 := fun x hx1 => by
    have hne : x ≠ a2 := fun e => hq2 (e ▸ hx1)
    refine ⟨hs1 x (List.mem_append_left _ hx1), ?_, hne⟩
    rw [hs2 x (List.mem_append_left _ hx1) hne]
    exact if_neg hne
  have hLH : LH D Z E ad bb s tInit σ0 H locs := by
    refine ⟨L1, f1, ⟨fun k q hk => ?_, hH.2.1, hH3.2.2⟩, hR, hPm, hDm, fun q hq hm => ?_⟩
    · have hmem := List.mem_of_getElem? hk
      obtain ⟨x, hx1, rfl⟩ := List.mem_map.mp hmem
      obtain ⟨k1, k2, -⟩ := hin x hx1
      obtain ⟨i, hi⟩ := va_pl_get (X := []) (f := u.2) k1
      rw [k2] at hi
      exact hH3.1 i _ hi
    · rcases hap q hm with h | h
      · exact (hin q hq).2.2 h
      · exact h (List.mem_append_left _ hq)
  refine lv_astore_n (i := 2) (lv' := [(2, .ref a2), (1, .ref a), (0, .ref b)]) hx hb dL_law_15 rfl hl (by decide) rfl (fun ls hl => ?_)
  refine lv_iconst (v := 0) hx hb dL_law_16 (by decide) ?_
  refine lv_istore_n (i := 3) (lv' := [(3, .int 0), (2, .ref a2), (1, .ref a), (0, .ref b)]) hx hb dL_law_17 rfl hl (by decide) rfl (fun ls hl => ?_)
  have hl4 : lv_has ls 4 [(0, .ref b), (1, .ref a), (2, .ref (bb 69)), (3, .int (nI 0))] := by
    rw [hbb]
    exact lv_sub hl [3, 2, 1, 0] rfl
  exact law_loop hL C hX hbl hr hlocks hstep 512 0 (by omega) (by omega) tInit σ0 hI ad a had H locs _ _ hLH (by omega) (by omega) ls hl4
