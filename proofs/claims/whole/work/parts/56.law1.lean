/-! the law: both worlds side by side, and calls into them (gen/law1.txt) -/
def lA (s : State) : Nat → Prop := fun q => s.heap.size ≤ q
def LH (D : va_G) (Z : Nat → ClassId) (E : Nat → Nat) (ad : Nat → Nat → Nat) (b : Nat → Nat) (s : State) (t : CS) (σ : MS) (H : Heap) (locs : List Loc) : Prop := ∃ (L : List Nat) (f : Nat → va_E), PH D (lA s) s.heap L f H locs ∧ CR Z (E 0) ad t L f ∧ va_P D vwCl (mW Z b σ) H ∧ va_D (lA s) (mW Z b σ) ∧ ∀ q ∈ L, q ∉ mAd b
theorem mW_mem {Z : Nat → ClassId} {b : Nat → Nat} {σ : MS} {k : Nat} {x : Nat × va_E} (h : (mW Z b σ)[k]? = some x) : x.1 ∈ mAd b := by
  rw [← mW_ad Z b σ]
  exact List.mem_map.mpr ⟨x, List.mem_of_getElem? h, rfl⟩
theorem mW_lt {D : va_G} {Z : Nat → ClassId} {b : Nat → Nat} {σ : MS} {H : Heap} (h : va_P D vwCl (mW Z b σ) H) {q : Nat} (hq : q ∈ mAd b) : q < H.size := by
  rw [← mW_ad Z b σ] at hq
  obtain ⟨x, hx, rfl⟩ := List.mem_map.mp hq
  obtain ⟨k, hk⟩ := List.getElem?_of_mem hx
  exact (h k x hk).lt
theorem pl_mem {L : List Nat} {f : Nat → va_E} {k : Nat} {x : Nat × va_E} (h : (va_pl L f)[k]? = some x) : x.1 ∈ L := by
  have := List.mem_of_getElem? h
  obtain ⟨a, ha, rfl⟩ := List.mem_map.mp this
  exact ha
section LawRows
variable {p : Program} {l : Launch} {e : Env} {s : State} {m : MethodId} {args : Array Value} {below : List Frame} {meth : Method} {c : Code} {H : Heap} {locs : List Loc} {cells slots : Nat} {Q : State → Prop} {pc nL : Nat} {ls : Array Slot} {rest : List Value} {D : va_G} {Z : Nat → ClassId} {E : Nat → Nat} {ad : Nat → Nat → Nat} {b : Nat → Nat} {t : CS} {σ : MS} {cc : ByteArray} {own : String} {idx : Nat} {R : Room}
theorem LH.S (h : LH D Z E ad b s t σ H locs) : va_S (lA s) s.heap H locs := by
  obtain ⟨L, f, hP, -⟩ := h
  exact hP.2.2
theorem lcC (C : CC p s m args c cc nL own D Z E (lA s)) (hH : LH D Z E ad b s t σ H locs) {y : MethodName} {rm : Room} {post : Int32 → CS → Prop} {B : (Nat → Prop) → CS → State → Prop} (hB : ∀ A' u U, B A' u U → cPostN D Z E (ad 5 0) A' u U) {bytes : ByteArray} {maxL n mc ms : Nat} {ret : Option FieldType} (As : List Value) {st : List Value}
    (hM : ∀ L sz, Met l y (Wd y bytes maxL ret) rm (va_Pc (.ref (ad 5 0) :: As) (cPre D Z E ad L sz t)) (va_Qi post (B (cAs L sz)) (cAs L sz)) mc ms (cAs L sz)) (cw : CallW R s args own RX10 idx y bytes maxL ret (Wd y bytes maxL ret) rm mc ms n) (hn : As.length = n) (hsz : ls.size = nL) (hst : st = As.reverse ++ .ref (ad 5 0) :: rest) (hro : (rest.map fun v => v.category).sum ≤ 8) (hdg : decode cc pc = .ok (.invokevirtual idx, 3)) (hc : cells + mc ≤ R.cells ∧ slots + ms ≤ R.slots)
    (kk : ∀ (r : Int32) (t1 : CS) (ad1 : Nat → Nat → Nat) (H1 : Heap) (locs1 : List Loc), post r t1 → ad1 5 0 = ad 5 0 → LH D Z E ad1 b s t1 σ H1 locs1 → W p l e R s m args below meth c H1 locs1 (cells + mc) (slots + ms) Q (F0 m (pc + 3) ls (.int r :: rest))) : W p l e R s m args below meth c H locs cells slots Q (F0 m pc ls st) := by
  subst hst
  obtain ⟨L, f, hP, hR, hPm, hDm, hdis⟩ := hH
  obtain ⟨a1, a2⟩ := hR.1 5 0 (by decide) (show 0 < 5 by decide)
  refine va_calli (va_runV (As := As) (rest := rest) C.1 (hM L H.size) cw ⟨cPre_blind _ _, precv C hP a1 a2 (q := (RX10, TX10, 13)) rfl, fun U hU hW => cstart C hP hR _ U hU hW⟩ rfl hn hsz rfl (lv_room hro) hdg hc) hP.2.2 (fun q _ h => cAs_sub C.2.2.2 hP.2.1 hP.2.2 q h) (cAs_sub C.2.2.2 hP.2.1 hP.2.2) (fun r u t1 H1 locs1 ht hvm hw hBu hz1 hk1 hS => ?_)
  obtain ⟨ad1, had, hK1, L1, f1, hP1, hD1, hR1⟩ := hB _ _ _ hBu
  rw [ht] at hP1
  refine kk r u ad1 H1 locs1 hw had ⟨L1, f1, ⟨hP1, hD1.weaken (fun _ _ _ h => cAs_sub C.2.2.2 hP.2.1 hP.2.2 _ h), hS⟩, hR1, hPm.kept (fun k x hx => ?_), hDm, fun q hq hm => ?_⟩
  · have hxm := mW_mem hx
    exact hk1 x.1 (mW_lt hPm hxm) (fun hA => hA.elim (fun h => hdis _ h hxm) (fun h => absurd (mW_lt hPm hxm) (Nat.not_lt.mpr h)))
  · rcases pl_D hD1 hq with h | h
    · exact hdis q h hm
    · exact absurd (mW_lt hPm hm) (Nat.not_lt.mpr h)
theorem lcM (C : CC p s m args c cc nL own D Z E (lA s)) (hH : LH D Z E ad b s t σ H locs) {y : MethodName} {rm : Room} {post : Int32 → MS → Prop} {bytes : ByteArray} {maxL n : Nat} {ret : Option FieldType} (As : List Value) {st : List Value}
    (hM : ∀ sz, Met l y (Wd y bytes maxL ret) rm (va_Pc (.ref (b 69) :: As) (mPre D Z b sz σ)) (va_Qi post (mPost D Z b) (mA b sz)) 0 0 (mA b sz)) (cw : CallW R s args own RX11 idx y bytes maxL ret (Wd y bytes maxL ret) rm 0 0 n) (hn : As.length = n) (hsz : ls.size = nL) (hst : st = As.reverse ++ .ref (b 69) :: rest) (hro : (rest.map fun v => v.category).sum ≤ 8) (hdg : decode cc pc = .ok (.invokevirtual idx, 3)) (hc : cells ≤ R.cells ∧ slots ≤ R.slots)
    (kk : ∀ (r : Int32) (σ1 : MS) (H1 : Heap) (locs1 : List Loc), post r σ1 → LH D Z E ad b s t σ1 H1 locs1 → W p l e R s m args below meth c H1 locs1 cells slots Q (F0 m (pc + 3) ls (.int r :: rest))) : W p l e R s m args below meth c H locs cells slots Q (F0 m pc ls st) := by
  subst hst
  obtain ⟨L, f, hP, hR, hPm, hDm, hdis⟩ := hH
  have hsub : ∀ q, mA b H.size q → lA s q := fun q h => h.elim (fun h => by
    rw [← mW_ad Z b σ] at h
    obtain ⟨x, hx, rfl⟩ := List.mem_map.mp h
    obtain ⟨k, hk⟩ := List.getElem?_of_mem hx
    exact hDm.2 k x hk) (fun h => Nat.le_trans hP.2.2.1 h)
  refine va_calli (va_runV (As := As) (rest := rest) C.1 (hM H.size) cw ⟨fun a U g mk q => ?_, va_recv C.2.1 hPm (ci := 11) (q0 := 0) rfl rfl, fun U hU hW => ⟨rfl, by rw [hU], by rw [hU]; exact hPm, va_K.moved hW.alike C.2.1, hDm.weaken (fun _ _ _ _ => trivial)⟩⟩ rfl hn hsz rfl (lv_room hro) hdg hc) hP.2.2 (fun q _ h => hsub q h) hsub (fun r u t1 H1 locs1 ht hvm hw hBu hz1 hk1 hS => ?_)
  · obtain ⟨q0, q1, qP, qK, qD⟩ := q
    exact ⟨q0, q1, qP, va_K.moved (u := U) (U := U.calling g mk a) (Vm.Alike.refl U.vm) qK, qD⟩
  · obtain ⟨hP1, hK1⟩ := hBu
    rw [ht] at hP1
    refine kk r u H1 locs1 hw ⟨L, f, ⟨hP.1.kept (fun k x hx => ?_), hP.2.1, hS⟩, hR, hP1, va_D_addr hDm rfl (fun q hq => ?_), hdis⟩
    · have hxL := pl_mem hx
      have hlt := (hP.1 k x hx).lt
      exact hk1 x.1 hlt (fun hA => hA.elim (fun h => hdis _ hxL h) (fun h => absurd hlt (Nat.not_lt.mpr h)))
    · obtain ⟨x, hx, rfl⟩ := List.mem_map.mp hq
      obtain ⟨k, hk⟩ := List.getElem?_of_mem hx
      exact hDm.2 k x hk
end LawRows
theorem toN {D : va_G} {Z : Nat → ClassId} {E : Nat → Nat} {ad : Nat → Nat → Nat} (A' : Nat → Prop) (u : CS) (U : State) (h : cPost D Z E ad A' u U) : cPostN D Z E (ad 5 0) A' u U := ⟨ad, rfl, h⟩
