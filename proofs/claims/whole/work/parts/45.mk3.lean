/-! making objects: what a constructor leaves (gen/mk3.txt) -/
/-- from the pool (L0, f0) to (L, f): only a and new cells differ; es: what is known of a and the new ones -/
def FX (L0 : List Nat) (f0 : Nat → va_E) (a : Nat) (L : List Nat) (f : Nat → va_E) (es : List (Nat × va_E)) : Prop :=
  (∀ x ∈ L0, x ∈ L) ∧ (∀ x ∈ L0, x ≠ a → f x = f0 x) ∧ (∀ (i : Nat) b e, es[i]? = some (b, e) → b ∈ L ∧ f b = e) ∧ (∀ (i j : Nat) b e e', es[i]? = some (b, e) → es[j]? = some (b, e') → i = j) ∧ (∀ (i : Nat) b e, es[i]? = some (b, e) → b ≠ a → b ∉ L0)
theorem FX.init {L : List Nat} {f : Nat → va_E} {a : Nat} {e : va_E} (ha : a ∈ L) (hf : f a = e) : FX L f a L f [(a, e)] := by
  have h1 : ∀ (i : Nat) b e', [(a, e)][i]? = some (b, e') → i = 0 ∧ b = a ∧ e' = e := fun (i : Nat) b e' h => by
    match i, h with
    | 0, h => cases h; exact ⟨rfl, rfl, rfl⟩
  refine ⟨fun _ h => h, fun _ _ _ => rfl, fun i b e' h => ?_, fun i j b e1 e2 h h' => ?_, fun i b e' h hb => absurd (h1 i b e' h).2.1 hb⟩
  · obtain ⟨-, rfl, rfl⟩ := h1 i b e' h
    exact ⟨ha, hf⟩
  · rw [(h1 i b e1 h).1, (h1 j b e2 h').1]
theorem FX.set {L0 L : List Nat} {f0 f : Nat → va_E} {a i b : Nat} {es : List (Nat × va_E)} {e0 e : va_E} (h : FX L0 f0 a L f es) (hi : es[i]? = some (b, e0)) : FX L0 f0 a L (va_up f b e) (es.set i (b, e)) := by
  obtain ⟨h1, h2, h3, h4, h5⟩ := h
  have hlt := (List.getElem?_eq_some_iff.mp hi).1
  have g : ∀ (j : Nat) c x, (es.set i (b, e))[j]? = some (c, x) → (j = i ∧ c = b ∧ x = e) ∨ (j ≠ i ∧ es[j]? = some (c, x)) := fun j c x hx => by
    by_cases hj : j = i
    · subst hj
      rw [List.getElem?_set_self hlt] at hx
      cases hx
      exact Or.inl ⟨rfl, rfl, rfl⟩
    · rw [List.getElem?_set_ne (Ne.symm hj)] at hx
      exact Or.inr ⟨hj, hx⟩
  have g2 : ∀ (j : Nat) c x, (es.set i (b, e))[j]? = some (c, x) → ∃ x', es[j]? = some (c, x') := fun j c x hx => by
    rcases g j c x hx with ⟨rfl, rfl, rfl⟩ | ⟨_, h⟩
    · exact ⟨_, hi⟩
    · exact ⟨_, h⟩
  refine ⟨h1, fun x hx hxa => ?_, fun j c x hx => ?_, fun j k c x x' hx hx' => ?_, fun j c x hx hc => ?_⟩
  · have hxb : x ≠ b := fun q => by
      subst q
      exact h5 i _ _ hi hxa hx
    rw [va_up_ne _ _ hxb]
    exact h2 x hx hxa
  · rcases g j c x hx with ⟨rfl, rfl, rfl⟩ | ⟨hj, h⟩
    · exact ⟨(h3 _ _ _ hi).1, va_up_self _ _ _⟩
    · have hcb : c ≠ b := fun q => hj (h4 j i c x e0 h (q ▸ hi))
      rw [va_up_ne _ _ hcb]
      exact h3 j c x h
  · obtain ⟨y, hy⟩ := g2 j c x hx
    obtain ⟨z, hz⟩ := g2 k c x' hx'
    exact h4 j k c y z hy hz
  · obtain ⟨y, hy⟩ := g2 j c x hx
    exact h5 j c y hy hc
theorem app_at {α : Type} {es ns : List α} {i : Nat} {x : α} (h : (es ++ ns)[i]? = some x) : es[i]? = some x ∨ (es.length ≤ i ∧ ns[i - es.length]? = some x) := by
  by_cases hi : i < es.length
  · rw [List.getElem?_append_left hi] at h
    exact Or.inl h
  · rw [List.getElem?_append_right (Nat.le_of_not_lt hi)] at h
    exact Or.inr ⟨Nat.le_of_not_lt hi, h⟩
/-- a constructor of the tracked b was called -/
theorem FX.call {L0 L L' : List Nat} {f0 f f' : Nat → va_E} {a i b : Nat} {es ns : List (Nat × va_E)} {e0 e : va_E} (h : FX L0 f0 a L f es) (hi : es[i]? = some (b, e0)) (hc : FX L f b L' f' ((b, e) :: ns)) : FX L0 f0 a L' f' (es.set i (b, e) ++ ns) := by
  obtain ⟨h1, h2, h3, h4, h5⟩ := h
  obtain ⟨c1, c2, c3, c4, c5⟩ := hc
  have hlt := (List.getElem?_eq_some_iff.mp hi).1
  have hnew : ∀ (j : Nat) c x, ns[j]? = some (c, x) → c ≠ b ∧ c ∉ L := fun j c x hx => by
    have h0 : ((b, e) :: ns)[j + 1]? = some (c, x) := hx
    have hcb : c ≠ b := fun q => by
      subst q
      exact absurd (c4 (j + 1) 0 _ _ _ h0 rfl) (by omega)
    exact ⟨hcb, c5 (j + 1) c x h0 hcb⟩
  have g : ∀ (j : Nat) c x, (es.set i (b, e))[j]? = some (c, x) → (j = i ∧ c = b ∧ x = e) ∨ (j ≠ i ∧ es[j]? = some (c, x)) := fun j c x hx => by
    by_cases hj : j = i
    · subst hj
      rw [List.getElem?_set_self hlt] at hx
      cases hx
      exact Or.inl ⟨rfl, rfl, rfl⟩
    · rw [List.getElem?_set_ne (Ne.symm hj)] at hx
      exact Or.inr ⟨hj, hx⟩
  have g2 : ∀ (j : Nat) c x, (es.set i (b, e))[j]? = some (c, x) → ∃ x', es[j]? = some (c, x') := fun j c x hx => by
    rcases g j c x hx with ⟨rfl, rfl, rfl⟩ | ⟨_, h⟩
    · exact ⟨_, hi⟩
    · exact ⟨_, h⟩
  refine ⟨fun x hx => c1 x (h1 x hx), fun x hx hxa => ?_, fun j c x hx => ?_, fun j k c x x' hx hx' => ?_, fun j c x hx hc => ?_⟩
  · have hxb : x ≠ b := fun q => by
      subst q
      exact h5 i _ _ hi hxa hx
    rw [c2 x (h1 x hx) hxb]
    exact h2 x hx hxa
  · rcases app_at hx with hx | ⟨hj, hx⟩
    · rcases g j c x hx with ⟨rfl, rfl, rfl⟩ | ⟨hj, h⟩
      · exact c3 0 _ _ rfl
      · have hcb : c ≠ b := fun q => hj (h4 j i c x e0 h (q ▸ hi))
        obtain ⟨k1, k2⟩ := h3 j c x h
        exact ⟨c1 c k1, (c2 c k1 hcb).trans k2⟩
    · exact c3 (j - (es.set i (b, e)).length + 1) c x hx
  · rcases app_at hx with hx | ⟨hj, hx⟩
    · obtain ⟨y, hy⟩ := g2 j c x hx
      rcases app_at hx' with hx' | ⟨hk, hx'⟩
      · obtain ⟨z, hz⟩ := g2 k c x' hx'
        exact h4 j k c y z hy hz
      · exact absurd (h3 j c y hy).1 (hnew _ c x' hx').2
    · rcases app_at hx' with hx' | ⟨hk, hx'⟩
      · obtain ⟨z, hz⟩ := g2 k c x' hx'
        exact absurd (h3 k c z hz).1 (hnew _ c x hx).2
      · have := c4 (j - (es.set i (b, e)).length + 1) (k - (es.set i (b, e)).length + 1) c x x' hx hx'
        omega
  · rcases app_at hx with hx | ⟨hj, hx⟩
    · obtain ⟨y, hy⟩ := g2 j c x hx
      exact h5 j c y hy hc
    · exact fun q => (hnew _ c x hx).2 (h1 c q)
theorem FX.new {L0 L : List Nat} {f0 f : Nat → va_E} {a q : Nat} {es : List (Nat × va_E)} {e : va_E} (h : FX L0 f0 a L f es) (hq : q ∉ L) : FX L0 f0 a (L ++ [q]) (va_up f q e) (es ++ [(q, e)]) := by
  obtain ⟨h1, h2, h3, h4, h5⟩ := h
  have hn : ∀ (j : Nat) c x, [(q, e)][j]? = some (c, x) → j = 0 ∧ c = q ∧ x = e := fun j c x hx => by
    match j, hx with
    | 0, h => cases h; exact ⟨rfl, rfl, rfl⟩
  refine ⟨fun x hx => List.mem_append_left _ (h1 x hx), fun x hx hxa => ?_, fun j c x hx => ?_, fun j k c x x' hx hx' => ?_, fun j c x hx hc => ?_⟩
  · have hxq : x ≠ q := fun r => hq (r ▸ h1 x hx)
    rw [va_up_ne _ _ hxq]
    exact h2 x hx hxa
  · rcases app_at hx with hx | ⟨hj, hx⟩
    · obtain ⟨k1, k2⟩ := h3 j c x hx
      have hcq : c ≠ q := fun r => hq (r ▸ k1)
      rw [va_up_ne _ _ hcq]
      exact ⟨List.mem_append_left _ k1, k2⟩
    · obtain ⟨-, rfl, rfl⟩ := hn _ c x hx
      exact ⟨List.mem_append_right _ (List.mem_singleton.mpr rfl), va_up_self _ _ _⟩
  · rcases app_at hx with hx | ⟨hj, hx⟩
    · rcases app_at hx' with hx' | ⟨hk, hx'⟩
      · exact h4 j k c x x' hx hx'
      · obtain ⟨-, r, -⟩ := hn _ c x' hx'
        exact absurd (r ▸ (h3 j c x hx).1) hq
    · rcases app_at hx' with hx' | ⟨hk, hx'⟩
      · obtain ⟨-, r, -⟩ := hn _ c x hx
        exact absurd (r ▸ (h3 k c x' hx').1) hq
      · have := (hn _ c x hx).1
        have := (hn _ c x' hx').1
        omega
  · rcases app_at hx with hx | ⟨hj, hx⟩
    · exact h5 j c x hx hc
    · obtain ⟨-, rfl, rfl⟩ := hn _ c x hx
      exact fun r => hq (h1 _ r)
theorem FX.new0 {L : List Nat} {f : Nat → va_E} {q : Nat} {e : va_E} (hq : q ∉ L) : FX L f q (L ++ [q]) (va_up f q e) [(q, e)] := by
  have hn : ∀ (j : Nat) c x, [(q, e)][j]? = some (c, x) → j = 0 ∧ c = q ∧ x = e := fun j c x hx => by
    match j, hx with
    | 0, h => cases h; exact ⟨rfl, rfl, rfl⟩
  refine ⟨fun x hx => List.mem_append_left _ hx, fun x _ hxa => va_up_ne _ _ hxa, fun j c x hx => ?_, fun j k c x x' hx hx' => ?_, fun j c x hx hc => absurd (hn j c x hx).2.1 hc⟩
  · obtain ⟨-, rfl, rfl⟩ := hn j c x hx
    exact ⟨List.mem_append_right _ (List.mem_singleton.mpr rfl), va_up_self _ _ _⟩
  · rw [(hn j c x hx).1, (hn k c x' hx').1]
/-- an element was put into the tracked list b, whose row was d (tracked) or none yet -/
theorem FX.add0 {L0 L L' : List Nat} {f0 f f' : Nat → va_E} {a i b d : Nat} {es : List (Nat × va_E)} {e0 e r : va_E} (h : FX L0 f0 a L f es) (hi : es[i]? = some (b, e0)) (hL : ∀ x ∈ L, x ∈ L') (hf : ∀ x ∈ L, x ≠ b → f' x = f x) (hb : f' b = e) (hd : d ∈ L') (hdf : f' d = r) (hdn : d ∉ L) : FX L0 f0 a L' f' (es.set i (b, e) ++ [(d, r)]) := by
  refine h.call hi ⟨hL, hf, fun j c x hx => ?_, fun j k c x x' hx hx' => ?_, fun j c x hx hc => ?_⟩
  all_goals have hbL := (h.2.2.1 i b e0 hi).1
  · match j, hx with
    | 0, hx => cases hx; exact ⟨hL _ hbL, hb⟩
    | 1, hx => cases hx; exact ⟨hd, hdf⟩
  · have hbd : b ≠ d := fun q => hdn (q ▸ hbL)
    match j, k, hx, hx' with
    | 0, 0, _, _ => rfl
    | 1, 1, _, _ => rfl
    | 0, 1, hx, hx' => cases hx; cases hx'; exact absurd rfl hbd
    | 1, 0, hx, hx' => cases hx; cases hx'; exact absurd rfl hbd
  · match j, hx with
    | 0, hx => cases hx; exact absurd rfl hc
    | 1, hx => cases hx; exact hdn
theorem FX.add1 {L0 L L' : List Nat} {f0 f f' : Nat → va_E} {a i k b d d' : Nat} {es : List (Nat × va_E)} {e0 e r0 r : va_E} (h : FX L0 f0 a L f es) (hi : es[i]? = some (b, e0)) (hk : es[k]? = some (d, r0)) (hik : i ≠ k) (hda : d ≠ a) (hL : ∀ x ∈ L, x ∈ L') (hf : ∀ x ∈ L, x ≠ b → x ≠ d → f' x = f x) (hb : f' b = e) (hd : d' ∈ L') (hdf : f' d' = r) (hdn : d' = d ∨ d' ∉ L) : FX L0 f0 a L' f' ((es.set i (b, e)).set k (d', r)) := by
  obtain ⟨h1, h2, h3, h4, h5⟩ := h
  have hil := (List.getElem?_eq_some_iff.mp hi).1
  have hkl := (List.getElem?_eq_some_iff.mp hk).1
  have g : ∀ (j : Nat) c x, ((es.set i (b, e)).set k (d', r))[j]? = some (c, x) → (j = k ∧ c = d' ∧ x = r) ∨ (j ≠ k ∧ j = i ∧ c = b ∧ x = e) ∨ (j ≠ k ∧ j ≠ i ∧ es[j]? = some (c, x)) := fun j c x hx => by
    by_cases hj : j = k
    · subst hj
      rw [List.getElem?_set_self (by rw [List.length_set]; exact hkl)] at hx
      cases hx
      exact Or.inl ⟨rfl, rfl, rfl⟩
    · rw [List.getElem?_set_ne (Ne.symm hj)] at hx
      by_cases hji : j = i
      · subst hji
        rw [List.getElem?_set_self hil] at hx
        cases hx
        exact Or.inr (Or.inl ⟨hj, rfl, rfl, rfl⟩)
      · rw [List.getElem?_set_ne (Ne.symm hji)] at hx
        exact Or.inr (Or.inr ⟨hj, hji, hx⟩)
  have hbd : b ≠ d := fun q => hik (h4 i k b e0 r0 hi (q ▸ hk))
  have hin : ∀ (j : Nat) c x, es[j]? = some (c, x) → j ≠ k → c ≠ d' := fun j c x hx hj q => by
    rcases hdn with rfl | hdn
    · exact hj (h4 j k c x r0 hx (q ▸ hk))
    · exact hdn (q ▸ (h3 j c x hx).1)
  refine ⟨fun x hx => hL x (h1 x hx), fun x hx hxa => ?_, fun j c x hx => ?_, fun j l c x x' hx hx' => ?_, fun j c x hx hc => ?_⟩
  · have hxb : x ≠ b := fun q => by
      subst q
      exact h5 i _ _ hi hxa hx
    have hxd : x ≠ d := fun q => by
      subst q
      exact h5 k _ _ hk hxa hx
    rw [hf x (h1 x hx) hxb hxd]
    exact h2 x hx hxa
  · rcases g j c x hx with ⟨rfl, rfl, rfl⟩ | ⟨_, rfl, rfl, rfl⟩ | ⟨hj, hji, h⟩
    · exact ⟨hd, hdf⟩
    · exact ⟨hL _ (h3 _ _ _ hi).1, hb⟩
    · obtain ⟨k1, k2⟩ := h3 j c x h
      exact ⟨hL c k1, (hf c k1 (fun q => hji (h4 j i c x e0 h (q ▸ hi))) (fun q => hj (h4 j k c x r0 h (q ▸ hk)))).trans k2⟩
  · rcases g j c x hx with ⟨rfl, rfl, rfl⟩ | ⟨hjk, rfl, rfl, rfl⟩ | ⟨hj, hji, h⟩
    · rcases g l _ x' hx' with ⟨rfl, _, _⟩ | ⟨hlk, rfl, q, _⟩ | ⟨hl, _, h'⟩
      · rfl
      · exact absurd q.symm (hin _ _ _ hi hlk)
      · exact absurd rfl (hin l _ x' h' hl)
    · rcases g l _ x' hx' with ⟨rfl, q, _⟩ | ⟨hlk, rfl, q, _⟩ | ⟨hl, _, h'⟩
      · exact absurd q (hin _ _ _ hi hjk)
      · rfl
      · exact h4 _ _ _ _ _ hi h'
    · rcases g l _ x' hx' with ⟨rfl, q, _⟩ | ⟨hlk, rfl, q, _⟩ | ⟨hl, _, h'⟩
      · exact absurd q (hin _ _ _ h hj)
      · exact h4 _ _ _ _ _ h (q ▸ hi)
      · exact h4 _ _ _ _ _ h h'
  · rcases g j c x hx with ⟨rfl, rfl, rfl⟩ | ⟨_, rfl, rfl, rfl⟩ | ⟨hj, hji, h⟩
    · rcases hdn with rfl | hdn
      · exact h5 _ _ _ hk hda
      · exact fun q => hdn (h1 _ q)
    · exact h5 _ _ _ hi hc
    · exact h5 j c x h hc
def zA (Z : Nat → ClassId) (n : Nat) : va_E := .inl (Z 1, n, .inl fun _ => 0)
section Mk3Rows
variable {p : Program} {l : Launch} {e : Env} {R : Room} {s : State} {m : MethodId} {args : Array Value} {below : List Frame} {meth : Method} {c : Code} {H : Heap} {locs : List Loc} {cells slots : Nat} {Q : State → Prop} {pc nL : Nat} {ls : Array Slot} {rest : List Value} {D : va_G} {Z : Nat → ClassId} {E : Nat → Nat} {ad : Nat → Nat → Nat} {t : CS} {A : Nat → Prop} {cc : ByteArray} {own : String} {L : List Nat} {f : Nat → va_E} {idx : Nat}
theorem zqi {U : State} {cA : ClassId} (h : va_K D vwCl (tysZ Z ++ [(cA, .int)]) U) : cA = Z 1 := by
  have e1 := (h.2 4 _ rfl).2
  have e2 := (h.2 1 _ rfl).2
  exact Option.some.inj (e1.symm.trans e2)
theorem pnewi (C : CC p s m args c cc nL own D Z E A) (hH : PH D A s.heap L f H locs) {n : Int32} (N : Nat) (hn : ¬ n < 0) (hN : n.toNatClampNeg = N) (hb : N * 4 ≤ 536870912) (hcells : cells + 1 ≤ R.cells) (hslots : slots + N ≤ R.slots) (hdg : decode cc pc = .ok (.newarray .int, 2))
    (kk : ∀ (q : Nat) (H1 : Heap), q ∉ L → PH D A s.heap (L ++ [q]) (va_up f q (zA Z N)) H1 locs → W p l e R s m args below meth c H1 locs (cells + 1) (slots + N) Q (F0 m (pc + 2) ls (.ref q :: rest))) : W p l e R s m args below meth c H locs cells slots Q (F0 m pc ls (.int n :: rest)) := by
  refine va_newa (atype := .int) C.1.1 C.1.2.1 (C.1.2.2.2.2 _ wd_179) rfl C.2.1 hH.1 hH.2.1 hH.2.2 C.2.2.2 (a0 := (N, .inl fun _ => 0)) (fun cA => rfl) hn hN hb hcells hslots hdg (fun q cA H1 k1 k2 k3 k4 => ?_)
  have e := zqi k1
  subst e
  have hq := pl_new k3
  have e2 := va_pl_push (L := L) (f := f) (a := q) (e := zA Z N) hq
  exact kk q H1 hq ⟨(show va_pl L f ++ [(q, zA Z N)] = _ from e2) ▸ k2, (show va_pl L f ++ [(q, zA Z N)] = _ from e2) ▸ k3, k4⟩
theorem prvX {mc ms : Nat} {L0 : List Nat} {f0 : Nat → va_E} {a : Nat} {post : P2 → Prop} (C : CC p s m args c cc nL own D Z E A) (hr : meth.sig.returnType = none) (hk : meth.locks = false) (hH : PH D A s.heap L f H locs) (h1 : cells ≤ mc) (h2 : slots ≤ ms) (hp : post (L, f)) (hdg : decode cc pc = .ok (.return_, 1)) : W p l e R s m args below meth c H locs cells slots (MQ below (va_Qv post (pPost D Z A) A) args s mc ms A) (F0 m pc ls []) := prv C hr hk hH h1 h2 hp hdg
end Mk3Rows
set_option maxHeartbeats 4000000 in
set_option maxRecDepth 100000 in
theorem c_I_AC (l : Launch) (D : va_G) (Z : Nat → ClassId) (E : Nat → Nat) (L : List Nat) (f : Nat → va_E) {a : Nat} (sz : Nat) : Met l yJxa1e45_init_da8c8 (Wd yJxa1e45_init_da8c8 cJxa1e45_init_da8c8 1 none) rmO (va_Pc [.ref a] (pPre D Z E L f sz)) (va_Qv (fun (u : P2) => u = (L, f)) (pPost D Z (cAs L sz)) (cAs L sz)) 0 0 (cAs L sz) := by
  refine pMetI (Qc := fun A => va_Qv (fun (u : P2) => u = (L, f)) (pPost D Z A) A) (by decide) rfl rfl _ (Nat.le_of_ble_eq_true rfl) (fun p e s m args below meth c A C hr hk hnm ls hl hH => ?_) sz
  obtain ⟨⟨hx, hb, hml, hown, hts⟩, hK⟩ := id C
  have hl : lv_has ls 1 [(0, .ref a)] := hl
  refine lv_aload_n hx hb dJxa1e45_init_da8c8_0 rfl (lv_at hl 0 rfl) ?_
  refine pobj C hl.1 wd_44 (Nat.le_refl _) (Nat.le_of_ble_eq_true rfl) (Nat.le_of_ble_eq_true rfl) dJxa1e45_init_da8c8_1 ?_
  exact prv C hr hk hH (Nat.zero_le _) (Nat.zero_le _) rfl dJxa1e45_init_da8c8_4
abbrev rmO2 : Room := { frames := 2, cells := 0, slots := 0, locals := 80 }
abbrev rmO3 : Room := { frames := 3, cells := 0, slots := 0, locals := 120 }
set_option maxHeartbeats 4000000 in
set_option maxRecDepth 100000 in
theorem c_I_AbL (l : Launch) (D : va_G) (Z : Nat → ClassId) (E : Nat → Nat) (L : List Nat) (f : Nat → va_E) {a : Nat} (ha : a ∈ L) (hf : f a = .inr (0, [.int 0, .null, .int 0])) (sz : Nat) : Met l yJxc12de_init_da8c8 (Wd yJxc12de_init_da8c8 cJxc12de_init_da8c8 1 none) rmO2 (va_Pc [.ref a] (pPre D Z E L f sz)) (va_Qv (fun (u : P2) => FX L f a u.1 u.2 [(a, .inr (0, [.int 0, .null, .int 0]))]) (pPost D Z (cAs L sz)) (cAs L sz)) 0 0 (cAs L sz) := by
  refine pMetI (Qc := fun A => va_Qv (fun (u : P2) => FX L f a u.1 u.2 [(a, .inr (0, [.int 0, .null, .int 0]))]) (pPost D Z A) A) (by decide) rfl rfl _ (Nat.le_of_ble_eq_true rfl) (fun p e s m args below meth c A C hr hk hnm ls hl hH => ?_) sz
  obtain ⟨⟨hx, hb, hml, hown, hts⟩, hK⟩ := id C
  have hl : lv_has ls 1 [(0, .ref a)] := hl
  refine lv_aload_n hx hb dJxc12de_init_da8c8_0 rfl (lv_at hl 0 rfl) ?_
  refine pcIv C hH [] (c_I_AC l D Z E L f) (cwTI 0 hts wd_41 wd_42 wd_2 wd_43 rfl rfl rfl (by decide +kernel) ⟨Nat.le_of_ble_eq_true rfl, Nat.le_of_ble_eq_true rfl⟩) rfl hl.1 rfl (Nat.le_of_ble_eq_true rfl) dJxc12de_init_da8c8_1 ⟨Nat.zero_le _, Nat.zero_le _⟩ (fun u H locs hu hH => ?_)
  subst hu
  refine lv_aload_n hx hb dJxc12de_init_da8c8_4 rfl (lv_at hl 0 rfl) ?_
  refine lv_iconst (v := 0) hx hb dJxc12de_init_da8c8_5 (by decide) ?_
  refine pp C hH ha hf (T := TJx4a65c) (N := 3) rfl ixJx4a65c tyJx4a65c tyJx4a65c_ok nmJx4a65c 0 (by decide) rfl wd_49 (fun _ h => h) pfI rfl rfl (Nat.le_of_ble_eq_true rfl) dJxc12de_init_da8c8_6 (fun H locs hH => ?_)
  exact prv C hr hk hH (Nat.zero_le _) (Nat.zero_le _) ((FX.init ha hf).set (i := 0) rfl) dJxc12de_init_da8c8_9
set_option maxHeartbeats 4000000 in
set_option maxRecDepth 100000 in
theorem c_I_AL (l : Launch) (D : va_G) (Z : Nat → ClassId) (E : Nat → Nat) (L : List Nat) (f : Nat → va_E) {a : Nat} (ha : a ∈ L) (hf : f a = .inr (0, [.int 0, .null, .int 0])) (sz : Nat) : Met l yJx4a65c_init_da8c8 (Wd yJx4a65c_init_da8c8 cJx4a65c_init_da8c8 1 none) rmO3 (va_Pc [.ref a] (pPre D Z E L f sz)) (va_Qv (fun (u : P2) => FX L f a u.1 u.2 [(a, .inr (0, [.int 0, .ref (E 0), .int 0]))]) (pPost D Z (cAs L sz)) (cAs L sz)) 0 0 (cAs L sz) := by
  refine pMetI (Qc := fun A => va_Qv (fun (u : P2) => FX L f a u.1 u.2 [(a, .inr (0, [.int 0, .ref (E 0), .int 0]))]) (pPost D Z A) A) (by decide) rfl rfl _ (Nat.le_of_ble_eq_true rfl) (fun p e s m args below meth c A C hr hk hnm ls hl hH => ?_) sz
  obtain ⟨⟨hx, hb, hml, hown, hts⟩, hK⟩ := id C
  have hl : lv_has ls 1 [(0, .ref a)] := hl
  refine lv_aload_n hx hb dJx4a65c_init_da8c8_0 rfl (lv_at hl 0 rfl) ?_
  refine pcIv C hH [] (c_I_AbL l D Z E L f ha hf) (cwTI 0 hts wd_38 wd_39 wd_3 wd_40 rfl rfl rfl (by decide +kernel) ⟨Nat.le_of_ble_eq_true rfl, Nat.le_of_ble_eq_true rfl⟩) rfl hl.1 rfl (Nat.le_of_ble_eq_true rfl) dJx4a65c_init_da8c8_1 ⟨Nat.zero_le _, Nat.zero_le _⟩ (fun u H locs hu hH => ?_)
  obtain ⟨ha1, hf1⟩ := hu.2.2.1 0 _ _ rfl
  refine lv_aload_n hx hb dJx4a65c_init_da8c8_4 rfl (lv_at hl 0 rfl) ?_
  refine va_gets hx hb C.2.2.1.1 hH.2.2 hown (hts _ wd_45) (fun _ h => h) dJx4a65c_init_da8c8_5 ?_
  refine pp C hH ha1 hf1 (T := TJx4a65c) (N := 3) rfl ixJx4a65c tyJx4a65c tyJx4a65c_ok nmJx4a65c 1 (by decide) rfl wd_47 (fun _ h => h) (ty := .array (.object "java/lang/Object")) pfO rfl rfl (Nat.le_of_ble_eq_true rfl) dJx4a65c_init_da8c8_8 (fun H locs hH => ?_)
  exact prv C hr hk hH (Nat.zero_le _) (Nat.zero_le _) (hu.set (i := 0) rfl) dJx4a65c_init_da8c8_11
