/-! what both have read -/
def okSt (c : Nat) : Prop := c = 1 ∨ c = 141 ∨ okV c ∨ c = 145 ∨ c = 146 ∨ (128 ≤ c ∧ c ≤ 140) ∨ (1000 ≤ c ∧ c < 101000)
def dpo (o : Option Nat) (c : Nat) : Option Nat := match o with
  | none => none
  | some d => dst d (nI c)
def dpS (S : List Nat) : Option Nat := S.foldl dpo (some 0)
theorem dpS_snoc (S : List Nat) (c : Nat) : dpS (S ++ [c]) = dpo (dpS S) c := by
  unfold dpS
  rw [List.foldl_append]; rfl
def good (S : List Nat) (D : Nat) : Prop := (∀ c ∈ S, okSt c) ∧ dpS S = some D ∧ D ≤ S.length
theorem good_snoc {S : List Nat} {D E c : Nat} (h : good S D) (hc : okSt c) (hd : dst D (nI c) = some E) (hE : E ≤ D + 1) : good (S ++ [c]) E := by
  refine ⟨fun x hx => ?_, ?_, ?_⟩
  · rcases List.mem_append.mp hx with e | e
    · exact h.1 x e
    · rw [List.mem_singleton.mp e]; exact hc
  · rw [dpS_snoc, h.2.1]; exact hd
  · rw [List.length_append]
    have := h.2.2
    show E ≤ S.length + 1
    omega
theorem good_nil : good [] 0 := ⟨fun x hx => absurd hx List.not_mem_nil, rfl, Nat.le_refl _⟩
theorem good_push {S : List Nat} {D c : Nat} (h : good S D) (hD : D < 200) (hc : (128 ≤ c ∧ c ≤ 140) ∨ (1000 ≤ c ∧ c < 101000)) : good (S ++ [c]) (D + 1) := by
  refine good_snoc h (by unfold okSt; omega) ?_ (Nat.le_refl _)
  unfold dst
  rw [if_pos, if_pos hD]
  rcases hc with e | e
  · exact Or.inr ⟨nI_le (a := 128) (b := c) e.1 (by omega), nI_lt (a := c) (b := 141) (by omega) (by omega)⟩
  · exact Or.inl (nI_le (a := 1000) (b := c) e.1 (by omega))
theorem dst_els {c D : Nat} (hc : c < 101000) (h : ¬ (1000 ≤ c ∨ (128 ≤ c ∧ c < 141))) : dst D (nI c) = if c = 1 then (if D = 1 then some 0 else none) else if c = 141 then (if D = 2 then some 0 else none) else if c = 144 then (if 1 ≤ D then some D else none) else (if 2 ≤ D then some (D - 1) else none) := by
  unfold dst
  rw [if_neg]
  · have q : ∀ y, y < 1000 → ((nI c = nI y) ↔ c = y) := fun y hy => nI_eq (by omega) (by omega)
    have q1 : (nI c = (1 : Int32)) ↔ c = 1 := q 1 (by omega)
    have q2 : (nI c = (141 : Int32)) ↔ c = 141 := q 141 (by omega)
    have q3 : (nI c = (144 : Int32)) ↔ c = 144 := q 144 (by omega)
    simp only [q1, q2, q3]
  · intro z
    rcases z with z | z
    · exact h (Or.inl ((nI_leI (a := 1000) (b := c) (by omega) (by omega)).mp z))
    · exact h (Or.inr ⟨(nI_leI (a := 128) (b := c) (by omega) (by omega)).mp z.1, (nI_ltI (a := c) (b := 141) (by omega) (by omega)).mp z.2⟩)
theorem good_bin {S : List Nat} {D c : Nat} (h : good S (D + 2)) (hc : lv c ≤ 5 ∨ c = 145 ∨ c = 146) : good (S ++ [c]) (D + 1) := by
  have h1 := lv_cases c
  refine good_snoc h ?_ ?_ (by omega)
  · rcases hc with e | e
    · exact Or.inr (Or.inr (Or.inl (lv_ok e).1))
    · unfold okSt; omega
  · rw [dst_els (by omega) (by omega), if_neg (by omega), if_neg (by omega), if_neg (by omega), if_pos (by omega)]
    rfl
theorem good_not {S : List Nat} {D : Nat} (h : good S (D + 1)) : good (S ++ [144]) (D + 1) := by
  refine good_snoc h (by unfold okSt okV; omega) ?_ (by omega)
  rw [dst_els (by omega) (by omega), if_neg (by omega), if_neg (by omega), if_pos (by omega), if_pos (by omega)]
theorem good_give {S : List Nat} (h : good S 1) : good (S ++ [1]) 0 := by
  refine good_snoc h (by unfold okSt; omega) ?_ (by omega)
  rw [dst_els (by omega) (by omega), if_pos rfl, if_pos rfl]
theorem good_if {S : List Nat} (h : good S 2) : good (S ++ [141]) 0 := by
  refine good_snoc h (by unfold okSt; omega) ?_ (by omega)
  rw [dst_els (by omega) (by omega), if_neg (by omega), if_pos rfl, if_pos rfl]
def StpT (L : Nat) (V : List Nat) (c : Nat) : Prop := lv c ≤ 5 → lv c < L ∨ (lv c = 3 ∧ L ≤ 3 ∧ relTop V)
def CG (t0 : CS) (W : CS → (Int32 → CS → Prop) → Prop) (i : Nat) (S : List Nat) (r : Int32) (j : Nat) (S' : List Nat) : Prop := ∀ t, CSt t0 t i S → ∀ post : Int32 → CS → Prop, (∀ t', CSt t0 t' j S' → post r t') → W t post
def OUT (t0 : CS) (σ0 : MS) (b : Nat → Nat) (n cnt : Nat) (tk : Nat → Nat) (a : Nat) (W : CS → (Int32 → CS → Prop) → Prop) (L i : Nat) (K S : List Nat) (D : Nat) (x4 : Int32) (ms : (Int32 → MS → Prop) → Prop) : Prop :=
  (∃ j V Sm x3, i ≤ j ∧ j ≤ cnt ∧ okVs V (L + 1) ∧ StpT L V (tk j) ∧ V.length + K.length + Sm.length ≤ j ∧ good (Sm ++ V) (D + 1) ∧ CG t0 W i S 1 j (Sm ++ V) ∧ ∀ post, ME σ0 b n cnt tk a post j (V.map mof ++ K) Sm 0 x3 x4 → ms post) ∨
  (∃ j S', i ≤ j ∧ j ≤ cnt ∧ CG t0 W i S 0 j S' ∧ ∀ post, FA σ0 b n cnt tk a post j → ms post)
section Out
variable {t0 : CS} {σ0 : MS} {b : Nat → Nat} {n cnt : Nat} {tk : Nat → Nat} {a : Nat}
theorem OUT_map {W W' : CS → (Int32 → CS → Prop) → Prop} {L i : Nat} {K S : List Nat} {D : Nat} {x4 : Int32} {ms : (Int32 → MS → Prop) → Prop} (hW : ∀ t post, W t (fun r t1 => bz r ∧ post r t1) → W' t post) (h : OUT t0 σ0 b n cnt tk a W L i K S D x4 ms) : OUT t0 σ0 b n cnt tk a W' L i K S D x4 ms := by
  rcases h with ⟨j, V, Sm, x3, h1, h2, h3, h4, h5, h6, h7, h8⟩ | ⟨j, S', h1, h2, h3, h4⟩
  · exact Or.inl ⟨j, V, Sm, x3, h1, h2, h3, h4, h5, h6, fun t ht post k => hW t post (h7 t ht _ (fun t' h' => ⟨Or.inr rfl, k t' h'⟩)), h8⟩
  · exact Or.inr ⟨j, S', h1, h2, fun t ht post k => hW t post (h3 t ht _ (fun t' h' => ⟨Or.inl rfl, k t' h'⟩)), h4⟩
theorem OUT_lev {W : CS → (Int32 → CS → Prop) → Prop} {L i : Nat} {K S : List Nat} {D : Nat} {x4 : Int32} {ms : (Int32 → MS → Prop) → Prop} (i' : Nat) (hi : i' ≤ i) (h : OUT t0 σ0 b n cnt tk a W L i K S D x4 ms) {W' : CS → (Int32 → CS → Prop) → Prop} {S' : List Nat} {ms' : (Int32 → MS → Prop) → Prop} (hW : ∀ r j S2, bz r → CG t0 W i S r j S2 → CG t0 W' i' S' r j S2) (hm : ∀ post, ms post → ms' post) : OUT t0 σ0 b n cnt tk a W' L i' K S' D x4 ms' := by
  rcases h with ⟨j, V, Sm, x3, h1, h2, h3, h4, h5, h6, h7, h8⟩ | ⟨j, S2, h1, h2, h3, h4⟩
  · exact Or.inl ⟨j, V, Sm, x3, by omega, h2, h3, h4, h5, h6, hW _ _ _ (Or.inr rfl) h7, fun post k => hm post (h8 post k)⟩
  · exact Or.inr ⟨j, S2, by omega, h2, hW _ _ _ (Or.inl rfl) h3, fun post k => hm post (h4 post k)⟩
theorem wpR_0 {f : Nat} {t : CS} {x y : Int32} {post : Int32 → CS → Prop} (h : wp_Reader_readPart (wpR f) t x y post) : wpR (f + 1) 0 t x y post := by
  unfold wpR
  exact itT rfl h
theorem wpR_1 {f : Nat} {t : CS} {x y : Int32} {post : Int32 → CS → Prop} (h : wp_Reader_readNegation (wpR f) t x post) : wpR (f + 1) 1 t x y post := by
  unfold wpR
  exact itF (by decide) (itT rfl h)
theorem wpR_2 {f : Nat} {t : CS} {x y : Int32} {post : Int32 → CS → Prop} (h : wp_Reader_readOperand (wpR f) t x post) : wpR (f + 1) 2 t x y post := by
  unfold wpR
  exact itF (by decide) (itF (by decide) (itT rfl h))
theorem wpR_3 {f : Nat} {t : CS} {x y : Int32} {post : Int32 → CS → Prop} (h : wp_Reader_readPair (wpR f) t x y post) : wpR (f + 1) 3 t x y post := by
  unfold wpR
  exact itF (by decide) (itF (by decide) (itF (by decide) h))
end Out
