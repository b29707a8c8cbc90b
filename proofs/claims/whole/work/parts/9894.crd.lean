/-! the class's reader: where it stands -/
def tPs (t0 : CS) (i N : Nat) (g : Nat → Int32) : CS := (up2 (up2 t0.1 165 3 (nI i)) 164 3 (nI N), sR t0.2.1 5 g, t0.2.2)
def CSt (t0 t : CS) (i : Nat) (S : List Nat) : Prop := ∃ g, t = tPs t0 i S.length g ∧ ∀ k, k < S.length → g k = nI (S.getD k 0)
theorem tPs_inc (t0 : CS) (i j N : Nat) (g : Nat → Int32) : sF (tPs t0 i N g) 165 3 (nI j) = tPs t0 j N g := by
  unfold tPs sF
  refine Prod.ext ?_ rfl
  funext x
  show (if x = 165 then upd (upd (t0.1 165) 3 (nI i)) 3 (nI j) else if x = 164 then upd (t0.1 164) 3 (nI N) else if x = 165 then upd (t0.1 165) 3 (nI i) else t0.1 x) = (if x = 164 then upd (t0.1 164) 3 (nI N) else if x = 165 then upd (t0.1 165) 3 (nI j) else t0.1 x)
  rw [fa_upd_twice]
  by_cases e : x = 165
  · subst e; rfl
  · simp only [if_neg e]
theorem tPs_add (t0 : CS) (i N M : Nat) (g : Nat → Int32) (v : Int32) : sF (sA (tPs t0 i N g) 5 N v) 164 3 (nI M) = tPs t0 i M (upd g N v) := by
  unfold tPs sF sA
  refine Prod.ext ?_ (Prod.ext ?_ rfl)
  · funext x
    show (if x = 164 then upd (upd (t0.1 164) 3 (nI N)) 3 (nI M) else if x = 164 then upd (t0.1 164) 3 (nI N) else if x = 165 then upd (t0.1 165) 3 (nI i) else t0.1 x) = (if x = 164 then upd (t0.1 164) 3 (nI M) else if x = 165 then upd (t0.1 165) 3 (nI i) else t0.1 x)
    rw [fa_upd_twice]
    by_cases e : x = 164
    · rw [if_pos e, if_pos e]
    · simp only [if_neg e]
  · funext x
    show (if x = 5 then upd g N v else if x = 5 then g else t0.2.1 x) = (if x = 5 then upd g N v else t0.2.1 x)
    by_cases e : x = 5
    · rw [if_pos e, if_pos e]
    · simp only [if_neg e]
section Crd
variable {t0 : CS} {σ0 : MS} {b : Nat → Nat} {n cnt : Nat} {tk : Nat → Nat} {a : Nat}
theorem tk_b (hC : Cx t0 σ0 b n cnt tk a) {i : Nat} (hi : i ≤ cnt) : tk i < 101000 := by
  by_cases q : i < cnt
  · have := (hC.2.2.2.2.1 i q).2.2.1
    unfold okTk at this
    omega
  · rw [show i = cnt by omega, hC.2.2.2.2.2.1]; omega
theorem C_tok (hC : Cx t0 σ0 b n cnt tk a) {t : CS} {i : Nat} {S : List Nat} (h : CSt t0 t i S) (hi : i ≤ cnt) {post : Int32 → CS → Prop} (k : post (nI (tk i)) t) : wp_Reader_token t post := by
  obtain ⟨g, e, hg⟩ := h
  obtain ⟨c1, c2, c3, c4, c5, c6, c7, c8, c9⟩ := id hC
  have h1 := c1.1
  have e165 : tF t 165 3 = nI i := by rw [e]; exact (show upd (t0.1 165) 3 (nI i) 3 = _ from pk_us)
  have e163 : tF t 163 3 = nI (cnt + 1) := by rw [e]; exact c4
  have e3 : tA t 3 i = nI (tk i) := by
    rw [e]
    show tA t0 3 i = _
    by_cases q : i < cnt
    · exact (c5 i q).2.1
    · rw [show i = cnt by omega, c6]; exact c7
  unfold wp_Reader_token
  rw [e165, e163, nI_clamp (by omega), e3]
  exact itF (nI_pos (by omega)) (itF (nI_ge (by omega) (by omega)) (itF (nI_ge (a := i) (b := 201) (by omega) (by omega)) ⟨vp_in_nI (by omega) (by omega), k⟩))
theorem C_start (hC : Cx t0 σ0 b n cnt tk a) {t : CS} {i : Nat} {S : List Nat} {x : Int32} (h : CSt t0 t i S) (hi : i ≤ cnt) {post : Int32 → CS → Prop} (k : post (nI (ps b n i)) t) : wp_Reader_startHere t x post := by
  obtain ⟨g, e, hg⟩ := h
  obtain ⟨c1, c2, c3, c4, c5, c6, c7, c8, c9⟩ := id hC
  have h1 := c1.1
  have e165 : tF t 165 3 = nI i := by rw [e]; exact (show upd (t0.1 165) 3 (nI i) 3 = _ from pk_us)
  have e163 : tF t 163 3 = nI (cnt + 1) := by rw [e]; exact c4
  have e3 : tA t 4 i = nI (ps b n i) := by
    rw [e]
    show tA t0 4 i = _
    by_cases q : i < cnt
    · exact (c5 i q).2.2.2.2
    · rw [show i = cnt by omega, c3]; exact c8
  unfold wp_Reader_startHere
  rw [e165, e163, nI_clamp (by omega), e3]
  exact itF (nI_pos (by omega)) (itF (nI_ge (by omega) (by omega)) (itF (nI_ge (a := i) (b := 201) (by omega) (by omega)) ⟨vp_in_nI (by omega) (by omega), k⟩))
theorem C_inc {t : CS} {i : Nat} {S : List Nat} (h : CSt t0 t i S) : CSt t0 (sF t 165 3 (tF t 165 3 + 1)) (i + 1) S := by
  obtain ⟨g, e, hg⟩ := h
  refine ⟨g, ?_, hg⟩
  have e165 : tF t 165 3 = nI i := by rw [e]; exact (show upd (t0.1 165) 3 (nI i) 3 = _ from pk_us)
  rw [e165, nI_1, e, tPs_inc]
theorem C_addSt {t : CS} {i c : Nat} {S : List Nat} (h : CSt t0 t i S) (hl : S.length < 402) {post : CS → Prop} (k : ∀ t', CSt t0 t' i (S ++ [c]) → post t') : wp_Reader_addStep t (nI c) post := by
  obtain ⟨g, e, hg⟩ := h
  have e164 : tF t 164 3 = nI S.length := by rw [e]; exact (show upd (t0.1 164) 3 (nI S.length) 3 = _ from pk_us)
  have e164' : tF (sA t 5 S.length (nI c)) 164 3 = nI S.length := e164
  unfold wp_Reader_addStep
  rw [e164, nI_clamp (by omega)]
  refine itF (nI_pos (by omega)) (itF (nI_ge (a := S.length) (b := 402) hl (by omega)) ⟨vp_in_nI hl (by omega), nm_e ?_⟩)
  rw [e164', nI_1]
  refine nm_e (k _ ⟨upd g S.length (nI c), ?_, fun j hj => ?_⟩)
  · rw [e, tPs_add, List.length_append]; rfl
  · rw [List.length_append] at hj
    have hj : j < S.length + 1 := hj
    by_cases q : j = S.length
    · rw [q, gd_r, pk_us]
    · rw [gd_l (by omega), pk_un q]
      exact hg j (by omega)
theorem C_pass (hC : Cx t0 σ0 b n cnt tk a) {t : CS} {i c : Nat} {S : List Nat} (h : CSt t0 t i S) (hi : i ≤ cnt) (hc : c < 1000) {post : Int32 → CS → Prop} (k1 : tk i = c → ∀ t', CSt t0 t' (i + 1) S → post 1 t') (k0 : tk i ≠ c → post 0 t) : wp_Reader_pass t (nI c) post := by
  have hb := tk_b hC hi
  refine C_tok hC h hi (itE (fun q => nm_e (k1 ((nI_eq (by omega) (by omega)).mp q) _ (C_inc h))) (fun q => k0 (fun e => q (by rw [e]))))
theorem C_lev {t : CS} {c : Nat} (hc : c < 101000) {post : Int32 → CS → Prop} (k : post (if lv c ≤ 5 then nI (lv c) else -1) t) : wp_Reader_levelOf t (nI c) post := by
  have h := lv_cases c
  have ne : ∀ y, y < 1000 → ¬ c = y → ¬ nI c = nI y := fun y hy e q => e ((nI_eq (by omega) (by omega)).mp q)
  by_cases e : lv c = 9
  · rw [if_neg (by omega)] at k
    exact itF (ne 42 (by omega) (by omega)) (itF (ne 43 (by omega) (by omega)) (itF (ne 45 (by omega) (by omega)) (itF (ne 47 (by omega) (by omega)) (itF (ne 60 (by omega) (by omega)) (itF (ne 61 (by omega) (by omega)) (itF (ne 62 (by omega) (by omega)) (itF (ne 142 (by omega) (by omega)) (itF (ne 143 (by omega) (by omega)) k))))))))
  · rw [if_pos (by omega)] at k
    have hc2 : c = 42 ∨ c = 47 ∨ c = 43 ∨ c = 45 ∨ c = 60 ∨ c = 61 ∨ c = 62 ∨ c = 143 ∨ c = 142 := by omega
    rcases hc2 with e | e | e | e | e | e | e | e | e <;> subst e <;> exact k
end Crd
