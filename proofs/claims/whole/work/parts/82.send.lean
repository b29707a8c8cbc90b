/-! send: ranges, the men set out -/
theorem farv_rg {a b : Int32} (ha : rg a 0 99) (hb : rg b 0 99) : rg (farv a b) 0 99 := by
  rw [← far_eq ha hb]
  obtain ⟨x, -, hx, rfl⟩ := ha
  obtain ⟨y, -, hy, rfl⟩ := hb
  by_cases h : y ≤ x
  · rw [if_pos (nI_le h (by omega)), pk_sub h]; exact ⟨x - y, by omega, by omega, rfl⟩
  · rw [if_neg (nI_ge (by omega) (by omega)), pk_sub (by omega)]; exact ⟨y - x, by omega, by omega, rfl⟩
theorem upv_rg {a b : Int32} (ha : rg a 0 99) (hb : rg b 0 99) : rg (upv a b) 0 99 := by
  rw [← up_eq ha hb]
  obtain ⟨x, -, hx, rfl⟩ := ha
  obtain ⟨y, -, hy, rfl⟩ := hb
  by_cases h : y < x
  · rw [if_pos (nI_lt h (by omega)), pk_sub (by omega), show (2 : Int32) = nI 2 from rfl, pk_div (by omega) (by omega) (by omega)]; exact ⟨(x - y) / 2, by omega, by omega, rfl⟩
  · rw [if_neg (nI_nlt (by omega) (by omega)), pk_sub (by omega)]; exact ⟨y - x, by omega, by omega, rfl⟩
theorem wyv_rg {t : CS} {σ : MS} (hp : IPl t σ) {i j : Nat} (hi : i < tN t 4) (hj : j < tN t 4) : rg (wyv σ i j) 5 453 := by
  obtain ⟨x, -, hx, ex⟩ := farv_rg (hp.1 i hi).2.2.2.2.1 (hp.1 j hj).2.2.2.2.1
  obtain ⟨y, -, hy, ey⟩ := upv_rg (hp.1 i hi).2.2.2.2.2.1 (hp.1 j hj).2.2.2.2.2.1
  have e : farv (σ 6 i) (σ 6 j) + 2 * upv (σ 7 i) (σ 7 j) + 5 = nI (x + 2 * y + 5) := by
    rw [ex, ey, show (2 : Int32) = nI 2 from rfl, pk_mul, nI_add, show (5 : Int32) = nI 5 from rfl, nI_add]
  unfold wyv
  rw [e]
  by_cases h : rn σ (σ 1 0) = 0
  · rw [if_pos h]; exact ⟨x + 2 * y + 5, by omega, by omega, rfl⟩
  · rw [if_neg h, show (2 : Int32) = nI 2 from rfl, pk_div (by omega) (by omega) (by omega), nI_add]
    exact ⟨x + 2 * y + 5 + (x + 2 * y + 5) / 2, by omega, by omega, rfl⟩
def cl (r b : Int32) : Int32 := if (0 : Int32) < (if r < b then r else b) then (if r < b then r else b) else (0 : Int32)
theorem cl_rg (r : Int32) {b : Int32} {n : Nat} (hb : b = nI n) (hn : n < 2 ^ 30) (h0 : 0 < n) : rg (cl r b) 0 n := by
  subst hb
  unfold cl
  have l0 : (0 : Int32).toInt = 0 := by decide
  by_cases h : r < nI n
  · rw [if_pos h]
    by_cases h2 : (0 : Int32) < r
    · rw [if_pos h2]
      have a := (fa_lt _ _).mp h
      have c := (fa_lt _ _).mp h2
      rw [nI_toInt (by omega)] at a
      exact ⟨r.toInt.toNat, by omega, by omega, (fa_eq _ _).mpr (by rw [nI_toInt (by omega)]; omega)⟩
    · rw [if_neg h2]; exact ⟨0, by omega, by omega, rfl⟩
  · rw [if_neg h, if_pos (show (0 : Int32) < nI n from nI_lt (a := 0) h0 (by omega))]
    exact ⟨n, by omega, by omega, rfl⟩
theorem M_clamp {σ : MS} {r b : Int32} {n : Nat} (hb : b = nI n) (hn : n < 2 ^ 30) (h0 : 0 < n) {post : Int32 → MS → Prop} (k : post (cl r b) σ) : wp_M_clamp σ r b post := by
  subst hb
  unfold cl at k
  unfold wp_M_clamp
  by_cases h : r < nI n
  · rw [if_pos h] at k
    rw [if_pos (Int32.le_of_lt h)]
    by_cases h2 : (0 : Int32) < r
    · rw [if_pos h2] at k
      rw [if_pos (Int32.le_of_lt h2)]; exact k
    · rw [if_neg h2] at k
      by_cases h3 : (0 : Int32) ≤ r
      · rw [if_pos h3, Int32.le_antisymm (Int32.not_lt.mp h2) h3]; exact k
      · rw [if_neg h3]; exact k
  · rw [if_neg h, if_pos (show (0 : Int32) < nI n from nI_lt (a := 0) h0 (by omega))] at k
    have h1 : nI n ≤ r := Int32.not_lt.mp h
    rw [if_pos (Int32.le_trans (nI_pos' (by omega)) h1)]
    by_cases h3 : r ≤ nI n
    · rw [if_pos h3, Int32.le_antisymm h3 h1]; exact k
    · rw [if_neg h3]; exact k
/-- a man sets out with load l -/
def cSt (f l : Nat) (w : Int32) (t : CS) (j : Nat) : CS := lAdd (sF (sF (sF (sT t (f + 7) ((tT t (f + 7)).eraseIdx (pos (tT t (f + 7)) j))) 102 j (tF t 81 l)) 101 j (tF t 101 j + w)) 104 j (nI l)) (l + 11) j
def cFo (f l : Nat) (w : Int32) : CS → List Nat → CS
  | t, [] => t
  | t, j :: rest => cFo f l w (cSt f l w t j) rest
theorem cSt_T {f l : Nat} {w : Int32} {t : CS} {j k : Nat} (h1 : k ≠ f + 7) (h2 : k ≠ l + 11) : tT (cSt f l w t j) k = tT t k := by
  show va_up (va_up (tT t) (f + 7) _) (l + 11) _ k = _
  unfold va_up
  rw [if_neg h2, if_neg h1]
theorem cSt_R {f l : Nat} (hf : f < 4) {w : Int32} {t : CS} {j : Nat} : tT (cSt f l w t j) (f + 7) = (tT t (f + 7)).eraseIdx (pos (tT t (f + 7)) j) := by
  show va_up (va_up (tT t) (f + 7) _) (l + 11) _ (f + 7) = _
  unfold va_up
  rw [if_neg (by omega), if_pos rfl]
theorem cSt_G {f l : Nat} (hf : f < 4) {w : Int32} {t : CS} {j : Nat} : tT (cSt f l w t j) (l + 11) = tT t (l + 11) ++ [j] := by
  show va_up (va_up (tT t) (f + 7) _) (l + 11) (va_up (tT t) (f + 7) _ (l + 11) ++ [j]) (l + 11) = _
  unfold va_up
  rw [if_pos rfl, if_neg (by omega)]
theorem cSt_C {f l : Nat} {w : Int32} {t : CS} {j : Nat} (h : IC t) (hl : (tT t (l + 11)).length ≤ 100) (hf : f < 4) : IC (cSt f l w t j) := by
  have h1 : IC (sT t (f + 7) ((tT t (f + 7)).eraseIdx (pos (tT t (f + 7)) j))) := IC_set h (by rw [List.length_eraseIdx]; split <;> omega)
  refine IC_add (t := sF (sF (sF (sT t (f + 7) ((tT t (f + 7)).eraseIdx (pos (tT t (f + 7)) j))) 102 j (tF t 81 l)) 101 j (tF t 101 j + w)) 104 j (nI l)) h1 j ?_
  show (va_up (tT t) (f + 7) _ (l + 11)).length ≤ 200
  unfold va_up
  rw [if_neg (by omega)]; omega
theorem mem_erz {row : List Nat} {j x : Nat} (hn : row.Nodup) (hj : j ∈ row) : x ∈ row.eraseIdx (pos row j) ↔ x ∈ row ∧ x ≠ j := by
  have hp := pos_mem.mpr hj
  rw [erz_filter row _ hn hp, pos_get hp, List.mem_filter]
  exact ⟨fun h => ⟨h.1, of_decide_eq_true h.2⟩, fun h => ⟨h.1, decide_eq_true h.2⟩⟩
/-- what the class's loop needs of its state -/
def cOk (t : CS) (f l : Nat) (ch : List Nat) (i : Nat) : Prop := tN t 0 = 4 ∧ tN t 3 ≤ 60 ∧ l < tN t 2 ∧ tT t 5 = ch ∧ (∀ x ∈ ch, x < tN t 3) ∧ (tT t (f + 7)).Nodup ∧ (∀ x ∈ tT t (f + 7), x < tN t 3) ∧ (∀ x ∈ ch.drop i, x ∈ tT t (f + 7)) ∧ (tT t (l + 11)).length = i ∧ (∀ x ∈ tT t (l + 11), x < tN t 3) ∧ IC t
theorem cOk_st {t : CS} {f l : Nat} (hf : f < 4) {w : Int32} {ch : List Nat} {i : Nat} (hnd : ch.Nodup) (h8 : ch.length ≤ 8) (hi : i < ch.length) (h : cOk t f l ch i) : cOk (cSt f l w t (ch.getD i 0)) f l ch (i + 1) := by
  obtain ⟨h1, h2, h3, h4, h5, h6, h7, h8', h9, h10, h11⟩ := h
  have hd : ch.drop i = ch.getD i 0 :: ch.drop (i + 1) := by
    have e : ch.getD i 0 = ch[i] := by rw [List.getD_eq_getElem?_getD, List.getElem?_eq_getElem hi]; rfl
    rw [e]; exact List.drop_eq_getElem_cons hi
  have hnd2 : (ch.drop i).Nodup := List.Pairwise.sublist (List.drop_sublist _ _) hnd
  rw [hd] at hnd2
  have hnd3 := List.nodup_cons.mp hnd2
  have hj : ch.getD i 0 ∈ tT t (f + 7) := h8' _ (by rw [hd]; exact List.mem_cons_self)
  refine ⟨h1, h2, h3, by rw [cSt_T (by omega) (by omega)]; exact h4, h5, ?_, ?_, ?_, ?_, ?_, cSt_C h11 (by omega) hf⟩
  · rw [cSt_R hf]; exact List.Pairwise.sublist (List.eraseIdx_sublist _ _) h6
  · rw [cSt_R hf]; exact fun x hx => h7 x (List.mem_of_mem_eraseIdx hx)
  · rw [cSt_R hf]
    intro x hx
    refine (mem_erz h6 hj).mpr ⟨h8' x (by rw [hd]; exact List.mem_cons_of_mem _ hx), fun e => hnd3.1 (e ▸ hx)⟩
  · rw [cSt_G hf, List.length_append, h9]; rfl
  · rw [cSt_G hf]
    intro x hx
    rcases List.mem_append.mp hx with q | q
    · exact h10 x q
    · rw [List.mem_singleton] at q; rw [q]; exact h7 _ hj
theorem C_setLoop {f l : Nat} (hf : f < 4) {w : Int32} {mc ms : Nat} (hmc : 8 ≤ mc) (hms : 4880 ≤ ms) {ch : List Nat} (hnd : ch.Nodup) (h8 : ch.length ≤ 8) {post : CS → Prop} : ∀ d i t uc us, i + d = ch.length → cOk t f l ch i → uc ≤ i → us ≤ 610 * i → post (cFo f l w t (ch.drop i)) → wp_C_setOut_100 mc ms post (d + 1) uc us t f l w (nI i) := by
  intro d
  induction d with
  | zero =>
    intro i t uc us hi h _ _ k
    obtain ⟨h1, h2, h3, h4, -⟩ := h
    have e : i = ch.length := by omega
    rw [List.drop_eq_nil_of_le (by omega)] at k
    refine itT ?_ k
    rw [h4, e]; exact nI_le (Nat.le_refl _) (by omega)
  | succ d ih =>
    intro i t uc us hi h hu hs k
    have hnx := cOk_st (w := w) hf hnd h8 (show i < ch.length by omega) h
    obtain ⟨h1, h2, h3, h4, h5, h6, h7, h8', h9, h10, h11⟩ := h
    have hil : i < ch.length := by omega
    have hd : ch.drop i = ch.getD i 0 :: ch.drop (i + 1) := by
      have e : ch.getD i 0 = ch[i] := by rw [List.getD_eq_getElem?_getD, List.getElem?_eq_getElem hil]; rfl
      rw [e]; exact List.drop_eq_getElem_cons hil
    rw [hd] at k
    have hj : ch.getD i 0 ∈ tT t (f + 7) := h8' _ (by rw [hd]; exact List.mem_cons_self)
    have hj3 := h7 _ hj
    refine itF ?_ ⟨?_, ?_, ?_⟩
    · rw [h4]; exact nI_ge hil (by omega)
    · rw [h4]; exact vp_in_nI hil (by omega)
    · rw [h4]; omega
    rw [nI_clamp (n := i) (by omega), h4]
    refine nm_e ⟨hj3, by omega, C_drop h1 hf (by omega) (nodup_le h6 (fun x hx => Nat.lt_of_lt_of_le (h7 x hx) h2)) h7 h2 hj ⟨h3, hj3, ?_⟩⟩
    refine nm_e ⟨hj3, ?_⟩
    refine nm_e ⟨h3, hj3, ?_⟩
    refine nm_e ⟨h3, by show l + 11 < tN t 2 + 11; omega, ?_⟩
    have eG : tT (sF (sF (sF (sT t (f + 7) ((tT t (f + 7)).eraseIdx (pos (tT t (f + 7)) (ch.getD i 0)))) 102 (ch.getD i 0) (tF t 81 l)) 101 (ch.getD i 0) (tF t 101 (ch.getD i 0) + w)) 104 (ch.getD i 0) (nI l)) (l + 11) = tT t (l + 11) := by
      show va_up (tT t) (f + 7) _ (l + 11) = _
      unfold va_up
      rw [if_neg (by omega)]
    have hc := h11 (l + 11)
    refine ⟨by show tK t (l + 11) < 2 ^ 20; omega, ?_, hj3, ⟨?_, ?_⟩, ?_⟩
    · intro x hx
      have hx : x ∈ tT (sF (sF (sF (sT t (f + 7) ((tT t (f + 7)).eraseIdx (pos (tT t (f + 7)) (ch.getD i 0)))) 102 (ch.getD i 0) (tF t 81 l)) 101 (ch.getD i 0) (tF t 101 (ch.getD i 0) + w)) 104 (ch.getD i 0) (nI l)) (l + 11) := hx
      rw [eG] at hx
      show x < tN t 3
      exact h10 x hx
    · have := aC_le (tT (sF (sF (sF (sT t (f + 7) ((tT t (f + 7)).eraseIdx (pos (tT t (f + 7)) (ch.getD i 0)))) 102 (ch.getD i 0) (tF t 81 l)) 101 (ch.getD i 0) (tF t 101 (ch.getD i 0) + w)) 104 (ch.getD i 0) (nI l)) (l + 11)).length (tK t (l + 11))
      exact Nat.le_trans (Nat.add_le_add hu this) (by omega)
    · have := aS_le (n := (tT (sF (sF (sF (sT t (f + 7) ((tT t (f + 7)).eraseIdx (pos (tT t (f + 7)) (ch.getD i 0)))) 102 (ch.getD i 0) (tF t 81 l)) 101 (ch.getD i 0) (tF t 101 (ch.getD i 0) + w)) 104 (ch.getD i 0) (nI l)) (l + 11)).length) hc.2
      exact Nat.le_trans (Nat.add_le_add hs this) (by omega)
    rintro c23 s24 rfl rfl
    refine nm_e ?_
    rintro x26 rfl
    rw [nI_1]
    refine ih (i + 1) _ _ _ (by omega) hnx ?_ ?_ k
    · have := aC_le (tT (sF (sF (sF (sT t (f + 7) ((tT t (f + 7)).eraseIdx (pos (tT t (f + 7)) (ch.getD i 0)))) 102 (ch.getD i 0) (tF t 81 l)) 101 (ch.getD i 0) (tF t 101 (ch.getD i 0) + w)) 104 (ch.getD i 0) (nI l)) (l + 11)).length (tK t (l + 11))
      exact Nat.add_le_add hu this
    · have := aS_le (n := (tT (sF (sF (sF (sT t (f + 7) ((tT t (f + 7)).eraseIdx (pos (tT t (f + 7)) (ch.getD i 0)))) 102 (ch.getD i 0) (tF t 81 l)) 101 (ch.getD i 0) (tF t 101 (ch.getD i 0) + w)) 104 (ch.getD i 0) (nI l)) (l + 11)).length) hc.2
      exact Nat.le_trans (Nat.add_le_add hs this) (by omega)
