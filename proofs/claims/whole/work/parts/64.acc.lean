/-! looking things up, on both sides -/
theorem ix (x : Int32) {n : Nat} (hn : n < 2 ^ 31) : (x < 0 ∨ nI n ≤ x) ∨ ∃ j : Nat, j < n ∧ x = nI j := by
  rcases pk_ix x hn with h | h | h
  · exact Or.inl (Or.inl h)
  · exact Or.inl (Or.inr h)
  · exact Or.inr h
theorem rng_getD {n j : Nat} (h : j < n) : (List.range n).getD j 0 = j := by
  rw [List.getD_eq_getElem?_getD, List.getElem?_range h]; rfl
theorem Cw_no {t : CS} {a lo hi : Int32} {X Y : CS → Prop} (h : a < lo ∨ hi < a) (k : X t) : wp_C_within t a lo hi (fun r t1 => if r = 0 then X t1 else Y t1) := by
  unfold wp_C_within
  refine itE (fun _ => itT rfl k) (fun h1 => itE (fun _ => itT rfl k) (fun h2 => (h.elim h1 h2).elim))
theorem Cw_yes {t : CS} {a lo hi : Int32} {X Y : CS → Prop} (h : ¬ (a < lo ∨ hi < a)) (k : Y t) : wp_C_within t a lo hi (fun r t1 => if r = 0 then X t1 else Y t1) := by
  unfold wp_C_within
  exact itF (fun q => h (Or.inl q)) (itF (fun q => h (Or.inr q)) (itF (by decide) k))
theorem Cz_no {t : CS} {a lo hi : Int32} {X Y : CS → Prop} (h : a < lo ∨ hi < a) (k : X t) : wp_C_within t a lo hi (fun r t1 => bz r ∧ (if r = 0 then X t1 else Y t1)) := by
  unfold wp_C_within
  refine itE (fun _ => ⟨Or.inl rfl, itT rfl k⟩) (fun h1 => itE (fun _ => ⟨Or.inl rfl, itT rfl k⟩) (fun h2 => (h.elim h1 h2).elim))
theorem Cz_yes {t : CS} {a lo hi : Int32} {X Y : CS → Prop} (h : ¬ (a < lo ∨ hi < a)) (k : Y t) : wp_C_within t a lo hi (fun r t1 => bz r ∧ (if r = 0 then X t1 else Y t1)) := by
  unfold wp_C_within
  exact itF (fun q => h (Or.inl q)) (itF (fun q => h (Or.inr q)) ⟨Or.inr rfl, itF (by decide) k⟩)
theorem Mw_no {σ : MS} {a lo hi : Int32} {X Y : MS → Prop} (h : a < lo ∨ hi < a) (k : X σ) : wp_M_in σ a lo hi (fun r t1 => if r = 0 then X t1 else Y t1) := by
  unfold wp_M_in
  refine itE (fun _ => itT rfl k) (fun h1 => itE (fun _ => itT rfl k) (fun h2 => (h.elim h1 h2).elim))
theorem Mw_yes {σ : MS} {a lo hi : Int32} {X Y : MS → Prop} (h : ¬ (a < lo ∨ hi < a)) (k : Y σ) : wp_M_in σ a lo hi (fun r t1 => if r = 0 then X t1 else Y t1) := by
  unfold wp_M_in
  exact itF (fun q => h (Or.inl q)) (itF (fun q => h (Or.inr q)) (itF (by decide) k))
theorem Mz_no {σ : MS} {a lo hi : Int32} {X Y : MS → Prop} (h : a < lo ∨ hi < a) (k : X σ) : wp_M_in σ a lo hi (fun r t1 => bz r ∧ (if r = 0 then X t1 else Y t1)) := by
  unfold wp_M_in
  refine itE (fun _ => ⟨Or.inl rfl, itT rfl k⟩) (fun h1 => itE (fun _ => ⟨Or.inl rfl, itT rfl k⟩) (fun h2 => (h.elim h1 h2).elim))
theorem Mz_yes {σ : MS} {a lo hi : Int32} {X Y : MS → Prop} (h : ¬ (a < lo ∨ hi < a)) (k : Y σ) : wp_M_in σ a lo hi (fun r t1 => bz r ∧ (if r = 0 then X t1 else Y t1)) := by
  unfold wp_M_in
  exact itF (fun q => h (Or.inl q)) (itF (fun q => h (Or.inr q)) ⟨Or.inr rfl, itF (by decide) k⟩)
theorem lt_pred {n : Nat} (hn : n < 2 ^ 29) {a : Int32} (h : a < 0 ∨ nI n ≤ a) : a < 0 ∨ nI n - 1 < a := by
  rcases h with h | h
  · exact Or.inl h
  · refine Or.inr ((fa_lt _ _).mpr ?_)
    have h2 := (fa_le _ _).mp h
    rw [nI_toInt (by omega)] at h2
    have h3 := pk_sub_toInt (a := n) (b := 1) (by omega) (by decide)
    have h4 : (nI n - 1).toInt = (n : Int) - 1 := h3
    rw [h4]; omega
theorem ge_pred {n j : Nat} (hn : n < 2 ^ 29) (hj : j < n) : ¬ (nI j < 0 ∨ nI n - 1 < nI j) := by
  rintro (h | h)
  · exact nI_pos (by omega) h
  · have h2 := (fa_lt _ _).mp h
    have h3 := pk_sub_toInt (a := n) (b := 1) (by omega) (by decide)
    have h4 : (nI n - 1).toInt = (n : Int) - 1 := h3
    rw [h4, nI_toInt (by omega)] at h2
    omega
theorem Mi_no {σ : MS} {a x : Int32} {n : Nat} {X Y : MS → Prop} (hx : x = nI n) (hn : n < 2 ^ 29) (h : a < 0 ∨ nI n ≤ a) (k : X σ) : wp_M_in σ a 0 (x - 1) (fun r t1 => bz r ∧ (if r = 0 then X t1 else Y t1)) := by
  subst hx; exact Mz_no (lt_pred hn h) k
theorem Mi_yes {σ : MS} {x : Int32} {n j : Nat} {X Y : MS → Prop} (hx : x = nI n) (hn : n < 2 ^ 29) (hj : j < n) (k : Y σ) : wp_M_in σ (nI j) 0 (x - 1) (fun r t1 => bz r ∧ (if r = 0 then X t1 else Y t1)) := by
  subst hx; exact Mz_yes (ge_pred hn hj) k
section Acc
variable {t : CS} {σ : MS}
theorem IZ.pl (h : IZ t σ) : tT t 0 = List.range (tN t 4) := h.2.2.2.2.2.2.1
theorem IZ.mn (h : IZ t σ) : tT t 1 = List.range (tN t 3) := h.2.2.2.2.2.2.2.1
theorem IZ.ld (h : IZ t σ) : tT t 2 = List.range (tN t 2) := h.2.2.2.2.2.2.2.2.1
theorem IZ.lw (h : IZ t σ) : tT t 3 = List.range (tN t 1) := h.2.2.2.2.2.2.2.2.2.1
theorem IZ.m5 (h : IZ t σ) : σ 5 0 = nI (tN t 4) := h.2.2.2.2.2.2.2.2.2.2.1
theorem IZ.m10 (h : IZ t σ) : σ 10 0 = nI (tN t 3) := h.2.2.2.2.2.2.2.2.2.2.2.1
theorem IZ.m43 (h : IZ t σ) : σ 43 0 = nI (tN t 2) := h.2.2.2.2.2.2.2.2.2.2.2.2.1
theorem IZ.m26 (h : IZ t σ) : σ 26 0 = nI (tN t 1) := h.2.2.2.2.2.2.2.2.2.2.2.2.2
theorem IZ.b4 (h : IZ t σ) : tN t 4 ≤ 20 := h.2.2.1
theorem IZ.b3 (h : IZ t σ) : tN t 3 ≤ 60 := h.2.2.2.1
theorem IZ.b2 (h : IZ t σ) : tN t 2 ≤ 200 := h.2.2.2.2.1
theorem IZ.b1 (h : IZ t σ) : tN t 1 ≤ 40 := h.2.2.2.2.2.1
theorem C_pl_no (hz : IZ t σ) {a : Int32} {post : Option Nat → CS → Prop} (h : a < 0 ∨ nI (tN t 4) ≤ a) (k : post none t) : wp_C_placeAt t a post := by
  unfold wp_C_placeAt
  refine itE (fun _ => k) (fun h1 => itT ?_ k)
  rw [hz.pl, List.length_range]; exact h.resolve_left h1
theorem C_pl (hz : IZ t σ) {j : Nat} (hj : j < tN t 4) {post : Option Nat → CS → Prop} (k : post (some j) t) : wp_C_placeAt t (nI j) post := by
  have hb := hz.b4
  have hl : (tT t 0).length = tN t 4 := by rw [hz.pl, List.length_range]
  unfold wp_C_placeAt
  refine itF (nI_pos (by omega)) (itF ?_ ⟨?_, ?_, ?_⟩)
  · rw [hl]; exact nI_ge hj (by omega)
  · rw [hl]; exact vp_in_nI hj (by omega)
  · omega
  · rintro j5 rfl
    rw [hz.pl, nI_clamp (by omega), rng_getD hj]; exact ⟨hj, k⟩
theorem C_mn_no (hz : IZ t σ) {a : Int32} {post : Option Nat → CS → Prop} (h : a < 0 ∨ nI (tN t 3) ≤ a) (k : post none t) : wp_C_manAt t a post := by
  unfold wp_C_manAt
  refine itE (fun _ => k) (fun h1 => itT ?_ k)
  rw [hz.mn, List.length_range]; exact h.resolve_left h1
theorem C_mn (hz : IZ t σ) {j : Nat} (hj : j < tN t 3) {post : Option Nat → CS → Prop} (k : post (some j) t) : wp_C_manAt t (nI j) post := by
  have hb := hz.b3
  have hl : (tT t 1).length = tN t 3 := by rw [hz.mn, List.length_range]
  unfold wp_C_manAt
  refine itF (nI_pos (by omega)) (itF ?_ ⟨?_, ?_, ?_⟩)
  · rw [hl]; exact nI_ge hj (by omega)
  · rw [hl]; exact vp_in_nI hj (by omega)
  · omega
  · rintro j5 rfl
    rw [hz.mn, nI_clamp (by omega), rng_getD hj]; exact ⟨hj, k⟩
theorem C_ld_no (hz : IZ t σ) {a : Int32} {post : Option Nat → CS → Prop} (h : a < 0 ∨ nI (tN t 2) ≤ a) (k : post none t) : wp_C_loadAt t a post := by
  unfold wp_C_loadAt
  refine itE (fun _ => k) (fun h1 => itT ?_ k)
  rw [hz.ld, List.length_range]; exact h.resolve_left h1
theorem C_ld (hz : IZ t σ) {j : Nat} (hj : j < tN t 2) {post : Option Nat → CS → Prop} (k : post (some j) t) : wp_C_loadAt t (nI j) post := by
  have hb := hz.b2
  have hl : (tT t 2).length = tN t 2 := by rw [hz.ld, List.length_range]
  unfold wp_C_loadAt
  refine itF (nI_pos (by omega)) (itF ?_ ⟨?_, ?_, ?_⟩)
  · rw [hl]; exact nI_ge hj (by omega)
  · rw [hl]; exact vp_in_nI hj (by omega)
  · omega
  · rintro j5 rfl
    rw [hz.ld, nI_clamp (by omega), rng_getD hj]; exact ⟨hj, k⟩
theorem fel_getD {f : Nat} (h : f < 4) : ([0, 1, 2, 3] : List Nat).getD f 0 = f := by
  match f, h with
  | 0, _ => rfl
  | 1, _ => rfl
  | 2, _ => rfl
  | 3, _ => rfl
theorem C_fe_no (hz : IZ t σ) {a : Int32} {post : Option Nat → CS → Prop} (h : a < 0 ∨ nI 4 ≤ a) (k : post none t) : wp_C_fellowshipAt t a post := by
  unfold wp_C_fellowshipAt
  refine itE (fun _ => k) (fun h1 => itT ?_ k)
  rw [hz.2.1]; exact h.resolve_left h1
theorem C_fe (hz : IZ t σ) {j : Nat} (hj : j < 4) {post : Option Nat → CS → Prop} (k : post (some j) t) : wp_C_fellowshipAt t (nI j) post := by
  have hl : (tT t 4).length = 4 := by rw [hz.2.1]; rfl
  unfold wp_C_fellowshipAt
  refine itF (nI_pos (by omega)) (itF ?_ ⟨?_, ?_, ?_⟩)
  · rw [hl]; exact nI_ge hj (by omega)
  · rw [hl]; exact vp_in_nI hj (by omega)
  · omega
  · rintro j5 rfl
    rw [hz.2.1, nI_clamp (by omega), fel_getD hj]; exact ⟨by rw [hz.1]; exact hj, k⟩
theorem M_pl_no (hz : IZ t σ) {a : Int32} {X Y : MS → Prop} (h : a < 0 ∨ nI (tN t 4) ≤ a) (k : X σ) : wp_M_isPlace σ a (fun r s => if r = 0 then X s else Y s) := Mi_no hz.m5 (by have := hz.b4; omega) h k
theorem M_pl (hz : IZ t σ) {j : Nat} {X Y : MS → Prop} (h : j < tN t 4) (k : Y σ) : wp_M_isPlace σ (nI j) (fun r s => if r = 0 then X s else Y s) := Mi_yes hz.m5 (by have := hz.b4; omega) h k
theorem M_mn_no (hz : IZ t σ) {a : Int32} {X Y : MS → Prop} (h : a < 0 ∨ nI (tN t 3) ≤ a) (k : X σ) : wp_M_isMan σ a (fun r s => if r = 0 then X s else Y s) := Mi_no hz.m10 (by have := hz.b3; omega) h k
theorem M_mn (hz : IZ t σ) {j : Nat} {X Y : MS → Prop} (h : j < tN t 3) (k : Y σ) : wp_M_isMan σ (nI j) (fun r s => if r = 0 then X s else Y s) := Mi_yes hz.m10 (by have := hz.b3; omega) h k
theorem M_ld_no (hz : IZ t σ) {a : Int32} {X Y : MS → Prop} (h : a < 0 ∨ nI (tN t 2) ≤ a) (k : X σ) : wp_M_isLoad σ a (fun r s => if r = 0 then X s else Y s) := Mi_no hz.m43 (by have := hz.b2; omega) h k
theorem M_ld (hz : IZ t σ) {j : Nat} {X Y : MS → Prop} (h : j < tN t 2) (k : Y σ) : wp_M_isLoad σ (nI j) (fun r s => if r = 0 then X s else Y s) := Mi_yes hz.m43 (by have := hz.b2; omega) h k
theorem M_fe_no {a : Int32} {X Y : MS → Prop} (h : a < 0 ∨ nI 4 ≤ a) (k : X σ) : wp_M_isFellowship σ a (fun r s => if r = 0 then X s else Y s) := Mz_no (h.elim Or.inl (fun q => Or.inr ((fa_lt _ _).mpr (by have := (fa_le _ _).mp q; rw [nI_toInt (by omega)] at this; show (3 : Int) < _; omega)))) k
theorem M_fe {j : Nat} {X Y : MS → Prop} (h : j < 4) (k : Y σ) : wp_M_isFellowship σ (nI j) (fun r s => if r = 0 then X s else Y s) := by
  refine Mz_yes ?_ k
  rintro (q | q)
  · exact nI_pos (by omega) q
  · have := (fa_lt _ _).mp q
    rw [nI_toInt (by omega)] at this
    have h3 : ((3 : Int32).toInt : Int) = 3 := by decide
    omega
end Acc
