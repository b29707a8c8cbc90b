/-! count -/
section Count
variable {t : CS} {σ : MS}
theorem M_loadsAs (hz : IZ t σ) {v : Int32} {post : Int32 → MS → Prop} (k : post (nI (fb_ct (fun l => decide (σ 50 l = v)) (tN t 2))) σ) : wp_M_loadsAs σ v post := by
  have hb := hz.b2
  have main : ∀ d i, i + d = tN t 2 → wp_M_loadsAs_4 post (d + 1) σ v (nI (fb_ct (fun l => decide (σ 50 l = v)) i)) (nI i) := by
    intro d
    induction d with
    | zero =>
      intro i hi
      have e : i = tN t 2 := by omega
      subst e
      refine itT ?_ k
      rw [hz.m43]; exact nI_le (Nat.le_refl _) (by omega)
    | succ d ih =>
      intro i hi
      refine itF ?_ ⟨vp_in_nI (by omega) (by omega), ?_⟩
      · rw [hz.m43]; exact nI_ge (by omega) (by omega)
      rw [nI_clamp (by omega)]
      have hI := ih (i + 1) (by omega)
      rw [fb_ct_succ] at hI
      refine itE (fun q => ?_) (fun q => ?_)
      · rintro x1 rfl x2 rfl
        rw [if_pos (decide_eq_true q)] at hI
        rw [nI_1, nI_1]; exact hI
      · rintro x1 rfl x2 rfl
        rw [if_neg (fun e => q (of_decide_eq_true e))] at hI
        rw [nI_1, Int32.add_zero]; exact hI
  exact ⟨tN t 2 + 1, main (tN t 2) 0 (by omega)⟩
theorem C_loadsIn (h : Inv t σ) {v : Int32} {post : Int32 → CS → Prop} (k : post (nI (fb_ct (fun l => decide (σ 50 l = v)) (tN t 2))) t) : wp_C_loadsIn t v post := by
  have hb := h.z.b2
  have hl : (tT t 2).length = tN t 2 := by rw [h.z.ld, List.length_range]
  have main : ∀ d i, i + d = tN t 2 → wp_C_loadsIn_4 post (d + 1) t v (nI (fb_ct (fun l => decide (σ 50 l = v)) i)) (nI i) := by
    intro d
    induction d with
    | zero =>
      intro i hi
      have e : i = tN t 2 := by omega
      subst e
      refine itT ?_ k
      rw [hl]; exact nI_le (Nat.le_refl _) (by omega)
    | succ d ih =>
      intro i hi
      refine itF ?_ ⟨?_, by omega, ?_⟩
      · rw [hl]; exact nI_ge (by omega) (by omega)
      · rw [hl]; exact vp_in_nI (by omega) (by omega)
      rw [nI_clamp (by omega), h.z.ld, rng_getD (by omega)]
      rintro j5 rfl
      have hI := ih (i + 1) (by omega)
      rw [fb_ct_succ] at hI
      refine ⟨by omega, ?_⟩
      rw [(h.ld.1 i (by omega)).2.2.2.2.2.2.2.2.2.2.2.1]
      refine itE (fun q => ?_) (fun q => ?_)
      · rintro x1 rfl x2 rfl
        rw [if_pos (decide_eq_true q)] at hI
        rw [nI_1, nI_1]; exact hI
      · rintro x2 rfl
        rw [if_neg (fun e => q (of_decide_eq_true e))] at hI
        rw [nI_1]; exact hI
  exact ⟨tN t 2 + 1, main (tN t 2) 0 (by omega)⟩
def wtv (σ : MS) (l : Nat) : Int32 := (if σ 50 l = 0 then σ 1 0 else σ 52 l) - σ 51 l
theorem M_waited {l : Nat} (hl : l < 200) {post : Int32 → MS → Prop} (k : post (wtv σ l) σ) : wp_M_waited σ (nI l) post := by
  have hc : (nI l).toNatClampNeg = l := nI_clamp (by omega)
  have hv : vp_in (nI l) 200 := vp_in_nI (by omega) (by omega)
  refine ⟨hv, ?_⟩
  rw [hc]
  unfold wtv at k
  refine itE (fun q => ⟨hv, ?_⟩) (fun q => ⟨hv, hv, ?_⟩)
  · rw [if_pos q] at k; rw [hc]; exact k
  · rw [if_neg q] at k; rw [hc]; exact k
theorem C_waited (h : Inv t σ) {l : Nat} (hl : l < tN t 2) {post : Int32 → CS → Prop} (k : post (wtv σ l) t) : wp_Load_waitedBy t l (tF t 171 0) post := by
  obtain ⟨l1, l2, l3, l4, l5, l6, l7, l8, l9, l10, l11, l12, l13, -⟩ := h.ld.1 l hl
  obtain ⟨T, hT, e1, e2⟩ := h.m
  refine ⟨hl, ?_⟩
  rw [l11, l12, l13, e2, ← e1]
  unfold wtv at k
  refine itE (fun q => ?_) (fun q => ?_)
  · rw [if_pos q] at k; exact k
  · rw [if_neg q] at k; exact k
theorem s_count (h : Inv t σ) (a1 : Int32) : wp_C_count t a1 (fun v t1 => wp_M_count σ a1 (fun w σ1 => v = w ∧ Inv t1 σ1)) := by
  have hb := h.z.b2
  have hl : (tT t 2).length = tN t 2 := by rw [h.z.ld, List.length_range]
  unfold wp_C_count wp_M_count
  by_cases q0 : a1 = 0
  · rw [if_pos q0, if_pos q0]; exact ⟨by rw [h.z.pl, List.length_range, h.z.m5], h⟩
  rw [if_neg q0, if_neg q0]
  by_cases q1 : a1 = 1
  · rw [if_pos q1, if_pos q1]; exact ⟨by rw [h.z.mn, List.length_range, h.z.m10], h⟩
  rw [if_neg q1, if_neg q1]
  by_cases q2 : a1 = 2
  · rw [if_pos q2, if_pos q2]; exact ⟨by rw [hl, h.z.m43], h⟩
  rw [if_neg q2, if_neg q2]
  by_cases q3 : a1 = 3
  · rw [if_pos q3, if_pos q3]; exact ⟨by rw [h.z.lw, List.length_range, h.z.m26], h⟩
  rw [if_neg q3, if_neg q3]
  by_cases q4 : a1 = 4
  · obtain ⟨T, hT, e1, e2⟩ := h.m
    rw [if_pos q4, if_pos q4]; exact ⟨by rw [e1, e2], h⟩
  rw [if_neg q4, if_neg q4]
  by_cases q5 : a1 = 5
  · rw [if_pos q5, if_pos q5]
    refine C_loadsIn h (M_loadsAs h.z ⟨?_, h⟩)
    rw [q5]; rfl
  rw [if_neg q5, if_neg q5]
  by_cases q6 : a1 = 6
  · rw [if_pos q6, if_pos q6]
    refine C_loadsIn h (M_loadsAs h.z ⟨?_, h⟩)
    rw [q6]; rfl
  rw [if_neg q6, if_neg q6]
  by_cases q7 : a1 = 7
  · rw [if_pos q7, if_pos q7]
    refine C_loadsIn h (M_loadsAs h.z ⟨?_, h⟩)
    rw [q7]; rfl
  rw [if_neg q7, if_neg q7]
  by_cases q8 : a1 = 8
  · rw [if_pos q8, if_pos q8]
    refine C_loadsIn h (M_loadsAs h.z ⟨?_, h⟩)
    rw [q8]; rfl
  rw [if_neg q8, if_neg q8]
  by_cases q9 : a1 = 9
  · obtain ⟨n, hn, t1, t2, t3⟩ := h.tp
    rw [if_pos q9, if_pos q9]; exact ⟨by rw [t1, t2], h⟩
  rw [if_neg q9, if_neg q9]
  by_cases q10 : a1 = 10
  · rw [if_pos q10, if_pos q10]
    have mM : ∀ d i (v : Int32), i + d = tN t 2 → v = bx_sum (wtv σ) (tN t 2) → wp_M_count_104 (fun w σ1 => v = w ∧ Inv t σ1) (d + 1) σ (bx_sum (wtv σ) i) (nI i) := by
      intro d
      induction d with
      | zero =>
        intro i v hi hv
        have e : i = tN t 2 := by omega
        refine itT ?_ ⟨by rw [hv, e], h⟩
        rw [h.z.m43, e]; exact nI_le (Nat.le_refl _) (by omega)
      | succ d ih =>
        intro i v hi hv
        refine itF ?_ (M_waited (by omega) ?_)
        · rw [h.z.m43]; exact nI_ge (by omega) (by omega)
        · rintro x8 rfl x9 rfl
          rw [nI_1]; exact ih (i + 1) v (by omega) hv
    have mC : ∀ d i, i + d = tN t 2 → wp_C_allWaiting_4 (fun v t1 => ∃ nn, wp_M_count_104 (fun w σ1 => v = w ∧ Inv t1 σ1) nn σ 0 0) (d + 1) t (bx_sum (wtv σ) i) (nI i) := by
      intro d
      induction d with
      | zero =>
        intro i hi
        have e : i = tN t 2 := by omega
        refine itT ?_ ⟨tN t 2 + 1, mM (tN t 2) 0 _ (by omega) (by rw [e])⟩
        rw [hl, e]; exact nI_le (Nat.le_refl _) (by omega)
      | succ d ih =>
        intro i hi
        refine itF ?_ ⟨?_, by omega, ?_⟩
        · rw [hl]; exact nI_ge (by omega) (by omega)
        · rw [hl]; exact vp_in_nI (by omega) (by omega)
        rw [nI_clamp (by omega), h.z.ld, rng_getD (by omega)]
        rintro j5 rfl
        refine ⟨by omega, C_waited h (by omega) ?_⟩
        rintro x8 rfl x9 rfl
        rw [nI_1]; exact ih (i + 1) (by omega)
    exact ⟨tN t 2 + 1, mC (tN t 2) 0 (by omega)⟩
  rw [if_neg q10, if_neg q10]
  by_cases q11 : a1 = 11
  · rw [if_pos q11, if_pos q11]
    have mM : ∀ d i (v : Int32), i + d = tN t 2 → v = bx_sum (σ 57) (tN t 2) → wp_M_count_130 (fun w σ1 => v = w ∧ Inv t σ1) (d + 1) σ (bx_sum (σ 57) i) (nI i) := by
      intro d
      induction d with
      | zero =>
        intro i v hi hv
        have e : i = tN t 2 := by omega
        refine itT ?_ ⟨by rw [hv, e], h⟩
        rw [h.z.m43, e]; exact nI_le (Nat.le_refl _) (by omega)
      | succ d ih =>
        intro i v hi hv
        refine itF ?_ ⟨vp_in_nI (by omega) (by omega), ?_⟩
        · rw [h.z.m43]; exact nI_ge (by omega) (by omega)
        · rw [nI_clamp (by omega)]
          rintro x8 rfl x9 rfl
          rw [nI_1]; exact ih (i + 1) v (by omega) hv
    have mC : ∀ d i, i + d = tN t 2 → wp_C_allPaid_4 (fun v t1 => ∃ nn, wp_M_count_130 (fun w σ1 => v = w ∧ Inv t1 σ1) nn σ 0 0) (d + 1) t (bx_sum (σ 57) i) (nI i) := by
      intro d
      induction d with
      | zero =>
        intro i hi
        have e : i = tN t 2 := by omega
        refine itT ?_ ⟨tN t 2 + 1, mM (tN t 2) 0 _ (by omega) (by rw [e])⟩
        rw [hl, e]; exact nI_le (Nat.le_refl _) (by omega)
      | succ d ih =>
        intro i hi
        refine itF ?_ ⟨?_, by omega, ?_⟩
        · rw [hl]; exact nI_ge (by omega) (by omega)
        · rw [hl]; exact vp_in_nI (by omega) (by omega)
        rw [nI_clamp (by omega), h.z.ld, rng_getD (by omega)]
        rintro j5 rfl
        refine ⟨by omega, ?_⟩
        rw [(h.ld.1 i (by omega)).2.2.2.2.2.2.2.2.2.2.2.2.2.2.2.2.1]
        rintro x8 rfl x9 rfl
        rw [nI_1]; exact ih (i + 1) (by omega)
    exact ⟨tN t 2 + 1, mC (tN t 2) 0 (by omega)⟩
  rw [if_neg q11, if_neg q11]
  exact ⟨rfl, h⟩
end Count
