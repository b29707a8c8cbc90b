/-! count -/
section Count
variable {t : CS} {σ : MS}
theorem M_loadsAs (hz : IZ t σ) {v : Int32} {post : Int32 → MS → Prop} (k : post (nI (fb_ct (fun l => decide (σ 50 l = v)) (tN t 2))) σ) : wp_M_loadsAs σ v post := by
  have hb := hz.b2
  have main : ∀ d i, i + d = tN t 2 → wp_M_loadsAs_4 post (d + 1) σ v (nI (fb_ct (fun l => decide (σ 50 l = v)) i)) (nI i) := by
    intro d
    induction d with
    | zero =>
      intro i hi
      have e : i = tN t 2 := by omega
      subst e
      refine itT ?_ k
      rw [hz.m43]; exact nI_le (Nat.le_refl _) (by omega)
    | succ d ih =>
      intro i hi
      refine itF ?_ ⟨vp_in_nI (by omega) (by omega), ?_⟩
      · rw [hz.m43]; exact nI_ge (by omega) (by omega)
      rw [nI_clamp (by omega)]
      have hI := ih (i + 1) (by omega)
      rw [fb_ct_succ] at hI
      refine itE (fun q => ?_) (fun q => ?_)
      · rintro x1 rfl x2 rfl
        rw [if_pos (decide_eq_true q)] at hI
        rw [nI_1, nI_1]; exact hI
      · rintro x1 rfl x2 rfl
        rw [if_neg (fun e => q (of_decide_eq_true e))] at hI
        rw [nI_1, Int32.add_zero]; exact hI
  exact ⟨tN t 2 + 1, main (tN t 2) 0 (by omega)⟩
theorem C_loadsIn (h : Inv t σ) {v : Int32} {post : Int32 → CS → Prop} (k : post (nI (fb_ct (fun l => decide (σ 50 l = v)) (tN t 2))) t) : wp_C_loadsIn t v post := by
  have hb := h.z.b2
  have hl : (tT t 2).length = tN t 2 := by rw [h.z.ld, List.length_range]
  have main : ∀ d i, i + d = tN t 2 → wp_C_loadsIn_4 post (d + 1) t v (nI (fb_ct (fun l => decide (σ 50 l = v)) i)) (nI i) := by
    intro d
    induction d with
    | zero =>
      intro i hi
      have e : i = tN t 2 := by omega
      subst e
      refine itT ?_ k
      rw [hl]; exact nI_le (Nat.le_refl _) (by omega)
    | succ d ih =>
      intro i hi
      refine itF ?_ ⟨?_, by omega, ?_⟩
      · rw [hl]; exact nI_ge (by omega) (by omega)
      · rw [hl]; exact vp_in_nI (by omega) (by omega)
      rw [nI_clamp (by omega), h.z.ld, rng_getD (by omega)]
      refine nm_e ?_
      have hI := ih (i + 1) (by omega)
      rw [fb_ct_succ] at hI
      refine ⟨by omega, ?_⟩
      rw [(h.ld.1 i (by omega)).2.2.2.2.2.2.2.2.2.2.2.1]
      refine itE (fun q => ?_) (fun q => ?_)
      · rintro x1 rfl x2 rfl
        rw [if_pos (decide_eq_true q)] at hI
        rw [nI_1, nI_1]; exact hI
      · rintro x2 rfl
        rw [if_neg (fun e => q (of_decide_eq_true e))] at hI
        rw [nI_1]; exact hI
  exact ⟨tN t 2 + 1, main (tN t 2) 0 (by omega)⟩
def wtv (σ : MS) (l : Nat) : Int32 := (if σ 50 l = 0 then σ 1 0 else σ 52 l) - σ 51 l
theorem M_waited {l : Nat} (hl : l < 200) {post : Int32 → MS → Prop} (k : post (wtv σ l) σ) : wp_M_waited σ (nI l) post := by
  have hc : (nI l).toNatClampNeg = l := nI_clamp (by omega)
  have hv : vp_in (nI l) 200 := vp_in_nI (by omega) (by omega)
  refine ⟨hv, ?_⟩
  rw [hc]
  unfold wtv at k
  refine itE (fun q => ⟨hv, ?_⟩) (fun q => ⟨hv, hv, ?_⟩)
  · rw [if_pos q] at k; rw [hc]; exact k
  · rw [if_neg q] at k; rw [hc]; exact k
theorem C_waited (h : Inv t σ) {l : Nat} (hl : l < tN t 2) {post : Int32 → CS → Prop} (k : post (wtv σ l) t) : wp_Load_waitedBy t l (tF t 171 0) post := by
  obtain ⟨l1, l2, l3, l4, l5, l6, l7, l8, l9, l10, l11, l12, l13, -⟩ := h.ld.1 l hl
  obtain ⟨T, hT, e1, e2⟩ := h.m
  refine ⟨hl, ?_⟩
  rw [l11, l12, l13, e2, ← e1]
  unfold wtv at k
  refine itE (fun q => ?_) (fun q => ?_)
  · rw [if_pos q] at k; exact k
  · rw [if_neg q] at k; exact k
theorem s_count (h : Inv t σ) (a1 : Int32) : wp_C_count t a1 (fun v t1 => wp_M_count σ a1 (fun w σ1 => v = w ∧ Inv t1 σ1)) := by
  have hb := h.z.b2
  have hl : (tT t 2).length = tN t 2 := by rw [h.z.ld, List.length_range]
  unfold wp_C_count
  refine itE (fun q0 => ?_) (fun q0 => itE (fun q1 => ?_) (fun q1 => itE (fun q2 => ?_) (fun q2 => itE (fun q3 => ?_) (fun q3 => itE (fun q4 => ?_) (fun q4 => itE (fun q5 => ?_) (fun q5 => itE (fun q6 => ?_) (fun q6 => itE (fun q7 => ?_) (fun q7 => itE (fun q8 => ?_) (fun q8 => itE (fun q9 => ?_) (fun q9 => itE (fun q10 => ?_) (fun q10 => itE (fun q11 => ?_) (fun q11 => ?_))))))))))))
  · exact itT q0 ⟨by rw [h.z.pl, List.length_range, h.z.m5], h⟩
  · exact itF q0 (itT q1 ⟨by rw [h.z.mn, List.length_range, h.z.m10], h⟩)
  · exact itF q0 (itF q1 (itT q2 ⟨by rw [hl, h.z.m43], h⟩))
  · exact itF q0 (itF q1 (itF q2 (itT q3 ⟨by rw [h.z.lw, List.length_range, h.z.m26], h⟩)))
  · obtain ⟨T, hT, e1, e2⟩ := h.m
    exact itF q0 (itF q1 (itF q2 (itF q3 (itT q4 ⟨by rw [e1, e2], h⟩))))
  · refine C_loadsIn h ?_
    refine itF q0 (itF q1 (itF q2 (itF q3 (itF q4 (itT q5 (M_loadsAs h.z ⟨?_, h⟩))))))
    rw [q5]; rfl
  · refine C_loadsIn h ?_
    refine itF q0 (itF q1 (itF q2 (itF q3 (itF q4 (itF q5 (itT q6 (M_loadsAs h.z ⟨?_, h⟩)))))))
    rw [q6]; rfl
  · refine C_loadsIn h ?_
    refine itF q0 (itF q1 (itF q2 (itF q3 (itF q4 (itF q5 (itF q6 (itT q7 (M_loadsAs h.z ⟨?_, h⟩))))))))
    rw [q7]; rfl
  · refine C_loadsIn h ?_
    refine itF q0 (itF q1 (itF q2 (itF q3 (itF q4 (itF q5 (itF q6 (itF q7 (itT q8 (M_loadsAs h.z ⟨?_, h⟩)))))))))
    rw [q8]; rfl
  · obtain ⟨n, hn, t1, t2, t3⟩ := h.tp
    exact itF q0 (itF q1 (itF q2 (itF q3 (itF q4 (itF q5 (itF q6 (itF q7 (itF q8 (itT q9 ⟨by rw [t1, t2], h⟩)))))))))
  · have mM : ∀ d i (v : Int32), i + d = tN t 2 → v = bx_sum (wtv σ) (tN t 2) → wp_M_count_104 (fun w σ1 => v = w ∧ Inv t σ1) (d + 1) σ (bx_sum (wtv σ) i) (nI i) := by
      intro d
      induction d with
      | zero =>
        intro i v hi hv
        have e : i = tN t 2 := by omega
        refine itT ?_ ⟨by rw [hv, e], h⟩
        rw [h.z.m43, e]; exact nI_le (Nat.le_refl _) (by omega)
      | succ d ih =>
        intro i v hi hv
        refine itF ?_ (M_waited (by omega) ?_)
        · rw [h.z.m43]; exact nI_ge (by omega) (by omega)
        · rintro x8 rfl x9 rfl
          rw [nI_1]; exact ih (i + 1) v (by omega) hv
    have mC : ∀ d i, i + d = tN t 2 → wp_C_allWaiting_4 (fun v t1 => wp_M_count σ a1 (fun w σ1 => v = w ∧ Inv t1 σ1)) (d + 1) t (bx_sum (wtv σ) i) (nI i) := by
      intro d
      induction d with
      | zero =>
        intro i hi
        have e : i = tN t 2 := by omega
        refine itT ?_ (itF q0 (itF q1 (itF q2 (itF q3 (itF q4 (itF q5 (itF q6 (itF q7 (itF q8 (itF q9 (itT q10 ⟨tN t 2 + 1, mM (tN t 2) 0 _ (by omega) (by rw [e])⟩)))))))))))
        rw [hl, e]; exact nI_le (Nat.le_refl _) (by omega)
      | succ d ih =>
        intro i hi
        refine itF ?_ ⟨?_, by omega, ?_⟩
        · rw [hl]; exact nI_ge (by omega) (by omega)
        · rw [hl]; exact vp_in_nI (by omega) (by omega)
        rw [nI_clamp (by omega), h.z.ld, rng_getD (by omega)]
        refine nm_e ?_
        refine ⟨by omega, C_waited h (by omega) ?_⟩
        rintro x8 rfl x9 rfl
        rw [nI_1]; exact ih (i + 1) (by omega)
    exact ⟨tN t 2 + 1, mC (tN t 2) 0 (by omega)⟩
  · have mM : ∀ d i (v : Int32), i + d = tN t 2 → v = bx_sum (σ 57) (tN t 2) → wp_M_count_130 (fun w σ1 => v = w ∧ Inv t σ1) (d + 1) σ (bx_sum (σ 57) i) (nI i) := by
      intro d
      induction d with
      | zero =>
        intro i v hi hv
        have e : i = tN t 2 := by omega
        refine itT ?_ ⟨by rw [hv, e], h⟩
        rw [h.z.m43, e]; exact nI_le (Nat.le_refl _) (by omega)
      | succ d ih =>
        intro i v hi hv
        refine itF ?_ ⟨vp_in_nI (by omega) (by omega), ?_⟩
        · rw [h.z.m43]; exact nI_ge (by omega) (by omega)
        · rw [nI_clamp (by omega)]
          rintro x8 rfl x9 rfl
          rw [nI_1]; exact ih (i + 1) v (by omega) hv
    have mC : ∀ d i, i + d = tN t 2 → wp_C_allPaid_4 (fun v t1 => wp_M_count σ a1 (fun w σ1 => v = w ∧ Inv t1 σ1)) (d + 1) t (bx_sum (σ 57) i) (nI i) := by
      intro d
      induction d with
      | zero =>
        intro i hi
        have e : i = tN t 2 := by omega
        refine itT ?_ (itF q0 (itF q1 (itF q2 (itF q3 (itF q4 (itF q5 (itF q6 (itF q7 (itF q8 (itF q9 (itF q10 (itT q11 ⟨tN t 2 + 1, mM (tN t 2) 0 _ (by omega) (by rw [e])⟩))))))))))))
        rw [hl, e]; exact nI_le (Nat.le_refl _) (by omega)
      | succ d ih =>
        intro i hi
        refine itF ?_ ⟨?_, by omega, ?_⟩
        · rw [hl]; exact nI_ge (by omega) (by omega)
        · rw [hl]; exact vp_in_nI (by omega) (by omega)
        rw [nI_clamp (by omega), h.z.ld, rng_getD (by omega)]
        refine nm_e ?_
        refine ⟨by omega, ?_⟩
        rw [(h.ld.1 i (by omega)).2.2.2.2.2.2.2.2.2.2.2.2.2.2.2.2.1]
        rintro x8 rfl x9 rfl
        rw [nI_1]; exact ih (i + 1) (by omega)
    exact ⟨tN t 2 + 1, mC (tN t 2) 0 (by omega)⟩
  · exact itF q0 (itF q1 (itF q2 (itF q3 (itF q4 (itF q5 (itF q6 (itF q7 (itF q8 (itF q9 (itF q10 (itF q11 (⟨rfl, h⟩))))))))))))
end Count
