/-! calls: join, leave, gone, about, turn, dice, end, rates, off, told, gang, fund -/
section Calls3
variable {t : CS} {σ : MS}
theorem C_fo (h : Inv t σ) {m f : Nat} (hm : m < tN t 3) (hf : f < 4) (ef : σ 11 m = nI f) {post : Option Nat → CS → Prop} (k : post (some f) t) : wp_C_fellowshipOf t (some m) post := by
  refine oS ⟨hm, ?_⟩
  rw [(h.n.1 m hm).1, ef]
  exact C_fe h.z hf k
theorem Inv.fel (h : Inv t σ) {m : Nat} (hm : m < tN t 3) : ∃ f, f < 4 ∧ σ 11 m = nI f := (h.n.1 m hm).2.2.2.2.2.2.2.2.2.1
theorem elRow {k : Nat} (hn : ∀ x ∈ tT t k, x < tN t 3) {f : Nat} (hf : f < 4) (e : k = f + 7) : elOk t k := fun x hx => by
  subst e
  match f, hf with
  | 0, _ => exact hn x hx
  | 1, _ => exact hn x hx
  | 2, _ => exact hn x hx
  | 3, _ => exact hn x hx
theorem nodup_add {row : List Nat} {m : Nat} (h : row.Nodup) (hm : m ∉ row) : (row ++ [m]).Nodup := by
  refine List.pairwise_append.mpr ⟨h, List.pairwise_singleton _ _, fun a ha b hb e => ?_⟩
  rw [List.mem_singleton] at hb
  subst hb; subst e; exact hm ha
theorem s_join (h : Inv t σ) (a1 : Int32) : wp_C_join 1170 14200 t a1 (fun v t1 => wp_M_join σ a1 (fun w σ1 => v = w ∧ Inv t1 σ1)) := by
  have hb := h.z.b3
  unfold wp_C_join
  rcases ix a1 (n := tN t 3) (by omega) with hn | ⟨m, hm, rfl⟩
  · refine C_mn_no h.z hn (oN (oN ?_))
    exact M_mn_no h.z hn ⟨rfl, h⟩
  obtain ⟨f, hf, ef⟩ := h.fel hm
  have hw := h.w f hf
  have hr := IRw.row h.z h.w hf
  have hc : (nI m).toNatClampNeg = m := nI_clamp (by omega)
  have hcf : (nI f).toNatClampNeg = f := nI_clamp (by omega)
  have hv : vp_in (nI m) 60 := vp_in_nI (by omega) (by omega)
  have hmem : ∀ x ∈ tT t (f + 7), x < tN t 3 := fun x hx => (hw.2.2.2 x hx).1
  obtain ⟨T, hT, e1, e2⟩ := h.m
  obtain ⟨n1, n2, n3, n4, n5, n6, n7, n8, n9, n10, n11⟩ := h.n.1 m hm
  refine C_mn h.z hm (C_fo h hm hf ef (oS (oS ⟨by rw [h.z.1]; exact hf, C_placeIn h.z.1 hf (by omega) hr.2.2.1 hmem hb (itE (fun q => ?_) (fun q => ⟨hm, hm, ?_⟩))⟩)))
  · exact M_mn h.z hm (M_placeIn hf (by omega) ef hr (itT q ⟨rfl, h⟩))
  have hx : m ∉ tT t (f + 7) := (pv_neg (by have := hr.2.2.1; omega)).mp (Int32.not_le.mp q)
  rw [n6, e2, ← e1]
  refine itE (fun q2 => itT rfl ?_) (fun q2 => itF (by decide) ⟨hm, ?_⟩)
  · refine M_mn h.z hm (M_placeIn hf (by omega) ef hr (itF q ⟨hv, ?_⟩))
    rw [hc]; exact itT q2 ⟨rfl, h⟩
  rw [n9]
  refine itE (fun q3 => ?_) (fun q3 => ?_)
  · have hc7 := h.c (f + 7)
    refine ⟨by rw [h.z.1]; exact hf, by omega, by omega, elRow hmem hf rfl, ⟨by have := aC_le (tT t (f + 7)).length (tK t (f + 7)); omega, by have := aS_le (n := (tT t (f + 7)).length) hc7.2; omega⟩, ?_⟩
    rintro c22 s23 - - t24 rfl
    refine ⟨by show f < tN t 0; rw [h.z.1]; exact hf, by show f + 7 < tN t 2 + 11; omega, ?_⟩
    have hlen : (tT t (f + 7)).length < 60 := by
      have := nodup_le (nodup_add hw.2.2.1 hx) (n := 60) (fun x hxx => by
        rcases List.mem_append.mp hxx with q | q
        · have := hmem x q; omega
        · rw [List.mem_singleton] at q; omega)
      rw [List.length_append] at this
      exact Nat.lt_of_succ_le this
    refine M_mn h.z hm (M_placeIn hf (by omega) ef hr (itF q ⟨hv, ?_⟩))
    rw [hc]
    refine itF q2 ⟨hv, itT q3 (M_comesIn hf (by omega) ef hr hlen (fun g h' ho => ⟨hv, ?_⟩))⟩
    show vp_in (σ 11 m) 4 ∧ nI (tT (lAdd t (f + 7) m) (f + 7)).length = g (σ 11 m).toNatClampNeg ∧ _
    rw [ef, hcf, lT_eq]
    refine ⟨vp_in_nI hf (by omega), ho.1.symm, ?_⟩
    refine Inv_row (T' := tT (lAdd t (f + 7) m)) (K' := tK (lAdd t (f + 7) m)) h hf lT_eq (fun k hk => lT_ne hk) (IC_add h.c m (by omega)) (nodup_add hw.2.2.1 hx) (fun x hxx => ?_) ho (fun i hi hfl x hx1 hx2 hx3 => ?_)
    · rcases List.mem_append.mp hxx with q | q
      · exact hw.2.2.2 x q
      · rw [List.mem_singleton] at q
        subst q; exact ⟨hm, ef⟩
    · rcases List.mem_append.mp hx3 with q | q
      · exact hx2 q
      · rw [List.mem_singleton] at q
        subst q
        obtain ⟨T2, g1, g2, g3⟩ := h.g
        obtain ⟨-, -, -, -, -, k6⟩ := g3 i hi
        rcases k6 with ⟨-, k, -⟩ | ⟨-, f2, a, -, -, k3, -, -, -, k7⟩
        · rw [hfl] at k; exact absurd k (by decide)
        · rcases k7 with ⟨-, k8, -, k10⟩ | ⟨k, -⟩
          · rw [(k10 x hx1).1, g1] at q2
            refine q2 (nI_lt ?_ (by omega))
            rcases k8 with k8 | k8
            · exact k8
            · have := h.z.b2
              omega
          · rw [hfl] at k; exact absurd k (by decide)
  · refine M_mn h.z hm (M_placeIn hf (by omega) ef hr (itF q ⟨hv, ?_⟩))
    rw [hc]
    exact itF q2 ⟨hv, itF q3 ⟨rfl, h⟩⟩
theorem Inv_out (h : Inv t σ) {m f : Nat} (hf : f < 4) {g h' : Nat → Int32} (hx : m ∈ tT t (f + 7)) (ho : outR σ f ((tT t (f + 7)).eraseIdx (pos (tT t (f + 7)) m)) g h') : Inv (sT t (f + 7) ((tT t (f + 7)).eraseIdx (pos (tT t (f + 7)) m))) (sR (sR σ 20 g) 21 h') := by
  have hw := h.w f hf
  have hsub : ∀ x, x ∈ (tT t (f + 7)).eraseIdx (pos (tT t (f + 7)) m) → x ∈ tT t (f + 7) := fun x hxx => List.mem_of_mem_eraseIdx hxx
  refine Inv_row (T' := tT (sT t (f + 7) ((tT t (f + 7)).eraseIdx (pos (tT t (f + 7)) m)))) (K' := tK t) h hf sT_eq (fun k hk => sT_ne hk) (IC_set h.c ?_) ?_ (fun x hxx => hw.2.2.2 x (hsub x hxx)) ho (fun i hi hfl x hx1 hx2 hx3 => hx2 (hsub x hx3))
  · rw [List.length_eraseIdx]; split <;> omega
  · exact List.Pairwise.sublist (List.eraseIdx_sublist _ _) hw.2.2.1
theorem s_leave (h : Inv t σ) (a1 : Int32) : wp_C_leave t a1 (fun v t1 => wp_M_leave σ a1 (fun w σ1 => v = w ∧ Inv t1 σ1)) := by
  have hb := h.z.b3
  unfold wp_C_leave
  rcases ix a1 (n := tN t 3) (by omega) with hn | ⟨m, hm, rfl⟩
  · refine C_mn_no h.z hn (oN (oN ?_))
    exact M_mn_no h.z hn ⟨rfl, h⟩
  obtain ⟨f, hf, ef⟩ := h.fel hm
  have hw := h.w f hf
  have hr := IRw.row h.z h.w hf
  have hmem : ∀ x ∈ tT t (f + 7), x < tN t 3 := fun x hx => (hw.2.2.2 x hx).1
  refine C_mn h.z hm (C_fo h hm hf ef (oS ⟨by rw [h.z.1]; exact hf, ?_⟩))
  by_cases hx : m ∈ tT t (f + 7)
  · refine C_drop h.z.1 hf (by omega) hr.2.2.1 hmem hb hx (itF (by decide) ?_)
    refine M_mn h.z hm (M_placeIn hf (by omega) ef hr (itT ?_ (M_goesOut hf (by omega) ef hr hx (fun g h' ho => ⟨rfl, Inv_out h hf hx ho⟩))))
    exact Int32.not_lt.mp (fun q => (pv_neg (by have := hr.2.2.1; omega)).mp q hx)
  · refine C_drop_no h.z.1 hf (by omega) hr.2.2.1 hmem hb hx (itT rfl ?_)
    refine M_mn h.z hm (M_placeIn hf (by omega) ef hr (itF ?_ ⟨rfl, h⟩))
    exact Int32.not_le.mpr ((pv_neg (by have := hr.2.2.1; omega)).mpr hx)
theorem s_gone (h : Inv t σ) (a1 : Int32) : wp_C_gone t a1 (fun v t1 => wp_M_gone σ a1 (fun w σ1 => v = w ∧ Inv t1 σ1)) := by
  have hb := h.z.b3
  unfold wp_C_gone
  rcases ix a1 (n := tN t 3) (by omega) with hn | ⟨m, hm, rfl⟩
  · refine C_mn_no h.z hn (oN (oN ?_))
    exact M_mn_no h.z hn ⟨rfl, h⟩
  obtain ⟨f, hf, ef⟩ := h.fel hm
  have hc : (nI m).toNatClampNeg = m := nI_clamp (by omega)
  have hv : vp_in (nI m) 60 := vp_in_nI (by omega) (by omega)
  obtain ⟨T, hT, e1, e2⟩ := h.m
  obtain ⟨n1, n2, n3, n4, n5, n6, n7, n8, n9, n10, n11⟩ := h.n.1 m hm
  refine C_mn h.z hm (C_fo h hm hf ef (oS (oS ⟨hm, ?_⟩)))
  rw [n9]
  refine itE (fun q => ⟨hm, ?_⟩) (fun q => ?_)
  · rw [n6, e2, ← e1]
    refine itE (fun q2 => itT rfl ?_) (fun q2 => itF (by decide) ⟨hm, ?_⟩)
    · refine M_mn h.z hm ⟨hv, ?_⟩
      rw [hc]
      exact itT q ⟨hv, itF (Int32.not_le.mpr q2) ⟨rfl, h⟩⟩
    · rintro t13 rfl
      have h2 : Inv (sF t 105 m 1) (up2 σ 19 m 1) := by
        refine ⟨h.z, h.c, h.s, h.p, h.r, h.m, ⟨fun i hi => ?_, fun i hi => ?_⟩, h.w, h.d, h.tp, h.lw, h.ld, h.g, h.f⟩
        · obtain ⟨n1, n2, n3, n4, n5, n6, n7, n8, n9, n10, n11⟩ := h.n.1 i hi
          refine ⟨n1, n2, n3, n4, n5, n6, n7, n8, ?_, n10, ?_⟩
          · show upd (tF t 105) m 1 i = upd (σ 19) m 1 i
            by_cases e : i = m
            · subst e; rw [pk_us, pk_us]
            · rw [pk_un e, pk_un e]; exact n9
          · show bz (upd (σ 19) m 1 i)
            by_cases e : i = m
            · subst e; rw [pk_us]; exact Or.inr rfl
            · rw [pk_un e]; exact n11
        · obtain ⟨z1, z2, z3, z4, z5⟩ := h.n.2 i hi
          refine ⟨z1, z2, z3, z4, ?_⟩
          have hi : tN t 3 ≤ i := hi
          show upd (σ 19) m 1 i = 0
          rw [pk_un (by omega)]; exact z5
      have hw := h2.w f hf
      have hr := IRw.row h2.z h2.w hf
      have hmem : ∀ x ∈ tT t (f + 7), x < tN t 3 := fun x hx => (hw.2.2.2 x hx).1
      refine ⟨by show f < tN t 0; rw [h.z.1]; exact hf, ?_⟩
      have hM : ∀ t1, (wp_M_goesOut (up2 σ 19 m 1) (nI m) (fun σ10 => (1 : Int32) = 1 ∧ Inv t1 σ10)) → wp_M_gone σ (nI m) (fun w σ1 => (1 : Int32) = w ∧ Inv t1 σ1) := fun t1 hg => by
        refine M_mn h.z hm ⟨hv, ?_⟩
        rw [hc]
        refine itT q ⟨hv, itT (Int32.not_lt.mp q2) ⟨hv, ?_⟩⟩
        rintro σ9 rfl
        exact hg
      by_cases hx : m ∈ tT t (f + 7)
      · refine C_drop (t := sF t 105 m 1) h.z.1 hf (by omega) hr.2.2.1 hmem hb hx ?_
        exact hM _ (M_goesOut (σ := up2 σ 19 m 1) hf (by omega) ef hr hx (fun g h' ho => ⟨rfl, Inv_out h2 hf hx ho⟩))
      · refine C_drop_no (t := sF t 105 m 1) h.z.1 hf (by omega) hr.2.2.1 hmem hb hx ?_
        exact hM _ (M_goesOut_no (σ := up2 σ 19 m 1) hf (by omega) ef hr hx ⟨rfl, h2⟩)
  · refine M_mn h.z hm ⟨hv, ?_⟩
    rw [hc]
    exact itF q ⟨rfl, h⟩
theorem s_about (h : Inv t σ) (a1 a2 : Int32) : wp_C_about t a1 a2 (fun v t1 => wp_M_about σ a1 a2 (fun w σ1 => v = w ∧ Inv t1 σ1)) := by
  have hb := h.z.b3
  unfold wp_C_about
  rcases ix a1 (n := tN t 3) (by omega) with hn | ⟨m, hm, rfl⟩
  · refine C_mn_no h.z hn (oN (oN ?_))
    exact M_mn_no h.z hn ⟨rfl, h⟩
  obtain ⟨f, hf, ef⟩ := h.fel hm
  have hc : (nI m).toNatClampNeg = m := nI_clamp (by omega)
  have hv : vp_in (nI m) 60 := vp_in_nI (by omega) (by omega)
  have hw := h.w f hf
  have hr := IRw.row h.z h.w hf
  have hmem : ∀ x ∈ tT t (f + 7), x < tN t 3 := fun x hx => (hw.2.2.2 x hx).1
  obtain ⟨n1, n2, n3, n4, n5, n6, n7, n8, n9, n10, n11⟩ := h.n.1 m hm
  refine C_mn h.z hm (C_fo h hm hf ef (oS (oS ?_)))
  refine itE (fun q0 => ⟨hm, ?_⟩) (fun q0 => itE (fun q1 => ⟨hm, ?_⟩) (fun q1 => itE (fun q2 => ⟨hm, ?_⟩) (fun q2 => itE (fun q3 => ⟨hm, ?_⟩) (fun q3 => itE (fun q4 => ⟨hm, ?_⟩) (fun q4 => itE (fun q5 => ⟨hm, ?_⟩) (fun q5 => itE (fun q6 => ⟨hm, ?_⟩) (fun q6 => itE (fun q7 => ⟨by rw [h.z.1]; exact hf, C_placeIn h.z.1 hf (by omega) hr.2.2.1 hmem hb ?_⟩) (fun q7 => itE (fun q8 => ⟨hm, ?_⟩) (fun q8 => itE (fun q9 => ⟨hm, ?_⟩) (fun q9 => ?_))))))))))
  · exact M_mn h.z hm (itT q0 ⟨hv, by rw [hc]; exact n1, h⟩)
  · exact M_mn h.z hm (itF q0 (itT q1 ⟨hv, by rw [hc]; exact n2, h⟩))
  · exact M_mn h.z hm (itF q0 (itF q1 (itT q2 ⟨hv, by rw [hc]; exact n3, h⟩)))
  · exact M_mn h.z hm (itF q0 (itF q1 (itF q2 (itT q3 ⟨hv, by rw [hc]; exact n4, h⟩))))
  · exact M_mn h.z hm (itF q0 (itF q1 (itF q2 (itF q3 (itT q4 ⟨hv, by rw [hc]; exact n5, h⟩)))))
  · exact M_mn h.z hm (itF q0 (itF q1 (itF q2 (itF q3 (itF q4 (itT q5 ⟨hv, by rw [hc]; exact n6, h⟩))))))
  · exact M_mn h.z hm (itF q0 (itF q1 (itF q2 (itF q3 (itF q4 (itF q5 (itT q6 ⟨hv, by rw [hc]; exact n7, h⟩)))))))
  · exact M_mn h.z hm (itF q0 (itF q1 (itF q2 (itF q3 (itF q4 (itF q5 (itF q6 (itT q7 (M_placeIn hf (by omega) ef hr ⟨rfl, h⟩)))))))))
  · rw [n9]
    refine itE (fun q => ?_) (fun q => ?_)
    · exact M_mn h.z hm (itF q0 (itF q1 (itF q2 (itF q3 (itF q4 (itF q5 (itF q6 (itF q7 (itT q8 ⟨hv, by rw [hc]; exact itT q ⟨rfl, h⟩⟩)))))))))
    · exact M_mn h.z hm (itF q0 (itF q1 (itF q2 (itF q3 (itF q4 (itF q5 (itF q6 (itF q7 (itT q8 ⟨hv, by rw [hc]; exact itF q ⟨rfl, h⟩⟩)))))))))
  · exact M_mn h.z hm (itF q0 (itF q1 (itF q2 (itF q3 (itF q4 (itF q5 (itF q6 (itF q7 (itF q8 (itT q9 ⟨hv, by rw [hc]; exact n8, h⟩))))))))))
  · exact M_mn h.z hm (itF q0 (itF q1 (itF q2 (itF q3 (itF q4 (itF q5 (itF q6 (itF q7 (itF q8 (itF q9 ⟨rfl, h⟩))))))))))
theorem s_turn (h : Inv t σ) (a1 a2 : Int32) : wp_C_turn t a1 a2 (fun v t1 => wp_M_turn σ a1 a2 (fun w σ1 => v = w ∧ Inv t1 σ1)) := by
  unfold wp_C_turn
  rcases ix a1 (n := 4) (by omega) with hn | ⟨f, hf, rfl⟩
  · refine C_fe_no h.z hn (oN ?_)
    exact M_fe_no hn ⟨rfl, h⟩
  have hw := h.w f hf
  have hr := IRw.row h.z h.w hf
  have hl := hr.2.2.1
  have hcf : (nI f).toNatClampNeg = f := nI_clamp (by omega)
  have hvf : vp_in (nI f) 4 := vp_in_nI hf (by omega)
  refine C_fe h.z hf (oS ?_)
  rcases ix a2 (n := (tT t (f + 7)).length) (by omega) with hn | ⟨k, hk, rfl⟩
  · have hM : wp_M_turn σ (nI f) a2 (fun w σ1 => (-1 : Int32) = w ∧ Inv t σ1) := by
      refine M_fe hf ⟨hvf, ?_⟩
      rw [hcf, hr.1]
      exact Mw_no (lt_pred (by omega) hn) ⟨rfl, h⟩
    refine itE (fun _ => hM) (fun q => ⟨by rw [h.z.1]; exact hf, by omega, itF (Int32.not_lt.mpr (hn.resolve_left q)) hM⟩)
  · refine itF (nI_pos (by omega)) ⟨by rw [h.z.1]; exact hf, by omega, itT (nI_lt hk (by omega)) ⟨vp_in_nI hk (by omega), by omega, ?_⟩⟩
    rw [nI_clamp (by omega)]
    rintro j10 rfl
    refine ⟨(hw.2.2.2 _ (getD_mem hk)).1, ?_⟩
    refine M_fe hf ⟨hvf, ?_⟩
    rw [hcf, hr.1]
    refine Mw_yes (ge_pred (by omega) hk) ?_
    rw [i60, nI_clamp (by omega), hr.2.1 k hk]
    exact ⟨vp_in_nI (by omega) (by omega), rfl, h⟩
end Calls3
