/-! choose and take; why -/
theorem pick_sub (dc : Bool) (least N : Int32) (str : Nat → Int32) : ∀ n rem ch z pw, (∀ x ∈ (pick dc least N str n rem ch z pw).2.1, x ∈ ch ∨ x ∈ rem) ∧ (∀ x ∈ (pick dc least N str n rem ch z pw).2.2.1, x ∈ rem) ∧ (pick dc least N str n rem ch z pw).2.1.length ≤ ch.length + n ∧ (pick dc least N str n rem ch z pw).2.2.1.length ≤ rem.length ∧ ((pick dc least N str n rem ch z pw).1 = true → (pick dc least N str n rem ch z pw).2.1 ≠ []) ∧ (dc = false → (pick dc least N str n rem ch z pw).2.2.2 = z) := by
  intro n
  induction n with
  | zero => intro rem ch z pw; exact ⟨fun x hx => Or.inl hx, fun x hx => hx, Nat.le_refl _, Nat.le_refl _, (fun q => by cases q), fun _ => rfl⟩
  | succ n ih =>
    intro rem ch z pw
    unfold pick
    by_cases h : rem = []
    · rw [if_pos h]; exact ⟨fun x hx => Or.inl hx, fun x hx => hx, Nat.le_add_right _ _, Nat.le_refl _, (fun q => by cases q), fun _ => rfl⟩
    rw [if_neg h]
    have hpos : 0 < rem.length := List.length_pos_iff.mpr h
    have hi : pki dc z rem.length < rem.length := by
      unfold pki
      by_cases q : dc = true
      · rw [if_pos q]; exact Nat.mod_lt _ hpos
      · rw [if_neg q]; exact hpos
    generalize pki dc z rem.length = i at hi
    have hx := getD_mem hi
    have hle : (rem.eraseIdx i).length ≤ rem.length := by rw [List.length_eraseIdx]; split <;> omega
    have hz : dc = false → nzv dc z = z := fun q => by rw [q]; rfl
    by_cases h2 : ¬ nI (ch.length + 1) < least ∧ ¬ 4 * (pw + str (rem.getD i 0)) < N
    · rw [if_pos h2]
      refine ⟨fun x hxx => ?_, fun x hxx => List.mem_of_mem_eraseIdx hxx, ?_, hle, fun _ q => ?_, hz⟩
      · rcases List.mem_append.mp hxx with q | q
        · exact Or.inl q
        · rw [List.mem_singleton] at q; rw [q]; exact Or.inr hx
      · show (ch ++ [rem.getD i 0]).length ≤ _
        rw [List.length_append]
        show ch.length + 1 ≤ _
        omega
      · have q : ch ++ [rem.getD i 0] = [] := q
        exact absurd q (by simp)
    · rw [if_neg h2]
      obtain ⟨a1, a2, a3, a4, a5, a6⟩ := ih (rem.eraseIdx i) (ch ++ [rem.getD i 0]) (nzv dc z) (pw + str (rem.getD i 0))
      refine ⟨fun x hxx => ?_, fun x hxx => List.mem_of_mem_eraseIdx (a2 x hxx), ?_, Nat.le_trans a4 hle, a5, fun q => (a6 q).trans (hz q)⟩
      · rcases a1 x hxx with q | q
        · rcases List.mem_append.mp q with q | q
          · exact Or.inl q
          · rw [List.mem_singleton] at q; rw [q]; exact Or.inr hx
        · exact Or.inr (List.mem_of_mem_eraseIdx q)
      · rw [List.length_append] at a3
        have a3 : _ ≤ ch.length + 1 + n := a3
        omega
theorem pick_nd (dc : Bool) (least N : Int32) (str : Nat → Int32) : ∀ n rem ch z pw, rem.Nodup → ch.Nodup → (∀ x ∈ rem, x ∉ ch) → (pick dc least N str n rem ch z pw).2.1.Nodup := by
  intro n
  induction n with
  | zero => intro rem ch z pw _ h2 _; exact h2
  | succ n ih =>
    intro rem ch z pw h1 h2 h3
    unfold pick
    by_cases h : rem = []
    · rw [if_pos h]; exact h2
    rw [if_neg h]
    have hpos : 0 < rem.length := List.length_pos_iff.mpr h
    have hi : pki dc z rem.length < rem.length := by
      unfold pki
      by_cases q : dc = true
      · rw [if_pos q]; exact Nat.mod_lt _ hpos
      · rw [if_neg q]; exact hpos
    generalize pki dc z rem.length = i at hi
    have hx := getD_mem hi
    have hadd := nodup_add h2 (h3 _ hx)
    by_cases h4 : ¬ nI (ch.length + 1) < least ∧ ¬ 4 * (pw + str (rem.getD i 0)) < N
    · rw [if_pos h4]; exact hadd
    · rw [if_neg h4]
      refine ih _ _ _ _ (List.Pairwise.sublist (List.eraseIdx_sublist _ _) h1) hadd (fun x hxx q => ?_)
      rcases List.mem_append.mp q with q | q
      · exact h3 x (List.mem_of_mem_eraseIdx hxx) q
      · rw [List.mem_singleton] at q
        rw [erz_filter rem i h1 hi] at hxx
        exact (of_decide_eq_true (List.mem_filter.mp hxx).2) q
theorem elg_nil (σ : MS) (w : Int32) (row : List Nat) : row.filter (elg σ w []) = row.filter (mgb σ w) := by
  refine List.filter_congr (fun y _ => ?_)
  unfold elg
  simp
theorem lst_M {r : Int32} {X : Int32 → Prop} (k : X (lst r)) : if (1 : Int32) ≤ r then (if r ≤ (8 : Int32) then X r else X 8) else X 1 := by
  have key : lst r = if (1 : Int32) ≤ r then (if r ≤ (8 : Int32) then r else 8) else 1 := by
    unfold lst
    have a := fa_lt r 8
    have b := fa_le r 8
    have c := fa_le 1 r
    have l8 : (8 : Int32).toInt = 8 := by decide
    have l1 : (1 : Int32).toInt = 1 := by decide
    by_cases h8 : r < 8
    · rw [if_pos h8]
      have h8' : r ≤ 8 := Int32.le_of_lt h8
      rw [if_pos h8']
      by_cases h1 : (1 : Int32) < r
      · rw [if_pos h1, if_pos (Int32.le_of_lt h1)]
      · rw [if_neg h1]
        by_cases h2 : (1 : Int32) ≤ r
        · rw [if_pos h2]; exact Int32.le_antisymm h2 (Int32.not_lt.mp h1)
        · rw [if_neg h2]
    · rw [if_neg h8, if_pos (show (1 : Int32) < 8 by decide)]
      have h9 : ¬ r.toInt < (8 : Int32).toInt := fun q => h8 (a.mpr q)
      have h1 : (1 : Int32) ≤ r := c.mpr (by omega)
      rw [if_pos h1]
      by_cases h2 : r ≤ 8
      · rw [if_pos h2]; exact (Int32.le_antisymm h2 (Int32.not_lt.mp h8)).symm
      · rw [if_neg h2]
  rw [key] at k
  exact itI (P := X) k (fun k => itI (P := X) k id id) id
def rsl (t : CS) (σ : MS) (f l : Nat) (dc : Bool) : Bool × List Nat × List Nat × Int32 := pick dc (lst (svv t σ (nI f) 2 (some l) none)) (gwt t σ l) (σ 12) 8 ((tT t (f + 7)).filter (mgb σ (wyv σ (tG t 0 l) (tG t 1 l)))) [] (σ 23 f) 0
section Gang4
variable {t : CS} {σ : MS}
theorem tW_row {c5 c6 : List Nat} {k5 k6 : Nat} {z : Int32} (k : Nat) : tT (tW t c5 c6 k5 k6 z) (k + 7) = tT t (k + 7) := by
  show va_up (va_up t.2.2.1 5 c5) 6 c6 (k + 7) = _
  unfold va_up
  rw [if_neg (by omega), if_neg (by omega)]
theorem C_choose (h : Core t σ) (hw : IRw t σ) (hd : IDi t σ) (hC : IC t) {f l : Nat} (hf : f < 4) (hl : l < tN t 2) {dcI : Int32} {dc : Bool} (hdc : dcI = 0 ↔ dc = false) {mc ms : Nat} (hmc : 800 ≤ mc) (hms : 3200 ≤ ms) {post : Int32 → CS → Prop} (k : ∀ P Q d k5 k6, (rsl t σ f l dc).2.1.length ≤ k5 → k5 ≤ 400 → (rsl t σ f l dc).2.2.1.length ≤ k6 → k6 ≤ 400 → post (if (rsl t σ f l dc).1 then 1 else 0) (tW (tS t P Q d) (rsl t σ f l dc).2.1 (rsl t σ f l dc).2.2.1 k5 k6 (rsl t σ f l dc).2.2.2)) : wp_C_chooseGang mc ms t f l dcI post := by
  obtain ⟨hz, hp, hr, hm, hn, hlw, hld⟩ := id h
  obtain ⟨l1, l2, l3, l4, l5, l6, -⟩ := hld.1 l hl
  have hf0 : f < tN t 0 := by rw [hz.1]; exact hf
  refine ⟨hf0, C_says h (l := some l) (m := none) hl trivial (fun P Q d => ?_)⟩
  have h1 : Core (tS t P Q d) σ := h.sc P Q d
  refine nm_e ⟨hl, C_wayMin (t := tS t P Q d) hp hr hm l5 l6 ⟨400, 1600, ⟨by omega, by omega⟩, ?_⟩⟩
  have hrow := IRw.row hz hw hf
  have hcl : ((tT t (f + 7)).filter (mgb σ (wyv σ (tG t 0 l) (tG t 1 l)))).length ≤ 60 := Nat.le_trans (List.length_filter_le _ _) hrow.2.2.1
  have hcm : ∀ x ∈ (tT t (f + 7)).filter (mgb σ (wyv σ (tG t 0 l) (tG t 1 l))), x < tN t 3 := fun x hx => ((hw f hf).2.2.2 x (List.mem_filter.mp hx).1).1
  rw [← tW_same (tS t P Q d)]
  refine C_gather h1 hw hf (hC 6).1 (hC 6).2 (Nat.le_refl _) (Nat.le_refl _) (fun k6' g1 g2 => ⟨?_, ?_⟩)
  · show (tT t 5).length < 2 ^ 31
    have := hC 5
    omega
  refine nm_r (tW_c5 _ _ _ _ _ _ _) ⟨hf0, ?_⟩
  refine nm_r (tW_z _ _ _ _ _ _ _) ⟨9, ?_⟩
  show wp_C_chooseGang_60 mc ms post (8 + 1) (0 + 400) (0 + 1600) (tW (tS t P Q d) [] ((tT t (f + 7)).filter (mgb σ (wyv σ (tG t 0 l) (tG t 1 l)))) (tK t 5) k6' (tF t 3 f)) l dcI (lst (svv t σ (nI f) 2 (some l) none)) 0 (nI (([] : List Nat).length + 1))
  rw [(hd f hf).2.1]
  refine C_pick (σ := σ) h1 hl hdc hmc hms 8 _ [] _ 0 _ _ _ rfl hcl hcm (fun x hx => by cases hx) (Nat.zero_le _) (hC 5).2 (by omega) (by omega) (fun k5' g3 g4 => ?_)
  refine k P Q d k5' k6' g3 g4 (Nat.le_trans ?_ g1) g2
  exact (pick_sub dc _ _ _ 8 _ [] _ 0).2.2.2.1
theorem M_take (h : Core t σ) (hw : IRw t σ) {f l : Nat} (hf : f < 4) (hl : l < tN t 2) {dcI : Int32} {dc : Bool} (hdc : dcI = 0 ↔ dc = false) {post : Int32 → MS → Prop} (k : ∀ P Q tk it, tkR tk (rsl t σ f l dc).2.1 → (rsl t σ f l dc).2.1.length ≤ 8 → post (if (rsl t σ f l dc).1 then 1 else 0) (mT (sR (sR σ 41 P) 42 Q) (nI (rsl t σ f l dc).2.1.length) tk it (upd (σ 23) f (rsl t σ f l dc).2.2.2))) : wp_M_take σ (nI f) (nI l) dcI post := by
  obtain ⟨hz, hp, hr, hm, hn, hlw, hld⟩ := id h
  obtain ⟨l1, l2, l3, l4, l5, l6, -⟩ := hld.1 l hl
  have hb := hz.b2
  have hb3 := hz.b3
  have hc : (nI l).toNatClampNeg = l := nI_clamp (by omega)
  have hv : vp_in (nI l) 200 := vp_in_nI (by omega) (by omega)
  refine ⟨hv, hv, ?_⟩
  rw [hc, l3, l4]
  refine M_wayNow hz hp hr l5 l6 (M_says h (l := some l) (m := none) hl trivial (fun P Q => lst_M (X := fun v => wp_M_take_52 post (sR (sR σ 41 P) 42 Q) (nI f) (nI l) dcI (wyv σ (tG t 0 l) (tG t 1 l)) v) ?_))
  generalize hs : sR (sR σ 41 P) 42 Q = σ1
  have h60 : up2 σ1 60 0 0 = mT σ1 0 (σ1 61) (σ1 62) (σ1 23) := by
    have := mT_60 σ1 (σ1 60 0) 0 (σ1 61) (σ1 62) (σ1 23)
    rw [mT_same] at this
    exact this
  have e23 : σ1 23 = upd (σ 23) f (σ 23 f) := by
    rw [← hs, fa_upd_same rfl]; rfl
  have hz1 : IZ t σ1 := by rw [← hs]; exact hz
  have hp1 : IPl t σ1 := by rw [← hs]; exact hp
  have hld1 : ILd t σ1 := by rw [← hs]; exact hld
  have hw1 : IRw t σ1 := by rw [← hs]; exact hw
  have clr : ∀ d i it, i + d = tN t 3 → (∀ m, m < i → it m = 0) → wp_M_take_62 post (d + 1) (mT σ1 0 (σ1 61) it (σ1 23)) (nI f) (nI l) dcI (wyv σ (tG t 0 l) (tG t 1 l)) (lst (svv t σ (nI f) 2 (some l) none)) (nI i) := by
    intro d
    induction d with
    | zero =>
      intro i it hi hit
      have e : i = tN t 3 := by omega
      refine itT ?_ ⟨9, ?_⟩
      · show σ1 10 0 ≤ nI i
        rw [hz1.m10, e]; exact nI_le (Nat.le_refl _) (by omega)
      rw [e23]
      have hK := k P Q
      rw [hs] at hK
      have hno : ¬ (¬ nI ([] : List Nat).length < lst (svv t σ (nI f) 2 (some l) none) ∧ ¬ 4 * pwr (σ1 12) [] < gwt t σ1 l) := fun a => a.1 (Int32.lt_of_lt_of_le (show nI ([] : List Nat).length < 1 by decide) (Int32.not_lt.mp (lst_ge1 _)))
      refine M_pick (t := t) (σ := σ1) hz1 hp1 hld1 hw1 hf hl hdc 8 [] (σ 23 f) (σ1 61) it rfl (fun x hx => by cases hx) hno (fun k hk => absurd hk (Nat.not_lt_zero k)) (fun m hm => ?_) ?_
      · rw [if_neg (by simp)]; exact hit m (by omega)
      · have eR : pick dc (lst (svv t σ (nI f) 2 (some l) none)) (gwt t σ1 l) (σ1 12) 8 ((tT t (f + 7)).filter (elg σ1 (wyv σ (tG t 0 l) (tG t 1 l)) [])) [] (σ 23 f) (pwr (σ1 12) []) = rsl t σ f l dc := by
          rw [elg_nil, ← hs]; rfl
        rw [eR]
        exact hK
    | succ d ih =>
      intro i it hi hit
      refine itF ?_ ⟨vp_in_nI (by omega) (by omega), ?_⟩
      · show ¬ σ1 10 0 ≤ nI i
        rw [hz1.m10]; exact nI_ge (by omega) (by omega)
      rw [nI_clamp (by omega), nb0]
      refine nm_r (mT_62 _ _ _ _ _ _ _) ?_
      rintro x44 rfl
      rw [nI_1]
      refine ih (i + 1) _ (by omega) (fun m hm => ?_)
      by_cases e : m = i
      · subst e; exact pk_us
      · rw [pk_un e]; exact hit m (by omega)
  rintro σ45 rfl
  rw [h60]
  exact ⟨tN t 3 + 1, clr (tN t 3) 0 (σ1 62) (by omega) (fun m hm => absurd hm (Nat.not_lt_zero m))⟩
theorem Inv_tW (h : Inv t σ) {c5 c6 : List Nat} {k5 k6 : Nat} {z : Int32} (h5 : ∀ x ∈ c5, x < tN t 3) (h6 : ∀ x ∈ c6, x < tN t 3) (g5 : c5.length ≤ k5) (g6 : c6.length ≤ k6) (f5 : k5 ≤ 400) (f6 : k6 ≤ 400) (b5 : c5.length ≤ 60) (b6 : c6.length ≤ 60) : Inv (tW t c5 c6 k5 k6 z) σ := by
  refine ⟨h.z, fun k => ?_, ⟨h5, h6, b5, b6⟩, h.p, h.r, h.m, h.n, fun f hf => ?_, h.d, h.tp, h.lw, h.ld, ?_, h.f⟩
  · show (va_up (va_up t.2.2.1 5 c5) 6 c6 k).length ≤ va_up (va_up t.2.2.2.2.2 5 k5) 6 k6 k ∧ va_up (va_up t.2.2.2.2.2 5 k5) 6 k6 k ≤ 400
    unfold va_up
    by_cases e6 : k = 6
    · rw [if_pos e6, if_pos e6]; exact ⟨g6, f6⟩
    rw [if_neg e6, if_neg e6]
    by_cases e5 : k = 5
    · rw [if_pos e5, if_pos e5]; exact ⟨g5, f5⟩
    rw [if_neg e5, if_neg e5]
    exact h.c k
  · rw [tW_row]; exact h.w f hf
  · obtain ⟨T, g1, g2, g3⟩ := h.g
    refine ⟨T, g1, g2, fun i hi => gng_congr (g3 i hi) rfl (fun _ _ => rfl) (tW_row (i + 4)) (Nat.le_refl _) rfl rfl rfl rfl rfl (fun _ _ => rfl) (fun _ m _ _ => ⟨rfl, rfl, fun f hf hx => ?_⟩)⟩
    rw [tW_row]; exact hx
theorem Inv_mT (h : Inv t σ) {n : Int32} {tk it : Nat → Int32} : Inv t (mT σ n tk it (σ 23)) := ⟨h.z, h.c, h.s, h.p, h.r, h.m, h.n, h.w, h.d, h.tp, h.lw, h.ld, h.g, h.f⟩
theorem rsl_ok (h : Inv t σ) {f l : Nat} (hf : f < 4) (dc : Bool) : (∀ x ∈ (rsl t σ f l dc).2.1, x ∈ tT t (f + 7)) ∧ (∀ x ∈ (rsl t σ f l dc).2.2.1, x ∈ tT t (f + 7)) ∧ (rsl t σ f l dc).2.1.length ≤ 8 ∧ (rsl t σ f l dc).2.2.1.length ≤ 60 ∧ (rsl t σ f l dc).2.1.Nodup ∧ ((rsl t σ f l dc).1 = true → (rsl t σ f l dc).2.1 ≠ []) ∧ (dc = false → (rsl t σ f l dc).2.2.2 = σ 23 f) := by
  obtain ⟨a1, a2, a3, a4, a5, a6⟩ := pick_sub dc (lst (svv t σ (nI f) 2 (some l) none)) (gwt t σ l) (σ 12) 8 ((tT t (f + 7)).filter (mgb σ (wyv σ (tG t 0 l) (tG t 1 l)))) [] (σ 23 f) 0
  have hrow := IRw.row h.z h.w hf
  refine ⟨fun x hx => ?_, fun x hx => (List.mem_filter.mp (a2 x hx)).1, a3, Nat.le_trans a4 (Nat.le_trans (List.length_filter_le _ _) hrow.2.2.1), ?_, a5, a6⟩
  · rcases a1 x hx with q | q
    · cases q
    · exact (List.mem_filter.mp q).1
  · exact pick_nd dc _ _ _ 8 _ [] _ 0 (List.Pairwise.sublist List.filter_sublist (h.w f hf).2.2.1) List.nodup_nil (fun x _ q => by cases q)
theorem hnv_0 (t : CS) (σ : MS) (f l : Nat) : hnv t σ f l = 0 ∨ (hnv t σ f l ≠ 0 ∧ ¬ hnv t σ f l ≤ 0) := by
  unfold hnv
  split
  · split
    · exact Or.inr (by decide)
    · split
      · split
        · split
          · split
            · exact Or.inl rfl
            · exact Or.inr (by decide)
          · exact Or.inl rfl
        · exact Or.inr (by decide)
      · exact Or.inr (by decide)
  · exact Or.inr (by decide)
theorem rsl_tS {P Q : Nat → Int32} {d : Int32} (f l : Nat) (dc : Bool) : rsl (tS t P Q d) σ f l dc = rsl t σ f l dc := by
  unfold rsl
  rw [svv_tS]; rfl
theorem s_why (h : Inv t σ) (a1 a2 : Int32) : wp_C_why 1170 14200 t a1 a2 (fun v t1 => wp_M_why σ a1 a2 (fun w σ1 => v = w ∧ Inv t1 σ1)) := by
  have hb := h.z.b2
  unfold wp_C_why
  rcases ix a1 (n := 4) (by omega) with hn | ⟨f, hf, rfl⟩
  · have hM : wp_M_why σ a1 a2 (fun w σ1 => (-1 : Int32) = w ∧ Inv t σ1) := M_fe_no hn ⟨rfl, h⟩
    refine C_fe_no h.z hn ?_
    rcases ix a2 (n := tN t 2) (by omega) with hn2 | ⟨l, hl, rfl⟩
    · exact C_ld_no h.z hn2 (oN hM)
    · exact C_ld h.z hl (oN hM)
  refine C_fe h.z hf ?_
  rcases ix a2 (n := tN t 2) (by omega) with hn2 | ⟨l, hl, rfl⟩
  · refine C_ld_no h.z hn2 (oS (oN ?_))
    exact M_fe hf (M_ld_no h.z hn2 ⟨rfl, h⟩)
  refine C_ld h.z hl (oS (oS (C_hind h.core hf hl (fun P Q d => ?_))))
  rcases hnv_0 t σ f l with h0 | ⟨h0, h0'⟩
  · rw [h0]
    refine itT rfl ⟨800, 3200, ⟨by omega, by omega⟩, ?_⟩
    obtain ⟨o1, o2, o3, o4, o5, o6, o7⟩ := rsl_ok h hf (l := l) false
    have hw := (h.w f hf).2.2.2
    refine C_choose (t := tS t P Q d) (dc := false) (h.core.sc P Q d) h.w h.d h.c hf hl ⟨fun _ => rfl, fun _ => rfl⟩ (Nat.le_refl _) (Nat.le_refl _) (fun P' Q' d' k5 k6 g1 g2 g3 g4 => ?_)
    rw [rsl_tS] at g1 g3 ⊢
    rw [tS_tS]
    have hI : ∀ P2 Q2 tk it, Inv (tW (tS t P' Q' d') (rsl t σ f l false).2.1 (rsl t σ f l false).2.2.1 k5 k6 (rsl t σ f l false).2.2.2) (mT (sR (sR σ 41 P2) 42 Q2) (nI (rsl t σ f l false).2.1.length) tk it (upd (σ 23) f (rsl t σ f l false).2.2.2)) := fun P2 Q2 tk it => by
      rw [o7 rfl, fa_upd_same rfl]
      exact Inv_mT (σ := sR (sR σ 41 P2) 42 Q2) ((Inv_tW (h.scC P' Q' d') (fun x hx => (hw x (o1 x hx)).1) (fun x hx => (hw x (o2 x hx)).1) g1 g3 g2 g4 (by omega) o4).scM P2 Q2)
    have hM : ∀ v t1, v = (if (rsl t σ f l false).1 = true then 0 else 6) → t1 = tW (tS t P' Q' d') (rsl t σ f l false).2.1 (rsl t σ f l false).2.2.1 k5 k6 (rsl t σ f l false).2.2.2 → wp_M_why σ (nI f) (nI l) (fun w σ1 => v = w ∧ Inv t1 σ1) := fun v t1 hv ht => by
      subst ht
      refine M_fe hf (M_ld h.z hl (M_hind h.core hf hl (fun P2 Q2 => ?_)))
      rw [h0]
      refine itT (by decide) (M_take (σ := sR (sR σ 41 P2) 42 Q2) (t := t) (dc := false) h.core h.w hf hl ⟨fun _ => rfl, fun _ => rfl⟩ (fun P3 Q3 tk it _ _ => ?_))
      have eR : rsl t (sR (sR σ 41 P2) 42 Q2) f l false = rsl t σ f l false := rfl
      rw [eR, sR_four]
      have hI2 := hI P3 Q3 tk it
      cases hb : (rsl t σ f l false).1 with
      | false =>
        rw [hb] at hv
        exact itT rfl ⟨hv, hI2⟩
      | true =>
        rw [hb] at hv
        exact itF (by decide) ⟨hv, hI2⟩
    cases hb : (rsl t σ f l false).1 with
    | false => exact itT rfl (hM _ _ (by rw [hb]; rfl) rfl)
    | true => exact itF (by decide) (hM _ _ (by rw [hb]; rfl) rfl)
  · refine itF h0 ?_
    refine M_fe hf (M_ld h.z hl (M_hind h.core hf hl (fun P2 Q2 => itF h0' ⟨rfl, ?_⟩)))
    exact (h.scC P Q d).scM P2 Q2
end Gang4
