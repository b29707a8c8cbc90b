/-! says, whose: both sides -/
def li (l : Option Nat) : Int32 := match l with
  | none => -1
  | some l => nI l
def okO (l : Option Nat) (n : Nat) : Prop := match l with
  | none => True
  | some l => l < n
theorem sR_same (σ : MS) (k : Nat) : sR σ k (σ k) = σ := by
  funext j
  unfold sR
  by_cases q : j = k
  · rw [if_pos q, q]
  · rw [if_neg q]
theorem sR_two (σ : MS) : sR (sR σ 41 (σ 41)) 42 (σ 42) = σ := by
  rw [sR_same σ 41, sR_same σ 42]
theorem thirteen {Q : Nat → Prop} (h0 : Q 0) (h1 : Q 1) (h2 : Q 2) (h3 : Q 3) (h4 : Q 4) (h5 : Q 5) (h6 : Q 6) (h7 : Q 7) (h8 : Q 8) (h9 : Q 9) (h10 : Q 10) (h11 : Q 11) (h12 : Q 12) : ∀ i, i < 13 → Q i := fun i hi => by
  match i, hi with
  | 0, _ => exact h0
  | 1, _ => exact h1
  | 2, _ => exact h2
  | 3, _ => exact h3
  | 4, _ => exact h4
  | 5, _ => exact h5
  | 6, _ => exact h6
  | 7, _ => exact h7
  | 8, _ => exact h8
  | 9, _ => exact h9
  | 10, _ => exact h10
  | 11, _ => exact h11
  | 12, _ => exact h12
  | i + 13, h => exact absurd h (by omega)
section Says2
variable {t : CS} {σ : MS}
theorem M_unw {u : Int32} {l : Option Nat} (hl : okO l 200) {post : Int32 → MS → Prop} (k : post (unw σ u l) σ) : if u = (1 : Int32) then (if 0 ≤ li l then (vp_in (li l) 200 ∧ (post (σ 45 (li l).toNatClampNeg) σ)) else (post (0 : Int32) σ)) else (if u = (2 : Int32) then (post (1 : Int32) σ) else (if u = (4 : Int32) then (post (5 : Int32) σ) else (post (0 : Int32) σ))) := by
  unfold unw at k
  refine itI (P := fun v => post v σ) k (fun k => ?_) (fun k => itI (P := fun v => post v σ) k id (fun k => itI (P := fun v => post v σ) k id id))
  match l, hl, k with
  | none, _, k => exact itF (by decide) k
  | some l, hl, k =>
    have hl : l < 200 := hl
    refine itT (nI_pos' (by omega)) ⟨vp_in_nI hl (by omega), ?_⟩
    show post (σ 45 (nI l).toNatClampNeg) σ
    rw [nI_clamp (by omega)]; exact k
theorem M_says (h : Core t σ) {f u : Int32} {l m : Option Nat} (hl : okO l (tN t 2)) (hm : okO m (tN t 3)) {post : Int32 → MS → Prop} (k : ∀ P Q, post (svv t σ f u l m) (sR (sR σ 41 P) 42 Q)) : wp_M_saysNow σ f u (li l) (li m) post := by
  have h0 := h
  obtain ⟨hz, hp, hr, hmi, hn, hlw, hld⟩ := h
  have hb2 := hz.b2
  have hb3 := hz.b3
  have hl2 : okO l 200 := by
    match l, hl with
    | none, _ => exact trivial
    | some l, hl => exact Nat.lt_of_lt_of_le hl hb2
  unfold wp_M_saysNow
  refine M_force hz ?_
  unfold svv at k
  cases e : frc (inF σ f u (σ 1 0 / 600) (σ 1 0 / 600)) (tN t 1) with
  | none =>
    rw [e] at k
    refine itF (by decide) (M_unw hl2 ?_)
    have := k (σ 41) (σ 42)
    rw [sR_two] at this
    exact this
  | some o =>
    rw [e] at k
    have ho := frc_lt e
    have hb1 := hz.b1
    have nine : ∀ P, nm9 t σ l P → wp_M_freeMen (sR σ 41 P) f (fun r22 σ21 => vp_in (8 : Int32) 13 ∧ (∀ σ24 : MS, σ24 = up2 σ21 41 (8 : Int32).toNatClampNeg r22 → (if 0 ≤ li m then (vp_in (li m) 60 ∧ (wp_M_saysNow_102 post σ24 (li m) (nI o) (10 : Int32) (σ24 13 (li m).toNatClampNeg))) else (wp_M_saysNow_102 post σ24 (li m) (nI o) (10 : Int32) (0 : Int32))))) := fun P hP => by
      refine M_freeMen (σ := sR σ 41 P) (n := tN t 3) hb3 hz.m10 ⟨vp_in_nI (n := 8) (by omega) (by omega), ?_⟩
      rintro σ24 rfl
      rw [up2_sR]
      have v10 : vp_in 10 13 := vp_in_nI (n := 10) (by omega) (by omega)
      have v11 : vp_in 11 13 := vp_in_nI (n := 11) (by omega) (by omega)
      have v12 : vp_in 12 13 := vp_in_nI (n := 12) (by omega) (by omega)
      have fin : ∀ P3, (∀ i, i < 13 → P3 i = nmv t σ f l m i) → wp_M_works (sR σ 41 P3) (nI o) (fun r4 σ3 => post r4 σ3) := fun P3 hP3 => by
        refine M_works (t := t) (σ := sR σ 41 P3) hb1 hlw ho (fun Q => ?_)
        have e2 : evk P3 (tA t (o + 8)) (tG t 2 o) 0 0 (fun _ => 0) = lwv t (nmv t σ f l m) o := evk_nm hP3 _ _ _ _
        show post (evk P3 (tA t (o + 8)) (tG t 2 o) 0 0 (fun _ => 0)) _
        rw [e2]; exact k P3 Q
      match m, hm, fin with
      | none, _, fin =>
        refine itF (by decide) ⟨v10, ?_⟩
        rintro σ10 rfl
        refine itF (by decide) ⟨v11, ?_⟩
        rintro σ6 rfl
        refine itF (by decide) ⟨v12, ?_⟩
        rintro σ2 rfl
        rw [up2_sR, up2_sR, up2_sR]
        exact fin _ (thirteen (hP 0 (by omega) (by omega)) (hP 1 (by omega) (by omega)) (hP 2 (by omega) (by omega)) (hP 3 (by omega) (by omega)) (hP 4 (by omega) (by omega)) (hP 5 (by omega) (by omega)) (hP 6 (by omega) (by omega)) (hP 7 (by omega) (by omega)) rfl (hP 9 (by omega) (by omega)) rfl rfl rfl)
      | some m, hm, fin =>
        have hm : m < tN t 3 := hm
        have g0 : (0 : Int32) ≤ nI m := nI_pos' (by omega)
        have hv : vp_in (nI m) 60 := vp_in_nI (by omega) (by omega)
        have hc : (nI m).toNatClampNeg = m := nI_clamp (by omega)
        show (if 0 ≤ nI m then vp_in (nI m) 60 ∧ wp_M_saysNow_102 post _ (nI m) (nI o) 10 (σ 13 (nI m).toNatClampNeg) else _)
        rw [hc]
        refine itT g0 ⟨hv, v10, ?_⟩
        rintro σ10 rfl
        refine itT g0 ⟨hv, v11, ?_⟩
        try rw [hc]
        rintro σ6 rfl
        refine itT g0 ⟨hv, v12, ?_⟩
        try rw [hc]
        rintro σ2 rfl
        rw [up2_sR, up2_sR, up2_sR]
        exact fin _ (thirteen (hP 0 (by omega) (by omega)) (hP 1 (by omega) (by omega)) (hP 2 (by omega) (by omega)) (hP 3 (by omega) (by omega)) (hP 4 (by omega) (by omega)) (hP 5 (by omega) (by omega)) (hP 6 (by omega) (by omega)) (hP 7 (by omega) (by omega)) rfl (hP 9 (by omega) (by omega)) rfl rfl rfl)
    refine itT (nI_pos' (n := o) (by omega)) ?_
    match l, hl, nine with
    | none, _, nine => exact M_nameNone h0 nine
    | some l, hl, nine => exact M_nameLoad h0 hl nine
def tN6 (t : CS) (P : Nat → Int32) : CS := (t.1, sR t.2.1 6 P, t.2.2)
theorem tN6_tS (t : CS) (P : Nat → Int32) : tN6 t P = tS t P (tA t 7) (tF t 162 4) := by
  unfold tN6 tS
  refine Prod.ext ?_ (Prod.ext ?_ rfl)
  · funext a b
    show t.1 a b = up2 t.1 162 4 (t.1 162 4) a b
    unfold up2 upd
    by_cases h : a = 162
    · rw [if_pos h, h]
      by_cases h2 : b = 4
      · rw [if_pos h2, h2]
      · rw [if_neg h2]
    · rw [if_neg h]
  · funext a
    show sR t.2.1 6 P a = sR (sR t.2.1 6 P) 7 (t.2.1 7) a
    by_cases h : a = 7
    · subst h; rfl
    · show _ = (if a = 7 then _ else _)
      rw [if_neg h]
theorem tN6_set (t : CS) (P : Nat → Int32) (i : Nat) (v : Int32) : sA (tN6 t P) 6 i v = tN6 t (upd P i v) := by
  unfold tN6 sA
  refine Prod.ext rfl (Prod.ext ?_ rfl)
  exact up2_sR _ 6 P i v
theorem C_say100 (hz : tN t 1 ≤ 40) (hlw : ILw t σ) {o : Nat} (ho : o < tN t 1) {P nm : Nat → Int32} (hP : ∀ i, i < 13 → P i = nm i) {post : Int32 → CS → Prop} (k : ∀ P Q d, post (lwv t nm o) (tS t P Q d)) : wp_C_saying_100 post (tN6 t P) o := by
  refine ⟨ho, ?_⟩
  rw [tN6_tS]
  refine C_reckon hz hlw ho (fun Q d => ?_)
  have e2 : evk P (tA t (o + 8)) (tG t 2 o) 0 0 (fun _ => 0) = lwv t nm o := evk_nm hP _ _ _ _
  rw [e2]; exact k P Q d
theorem C_look (hz : tN t 4 ≤ 20) {a b : Int32} {post : CS → Prop} (hb : bz b) (k : ∀ P : Nat → Int32, P 0 = 0 → P 1 = 0 → P 2 = 0 → P 3 = 0 → P 4 = 0 → P 5 = (a - a / 600 * 600) / 60 → P 6 = b → P 7 = 0 → P 8 = 0 → P 9 = a / 600 → P 10 = 0 → P 11 = 0 → P 12 = 0 → post (tN6 t P)) : wp_Reck_lookAtMinute t a b post := by
  have v5 : vp_in 5 13 := vp_in_nI (n := 5) (by omega) (by omega)
  have v6 : vp_in 6 13 := vp_in_nI (n := 6) (by omega) (by omega)
  have v9 : vp_in 9 13 := vp_in_nI (n := 9) (by omega) (by omega)
  have e0 : sFill t 6 0 = tN6 t (fun j => if j < 13 then 0 else tA t 6 j) := rfl
  unfold wp_Reck_lookAtMinute
  rintro t5 rfl
  refine ⟨v5, ?_⟩
  rintro t7 rfl
  rw [e0, tN6_set]
  refine itE (fun q => ⟨v6, ?_⟩) (fun q => ⟨v6, ?_⟩)
  · rintro t2 rfl
    refine ⟨v9, ?_⟩
    rintro t4 rfl
    rw [tN6_set, tN6_set]
    exact k _ rfl rfl rfl rfl rfl rfl q.symm rfl rfl rfl rfl rfl rfl
  · rintro t2 rfl
    refine ⟨v9, ?_⟩
    rintro t4 rfl
    rw [tN6_set, tN6_set]
    exact k _ rfl rfl rfl rfl rfl rfl (hb.resolve_left q).symm rfl rfl rfl rfl rfl rfl
theorem C_lookLoad (hld : ILd t σ) {l : Nat} (hl : l < tN t 2) {w : Int32} {P : Nat → Int32} {post : CS → Prop} (k : post (tN6 t (upd (upd (upd (upd (upd (upd P 0 (σ 44 l)) 1 (σ 45 l)) 2 (farv (σ 6 (tG t 0 l)) (σ 6 (tG t 1 l)))) 3 (upv (σ 7 (tG t 0 l)) (σ 7 (tG t 1 l)))) 4 (σ 48 l)) 7 w))) : wp_Reck_lookAtLoad (tN6 t P) l w post := by
  obtain ⟨l1, l2, l3, l4, l5, l6, l7, l8, l9, -⟩ := hld.1 l hl
  refine ⟨hl, vp_in_nI (n := 0) (by omega) (by omega), ?_⟩
  rintro t3 rfl
  refine ⟨hl, vp_in_nI (n := 1) (by omega) (by omega), ?_⟩
  rintro t6 rfl
  refine ⟨hl, vp_in_nI (n := 2) (by omega) (by omega), ?_⟩
  rintro t9 rfl
  refine ⟨hl, vp_in_nI (n := 3) (by omega) (by omega), ?_⟩
  rintro t12 rfl
  refine ⟨hl, vp_in_nI (n := 4) (by omega) (by omega), ?_⟩
  rintro t15 rfl
  refine ⟨vp_in_nI (n := 7) (by omega) (by omega), ?_⟩
  rintro t17 rfl
  rw [tN6_set, tN6_set, tN6_set, tN6_set, tN6_set, tN6_set]
  show post (tN6 t (upd (upd (upd (upd (upd (upd P 0 (tF t 65 l)) 1 (tF t 66 l)) 2 (tF t 69 l)) 3 (tF t 70 l)) 4 (tF t 71 l)) 7 w))
  rw [l1, l2, l7, l8, l9]; exact k
theorem C_unw (hld : ILd t σ) {u : Int32} {l : Option Nat} (hl : okO l (tN t 2)) {post : Int32 → CS → Prop} (k : post (unw σ u l) t) : wp_C_unwritten t u l post := by
  unfold unw at k
  unfold wp_C_unwritten
  refine itI (P := fun v => post v t) k (fun k => ?_) (fun k => itI (P := fun v => post v t) k id (fun k => ?_))
  · match l, hl, k with
    | none, _, k => exact oN k
    | some l, hl, k =>
      refine oS ⟨hl, ?_⟩
      rw [(hld.1 l hl).2.1]; exact k
  · by_cases q3 : u = 3
    · rw [if_neg (by rw [q3]; decide)] at k
      exact itT q3 k
    · exact itF q3 (itI (P := fun v => post v t) k id id)
theorem C_says (h : Core t σ) {f u : Int32} {l m : Option Nat} (hl : okO l (tN t 2)) (hm : okO m (tN t 3)) {post : Int32 → CS → Prop} (k : ∀ P Q d, post (svv t σ f u l m) (tS t P Q d)) : wp_C_saying t f u l m post := by
  obtain ⟨hz, hp, hr, hmi, hn, hlw, hld⟩ := id h
  have hb1 := hz.b1
  obtain ⟨T, hT, e1, e2⟩ := id hmi
  have em : tF t 171 0 = σ 1 0 := by rw [e1, e2]
  show wp_C_lawKnown t f u (tF t 171 0 / 600) (tF t 171 0 / 600) _
  rw [em]
  refine C_force hz hlw ?_
  unfold svv at k
  cases e : frc (inF σ f u (σ 1 0 / 600) (σ 1 0 / 600)) (tN t 1) with
  | none =>
    rw [e] at k
    refine oN (C_unw hld hl ?_)
    have := k (tA t 6) (tA t 7) (tF t 162 4)
    rw [tS_same] at this
    exact this
  | some o =>
    rw [e] at k
    have ho := frc_lt e
    refine oS ?_
    rw [em]
    refine C_rain hr (C_look hz.b4 (rn_bz σ (σ 1 0)) (fun P p0 p1 p2 p3 p4 p5 p6 p7 p8 p9 p10 p11 p12 => ?_))
    refine C_ready (t := tN6 t P) (σ := σ) hz hn hmi ⟨vp_in_nI (n := 8) (by omega) (by omega), ?_⟩
    rintro t2 rfl
    rw [tN6_set]
    have fin : ∀ P3, (∀ i, i < 10 → P3 i = nmv t σ f l none i) → P3 10 = 0 → P3 11 = 0 → P3 12 = 0 → wp_C_saying_86 post (tN6 t P3) m o := fun P3 hP h10 h11 h12 => by
      match m, hm, k with
      | none, _, k => exact oN (C_say100 hb1 hlw ho (thirteen (hP 0 (by omega)) (hP 1 (by omega)) (hP 2 (by omega)) (hP 3 (by omega)) (hP 4 (by omega)) (hP 5 (by omega)) (hP 6 (by omega)) (hP 7 (by omega)) (hP 8 (by omega)) (hP 9 (by omega)) h10 h11 h12) k)
      | some m, hm, k =>
        obtain ⟨n1, n2, n3, n4, n5, -⟩ := hn.1 m hm
        refine oS ⟨hm, vp_in_nI (n := 10) (by omega) (by omega), ?_⟩
        rintro t3 rfl
        refine ⟨hm, vp_in_nI (n := 11) (by omega) (by omega), ?_⟩
        rintro t6 rfl
        refine ⟨hm, vp_in_nI (n := 12) (by omega) (by omega), ?_⟩
        rintro t9 rfl
        rw [tN6_set, tN6_set, tN6_set]
        refine C_say100 hb1 hlw ho (nm := nmv t σ f l (some m)) ?_ k
        exact thirteen (hP 0 (by omega)) (hP 1 (by omega)) (hP 2 (by omega)) (hP 3 (by omega)) (hP 4 (by omega)) (hP 5 (by omega)) (hP 6 (by omega)) (hP 7 (by omega)) (hP 8 (by omega)) (hP 9 (by omega)) n3 n2 n5
    have ten : ∀ P3 : Nat → Int32, P3 0 = nmv t σ f l none 0 → P3 1 = nmv t σ f l none 1 → P3 2 = nmv t σ f l none 2 → P3 3 = nmv t σ f l none 3 → P3 4 = nmv t σ f l none 4 → P3 5 = nmv t σ f l none 5 → P3 6 = nmv t σ f l none 6 → P3 7 = nmv t σ f l none 7 → P3 8 = nmv t σ f l none 8 → P3 9 = nmv t σ f l none 9 → ∀ i, i < 10 → P3 i = nmv t σ f l none i := fun P3 a0 a1 a2 a3 a4 a5 a6 a7 a8 a9 i hi => by
      match i, hi with
      | 0, _ => exact a0
      | 1, _ => exact a1
      | 2, _ => exact a2
      | 3, _ => exact a3
      | 4, _ => exact a4
      | 5, _ => exact a5
      | 6, _ => exact a6
      | 7, _ => exact a7
      | 8, _ => exact a8
      | 9, _ => exact a9
      | i + 10, h => exact absurd h (by omega)
    match l, hl, fin, ten with
    | none, _, fin, ten => exact oN (fin _ (ten _ p0 p1 p2 p3 p4 p5 p6 p7 rfl p9) p10 p11 p12)
    | some l, hl, fin, ten =>
      refine oS ⟨hl, ?_⟩
      refine C_lookLoad hld hl (fin _ (ten _ rfl rfl rfl rfl rfl p5 p6 ?_ rfl p9) p10 p11 p12)
      show (if 0 < tF t 171 0 - tF t 72 l then tF t 171 0 - tF t 72 l else 0) = ltv σ l
      obtain ⟨l1, l2, l3, l4, l5, l6, l7, l8, l9, l10, l11, l12, l13, l14, l15, l16, l17, l18, -⟩ := hld.1 l hl
      rw [em, l10]
      exact lt_eq hmi l18
theorem Inv.scC (h : Inv t σ) (P Q : Nat → Int32) (d : Int32) : Inv (tS t P Q d) σ := by
  refine ⟨h.z, h.c, h.s, h.p, h.r, h.m, h.n, h.w, h.d, h.tp, fun i hi => ?_, h.ld, h.g, h.f⟩
  have e : tA (tS t P Q d) (i + 8) = tA t (i + 8) := by
    show sR (sR t.2.1 6 P) 7 Q (i + 8) = t.2.1 (i + 8)
    unfold sR
    rw [if_neg (by omega), if_neg (by omega)]
  rw [e]; exact h.lw i hi
theorem Inv.scM (h : Inv t σ) (P Q : Nat → Int32) : Inv t (sR (sR σ 41 P) 42 Q) := ⟨h.z, h.c, h.s, h.p, h.r, h.m, h.n, h.w, h.d, h.tp, h.lw, h.ld, h.g, h.f⟩
theorem s_says (h : Inv t σ) (a1 a2 a3 a4 : Int32) : wp_C_says t a1 a2 a3 a4 (fun v t1 => wp_M_says σ a1 a2 a3 a4 (fun w σ1 => v = w ∧ Inv t1 σ1)) := by
  have hb2 := h.z.b2
  have hb3 := h.z.b3
  have main : ∀ (l m : Option Nat), okO l (tN t 2) → okO m (tN t 3) → ∀ f, f < 4 → ¬ (a2 < 0 ∨ 4 < a2) → (∀ X, wp_M_saysNow σ (nI f) a2 (li l) (li m) X → wp_M_says σ a1 a2 a3 a4 X) → wp_C_saying t (nI f) a2 l m (fun v t1 => wp_M_says σ a1 a2 a3 a4 (fun w σ1 => v = w ∧ Inv t1 σ1)) := fun l m hl hm f hf h1 hM => by
    refine C_says h.core hl hm (fun P Q d => hM _ (M_says h.core hl hm (fun P' Q' => ⟨rfl, ?_⟩)))
    exact (h.scC P Q d).scM P' Q'
  unfold wp_C_says
  have nom : ∀ (o6 : Option Nat) (post : Int32 → CS → Prop), (a4 < 0 ∨ nI (tN t 3) ≤ a4) → a4 ≠ -1 → post (-2000000000) t → (oM o6 (if a3 = (-1 : Int32) then (wp_C_says_40 post t a1 a2 a4 none none) else (post (-2000000000 : Int32) t)) (fun j15 => wp_C_says_40 post t a1 a2 a4 (some j15) none)) := fun o6 post _ h4 hk => by
    cases o6 with
    | none => exact itE (fun _ => itF h4 hk) (fun _ => hk)
    | some j => exact itF h4 hk
  -- the load, the man
  have hL : (∃ l, okO l (tN t 2) ∧ (∀ X : Option Nat → CS → Prop, X l t → wp_C_loadAt t a3 X) ∧ ((a3 = li l) ∨ (l = none ∧ a3 ≠ -1 ∧ (a3 < 0 ∨ nI (tN t 2) ≤ a3)))) := by
    rcases ix a3 (n := tN t 2) (by omega) with hn | ⟨l, hl, rfl⟩
    · refine ⟨none, trivial, fun X hX => C_ld_no h.z hn hX, ?_⟩
      by_cases e : a3 = -1
      · exact Or.inl e
      · exact Or.inr ⟨rfl, e, hn⟩
    · exact ⟨some l, hl, fun X hX => C_ld h.z hl hX, Or.inl rfl⟩
  have hMn : (∃ m, okO m (tN t 3) ∧ (∀ X : Option Nat → CS → Prop, X m t → wp_C_manAt t a4 X) ∧ ((a4 = li m) ∨ (m = none ∧ a4 ≠ -1 ∧ (a4 < 0 ∨ nI (tN t 3) ≤ a4)))) := by
    rcases ix a4 (n := tN t 3) (by omega) with hn | ⟨m, hm, rfl⟩
    · refine ⟨none, trivial, fun X hX => C_mn_no h.z hn hX, ?_⟩
      by_cases e : a4 = -1
      · exact Or.inl e
      · exact Or.inr ⟨rfl, e, hn⟩
    · exact ⟨some m, hm, fun X hX => C_mn h.z hm hX, Or.inl rfl⟩
  obtain ⟨l, hl, hlX, hl3⟩ := hL
  obtain ⟨m, hm, hmX, hm3⟩ := hMn
  refine hlX _ (hmX _ ?_)
  rcases ix a1 (n := 4) (by omega) with hn | ⟨f, hf, rfl⟩
  · refine C_fe_no h.z hn (oN ?_)
    exact M_fe_no hn ⟨rfl, h⟩
  refine C_fe h.z hf (oS ?_)
  by_cases h1 : a2 < 0 ∨ 4 < a2
  · refine Cz_no h1 ?_
    exact M_fe hf (Mw_no h1 ⟨rfl, h⟩)
  refine Cz_yes h1 ?_
  -- the model, up to its own tests of load and man
  have mL : ∀ (X : Int32 → MS → Prop), (a3 = li l) → wp_M_says_29 X σ (nI f) a2 a3 a4 → wp_M_says σ (nI f) a2 a3 a4 X := fun X e hX => by
    refine M_fe hf (Mw_yes h1 ?_)
    match l, hl, e with
    | none, _, e => exact itT e hX
    | some l, hl, e =>
      have hl : l < tN t 2 := hl
      have e : a3 = nI l := e
      subst e
      exact itF (fun q => absurd (nI_pos' (n := l) (by omega)) (by rw [q]; decide)) (M_ld h.z hl hX)
  have mM : ∀ (X : Int32 → MS → Prop), (a4 = li m) → wp_M_saysNow σ (nI f) a2 a3 a4 X → wp_M_says_29 X σ (nI f) a2 a3 a4 := fun X e hX => by
    match m, hm, e with
    | none, _, e => exact itT e hX
    | some m, hm, e =>
      have hm : m < tN t 3 := hm
      have e : a4 = nI m := e
      subst e
      exact itF (fun q => absurd (nI_pos' (n := m) (by omega)) (by rw [q]; decide)) (M_mn h.z hm hX)
  rcases hl3 with e3 | ⟨rfl, e3, n3⟩
  · rcases hm3 with e4 | ⟨rfl, e4, n4⟩
    · have fin := main l m hl hm f hf h1 (fun X hX => mL X e3 (mM X e4 (by rw [e3, e4]; exact hX)))
      have s54 : wp_C_says_40 (fun v t1 => wp_M_says σ (nI f) a2 a3 a4 (fun w σ1 => v = w ∧ Inv t1 σ1)) t (nI f) a2 a4 l m := by
        cases m with
        | none => exact itT e4 fin
        | some m => exact fin
      cases l with
      | none => exact itT e3 s54
      | some l => exact s54
    · have hk : wp_M_says σ (nI f) a2 a3 a4 (fun w σ1 => (-2000000000 : Int32) = w ∧ Inv t σ1) := mL _ e3 (itF e4 (M_mn_no h.z n4 ⟨rfl, h⟩))
      exact nom l _ n4 e4 hk
  · have hk : wp_M_says σ (nI f) a2 a3 a4 (fun w σ1 => (-2000000000 : Int32) = w ∧ Inv t σ1) := M_fe hf (Mw_yes h1 (itF e3 (M_ld_no h.z n3 ⟨rfl, h⟩)))
    exact itF e3 hk
end Says2
