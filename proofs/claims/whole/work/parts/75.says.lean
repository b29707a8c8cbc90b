/-! what a use says now -/
def fmc (σ : MS) (f : Int32) (n : Nat) : Nat := fb_ct (fun m => decide (σ 11 m = f ∧ ¬ σ 1 0 < σ 16 m ∧ ¬ σ 1 0 < σ 17 m ∧ σ 19 m = 0)) n
theorem fmc_yes {σ : MS} {f : Int32} {i : Nat} (h : σ 11 i = f ∧ ¬ σ 1 0 < σ 16 i ∧ ¬ σ 1 0 < σ 17 i ∧ σ 19 i = 0) : fmc σ f (i + 1) = fmc σ f i + 1 := by
  unfold fmc; rw [fb_ct_succ, if_pos (decide_eq_true h)]
theorem fmc_no {σ : MS} {f : Int32} {i : Nat} (h : ¬ (σ 11 i = f ∧ ¬ σ 1 0 < σ 16 i ∧ ¬ σ 1 0 < σ 17 i ∧ σ 19 i = 0)) : fmc σ f (i + 1) = fmc σ f i := by
  unfold fmc; rw [fb_ct_succ, if_neg (fun q => h (of_decide_eq_true q))]; rfl
theorem M_freeMen {σ : MS} {n : Nat} (hn : n ≤ 60) (h10 : σ 10 0 = nI n) {f : Int32} {post : Int32 → MS → Prop} (k : post (nI (fmc σ f n)) σ) : wp_M_freeMen σ f post := by
  have main : ∀ d i, i + d = n → wp_M_freeMen_4 post (d + 1) σ f (nI (fmc σ f i)) (nI i) := by
    intro d
    induction d with
    | zero =>
      intro i hi
      have e : i = n := by omega
      subst e
      refine itT ?_ k
      rw [h10]; exact nI_le (Nat.le_refl _) (by omega)
    | succ d ih =>
      intro i hi
      have hv : vp_in (nI i) 60 := vp_in_nI (by omega) (by omega)
      have hI := ih (i + 1) (by omega)
      have no : ¬ (σ 11 i = f ∧ ¬ σ 1 0 < σ 16 i ∧ ¬ σ 1 0 < σ 17 i ∧ σ 19 i = 0) → wp_M_freeMen_62 (wp_M_freeMen_4 post (d + 1)) post σ f (nI i) (nI (fmc σ f i)) := fun q => by
        rintro x1 rfl x2 rfl
        rw [fmc_no q] at hI
        rw [nI_1, Int32.add_zero]; exact hI
      refine itF ?_ ⟨hv, ?_⟩
      · rw [h10]; exact nI_ge (by omega) (by omega)
      rw [nI_clamp (n := i) (by omega)]
      refine itE (fun q1 => ⟨hv, itE (fun q2 => no (fun q => q.2.1 q2)) (fun q2 => ⟨hv, itE (fun q3 => no (fun q => q.2.2.1 q3)) (fun q3 => ⟨hv, itE (fun q4 => ?_) (fun q4 => no (fun q => q4 q.2.2.2))⟩)⟩)⟩) (fun q1 => no (fun q => q1 q.1))
      rintro x1 rfl x2 rfl
      rw [fmc_yes ⟨q1, q2, q3, q4⟩] at hI
      rw [nI_1, nI_1]; exact hI
  exact ⟨n + 1, main n 0 (by omega)⟩
section Says
variable {t : CS} {σ : MS}
theorem C_ready (hz : IZ t σ) (hn : IMn t σ) (hm : IMi t σ) {f : Int32} {post : Int32 → CS → Prop} (k : post (nI (fmc σ f (tN t 3))) t) : wp_C_readyMen t f post := by
  have hb := hz.b3
  have hl : (tT t 1).length = tN t 3 := by rw [hz.mn, List.length_range]
  obtain ⟨T, hT, e1, e2⟩ := hm
  have main : ∀ d i, i + d = tN t 3 → wp_C_readyMen_4 post (d + 1) t f (nI (fmc σ f i)) (nI i) := by
    intro d
    induction d with
    | zero =>
      intro i hi
      have e : i = tN t 3 := by omega
      subst e
      refine itT ?_ k
      rw [hl]; exact nI_le (Nat.le_refl _) (by omega)
    | succ d ih =>
      intro i hi
      have hI := ih (i + 1) (by omega)
      obtain ⟨n1, n2, n3, n4, n5, n6, n7, n8, n9, n10, n11⟩ := hn.1 i (by omega)
      have no : ¬ (σ 11 i = f ∧ ¬ σ 1 0 < σ 16 i ∧ ¬ σ 1 0 < σ 17 i ∧ σ 19 i = 0) → wp_C_readyMen_72 (wp_C_readyMen_4 post (d + 1)) post t f (nI (fmc σ f i)) (nI i) := fun q => by
        rintro x1 rfl
        rw [fmc_no q] at hI
        rw [nI_1]; exact hI
      refine itF ?_ ⟨?_, by omega, ?_⟩
      · rw [hl]; exact nI_ge (by omega) (by omega)
      · rw [hl]; exact vp_in_nI (by omega) (by omega)
      rw [nI_clamp (n := i) (by omega), hz.mn, rng_getD (by omega)]
      refine nm_e ?_
      have hi3 : i < tN t 3 := by omega
      refine ⟨hi3, ?_⟩
      rw [n1]
      refine itE (fun q1 => ⟨hi3, itE (fun q2 => itT rfl (no (fun q => q.2.1 (by rw [n6, e2, ← e1] at q2; exact q2)))) (fun q2 => itF (by decide) ⟨hi3, hi3, itE (fun q3 => itT rfl ⟨hi3, ?_⟩) (fun q3 => itF (by decide) (no (fun q => q3 (by rw [n7, e2, ← e1]; exact Int32.not_lt.mp q.2.2.1))))⟩)⟩) (fun q1 => no (fun q => q1 q.1))
      rw [n9]
      refine itE (fun q4 => ?_) (fun q4 => no (fun q => q4 q.2.2.2))
      rintro x17 rfl x1 rfl
      rw [n6, e2, ← e1] at q2
      rw [n7, e2, ← e1] at q3
      rw [fmc_yes ⟨q1, q2, Int32.not_lt.mpr q3, q4⟩] at hI
      rw [nI_1, nI_1]; exact hI
  exact ⟨tN t 3 + 1, main (tN t 3) 0 (by omega)⟩
theorem rn_bz (σ : MS) (x : Int32) : rn σ x = 0 ∨ rn σ x = 1 := by
  unfold rn rnk
  split
  · exact Or.inr rfl
  · exact Or.inl rfl
def ltv (σ : MS) (l : Nat) : Int32 := if σ 49 l < σ 1 0 then σ 1 0 - σ 49 l else 0
theorem lt_eq (hm : IMi t σ) {l : Nat} (hr : rg (σ 49 l) 0 200000) : (if 0 < σ 1 0 - σ 49 l then σ 1 0 - σ 49 l else 0) = ltv σ l := by
  obtain ⟨T, hT, e1, -⟩ := hm
  obtain ⟨a, -, ha, e⟩ := hr
  unfold ltv
  rw [e1, e]
  by_cases h : a < T
  · rw [if_pos (nI_lt h (by omega)), pk_sub (by omega), if_pos (show (0 : Int32) < nI (T - a) from nI_lt (a := 0) (b := T - a) (by omega) (by omega))]
  · rw [if_neg (nI_nlt (by omega) (by omega)), if_neg]
    intro q
    have q := (fa_lt _ _).mp q
    rw [pk_sub_toInt (by omega) (by omega)] at q
    have z : (0 : Int32).toInt = 0 := by decide
    omega
/-- the 13 names -/
def nmv (t : CS) (σ : MS) (f : Int32) (l m : Option Nat) (i : Nat) : Int32 := match i with
  | 0 => (match l with | none => 0 | some l => σ 44 l)
  | 1 => (match l with | none => 0 | some l => σ 45 l)
  | 2 => (match l with | none => 0 | some l => farv (σ 6 (tG t 0 l)) (σ 6 (tG t 1 l)))
  | 3 => (match l with | none => 0 | some l => upv (σ 7 (tG t 0 l)) (σ 7 (tG t 1 l)))
  | 4 => (match l with | none => 0 | some l => σ 48 l)
  | 5 => (σ 1 0 - σ 1 0 / 600 * 600) / 60
  | 6 => rn σ (σ 1 0)
  | 7 => (match l with | none => 0 | some l => ltv σ l)
  | 8 => nI (fmc σ f (tN t 3))
  | 9 => σ 1 0 / 600
  | 10 => (match m with | none => 0 | some m => σ 13 m)
  | 11 => (match m with | none => 0 | some m => σ 12 m)
  | 12 => (match m with | none => 0 | some m => σ 15 m)
  | _ => 0
theorem nm_idx {c : Int32} (h1 : ¬ c < 128) (h2 : ¬ 141 ≤ c) : (c - 128).toNatClampNeg < 13 := by
  have a1 := (fa_le _ _).mp (Int32.not_lt.mp h1)
  have a2 := (fa_lt _ _).mp (Int32.not_le.mp h2)
  have b1 : (128 : Int32).toInt = 128 := by decide
  have b2 : (141 : Int32).toInt = 141 := by decide
  have e : (c - 128).toInt = c.toInt - 128 := by rw [fb_subI (by omega) (by omega), b1]
  have e2 : c - 128 = nI (c.toInt - 128).toNat := (fa_eq _ _).mpr (by rw [e, nI_toInt (by omega)]; omega)
  rw [e2, nI_clamp (by omega)]; omega
theorem evk_nm {nm nm' g : Nat → Int32} (h : ∀ i, i < 13 → nm i = nm' i) : ∀ r k d S, evk nm g r k d S = evk nm' g r k d S := by
  intro r
  induction r with
  | zero => intro k d S; rfl
  | succ r ih =>
    intro k d S
    unfold evk
    by_cases q1 : ¬ g k < 1000
    · rw [if_pos q1, if_pos q1, ih]
    rw [if_neg q1, if_neg q1]
    by_cases q2 : ¬ g k < 128 ∧ ¬ 141 ≤ g k
    · rw [if_pos q2, if_pos q2, ih, h _ (nm_idx q2.1 q2.2)]
    rw [if_neg q2, if_neg q2]
    by_cases q3 : g k = 1
    · rw [if_pos q3, if_pos q3]
    rw [if_neg q3, if_neg q3]
    by_cases q4 : g k = 144
    · rw [if_pos q4, if_pos q4, ih]
    rw [if_neg q4, if_neg q4, ih, ih]
def unw (σ : MS) (u : Int32) (l : Option Nat) : Int32 := if u = 1 then (match l with | none => 0 | some l => σ 45 l) else if u = 2 then 1 else if u = 4 then 5 else 0
def lwv (t : CS) (nm : Nat → Int32) (o : Nat) : Int32 := evk nm (tA t (o + 8)) (tG t 2 o) 0 0 (fun _ => 0)
def svv (t : CS) (σ : MS) (f u : Int32) (l m : Option Nat) : Int32 := match frc (inF σ f u (σ 1 0 / 600) (σ 1 0 / 600)) (tN t 1) with
  | none => unw σ u l
  | some o => lwv t (nmv t σ f l m) o
def nm9 (t : CS) (σ : MS) (l : Option Nat) (P : Nat → Int32) : Prop := ∀ i, i < 10 → i ≠ 8 → P i = nmv t σ 0 l none i
def Core (t : CS) (σ : MS) : Prop := IZ t σ ∧ IPl t σ ∧ IRn t σ ∧ IMi t σ ∧ IMn t σ ∧ ILw t σ ∧ ILd t σ
theorem Inv.core (h : Inv t σ) : Core t σ := ⟨h.z, h.p, h.r, h.m, h.n, h.lw, h.ld⟩
theorem ten_of {Q : Nat → Prop} (h0 : Q 0) (h1 : Q 1) (h2 : Q 2) (h3 : Q 3) (h4 : Q 4) (h5 : Q 5) (h6 : Q 6) (h7 : Q 7) (h9 : Q 9) : ∀ i, i < 10 → i ≠ 8 → Q i := fun i hi h8 => by
  match i, hi, h8 with
  | 0, _, _ => exact h0
  | 1, _, _ => exact h1
  | 2, _, _ => exact h2
  | 3, _, _ => exact h3
  | 4, _, _ => exact h4
  | 5, _, _ => exact h5
  | 6, _, _ => exact h6
  | 7, _, _ => exact h7
  | 8, _, h => exact absurd rfl h
  | 9, _, _ => exact h9
  | i + 10, h, _ => exact absurd h (by omega)
theorem M_nameLoad (h : Core t σ) {l : Nat} (hl : l < tN t 2) {post : MS → Prop} (k : ∀ P, nm9 t σ (some l) P → post (sR σ 41 P)) : wp_M_nameLoad σ (nI l) post := by
  obtain ⟨hz, hp, hr, hm, hn, hlw, hld⟩ := h
  have hb := hz.b2
  have hc : (nI l).toNatClampNeg = l := nI_clamp (by omega)
  have hv : vp_in (nI l) 200 := vp_in_nI (by omega) (by omega)
  have h0 : (0 : Int32) ≤ nI l := nI_pos' (by omega)
  have hn0 : ¬ nI l < 0 := nI_pos (by omega)
  obtain ⟨l1, l2, l3, l4, l5, l6, -⟩ := hld.1 l hl
  have v0 : vp_in 0 13 := vp_in_nI (n := 0) (by omega) (by omega)
  have v1 : vp_in 1 13 := vp_in_nI (n := 1) (by omega) (by omega)
  have v2 : vp_in 2 13 := vp_in_nI (n := 2) (by omega) (by omega)
  have v3 : vp_in 3 13 := vp_in_nI (n := 3) (by omega) (by omega)
  have v4 : vp_in 4 13 := vp_in_nI (n := 4) (by omega) (by omega)
  have v5 : vp_in 5 13 := vp_in_nI (n := 5) (by omega) (by omega)
  have v6 : vp_in 6 13 := vp_in_nI (n := 6) (by omega) (by omega)
  have v7 : vp_in 7 13 := vp_in_nI (n := 7) (by omega) (by omega)
  have v9 : vp_in 9 13 := vp_in_nI (n := 9) (by omega) (by omega)
  have last : ∀ (P : Nat → Int32) (w : Int32), P 0 = σ 44 l → P 1 = σ 45 l → P 2 = farv (σ 6 (tG t 0 l)) (σ 6 (tG t 1 l)) → P 3 = upv (σ 7 (tG t 0 l)) (σ 7 (tG t 1 l)) → P 4 = σ 48 l → P 5 = (σ 1 0 - σ 1 0 / 600 * 600) / 60 → P 6 = rn σ (σ 1 0) → w = ltv σ l → wp_M_nameLoad_198 post (sR σ 41 P) 7 w := fun P w p0 p1 p2 p3 p4 p5 p6 hw => by
    refine ⟨v7, ?_⟩
    rintro σ2 rfl
    refine ⟨v9, ?_⟩
    rintro σ6 rfl
    rw [up2_sR, up2_sR]
    refine k _ (ten_of p0 p1 p2 p3 p4 p5 p6 hw rfl)
  have rain : ∀ (P : Nat → Int32) (w : Int32), P 0 = σ 44 l → P 1 = σ 45 l → P 2 = farv (σ 6 (tG t 0 l)) (σ 6 (tG t 1 l)) → P 3 = upv (σ 7 (tG t 0 l)) (σ 7 (tG t 1 l)) → P 4 = σ 48 l → P 5 = (σ 1 0 - σ 1 0 / 600 * 600) / 60 → w = rn σ (σ 1 0) → wp_M_nameLoad_159 post (sR σ 41 P) (nI l) 6 w := fun P w p0 p1 p2 p3 p4 p5 hw => by
    refine ⟨v6, ?_⟩
    rintro σ8 rfl
    rw [up2_sR]
    refine itF hn0 ⟨hv, ?_⟩
    rw [hc]
    show (if σ 49 l < σ 1 0 then _ else _)
    refine itE (fun q => ⟨hv, ?_⟩) (fun q => ?_)
    · refine last _ _ p0 p1 p2 p3 p4 p5 hw ?_
      show σ 1 0 - σ 49 l = ltv σ l
      unfold ltv; rw [if_pos q]
    · refine last _ _ p0 p1 p2 p3 p4 p5 hw ?_
      unfold ltv; rw [if_neg q]
  unfold wp_M_nameLoad
  refine itT h0 ⟨hv, v0, ?_⟩
  try rw [hc]
  rintro σ39 rfl
  refine itT h0 ⟨hv, v1, ?_⟩
  try rw [hc]
  rintro σ32 rfl
  rw [up2_is σ 41, up2_sR]
  refine itT h0 ⟨hv, hv, ?_⟩
  try rw [hc]
  show wp_M_far _ (σ 46 l) (σ 47 l) _
  rw [l3, l4]
  refine M_far (t := t) (σ := sR σ 41 _) hz hp l5 l6 ⟨v2, ?_⟩
  rintro σ25 rfl
  rw [up2_sR]
  refine itT h0 ⟨hv, hv, ?_⟩
  try rw [hc]
  show wp_M_up _ (σ 46 l) (σ 47 l) _
  rw [l3, l4]
  refine M_up (t := t) (σ := sR σ 41 _) hz hp l5 l6 ⟨v3, ?_⟩
  rintro σ21 rfl
  rw [up2_sR]
  refine itT h0 ⟨hv, v4, ?_⟩
  try rw [hc]
  rintro σ14 rfl
  refine ⟨v5, ?_⟩
  rintro σ16 rfl
  rw [up2_sR, up2_sR]
  refine M_rain (t := t) (σ := sR σ 41 _) hr ?_
  refine itE (fun q => ?_) (fun q => ?_)
  · refine rain _ 0 rfl rfl rfl rfl rfl rfl ?_
    exact (show rn σ (σ 1 0) = 0 from q).symm
  · refine rain _ 1 rfl rfl rfl rfl rfl rfl ?_
    exact ((rn_bz σ (σ 1 0)).resolve_left q).symm
theorem M_nameNone (h : Core t σ) {post : MS → Prop} (k : ∀ P, nm9 t σ none P → post (sR σ 41 P)) : wp_M_nameLoad σ (-1) post := by
  obtain ⟨hz, hp, hr, hm, hn, hlw, hld⟩ := h
  have h0 : ¬ (0 : Int32) ≤ -1 := by decide
  have v0 : vp_in 0 13 := vp_in_nI (n := 0) (by omega) (by omega)
  have v1 : vp_in 1 13 := vp_in_nI (n := 1) (by omega) (by omega)
  have v2 : vp_in 2 13 := vp_in_nI (n := 2) (by omega) (by omega)
  have v3 : vp_in 3 13 := vp_in_nI (n := 3) (by omega) (by omega)
  have v4 : vp_in 4 13 := vp_in_nI (n := 4) (by omega) (by omega)
  have v5 : vp_in 5 13 := vp_in_nI (n := 5) (by omega) (by omega)
  have v6 : vp_in 6 13 := vp_in_nI (n := 6) (by omega) (by omega)
  have v7 : vp_in 7 13 := vp_in_nI (n := 7) (by omega) (by omega)
  have v9 : vp_in 9 13 := vp_in_nI (n := 9) (by omega) (by omega)
  have rain : ∀ (P : Nat → Int32) (w : Int32), P 0 = 0 → P 1 = 0 → P 2 = 0 → P 3 = 0 → P 4 = 0 → P 5 = (σ 1 0 - σ 1 0 / 600 * 600) / 60 → w = rn σ (σ 1 0) → wp_M_nameLoad_159 post (sR σ 41 P) (-1) 6 w := fun P w p0 p1 p2 p3 p4 p5 hw => by
    refine ⟨v6, ?_⟩
    rintro σ8 rfl
    rw [up2_sR]
    refine itT (by decide) ⟨v7, ?_⟩
    rintro σ2 rfl
    refine ⟨v9, ?_⟩
    rintro σ6 rfl
    rw [up2_sR, up2_sR]
    exact k _ (ten_of p0 p1 p2 p3 p4 p5 hw rfl rfl)
  unfold wp_M_nameLoad
  refine itF h0 ⟨v0, ?_⟩
  rintro σ39 rfl
  refine itF h0 ⟨v1, ?_⟩
  rintro σ32 rfl
  rw [up2_is σ 41, up2_sR]
  refine itF h0 ⟨v2, ?_⟩
  rintro σ25 rfl
  rw [up2_sR]
  refine itF h0 ⟨v3, ?_⟩
  rintro σ21 rfl
  rw [up2_sR]
  refine itF h0 ⟨v4, ?_⟩
  rintro σ14 rfl
  refine ⟨v5, ?_⟩
  rintro σ16 rfl
  rw [up2_sR, up2_sR]
  refine M_rain (t := t) (σ := sR σ 41 _) hr ?_
  refine itE (fun q => ?_) (fun q => ?_)
  · refine rain _ 0 rfl rfl rfl rfl rfl rfl ?_
    exact (show rn σ (σ 1 0) = 0 from q).symm
  · refine rain _ 1 rfl rfl rfl rfl rfl rfl ?_
    exact ((rn_bz σ (σ 1 0)).resolve_left q).symm
end Says
