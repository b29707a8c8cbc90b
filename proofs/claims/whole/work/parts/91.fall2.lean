/-! fall, the call -/
theorem sR_id (σ : MS) (k : Nat) : sR σ k (σ k) = σ := by
  funext j
  show (if j = k then σ k else σ j) = σ j
  by_cases e : j = k
  · rw [if_pos e, e]
  · rw [if_neg e]
theorem sR_comm {σ : MS} {k j : Nat} {P Q : Nat → Int32} (h : k ≠ j) : sR (sR σ k P) j Q = sR (sR σ j Q) k P := by
  funext i
  show (if i = j then Q else if i = k then P else σ i) = (if i = k then P else if i = j then Q else σ i)
  by_cases e : i = j
  · rw [if_pos e, if_pos e, if_neg (fun q => h (q.symm.trans e))]
  · rw [if_neg e, if_neg e]
theorem tS_id (t : CS) : tS t (tA t 6) (tA t 7) (tF t 162 4) = t := by
  unfold tS
  refine Prod.ext ?_ (Prod.ext ?_ rfl)
  · show sR t.1 162 (upd (t.1 162) 4 (t.1 162 4)) = t.1
    rw [fa_upd_same rfl]; exact sR_id _ _
  · show sR (sR t.2.1 6 (t.2.1 6)) 7 (t.2.1 7) = t.2.1
    rw [sR_id]; exact sR_id _ _
theorem tCo_id (t : CS) : tCo t (tF t 100) = t := by
  unfold tCo
  exact Prod.ext (sR_id _ _) rfl
theorem mFa_id (σ : MS) (f D : Nat) : mFa σ f D 0 (σ 14) (σ 41) (σ 42) = σ := by
  unfold mFa
  rw [finM_0, sR_id]
  show sR (sR σ 41 (σ 41)) 42 (σ 42) = σ
  rw [sR_id, sR_id]
theorem mFa_sR {σ : MS} {f D k : Nat} {a : Int32} {c P Q R : Nat → Int32} (h1 : k ≠ 63) (h2 : k ≠ 64) (h3 : k ≠ 68) (h4 : k ≠ 14) (h5 : k ≠ 41) (h6 : k ≠ 42) : mFa (sR σ k R) f D a c P Q = sR (mFa σ f D a c P Q) k R := by
  unfold mFa
  rw [finM_sR h1 h2 h3, sR_comm h4, sR_comm h5, sR_comm h6]
theorem mFa_alt (σ : MS) (f D : Nat) (a : Int32) (c P Q : Nat → Int32) : mFa σ f D a c P Q = sR (sR (finM (sR σ 14 c) f D a) 41 P) 42 Q := by
  unfold mFa
  rw [finM_sR (by decide) (by decide) (by decide)]
section Fall2
variable {t : CS} {σ : MS}
theorem Inv_fin (h : Inv t σ) {f D : Nat} (hf : f < 4) (hD : D < 167) (eD : σ 1 0 / 600 = nI D) {x : Int32} (hx : 0 ≤ x.toInt) (hp : phi σ + x.toInt ≤ 100000 * (thr t σ : Int) + 47520 * (D : Int)) : Inv (finC t f x) (finM σ f D x) := by
  obtain ⟨D', eD', hF, hP⟩ := h.f
  have hD' := hF.1
  obtain ⟨T, hT, m1, m2⟩ := h.m
  have e : D = D' := (nI_eq (by omega) (by omega)).mp (eD.symm.trans eD')
  subst e
  obtain ⟨b1, b2, b3, b4, b5⟩ := IPh_b h.z hF hP
  have ht : thr t σ ≤ tN t 2 := fb_ct_le _ _
  have hb2 := h.z.b2
  have b3f := b3 f hf
  have p0 : 0 ≤ (σ 64 f).toInt := (hF.2 f hf).2.2.2.2.2.2.2.1
  have hbd : (σ 64 f).toInt + x.toInt < 2147483648 := by omega
  refine ⟨h.z, h.c, h.s, h.p, h.r, h.m, h.n, h.w, h.d, h.tp, h.lw, h.ld, h.g, D, eD, IFu_in hf hF hx hbd, hP.1, ?_⟩
  rw [phi_in hf hbd p0 hx]
  exact hp
theorem Inv_co (h : Inv t σ) {c c1 : Nat → Int32} (h0 : ∀ m, m < 60 → 0 ≤ (c m).toInt) (hs : fb_si (fun m => (c m).toInt) 60 ≤ fb_si (fun m => (σ 14 m).toInt) 60) (hz : ∀ m, tN t 3 ≤ m → c m = 0) (h1 : ∀ m, m < tN t 3 → c1 m = c m) : Inv (tCo t c1) (sR σ 14 c) := by
  refine ⟨h.z, h.c, h.s, h.p, h.r, h.m, ⟨fun i hi => ?_, fun i hi => ?_⟩, h.w, h.d, h.tp, h.lw, h.ld, h.g, ?_⟩
  · obtain ⟨n1, n2, n3, n4, n5⟩ := h.n.1 i hi
    exact ⟨n1, n2, n3, h1 i hi, n5⟩
  · obtain ⟨z1, z2⟩ := h.n.2 i hi
    exact ⟨hz i hi, z2⟩
  · obtain ⟨D, eD, hF, hP⟩ := h.f
    refine ⟨D, eD, hF, h0, ?_⟩
    have := hP.2
    unfold phi at this ⊢
    show fb_si (fun m => (c m).toInt) 60 + fb_si (fun f => (σ 64 f).toInt) 4 ≤ 100000 * (thr t σ : Int) + 47520 * (D : Int)
    omega
theorem Inv_hurt (h : Inv t σ) {m : Nat} (hm : m < tN t 3) (v : Int32) : Inv (sF t 103 m v) (up2 σ 17 m v) := by
  refine ⟨h.z, h.c, h.s, h.p, h.r, h.m, ⟨fun i hi => ?_, fun i hi => ?_⟩, h.w, h.d, h.tp, h.lw, h.ld, h.g, h.f⟩
  · obtain ⟨n1, n2, n3, n4, n5, n6, n7, n8, n9, n10, n11⟩ := h.n.1 i hi
    refine ⟨n1, n2, n3, n4, n5, n6, ?_, n8, n9, n10, n11⟩
    show upd (tF t 103) m v i = upd (σ 17) m v i
    by_cases e : i = m
    · subst e; rw [pk_us, pk_us]
    · rw [pk_un e, pk_un e]; exact n7
  · obtain ⟨z1, z2, z3, z4, z5⟩ := h.n.2 i hi
    have hi : tN t 3 ≤ i := hi
    refine ⟨z1, z2, z3, ?_, z5⟩
    show upd (σ 17) m v i = 0
    rw [pk_un (by omega)]; exact z4
theorem Inv_fell (h : Inv t σ) {l : Nat} (hl : l < tN t 2) (e1 : σ 50 l = 1) : Inv (sF t 75 l 3) (up2 σ 50 l 3) := by
  refine ⟨h.z, h.c, h.s, h.p, h.r, h.m, h.n, h.w, h.d, h.tp, h.lw, ⟨fun i hi => ?_, h.ld.2⟩, ?_, ?_⟩
  · obtain ⟨l1, l2, l3, l4, l5, l6, l7, l8, l9, l10, l11, l12, l13⟩ := h.ld.1 i hi
    refine ⟨l1, l2, l3, l4, l5, l6, l7, l8, l9, l10, l11, ?_, l13⟩
    show upd (tF t 75) l 3 i = upd (σ 50) l 3 i
    by_cases e : i = l
    · subst e; rw [pk_us, pk_us]
    · rw [pk_un e, pk_un e]; exact l12
  · obtain ⟨T, g1, g2, g3⟩ := h.g
    refine ⟨T, g1, g2, fun i hi => ?_⟩
    by_cases e : i = l
    · subst e
      obtain ⟨a1, a2, a3, a4, a5, a6⟩ := g3 i hi
      refine ⟨a1, a2, a3, a4, a5, ?_⟩
      rcases a6 with ⟨q, -⟩ | ⟨q1, f, a, q2, q3, q4, q5, q6, q7, q8⟩
      · rw [e1] at q; exact absurd q (by decide)
      · refine Or.inr ⟨q1, f, a, q2, q3, q4, q5, q6, q7, ?_⟩
        rcases q8 with ⟨r1, r2, r3, r4⟩ | ⟨r1, r2, r3⟩
        · exact Or.inl ⟨r1, r2, Or.inr (show upd (σ 50) i 3 i = 3 from pk_us), r4⟩
        · rw [e1] at r3; exact absurd r3 (by decide)
    · exact gng_congr (g3 i hi) rfl (fun _ _ => rfl) rfl (Nat.le_refl _) (show upd (σ 50) l 3 i = σ 50 i from pk_un e) rfl rfl rfl rfl (fun _ _ => rfl) (fun _ _ _ _ => ⟨rfl, rfl, fun _ _ hx => hx⟩)
  · obtain ⟨D, eD, hF, hP⟩ := h.f
    refine ⟨D, eD, hF, hP.1, ?_⟩
    have e : thr (sF t 75 l 3) (up2 σ 50 l 3) = thr t σ := fb_ct_cong (fun k hk => by
      show decide (upd (σ 50) l 3 k = 2) = decide (σ 50 k = 2)
      by_cases e : k = l
      · subst e; rw [pk_us, e1]; decide
      · rw [pk_un e])
    rw [e]; exact hP.2
theorem C_carrier {l : Nat} (hl : l < tN t 2) (h8 : (tT t (l + 11)).length ≤ 8) (hm : ∀ m ∈ tT t (l + 11), m < tN t 3) (hb : tN t 3 ≤ 60) {a : Int32} {post : Option Nat → CS → Prop} (ky : ∀ m, m ∈ tT t (l + 11) → a = nI m → post (some m) t) (kn : (∀ m, m ∈ tT t (l + 11) → a ≠ nI m) → post none t) : wp_Load_carrier t l a post := by
  have main : ∀ d i, i + d = (tT t (l + 11)).length → (∀ j, j < i → a ≠ nI ((tT t (l + 11)).getD j 0)) → wp_Load_carrier_2 post (d + 1) t l a (nI i) := by
    intro d
    induction d with
    | zero =>
      intro i hi hn
      have e : i = (tT t (l + 11)).length := by omega
      refine ⟨hl, by omega, itT ?_ (kn (fun m hmm q => ?_))⟩
      · rw [e]; exact nI_le (Nat.le_refl _) (by omega)
      · have h1 := pos_mem.mpr hmm
        exact hn (pos (tT t (l + 11)) m) (by omega) (by rw [pos_get h1]; exact q)
    | succ d ih =>
      intro i hi hn
      have hil : i < (tT t (l + 11)).length := by omega
      refine ⟨hl, by omega, itF (nI_ge hil (by omega)) ⟨vp_in_nI hil (by omega), by omega, ?_⟩⟩
      rw [nI_clamp (by omega)]
      have hx := hm _ (getD_mem hil)
      refine nm_e ⟨hx, itE (fun q => nm_e ⟨hx, ky _ (getD_mem hil) q.symm⟩) (fun q => nm_e ?_)⟩
      rw [nI_1]
      refine ih (i + 1) (by omega) (fun j hj => ?_)
      by_cases e : j = i
      · subst e; exact fun q2 => q q2.symm
      · exact hn j (by omega)
  exact ⟨(tT t (l + 11)).length + 1, main _ 0 (by omega) (fun j h => absurd h (Nat.not_lt_zero j))⟩
theorem M_inGang {l : Nat} {ch : List Nat} (hl : l < 200) (h8 : ch.length ≤ 8) (h58 : σ 58 l = nI ch.length) (h59 : ∀ k, k < ch.length → σ 59 (8 * l + k) = nI (ch.getD k 0)) {a : Int32} {post : Int32 → MS → Prop} (ky : ∀ m x, m ∈ ch → a = nI m → ¬ x < 0 → post x σ) (kn : (∀ m, m ∈ ch → a ≠ nI m) → post (-1) σ) : wp_M_placeInGang σ (nI l) a post := by
  have hcl : (nI l).toNatClampNeg = l := nI_clamp (by omega)
  have hvl : vp_in (nI l) 200 := vp_in_nI hl (by omega)
  have main : ∀ d i, i + d = ch.length → (∀ j, j < i → a ≠ nI (ch.getD j 0)) → wp_M_placeInGang_2 post (d + 1) σ (nI l) a (nI i) := by
    intro d
    induction d with
    | zero =>
      intro i hi hn
      have e : i = ch.length := by omega
      refine ⟨hvl, itT ?_ (kn (fun m hmm q => ?_))⟩
      · rw [hcl, h58, e]; exact nI_le (Nat.le_refl _) (by omega)
      · have h1 := pos_mem.mpr hmm
        exact hn (pos ch m) (by omega) (by rw [pos_get h1]; exact q)
    | succ d ih =>
      intro i hi hn
      have hil : i < ch.length := by omega
      refine ⟨hvl, itF ?_ ?_⟩
      · rw [hcl, h58]; exact nI_ge hil (by omega)
      rw [i8, nI_clamp (by omega), h59 i hil]
      refine ⟨vp_in_nI (by omega) (by omega), itE (fun q => ky _ _ (getD_mem hil) q.symm (nI_pos (by omega))) (fun q => nm_e ?_)⟩
      rw [nI_1]
      refine ih (i + 1) (by omega) (fun j hj => ?_)
      by_cases e : j = i
      · subst e; exact fun q2 => q q2.symm
      · exact hn j (by omega)
  exact ⟨ch.length + 1, main _ 0 (by omega) (fun j h => absurd h (Nat.not_lt_zero j))⟩
theorem Inv_fines (h : Inv t σ) {f D : Nat} (hf : f < 4) (hD : D < 167) (eD : σ 1 0 / 600 = nI D) {c c1 : Nat → Int32} {a : Int32} (hk : okc c a (tN t 3) (fb_si (fun m => (σ 14 m).toInt) 60)) (h1 : ∀ m, m < tN t 3 → c1 m = c m) (P Q : Nat → Int32) (d : Int32) (P' Q' : Nat → Int32) : Inv (finC (tS (tCo t c1) P Q d) f a) (mFa σ f D a c P' Q') := by
  obtain ⟨k1, k2, k3, k4⟩ := hk
  rw [mFa_alt]
  refine Inv.scM (Inv_fin (Inv.scC (Inv_co h k1 (by omega) k4 h1) P Q d) hf hD eD k2 ?_) P' Q'
  obtain ⟨D', eD', hF, hP⟩ := h.f
  have hD' := hF.1
  have e : D = D' := (nI_eq (by omega) (by omega)).mp (eD.symm.trans eD')
  subst e
  have := hP.2
  unfold phi at this ⊢
  show fb_si (fun m => (c m).toInt) 60 + fb_si (fun f => (σ 64 f).toInt) 4 + a.toInt ≤ 100000 * (thr t σ : Int) + 47520 * (D : Int)
  omega
theorem okc_0 (h : Inv t σ) : okc (σ 14) 0 (tN t 3) (fb_si (fun m => (σ 14 m).toInt) 60) := by
  obtain ⟨D, eD, hF, hP⟩ := h.f
  exact ⟨hP.1, by decide, Int.add_zero _, fun m hm => (h.n.2 m hm).1⟩
theorem si14_b (h : Inv t σ) : fb_si (fun m => (σ 14 m).toInt) 60 < 2147483648 := by
  obtain ⟨D, eD, hF, hP⟩ := h.f
  obtain ⟨b1, b2, b3, b4, b5⟩ := IPh_b h.z hF hP
  unfold phi at b1
  omega
theorem C_takeF (h : Inv t σ) {l f : Nat} (hl : l < tN t 2) (hf : f < 4) (e53 : σ 53 l = nI f) {ch : List Nat} (hch : tT t (l + 11) = ch) (h8 : ch.length ≤ 8) (hcm : ∀ m ∈ ch, m < tN t 3) {V : Nat → Int32} (hV : ∀ m, m < tN t 3 → svv t σ (nI f) 3 (some l) (some m) = V m) {post : Int32 → CS → Prop} (k : ∀ P Q d c1, (∀ m, m < tN t 3 → c1 m = (ffo V ch (σ 14) 0).1 m) → post (ffo V ch (σ 14) 0).2 (finC (tS (tCo t c1) P Q d) f (ffo V ch (σ 14) 0).2)) : wp_C_fall_73 post t l := by
  have e77 : tF t 77 l = nI f := by
    obtain ⟨l1, l2, l3, l4, l5, l6, l7, l8, l9, l10, l11, l12, l13, l14, -⟩ := h.ld.1 l hl
    rw [l14, e53]
  refine ⟨hl, ?_⟩
  rw [e77]
  refine C_fe h.z hf (oS ⟨ch.length + 1, ?_⟩)
  have e : tS (tCo t (tF t 100)) (tA t 6) (tA t 7) (tF t 162 4) = t := by rw [tCo_id, tS_id]
  have main := C_fines h.core hl (by rw [h.z.1]; exact hf) hch h8 hcm hV (si14_b h) k ch.length 0 (σ 14) 0 (tA t 6) (tA t 7) (tF t 162 4) (tF t 100) (by omega) (okc_0 h) rfl (fun m hm => (h.n.1 m hm).2.2.2.1)
  rw [e] at main
  exact main
theorem svv_fell {l : Nat} {f u : Int32} {l2 m : Option Nat} : svv (sF t 75 l 3) (up2 σ 50 l 3) f u l2 m = svv t σ f u l2 m := by
  have e : sR (up2 σ 50 l 3) 17 (σ 17) = up2 σ 50 l 3 := sR_id (up2 σ 50 l 3) 17
  have := svv_H (t := t) (σ := σ) (H := σ 17) (f := f) (u := u) (l := l) (l2 := l2) (m := m) (fun m _ => Or.inl rfl) 3
  rw [e] at this; exact this
theorem svv_fell2 {l k : Nat} {v f u : Int32} {l2 m : Option Nat} (h : σ 1 0 < σ 16 k) : svv (sF (sF t 75 l 3) 103 k v) (up2 (up2 σ 50 l 3) 17 k v) f u l2 m = svv t σ f u l2 m :=
  svv_H (t := t) (σ := σ) (H := upd (σ 17) k v) (f := f) (u := u) (l := l) (l2 := l2) (m := m) (fun m _ => by
    by_cases e : m = k
    · subst e; exact Or.inr h
    · rw [pk_un e]; exact Or.inl rfl) 3
theorem s_fall (h : Inv t σ) (a1 a2 a3 : Int32) : wp_C_fall t a1 a2 a3 (fun v t1 => wp_M_fall σ a1 a2 a3 (fun w σ1 => v = w ∧ Inv t1 σ1)) := by
  have hb2 := h.z.b2
  have hb3 := h.z.b3
  unfold wp_C_fall
  rcases ix a1 (n := tN t 2) (by omega) with hn | ⟨l, hl, rfl⟩
  · refine C_ld_no h.z hn (oN ?_)
    exact M_ld_no h.z hn ⟨rfl, h⟩
  have hcl : (nI l).toNatClampNeg = l := nI_clamp (by omega)
  have hvl : vp_in (nI l) 200 := vp_in_nI (by omega) (by omega)
  obtain ⟨T, g1, g2, g3⟩ := h.g
  obtain ⟨c1, c2, c3, c4, c5, c6⟩ := g3 l hl
  have core : ∀ (om : Option Nat) (X : (Int32 → MS → Prop) → Prop), (∀ m, om = some m → m ∈ tT t (l + 11)) → (∀ post, wp_M_fall_43 post σ (nI l) (li om) a3 → X post) → wp_C_fall_44 (fun v t1 => X (fun w σ1 => v = w ∧ Inv t1 σ1)) t a3 l om := fun om X hom hX => by
    have e75 : tF t 75 l = σ 50 l := (h.ld.1 l hl).2.2.2.2.2.2.2.2.2.2.2.1
    refine ⟨hl, ?_⟩
    rw [e75]
    refine itE (fun q => ?_) (fun q => hX _ ⟨hvl, itF (by rw [hcl]; exact q) ⟨rfl, h⟩⟩)
    rcases c6 with ⟨r, -⟩ | ⟨r1, f, a, r2, r3, r4, r5, r6, r7, r8⟩
    · rw [q] at r; exact absurd r (by decide)
    obtain ⟨s1, s2, s3, s4⟩ := r8.resolve_right (fun s => by have s3 := s.2.2; rw [q] at s3; exact absurd s3 (by decide))
    have hTa : T < a := by omega
    obtain ⟨D, eD, hF, hP⟩ := h.f
    have hD := hF.1
    have hb1 := Inv_fell h hl q
    -- the model, on its own
    have hM : ∀ (v : Int32) (t1 : CS), (∀ P Q, (vp_in (nI l) 200 ∧ (∀ σ10 : MS, σ10 = up2 (mFa σ f D (ffo (fun m => svv t σ (nI f) 3 (some l) (some m)) (tT t (l + 11)) (σ 14) 0).2 (ffo (fun m => svv t σ (nI f) 3 (some l) (some m)) (tT t (l + 11)) (σ 14) 0).1 P Q) 50 l (3 : Int32) → (if li om < 0 then (v = (ffo (fun m => svv t σ (nI f) 3 (some l) (some m)) (tT t (l + 11)) (σ 14) 0).2 ∧ Inv t1 σ10) else (vp_in (li om) 60 ∧ (∀ σ13 : MS, σ13 = up2 σ10 17 (li om).toNatClampNeg a3 → (v = (ffo (fun m => svv t σ (nI f) 3 (some l) (some m)) (tT t (l + 11)) (σ 14) 0).2 ∧ Inv t1 σ13))))))) → X (fun w σ1 => v = w ∧ Inv t1 σ1) := fun v t1 kM => by
      refine hX _ ⟨hvl, itT (by rw [hcl]; exact q) ⟨hvl, ?_⟩⟩
      rw [hcl, r3]
      refine nm_e ⟨(tT t (l + 11)).length + 1, ?_⟩
      have main := M_fines h.core hl r2 hD eD c1 c3 c2 c5 (fun m _ => rfl) (si14_b h) (post := fun w σ1 => v = w ∧ Inv t1 σ1) kM (tT t (l + 11)).length 0 (σ 14) 0 (σ 41) (σ 42) (by omega) (okc_0 h) rfl
      rw [mFa_id] at main
      exact main
    have hok := ffo_ok (V := fun m => svv t σ (nI f) 3 (some l) (some m)) hb3 (si14_b h) (tT t (l + 11)) (σ 14) 0 c5 (okc_0 h)
    have hV1 : ∀ m, m < tN t 3 → svv (sF t 75 l 3) (up2 σ 50 l 3) (nI f) 3 (some l) (some m) = svv t σ (nI f) 3 (some l) (some m) := fun m _ => svv_fell
    have hV2 : ∀ k, k ∈ tT t (l + 11) → ∀ m, m < tN t 3 → svv (sF (sF t 75 l 3) 103 k a3) (up2 (up2 σ 50 l 3) 17 k a3) (nI f) 3 (some l) (some m) = svv t σ (nI f) 3 (some l) (some m) := fun k hk m _ => svv_fell2 (by rw [g1, (s4 k hk).1]; exact nI_lt hTa (by omega))
    generalize eV : (fun m => svv t σ (nI f) 3 (some l) (some m)) = V at hM hok
    have hV1 : ∀ m, m < tN t 3 → svv (sF t 75 l 3) (up2 σ 50 l 3) (nI f) 3 (some l) (some m) = V m := fun m hm => by rw [← eV]; exact hV1 m hm
    have hV2 : ∀ k, k ∈ tT t (l + 11) → ∀ m, m < tN t 3 → svv (sF (sF t 75 l 3) 103 k a3) (up2 (up2 σ 50 l 3) 17 k a3) (nI f) 3 (some l) (some m) = V m := fun k hk m hm => by rw [← eV]; exact hV2 k hk m hm
    refine nm_e ?_
    cases om with
    | none =>
      refine oN (C_takeF hb1 hl r2 r3 rfl c2 c5 hV1 (fun P Q d c1 h1 => hM _ _ (fun P' Q' => ⟨hvl, nm_e (itT (by decide) ⟨rfl, ?_⟩)⟩)))
      have e : up2 (mFa σ f D (ffo V (tT t (l + 11)) (σ 14) 0).2 (ffo V (tT t (l + 11)) (σ 14) 0).1 P' Q') 50 l 3 = mFa (up2 σ 50 l 3) f D (ffo V (tT t (l + 11)) (σ 14) 0).2 (ffo V (tT t (l + 11)) (σ 14) 0).1 P' Q' := (mFa_sR (σ := σ) (k := 50) (R := upd (σ 50) l 3) (by decide) (by decide) (by decide) (by decide) (by decide) (by decide)).symm
      rw [e]
      exact Inv_fines hb1 r2 hD eD hok h1 P Q d P' Q'
    | some m =>
      have hmm := hom m rfl
      have hm := c5 m hmm
      have hb := Inv_hurt hb1 (m := m) hm a3
      refine oS ⟨hm, nm_e (C_takeF hb hl r2 r3 rfl c2 c5 (hV2 m hmm) (fun P Q d c1 h1 => hM _ _ (fun P' Q' => ⟨hvl, nm_e (itF (nI_pos (by omega)) ⟨vp_in_nI (by omega) (by omega), nm_e ⟨rfl, ?_⟩⟩)⟩)))⟩
      have e : up2 (up2 (mFa σ f D (ffo V (tT t (l + 11)) (σ 14) 0).2 (ffo V (tT t (l + 11)) (σ 14) 0).1 P' Q') 50 l 3) 17 m a3 = mFa (up2 (up2 σ 50 l 3) 17 m a3) f D (ffo V (tT t (l + 11)) (σ 14) 0).2 (ffo V (tT t (l + 11)) (σ 14) 0).1 P' Q' := by
        rw [show up2 (up2 σ 50 l 3) 17 m a3 = sR (sR σ 50 (upd (σ 50) l 3)) 17 (upd (σ 17) m a3) from rfl, mFa_sR (by decide) (by decide) (by decide) (by decide) (by decide) (by decide), mFa_sR (by decide) (by decide) (by decide) (by decide) (by decide) (by decide)]
        rfl
      have ec : (li (some m)).toNatClampNeg = m := nI_clamp (by omega)
      rw [ec, e]
      exact Inv_fines hb r2 hD eD hok h1 P Q d P' Q'
  refine C_ld h.z hl (oS ⟨hl, ?_⟩)
  have hne : ∀ m, m < tN t 3 → (-1 : Int32) ≠ nI m := fun m hm q => by
    have := congrArg Int32.toInt q
    rw [nI_toInt (by omega)] at this
    have e : (-1 : Int32).toInt = -1 := by decide
    omega
  refine C_carrier hl c2 c5 hb3 (fun m hmm e => ?_) (fun hno => ?_)
  · subst e
    have hm := c5 m hmm
    refine itF (fun q => hne m hm q.symm) (oS ?_)
    have hMM : ∀ post, wp_M_in σ a3 0 200000 (fun r37 σ36 => if r37 = 0 then (post (-1 : Int32) σ36) else (wp_M_fall_43 post σ36 (nI l) (nI m) a3)) → wp_M_fall σ (nI l) (nI m) a3 post := fun post hp =>
      M_ld h.z hl (itF (fun q => hne m hm q.symm) (M_mn h.z hm (M_inGang (by omega) c2 c1 c3 (fun _ x _ _ hx => itF hx hp) (fun hno => absurd rfl (hno m hmm)))))
    by_cases q7 : a3 < 0 ∨ 200000 < a3
    · exact Cw_no q7 (hMM _ (Mw_no q7 ⟨rfl, h⟩))
    · exact Cw_yes q7 (core (some m) (wp_M_fall σ (nI l) (nI m) a3) (fun x hx => by cases hx; exact hmm) (fun post hp => hMM post (Mw_yes q7 hp)))
  · refine itE (fun q => ?_) (fun q => oN ?_)
    · subst q
      exact core none (wp_M_fall σ (nI l) (-1) a3) (fun x hx => by cases hx) (fun post hp => M_ld h.z hl (itT rfl hp))
    · refine M_ld h.z hl (itF q ?_)
      rcases ix a2 (n := tN t 3) (by omega) with hn | ⟨m, hm, rfl⟩
      · exact M_mn_no h.z hn ⟨rfl, h⟩
      · exact M_mn h.z hm (M_inGang (by omega) c2 c1 c3 (fun m2 _ h2 e _ => absurd e (hno m2 h2)) (fun _ => itT (by decide) ⟨rfl, h⟩))
end Fall2
