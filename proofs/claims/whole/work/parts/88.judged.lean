/-! judged -/
def nmj (t : CS) (σ : MS) (l : Nat) (i : Nat) : Int32 := match i with
  | 0 => σ 44 l
  | 1 => σ 45 l
  | 2 => farv (σ 6 (tG t 0 l)) (σ 6 (tG t 1 l))
  | 3 => upv (σ 7 (tG t 0 l)) (σ 7 (tG t 1 l))
  | 4 => σ 48 l
  | 5 => (σ 51 l - σ 51 l / 600 * 600) / 60
  | 6 => rn σ (σ 51 l)
  | 9 => σ 51 l / 600
  | _ => 0
theorem nmv_0 (t : CS) (σ : MS) (f : Int32) (l : Nat) (m : Option Nat) : nmv t σ f (some l) m 0 = σ 44 l := rfl
theorem nmj_0 (t : CS) (σ : MS) (l : Nat) : nmj t σ l 0 = σ 44 l := rfl
theorem nmv_1 (t : CS) (σ : MS) (f : Int32) (l : Nat) (m : Option Nat) : nmv t σ f (some l) m 1 = σ 45 l := rfl
theorem nmj_1 (t : CS) (σ : MS) (l : Nat) : nmj t σ l 1 = σ 45 l := rfl
theorem nmv_2 (t : CS) (σ : MS) (f : Int32) (l : Nat) (m : Option Nat) : nmv t σ f (some l) m 2 = farv (σ 6 (tG t 0 l)) (σ 6 (tG t 1 l)) := rfl
theorem nmj_2 (t : CS) (σ : MS) (l : Nat) : nmj t σ l 2 = farv (σ 6 (tG t 0 l)) (σ 6 (tG t 1 l)) := rfl
theorem nmv_3 (t : CS) (σ : MS) (f : Int32) (l : Nat) (m : Option Nat) : nmv t σ f (some l) m 3 = upv (σ 7 (tG t 0 l)) (σ 7 (tG t 1 l)) := rfl
theorem nmj_3 (t : CS) (σ : MS) (l : Nat) : nmj t σ l 3 = upv (σ 7 (tG t 0 l)) (σ 7 (tG t 1 l)) := rfl
theorem nmv_4 (t : CS) (σ : MS) (f : Int32) (l : Nat) (m : Option Nat) : nmv t σ f (some l) m 4 = σ 48 l := rfl
theorem nmj_4 (t : CS) (σ : MS) (l : Nat) : nmj t σ l 4 = σ 48 l := rfl
theorem nmj_5 (t : CS) (σ : MS) (l : Nat) : nmj t σ l 5 = (σ 51 l - σ 51 l / 600 * 600) / 60 := rfl
theorem nmj_6 (t : CS) (σ : MS) (l : Nat) : nmj t σ l 6 = rn σ (σ 51 l) := rfl
theorem nmj_7 (t : CS) (σ : MS) (l : Nat) : nmj t σ l 7 = 0 := rfl
theorem nmj_8 (t : CS) (σ : MS) (l : Nat) : nmj t σ l 8 = 0 := rfl
theorem nmj_9 (t : CS) (σ : MS) (l : Nat) : nmj t σ l 9 = σ 51 l / 600 := rfl
def jfr (t : CS) (σ : MS) (f : Int32) (l : Nat) (k : Int32) : Option Nat := frc (inF σ f 0 (σ 51 l / 600) k) (tN t 1)
def jv (t : CS) (σ : MS) (f : Int32) (l : Nat) (k : Int32) : Int32 := match jfr t σ f l k with
  | none => 0
  | some o => lwv t (nmj t σ l) o
section Judged
variable {t : CS} {σ : MS}
theorem M_z3 {o : Int32} {post : Int32 → MS → Prop} : ∀ d i (P : Nat → Int32), i + d = 13 → (∀ P' : Nat → Int32, (∀ j, j < i → P' j = P j) → (∀ j, i ≤ j → j < 13 → P' j = 0) → wp_M_works (sR σ 41 P') o (fun r3 σ2 => post r3 σ2)) → wp_M_claimThen_108 post (d + 1) (sR σ 41 P) o (nI i) := by
  intro d
  induction d with
  | zero =>
    intro i P hi k
    exact itT (nI_le (a := 13) (b := i) (by omega) (by omega)) (k P (fun _ _ => rfl) (fun j h1 h2 => by omega))
  | succ d ih =>
    intro i P hi k
    refine itF (nI_ge (a := i) (b := 13) (by omega) (by omega)) ⟨vp_in_nI (by omega) (by omega), ?_⟩
    rw [nI_clamp (n := i) (by omega)]
    refine nm_r (up2_sR _ _ _ _ _) ?_
    rintro x6 rfl
    rw [nI_1]
    refine ih (i + 1) _ (by omega) (fun P' h1 h2 => k P' (fun j hj => ?_) (fun j h3 h4 => ?_))
    · rw [h1 j (by omega), pk_un (by omega)]
    · by_cases e : j = i
      · subst e; rw [h1 j (by omega), pk_us]
      · exact h2 j (by omega) h4
theorem M_cl78 {o : Int32} {post : Int32 → MS → Prop} {P : Nat → Int32} {dy w : Int32} {nm : Nat → Int32} (p : ∀ j, j < 6 → P j = nm j) (p6 : w = nm 6) (p7 : 0 = nm 7) (p8 : 0 = nm 8) (p9 : dy = nm 9) (p10 : ∀ j, 10 ≤ j → j < 13 → nm j = 0) (k : ∀ P' : Nat → Int32, (∀ j, j < 13 → P' j = nm j) → wp_M_works (sR σ 41 P') o (fun r3 σ2 => post r3 σ2)) : wp_M_claimThen_78 post (sR σ 41 P) dy o (nI 6) w := by
  refine ⟨vp_in_nI (by omega) (by omega), ?_⟩
  rw [nI_clamp (n := 6) (by omega)]
  refine nm_r (up2_sR _ _ _ _ _) ⟨vp_in_nI (n := 7) (by omega) (by omega), nm_r (e' := sR σ 41 (upd (upd P 6 w) 7 0)) (up2_sR _ _ _ _ _) ⟨vp_in_nI (n := 8) (by omega) (by omega), nm_r (e' := sR σ 41 (upd (upd (upd P 6 w) 7 0) 8 0)) (up2_sR _ _ _ _ _) ⟨vp_in_nI (n := 9) (by omega) (by omega), nm_r (e' := sR σ 41 (upd (upd (upd (upd P 6 w) 7 0) 8 0) 9 dy)) (up2_sR _ _ _ _ _) ⟨4, ?_⟩⟩⟩⟩
  refine M_z3 3 10 _ rfl (fun P' h1 h2 => k P' (fun j hj => ?_))
  by_cases e10 : 10 ≤ j
  · rw [h2 j e10 hj, p10 j e10 hj]
  rw [h1 j (by omega)]
  by_cases e9 : j = 9
  · subst e9; rw [pk_us]; exact p9
  rw [pk_un e9]
  by_cases e8 : j = 8
  · subst e8; rw [pk_us]; exact p8
  rw [pk_un e8]
  by_cases e7 : j = 7
  · subst e7; rw [pk_us]; exact p7
  rw [pk_un e7]
  by_cases e6 : j = 6
  · subst e6; rw [pk_us]; exact p6
  rw [pk_un e6]
  exact p j (by omega)
theorem M_claim (h : Core t σ) {f k : Int32} {l : Nat} (hl : l < tN t 2) {post : Int32 → MS → Prop} (hk : ∀ P Q, post (jv t σ f l k) (sR (sR σ 41 P) 42 Q)) : wp_M_claimThen σ f (nI l) k post := by
  have h0 := h
  obtain ⟨hz, hp, hr, hmi, hn, hlw, hld⟩ := h
  have hb2 := hz.b2
  have hb1 := hz.b1
  have hc : (nI l).toNatClampNeg = l := nI_clamp (by omega)
  have hv : vp_in (nI l) 200 := vp_in_nI (by omega) (by omega)
  refine ⟨hv, ?_⟩
  rw [hc]
  refine nm_e (M_force hz ?_)
  unfold jv jfr at hk
  generalize e : frc (inF σ f 0 (σ 51 l / 600) k) (tN t 1) = oo at hk ⊢
  cases oo with
  | none =>
    refine itF (by decide) ?_
    have := hk (σ 41) (σ 42)
    rw [sR_two] at this
    exact this
  | some o =>
    have ho : o < tN t 1 := frc_lt e
    refine itT (nI_pos' (n := o) (by omega)) (M_nameLoad h0 hl (fun P hP => ⟨hv, vp_in_nI (n := 5) (by omega) (by omega), ?_⟩))
    refine nm_r (up2_sR _ _ _ _ _) ⟨hv, ?_⟩
    refine M_rain (t := t) (σ := sR σ 41 _) hr ?_
    have q0 := hP 0 (by omega) (by omega)
    have q1 := hP 1 (by omega) (by omega)
    have q2 := hP 2 (by omega) (by omega)
    have q3 := hP 3 (by omega) (by omega)
    have q4 := hP 4 (by omega) (by omega)
    have six : ∀ j, j < 6 → upd P (5 : Int32).toNatClampNeg ((σ 51 l - σ 51 l / 600 * 600) / 60) j = nmj t σ l j := fun j hj => by
      rw [show (5 : Int32).toNatClampNeg = 5 from nI_clamp (n := 5) (by omega)]
      by_cases e : j = 5
      · subst e; rw [pk_us, nmj_5]
      rw [pk_un e]
      match j, hj, e with
      | 0, _, _ => rw [nmj_0, q0, nmv_0]
      | 1, _, _ => rw [nmj_1, q1, nmv_1]
      | 2, _, _ => rw [nmj_2, q2, nmv_2]
      | 3, _, _ => rw [nmj_3, q3, nmv_3]
      | 4, _, _ => rw [nmj_4, q4, nmv_4]
      | 5, _, e => exact absurd rfl e
      | j + 6, hj, _ => exact absurd hj (by omega)
    have t13 : ∀ j, 10 ≤ j → j < 13 → nmj t σ l j = 0 := fun j h1 h2 => by
      match j, h1, h2 with
      | 10, _, _ => rfl
      | 11, _, _ => rfl
      | 12, _, _ => rfl
      | 0, h1, _ => exact absurd h1 (by omega)
      | 1, h1, _ => exact absurd h1 (by omega)
      | 2, h1, _ => exact absurd h1 (by omega)
      | 3, h1, _ => exact absurd h1 (by omega)
      | 4, h1, _ => exact absurd h1 (by omega)
      | 5, h1, _ => exact absurd h1 (by omega)
      | 6, h1, _ => exact absurd h1 (by omega)
      | 7, h1, _ => exact absurd h1 (by omega)
      | 8, h1, _ => exact absurd h1 (by omega)
      | 9, h1, _ => exact absurd h1 (by omega)
      | j + 13, _, h2 => exact absurd h2 (by omega)
    have fw : ∀ P3 : Nat → Int32, (∀ j, j < 13 → P3 j = nmj t σ l j) → wp_M_works (sR σ 41 P3) (nI o) (fun r3 σ2 => post r3 σ2) := fun P3 h13 => by
      refine M_works (t := t) (σ := sR σ 41 P3) hb1 hlw ho (fun Q => ?_)
      have e2 : evk P3 (tA t (o + 8)) (tG t 2 o) 0 0 (fun _ => 0) = lwv t (nmj t σ l) o := evk_nm h13 _ _ _ _
      show post (evk P3 (tA t (o + 8)) (tG t 2 o) 0 0 (fun _ => 0)) _
      rw [e2]; exact hk P3 Q
    refine itE (fun q => M_cl78 six ?_ (nmj_7 t σ l).symm (nmj_8 t σ l).symm (nmj_9 t σ l).symm t13 fw) (fun q => M_cl78 six ?_ (nmj_7 t σ l).symm (nmj_8 t σ l).symm (nmj_9 t σ l).symm t13 fw)
    · exact (show rn σ (σ 51 l) = 0 from q).symm
    · exact ((rn_bz σ (σ 51 l)).resolve_left q).symm
theorem M_claim' (h : Core t σ) {f k : Int32} {l : Nat} (hl : l < tN t 2) {P Q : Nat → Int32} {post : Int32 → MS → Prop} (hk : ∀ P Q, post (jv t σ f l k) (sR (sR σ 41 P) 42 Q)) : wp_M_claimThen (sR (sR σ 41 P) 42 Q) f (nI l) k post := by
  refine M_claim (t := t) (σ := sR (sR σ 41 P) 42 Q) h hl (fun P' Q' => ?_)
  rw [sR_four]; exact hk P' Q'
theorem s_judged (h : Inv t σ) (a1 a2 a3 a4 : Int32) : wp_C_judged t a1 a2 a3 a4 (fun v t1 => wp_M_judged σ a1 a2 a3 a4 (fun w σ1 => v = w ∧ Inv t1 σ1)) := by
  have hb := h.z.b2
  have hb1 := h.z.b1
  unfold wp_C_judged
  rcases ix a1 (n := tN t 2) (by omega) with hn | ⟨l, hl, rfl⟩
  · refine C_ld_no h.z hn (oN ?_)
    exact M_ld_no h.z hn ⟨rfl, h⟩
  refine C_ld h.z hl (oS ?_)
  rcases ix a2 (n := 4) (by omega) with hn | ⟨f, hf, rfl⟩
  · refine C_fe_no h.z hn (oN ?_)
    exact M_ld h.z hl (M_fe_no hn ⟨rfl, h⟩)
  refine C_fe h.z hf (oS ?_)
  rcases ix a3 (n := 4) (by omega) with hn | ⟨g, hg, rfl⟩
  · refine C_fe_no h.z hn (oN ?_)
    exact M_ld h.z hl (M_fe hf (M_fe_no hn ⟨rfl, h⟩))
  refine C_fe h.z hg (oS ?_)
  refine itE (fun q => ?_) (fun q => ?_)
  · exact M_ld h.z hl (M_fe hf (M_fe hg (itT q ⟨rfl, h⟩)))
  by_cases h1 : a4 < 0 ∨ 166 < a4
  · refine Cz_no h1 ?_
    exact M_ld h.z hl (M_fe hf (M_fe hg (itF q (Mz_no h1 ⟨rfl, h⟩))))
  refine Cz_yes h1 ⟨hl, ?_⟩
  obtain ⟨l1, l2, l3, l4, l5, l6, l7, l8, l9, l10, l11, -⟩ := h.ld.1 l hl
  have hc : (nI l).toNatClampNeg = l := nI_clamp (by omega)
  have hv : vp_in (nI l) 200 := vp_in_nI (by omega) (by omega)
  rw [l11]
  refine nm_e (C_force h.z h.lw (C_force h.z h.lw ?_))
  show oM (jfr t σ (nI f) l a4) _ (fun j20 => oM (jfr t σ (nI g) l a4) _ _)
  -- the model
  have hM : ∀ (v : Int32) (t1 : CS), (∀ P Q, Inv t1 (sR (sR σ 41 P) 42 Q)) → (if jv t σ (nI f) l a4 = 0 then v = -2 else if jv t σ (nI g) l a4 = 0 then v = -2 else if jv t σ (nI f) l a4 = jv t σ (nI g) l a4 then (if fv (jfr t σ (nI g) l a4) ≤ fv (jfr t σ (nI f) l a4) then v = nI g else v = nI f) else if jv t σ (nI f) l a4 ≤ jv t σ (nI g) l a4 then v = nI g else v = nI f) → wp_M_judged σ (nI l) (nI f) (nI g) a4 (fun w σ1 => v = w ∧ Inv t1 σ1) := fun v t1 hI hv2 => by
    refine M_ld h.z hl (M_fe hf (M_fe hg (itF q (Mz_yes h1 (M_claim h.core hl (fun P Q => M_claim' h.core hl (fun P' Q' => ?_)))))))
    by_cases z1 : jv t σ (nI f) l a4 = 0
    · rw [if_pos z1] at hv2 ⊢; exact ⟨hv2, hI P' Q'⟩
    rw [if_neg z1] at hv2 ⊢
    by_cases z2 : jv t σ (nI g) l a4 = 0
    · rw [if_pos z2] at hv2 ⊢; exact ⟨hv2, hI P' Q'⟩
    rw [if_neg z2] at hv2 ⊢
    by_cases z3 : jv t σ (nI f) l a4 = jv t σ (nI g) l a4
    · rw [if_pos z3] at hv2 ⊢
      refine ⟨hv, ?_⟩
      rw [hc]
      refine nm_e (M_force (t := t) (σ := sR (sR σ 41 P') 42 Q') h.z (M_force (t := t) (σ := sR (sR σ 41 P') 42 Q') h.z ?_))
      show (if fv (jfr t σ (nI g) l a4) ≤ fv (jfr t σ (nI f) l a4) then _ else _)
      by_cases z4 : fv (jfr t σ (nI g) l a4) ≤ fv (jfr t σ (nI f) l a4)
      · rw [if_pos z4] at hv2 ⊢; exact ⟨hv2, hI P' Q'⟩
      · rw [if_neg z4] at hv2 ⊢; exact ⟨hv2, hI P' Q'⟩
    rw [if_neg z3] at hv2 ⊢
    by_cases z4 : jv t σ (nI f) l a4 ≤ jv t σ (nI g) l a4
    · rw [if_pos z4] at hv2 ⊢; exact ⟨hv2, hI P' Q'⟩
    · rw [if_neg z4] at hv2 ⊢; exact ⟨hv2, hI P' Q'⟩
  cases ea : jfr t σ (nI f) l a4 with
  | none =>
    refine oN (hM _ _ (fun P Q => h.scM P Q) ?_)
    have : jv t σ (nI f) l a4 = 0 := by unfold jv; rw [ea]
    rw [if_pos this]
  | some oa =>
    refine oS ?_
    cases eb : jfr t σ (nI g) l a4 with
    | none =>
      refine oN (hM _ _ (fun P Q => h.scM P Q) ?_)
      have : jv t σ (nI g) l a4 = 0 := by unfold jv; rw [eb]
      rw [if_pos this]
      exact itE (fun _ => rfl) (fun _ => rfl)
    | some ob =>
      have hoa : oa < tN t 1 := frc_lt ea
      have hob : ob < tN t 1 := frc_lt eb
      refine oS ⟨hl, ?_⟩
      rw [l11]
      refine C_rain h.r (C_look h.z.b4 (rn_bz σ (σ 51 l)) (fun P p0 p1 p2 p3 p4 p5 p6 p7 p8 p9 p10 p11 p12 => C_lookLoad h.ld hl ⟨hoa, ?_⟩))
      generalize hP3 : upd (upd (upd (upd (upd (upd P 0 (σ 44 l)) 1 (σ 45 l)) 2 (farv (σ 6 (tG t 0 l)) (σ 6 (tG t 1 l)))) 3 (upv (σ 7 (tG t 0 l)) (σ 7 (tG t 1 l)))) 4 (σ 48 l)) 7 0 = P3
      have h13 : ∀ i, i < 13 → P3 i = nmj t σ l i := by
        rw [← hP3]
        exact thirteen rfl rfl rfl rfl rfl p5 p6 rfl p8 p9 p10 p11 p12
      have e2 : ∀ o, evk P3 (tA t (o + 8)) (tG t 2 o) 0 0 (fun _ => 0) = lwv t (nmj t σ l) o := fun o => evk_nm h13 _ _ _ _
      rw [tN6_tS]
      refine C_reckon hb1 h.lw hoa (fun Q d => ⟨hob, C_reckon hb1 h.lw hob (fun Q' d' => ?_)⟩)
      rw [e2, e2]
      have ja : jv t σ (nI f) l a4 = lwv t (nmj t σ l) oa := by unfold jv; rw [ea]
      have jb : jv t σ (nI g) l a4 = lwv t (nmj t σ l) ob := by unfold jv; rw [eb]
      have hI : ∀ P' Q'', Inv (tS t P3 Q' d') (sR (sR σ 41 P') 42 Q'') := fun P' Q'' => (h.scC P3 Q' d').scM P' Q''
      rw [← ja, ← jb]
      refine itE (fun z1 => hM _ _ hI (itT z1 rfl)) (fun z1 => itE (fun z2 => hM _ _ hI (itF z1 (itT z2 rfl))) (fun z2 => itE (fun z3 => ⟨hoa, hob, ?_⟩) (fun z3 => ?_)))
      · refine itE (fun z4 => hM _ _ hI (itF z1 (itF z2 (itT z3 ?_)))) (fun z4 => hM _ _ hI (itF z1 (itF z2 (itT z3 ?_))))
        · rw [ea, eb]; exact itT z4 rfl
        · rw [ea, eb]; exact itF z4 rfl
      · exact itE (fun z4 => hM _ _ hI (itF z1 (itF z2 (itF z3 (itT z4 rfl))))) (fun z4 => hM _ _ hI (itF z1 (itF z2 (itF z3 (itF z4 rfl)))))
end Judged
