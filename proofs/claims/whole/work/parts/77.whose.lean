/-! whose a load is; what hinders -/
theorem tS_tS (t : CS) (P Q P' Q' : Nat → Int32) (d d' : Int32) : tS (tS t P Q d) P' Q' d' = tS t P' Q' d' := by
  unfold tS
  refine Prod.ext ?_ (Prod.ext ?_ rfl)
  · funext a b
    show up2 (up2 t.1 162 4 d) 162 4 d' a b = up2 t.1 162 4 d' a b
    unfold up2 upd
    by_cases h : a = 162
    · rw [if_pos h, if_pos h, if_pos rfl]
      by_cases h2 : b = 4
      · rw [if_pos h2, if_pos h2]
      · rw [if_neg h2, if_neg h2, if_neg h2]
    · rw [if_neg h, if_neg h, if_neg h]
  · funext a
    show sR (sR (sR (sR t.2.1 6 P) 7 Q) 6 P') 7 Q' a = sR (sR t.2.1 6 P') 7 Q' a
    unfold sR
    by_cases h : a = 7
    · rw [if_pos h, if_pos h]
    · rw [if_neg h]
      by_cases h2 : a = 6
      · rw [if_pos h2, if_neg h, if_pos h2]
      · rw [if_neg h2, if_neg h, if_neg h2, if_neg h, if_neg h2]
theorem sR_four (σ : MS) (P Q P' Q' : Nat → Int32) : sR (sR (sR (sR σ 41 P) 42 Q) 41 P') 42 Q' = sR (sR σ 41 P') 42 Q' := by
  funext a
  unfold sR
  by_cases h : a = 42
  · rw [if_pos h, if_pos h]
  · rw [if_neg h]
    by_cases h2 : a = 41
    · rw [if_pos h2, if_neg h, if_pos h2]
    · rw [if_neg h2, if_neg h, if_neg h2, if_neg h, if_neg h2]
theorem tS_A {t : CS} {P Q : Nat → Int32} {d : Int32} (o : Nat) : tA (tS t P Q d) (o + 8) = tA t (o + 8) := by
  show sR (sR t.2.1 6 P) 7 Q (o + 8) = t.2.1 (o + 8)
  unfold sR
  rw [if_neg (by omega), if_neg (by omega)]
theorem lwv_tS {t : CS} {P Q : Nat → Int32} {d : Int32} (nm : Nat → Int32) (o : Nat) : lwv (tS t P Q d) nm o = lwv t nm o := by
  unfold lwv
  rw [tS_A]; rfl
theorem svv_tS {t : CS} {σ : MS} {P Q : Nat → Int32} {d : Int32} (f u : Int32) (l m : Option Nat) : svv (tS t P Q d) σ f u l m = svv t σ f u l m := by
  unfold svv
  show (match frc (inF σ f u (σ 1 0 / 600) (σ 1 0 / 600)) (tN t 1) with | none => unw σ u l | some o => lwv (tS t P Q d) (nmv t σ f l m) o) = _
  cases frc (inF σ f u (σ 1 0 / 600) (σ 1 0 / 600)) (tN t 1) with
  | none => rfl
  | some o => exact lwv_tS _ o
theorem Core.sc {t : CS} {σ : MS} (h : Core t σ) (P Q : Nat → Int32) (d : Int32) : Core (tS t P Q d) σ := by
  obtain ⟨hz, hp, hr, hm, hn, hlw, hld⟩ := h
  refine ⟨hz, hp, hr, hm, hn, fun i hi => ?_, hld⟩
  rw [tS_A]; exact hlw i hi
theorem Core.sm {t : CS} {σ : MS} (h : Core t σ) (P Q : Nat → Int32) : Core t (sR (sR σ 41 P) 42 Q) := h
def whv (s : Nat → Int32) : Nat → Int32
  | 0 => 4
  | n + 1 => if s n = 0 then whv s n else if whv s n = 4 then nI n else 5
section Whose
variable {t : CS} {σ : MS}
/-- says, from a state that has said before -/
theorem C_says' (h : Core t σ) {f u : Int32} {l m : Option Nat} (hl : okO l (tN t 2)) (hm : okO m (tN t 3)) {P Q : Nat → Int32} {d : Int32} {post : Int32 → CS → Prop} (k : ∀ P Q d, post (svv t σ f u l m) (tS t P Q d)) : wp_C_saying (tS t P Q d) f u l m post := by
  refine C_says (h.sc P Q d) hl hm (fun P' Q' d' => ?_)
  rw [tS_tS, svv_tS]; exact k P' Q' d'
theorem M_says' (h : Core t σ) {f u : Int32} {l m : Option Nat} (hl : okO l (tN t 2)) (hm : okO m (tN t 3)) {P Q : Nat → Int32} {post : Int32 → MS → Prop} (k : ∀ P Q, post (svv t σ f u l m) (sR (sR σ 41 P) 42 Q)) : wp_M_saysNow (sR (sR σ 41 P) 42 Q) f u (li l) (li m) post := by
  refine M_says (t := t) (σ := sR (sR σ 41 P) 42 Q) h hl hm (fun P' Q' => ?_)
  rw [sR_four]; exact k P' Q'
theorem C_owner (h : Core t σ) {l : Nat} (hl : l < tN t 2) {post : Int32 → CS → Prop} (k : ∀ P Q d, post (whv (fun f => svv t σ (nI f) 0 (some l) none) 4) (tS t P Q d)) : wp_C_ownerOf t l post := by
  have main : ∀ n i, i + n = 4 → ∀ P Q d, wp_C_ownerOf_4 post (n + 1) (tS t P Q d) l (whv (fun f => svv t σ (nI f) 0 (some l) none) i) (nI i) := by
    intro n
    induction n with
    | zero =>
      intro i hi P Q d
      have e : i = 4 := by omega
      subst e
      exact k P Q d
    | succ n ih =>
      intro i hi P Q d
      refine itF (nI_ge (a := i) (b := 4) (by omega) (by omega)) (C_says' h (l := some l) (m := none) hl trivial (fun P Q d => ?_))
      have hI : Nat → _ := fun _ => ih (i + 1) (by omega) P Q d
      refine itE (fun q => ?_) (fun q => itE (fun q2 => ?_) (fun q2 => ?_))
      · rintro x1 rfl
        have := hI 0
        have e : whv (fun f => svv t σ (nI f) 0 (some l) none) (i + 1) = whv (fun f => svv t σ (nI f) 0 (some l) none) i := if_pos q
        rw [e] at this
        rw [nI_1]; exact this
      · rintro x1 rfl
        have := hI 0
        have e : whv (fun f => svv t σ (nI f) 0 (some l) none) (i + 1) = nI i := by
          show (if _ then _ else _) = _
          rw [if_neg q, if_pos q2]
        rw [e] at this
        rw [nI_1]; exact this
      · rintro x1 rfl
        have := hI 0
        have e : whv (fun f => svv t σ (nI f) 0 (some l) none) (i + 1) = 5 := by
          show (if _ then _ else _) = _
          rw [if_neg q, if_neg q2]
        rw [e] at this
        rw [nI_1]; exact this
  have := main 4 0 (by omega) (tA t 6) (tA t 7) (tF t 162 4)
  rw [tS_same] at this
  exact ⟨5, this⟩
theorem M_owner (h : Core t σ) {l : Nat} (hl : l < tN t 2) {post : Int32 → MS → Prop} (k : ∀ P Q, post (whv (fun f => svv t σ (nI f) 0 (some l) none) 4) (sR (sR σ 41 P) 42 Q)) : wp_M_whoseNow σ (nI l) post := by
  have main : ∀ n i, i + n = 4 → ∀ P Q, wp_M_whoseNow_4 post (n + 1) (sR (sR σ 41 P) 42 Q) (nI l) (whv (fun f => svv t σ (nI f) 0 (some l) none) i) (nI i) := by
    intro n
    induction n with
    | zero =>
      intro i hi P Q
      have e : i = 4 := by omega
      subst e
      exact k P Q
    | succ n ih =>
      intro i hi P Q
      refine itF (nI_ge (a := i) (b := 4) (by omega) (by omega)) (M_says' h (l := some l) (m := none) hl trivial (fun P Q => ?_))
      have hI : Nat → _ := fun _ => ih (i + 1) (by omega) P Q
      refine itE (fun q => ?_) (fun q => itE (fun q2 => ?_) (fun q2 => ?_))
      · rintro x1 rfl
        have := hI 0
        have e : whv (fun f => svv t σ (nI f) 0 (some l) none) (i + 1) = whv (fun f => svv t σ (nI f) 0 (some l) none) i := if_pos q
        rw [e] at this
        rw [nI_1]; exact this
      · rintro x1 rfl
        have := hI 0
        have e : whv (fun f => svv t σ (nI f) 0 (some l) none) (i + 1) = nI i := by
          show (if _ then _ else _) = _
          rw [if_neg q, if_pos q2]
        rw [e] at this
        rw [nI_1]; exact this
      · rintro x1 rfl
        have := hI 0
        have e : whv (fun f => svv t σ (nI f) 0 (some l) none) (i + 1) = 5 := by
          show (if _ then _ else _) = _
          rw [if_neg q, if_neg q2]
        rw [e] at this
        rw [nI_1]; exact this
  have := main 4 0 (by omega) (σ 41) (σ 42)
  rw [sR_two] at this
  exact ⟨5, this⟩
theorem s_whose (h : Inv t σ) (a1 : Int32) : wp_C_whose t a1 (fun v t1 => wp_M_whose σ a1 (fun w σ1 => v = w ∧ Inv t1 σ1)) := by
  have hb := h.z.b2
  unfold wp_C_whose
  rcases ix a1 (n := tN t 2) (by omega) with hn | ⟨l, hl, rfl⟩
  · refine C_ld_no h.z hn (oN ?_)
    exact M_ld_no h.z hn ⟨rfl, h⟩
  refine C_ld h.z hl (oS (C_owner h.core hl (fun P Q d => ?_)))
  exact M_ld h.z hl (M_owner h.core hl (fun P' Q' => ⟨rfl, (h.scC P Q d).scM P' Q'⟩))
def wet (σ : MS) (p : Nat) : Int32 := if σ 1 0 - σ 1 0 / 600 * 600 < σ 8 p then 0 else if σ 9 p ≤ σ 1 0 - σ 1 0 / 600 * 600 then 0 else 1
theorem mn_rem {σ : MS} {T : Nat} (hT : T ≤ 99999) (e : σ 1 0 = nI T) : σ 1 0 - σ 1 0 / 600 * 600 = nI (T % 600) := by
  rw [e]; exact pk_rem (d := 600) (by omega) (by omega) (by omega)
theorem M_wet (hz : IZ t σ) (hp : IPl t σ) (hm : IMi t σ) {p : Nat} (hpp : p < tN t 4) {post : Int32 → MS → Prop} (k : post (wet σ p) σ) : wp_M_isWet σ (nI p) post := by
  have hb := hz.b4
  obtain ⟨T, hT, e1, -⟩ := hm
  obtain ⟨-, -, -, -, -, -, r8, b, -, hb9, e9⟩ := hp.1 p hpp
  have hc : (nI p).toNatClampNeg = p := nI_clamp (by omega)
  have hv : vp_in (nI p) 20 := vp_in_nI (by omega) (by omega)
  refine ⟨hv, hv, ?_⟩
  rw [hc]
  unfold wet at k
  rw [mn_rem hT e1] at k ⊢
  rw [e9] at k ⊢
  unfold wp_M_in
  by_cases q1 : nI (T % 600) < σ 8 p
  · rw [if_pos q1] at k ⊢; exact ⟨Or.inl rfl, k⟩
  · rw [if_neg q1] at k ⊢
    by_cases q2 : nI b ≤ nI (T % 600)
    · rw [if_pos q2] at k
      rw [if_pos ((lt_pred (by omega) (Or.inr q2)).resolve_left (nI_pos (by omega)))]
      exact ⟨Or.inl rfl, k⟩
    · rw [if_neg q2] at k
      have q3 : T % 600 < b := Nat.lt_of_not_le (fun q => q2 (nI_le q (by omega)))
      rw [if_neg (fun q => ge_pred (by omega) q3 (Or.inr q))]
      exact ⟨Or.inr rfl, k⟩
theorem C_wet (hp : IPl t σ) (hm : IMi t σ) {p : Nat} (hpp : p < tN t 4) {post : Int32 → CS → Prop} (k : post (wet σ p) t) : wp_Place_underWaterAt t p (tF t 171 0) post := by
  obtain ⟨T, hT, e1, e2⟩ := hm
  obtain ⟨-, -, p3, p4, -⟩ := hp.1 p hpp
  have em : tF t 171 0 = σ 1 0 := by rw [e1, e2]
  unfold wp_Place_underWaterAt
  rw [em, p3, p4]
  unfold wet at k
  refine nm_e ⟨hpp, itI (P := fun v => post v t) k id (fun k => itI (P := fun v => post v t) k id id)⟩
def hnv (t : CS) (σ : MS) (f l : Nat) : Int32 := if σ 50 l = 0 then (if whv (fun f => svv t σ (nI f) 0 (some l) none) 4 = 5 then 2 else if whv (fun f => svv t σ (nI f) 0 (some l) none) 4 = 4 ∨ whv (fun f => svv t σ (nI f) 0 (some l) none) 4 = nI f then (if wet σ (tG t 0 l) = 0 then (if σ 44 l = 0 then (if rn σ (σ 1 0) = 0 then 0 else 5) else 0) else 4) else 3) else 1
theorem C_hind (h : Core t σ) {f l : Nat} (hf : f < 4) (hl : l < tN t 2) {post : Int32 → CS → Prop} (k : ∀ P Q d, post (hnv t σ f l) (tS t P Q d)) : wp_C_hindrance t f l post := by
  obtain ⟨hz, hp, hr, hm, hn, hlw, hld⟩ := id h
  obtain ⟨l1, l2, l3, l4, l5, l6, l7, l8, l9, l10, l11, l12, -⟩ := hld.1 l hl
  obtain ⟨T, hT, e1, e2⟩ := id hm
  have em : tF t 171 0 = σ 1 0 := by rw [e1, e2]
  refine ⟨hl, ?_⟩
  rw [l12]
  refine itE (fun q => C_owner h hl (fun P Q d => ?_)) (fun q => ?_)
  · have k := k P Q d
    unfold hnv at k
    rw [if_pos q] at k
    have h37 : post (if wet σ (tG t 0 l) = 0 then (if σ 44 l = 0 then (if rn σ (σ 1 0) = 0 then 0 else 5) else 0) else 4) (tS t P Q d) → wp_C_hindrance_37 post (tS t P Q d) l := fun k => by
      refine ⟨hl, l5, C_wet (t := tS t P Q d) hp hm l5 ?_⟩
      refine itI (P := fun v => post v (tS t P Q d)) k (fun k => ⟨hl, ?_⟩) id
      show (if tF t 65 l = 0 then _ else _)
      rw [l1]
      refine itI (P := fun v => post v (tS t P Q d)) k (fun k => ?_) id
      show wp_Sky_rainsAt (tS t P Q d) (tF t 171 0) _
      rw [em]
      exact C_rain (t := tS t P Q d) hr (itI (P := fun v => post v (tS t P Q d)) k id id)
    refine itE (fun q1 => ?_) (fun q1 => itE (fun q2 => ?_) (fun q2 => ⟨by show f < tN t 0; rw [hz.1]; exact hf, itE (fun q3 => ?_) (fun q3 => ?_)⟩))
    · rw [if_pos q1] at k; exact k
    · rw [if_neg q1, if_pos (Or.inl q2)] at k; exact h37 k
    · rw [if_neg q1, if_pos (Or.inr q3)] at k; exact h37 k
    · rw [if_neg q1, if_neg (fun o => o.elim q2 q3)] at k; exact k
  · have k := k (tA t 6) (tA t 7) (tF t 162 4)
    unfold hnv at k
    rw [if_neg q, tS_same] at k; exact k
theorem M_hind (h : Core t σ) {f l : Nat} (hf : f < 4) (hl : l < tN t 2) {post : Int32 → MS → Prop} (k : ∀ P Q, post (hnv t σ f l) (sR (sR σ 41 P) 42 Q)) : wp_M_hinders σ (nI f) (nI l) post := by
  obtain ⟨hz, hp, hr, hm, hn, hlw, hld⟩ := id h
  obtain ⟨l1, l2, l3, l4, l5, l6, l7, l8, l9, l10, l11, l12, -⟩ := hld.1 l hl
  have hb := hz.b2
  have hc : (nI l).toNatClampNeg = l := nI_clamp (by omega)
  have hv : vp_in (nI l) 200 := vp_in_nI (by omega) (by omega)
  refine ⟨hv, ?_⟩
  rw [hc]
  refine itE (fun q => M_owner h hl (fun P Q => ?_)) (fun q => ?_)
  · have k := k P Q
    unfold hnv at k
    rw [if_pos q] at k
    have h37 : post (if wet σ (tG t 0 l) = 0 then (if σ 44 l = 0 then (if rn σ (σ 1 0) = 0 then 0 else 5) else 0) else 4) (sR (sR σ 41 P) 42 Q) → wp_M_hinders_36 post (sR (sR σ 41 P) 42 Q) (nI l) := fun k => by
      refine ⟨hv, ?_⟩
      rw [hc]
      show wp_M_isWet _ (σ 46 l) _
      rw [l3]
      refine M_wet (t := t) (σ := sR (sR σ 41 P) 42 Q) hz hp hm l5 ?_
      refine itI (P := fun v => post v (sR (sR σ 41 P) 42 Q)) k (fun k => ⟨hv, ?_⟩) id
      refine itI (P := fun v => post v (sR (sR σ 41 P) 42 Q)) k (fun k => ?_) id
      exact M_rain (t := t) (σ := sR (sR σ 41 P) 42 Q) hr (itI (P := fun v => post v (sR (sR σ 41 P) 42 Q)) k id id)
    refine itE (fun q1 => ?_) (fun q1 => itE (fun q2 => ?_) (fun q2 => itE (fun q3 => ?_) (fun q3 => ?_)))
    · rw [if_pos q1] at k; exact k
    · rw [if_neg q1, if_pos (Or.inl q2)] at k; exact h37 k
    · rw [if_neg q1, if_pos (Or.inr q3)] at k; exact h37 k
    · rw [if_neg q1, if_neg (fun o => o.elim q2 q3)] at k; exact k
  · have k := k (σ 41) (σ 42)
    unfold hnv at k
    rw [if_neg q, sR_two] at k; exact k
end Whose
