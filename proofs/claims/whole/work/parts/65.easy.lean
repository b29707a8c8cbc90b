/-! rain, far, up, the way -/
theorem far_eq {a b : Int32} (ha : rg a 0 99) (hb : rg b 0 99) : (if b ≤ a then a - b else b - a) = farv a b := by
  obtain ⟨x, -, hx, rfl⟩ := ha
  obtain ⟨y, -, hy, rfl⟩ := hb
  unfold farv
  by_cases h : y ≤ x
  · rw [if_pos (nI_le h (by omega))]
    by_cases e : y = x
    · subst e; rw [pk_sub (Nat.le_refl _), Nat.sub_self]; rfl
    · have h2 : nI y - nI x < 0 := pk_sneg (by omega) (by omega)
      rw [if_neg (fun q => absurd h2 (Int32.not_lt.mpr q)), Int32.zero_sub, Int32.neg_sub]
  · have h3 : ¬ nI y ≤ nI x := nI_ge (by omega) (by omega)
    rw [if_neg h3, pk_sub (by omega), if_pos (nI_pos' (by omega))]
theorem up_eq {a b : Int32} (ha : rg a 0 99) (hb : rg b 0 99) : (if b < a then (a - b) / 2 else b - a) = upv a b := by
  obtain ⟨x, -, hx, rfl⟩ := ha
  obtain ⟨y, -, hy, rfl⟩ := hb
  unfold upv
  by_cases h : y < x
  · rw [if_pos (nI_lt h (by omega)), if_pos (pk_sneg (by omega) h), Int32.neg_sub]
  · rw [if_neg (nI_nlt (by omega) (by omega)), if_neg]
    rw [pk_sub (by omega)]; exact nI_pos (by omega)
def rnk (σ : MS) (x : Int32) (k : Nat) : Int32 := if 0 < fb_ct (fun i => decide (¬ x < σ 3 i ∧ ¬ σ 4 i ≤ x)) k then 1 else 0
def rn (σ : MS) (x : Int32) : Int32 := rnk σ x (σ 2 0).toNatClampNeg
theorem rnk_0 {σ : MS} {x : Int32} {k : Nat} (h : ∀ j, j < k → ¬ (¬ x < σ 3 j ∧ ¬ σ 4 j ≤ x)) : rnk σ x k = 0 := by
  unfold rnk
  rw [if_neg]
  intro q
  obtain ⟨j, h1, h2⟩ := fb_ct_pos.mp q
  exact h j h1 (of_decide_eq_true h2)
theorem rnk_1 {σ : MS} {x : Int32} {k j : Nat} (hj : j < k) (h : ¬ x < σ 3 j ∧ ¬ σ 4 j ≤ x) : rnk σ x k = 1 := by
  unfold rnk
  rw [if_pos]
  exact fb_ct_pos.mpr ⟨j, hj, decide_eq_true h⟩
theorem M_rain {t : CS} {σ : MS} (h : IRn t σ) {x : Int32} {post : Int32 → MS → Prop} (hp : post (rn σ x) σ) : wp_M_rainsAt σ x post := by
  obtain ⟨k, hk, h2, -, -⟩ := h
  have hp : post (rnk σ x k) σ := by
    have e : rn σ x = rnk σ x k := by unfold rn; rw [h2, nI_clamp (by omega)]
    rw [← e]; exact hp
  have main : ∀ d i, i + d = k → (∀ j, j < i → ¬ (¬ x < σ 3 j ∧ ¬ σ 4 j ≤ x)) → wp_M_rainsAt_2 post (d + 1) σ x (nI i) := by
    intro d
    induction d with
    | zero =>
      intro i hi hn
      have e : i = k := by omega
      subst e
      refine itT ?_ ?_
      · rw [h2]; exact nI_le (Nat.le_refl _) (by omega)
      · rw [rnk_0 hn] at hp; exact hp
    | succ d ih =>
      intro i hi hn
      have hcl : (nI i).toNatClampNeg = i := nI_clamp (by omega)
      have nx : ¬ (¬ x < σ 3 i ∧ ¬ σ 4 i ≤ x) → wp_M_rainsAt_32 (wp_M_rainsAt_2 post (d + 1)) post σ x (nI i) := fun hh => by
        rintro x1 rfl
        rw [nI_1]
        exact ih (i + 1) (by omega) (lt_s hn hh)
      refine itF ?_ ⟨vp_in_nI (by omega) (by omega), itE (fun q => nx (fun a => a.1 (hcl ▸ q))) (fun q => ⟨vp_in_nI (by omega) (by omega), itE (fun q2 => nx (fun a => a.2 (hcl ▸ q2))) (fun q2 => ?_)⟩)⟩
      · rw [h2]; exact nI_ge (by omega) (by omega)
      · rw [hcl] at q q2
        rw [rnk_1 (j := i) (by omega) ⟨q, q2⟩] at hp; exact hp
  exact ⟨k + 1, main k 0 (by omega) (fun j h => absurd h (Nat.not_lt_zero j))⟩
theorem C_rain {t : CS} {σ : MS} (h : IRn t σ) {x : Int32} {post : Int32 → CS → Prop} (hp : post (rn σ x) t) : wp_Sky_rainsAt t x post := by
  obtain ⟨k, hk, h2, h3, h4⟩ := h
  have hp : post (rnk σ x k) t := by
    have e : rn σ x = rnk σ x k := by unfold rn; rw [h2, nI_clamp (by omega)]
    rw [← e]; exact hp
  have main : ∀ d i, i + d = k → (∀ j, j < i → ¬ (¬ x < σ 3 j ∧ ¬ σ 4 j ≤ x)) → wp_Sky_rainsAt_2 post (d + 1) t x (nI i) := by
    intro d
    induction d with
    | zero =>
      intro i hi hn
      have e : i = k := by omega
      subst e
      refine itT ?_ ?_
      · rw [h3]; exact nI_le (Nat.le_refl _) (by omega)
      · rw [rnk_0 hn] at hp; exact hp
    | succ d ih =>
      intro i hi hn
      have hcl : (nI i).toNatClampNeg = i := nI_clamp (by omega)
      obtain ⟨e1, e2⟩ := h4 i (by omega)
      have nx : ¬ (¬ x < σ 3 i ∧ ¬ σ 4 i ≤ x) → wp_Sky_rainsAt_38 (wp_Sky_rainsAt_2 post (d + 1)) post t x (nI i) := fun hh => by
        rintro x1 rfl
        rw [nI_1]
        exact ih (i + 1) (by omega) (lt_s hn hh)
      refine itF ?_ (itF (nI_ge (a := i) (b := 20) (by omega) (by omega)) ⟨vp_in_nI (by omega) (by omega), itE (fun q => nx (fun a => a.1 (by rw [hcl, e1] at q; exact q))) (fun q => itE (fun q2 => nx (fun a => a.2 (by rw [hcl, e2] at q2; exact q2))) (fun q2 => ?_))⟩)
      · rw [h3]; exact nI_ge (by omega) (by omega)
      · rw [hcl, e1] at q
        rw [hcl, e2] at q2
        rw [rnk_1 (j := i) (by omega) ⟨q, q2⟩] at hp; exact hp
  exact ⟨k + 1, main k 0 (by omega) (fun j h => absurd h (Nat.not_lt_zero j))⟩
def wyv (σ : MS) (i j : Nat) : Int32 := if rn σ (σ 1 0) = 0 then farv (σ 6 i) (σ 6 j) + 2 * upv (σ 7 i) (σ 7 j) + 5 else (farv (σ 6 i) (σ 6 j) + 2 * upv (σ 7 i) (σ 7 j) + 5) + (farv (σ 6 i) (σ 6 j) + 2 * upv (σ 7 i) (σ 7 j) + 5) / 2
section Way
variable {t : CS} {σ : MS}
theorem M_far (hz : IZ t σ) (hp : IPl t σ) {i j : Nat} (hi : i < tN t 4) (hj : j < tN t 4) {post : Int32 → MS → Prop} (k : post (farv (σ 6 i) (σ 6 j)) σ) : wp_M_far σ (nI i) (nI j) post := by
  have hb := hz.b4
  have v1 : vp_in (nI i) 20 := vp_in_nI (by omega) (by omega)
  have v2 : vp_in (nI j) 20 := vp_in_nI (by omega) (by omega)
  have c1 : (nI i).toNatClampNeg = i := nI_clamp (by omega)
  have c2 : (nI j).toNatClampNeg = j := nI_clamp (by omega)
  rw [← far_eq (hp.1 i hi).2.2.2.2.1 (hp.1 j hj).2.2.2.2.1] at k
  unfold wp_M_far
  rw [c1, c2]
  refine ⟨v1, v2, itE (fun q => ⟨v1, v2, ?_⟩) (fun q => ⟨v2, v1, ?_⟩)⟩
  · rw [if_pos q] at k; exact k
  · rw [if_neg q] at k; exact k
theorem M_up (hz : IZ t σ) (hp : IPl t σ) {i j : Nat} (hi : i < tN t 4) (hj : j < tN t 4) {post : Int32 → MS → Prop} (k : post (upv (σ 7 i) (σ 7 j)) σ) : wp_M_up σ (nI i) (nI j) post := by
  have hb := hz.b4
  have v1 : vp_in (nI i) 20 := vp_in_nI (by omega) (by omega)
  have v2 : vp_in (nI j) 20 := vp_in_nI (by omega) (by omega)
  have c1 : (nI i).toNatClampNeg = i := nI_clamp (by omega)
  have c2 : (nI j).toNatClampNeg = j := nI_clamp (by omega)
  rw [← up_eq (hp.1 i hi).2.2.2.2.2.1 (hp.1 j hj).2.2.2.2.2.1] at k
  unfold wp_M_up
  rw [c1, c2]
  refine ⟨v2, v1, itE (fun q => ⟨v1, v2, ?_⟩) (fun q => ⟨v2, v1, ?_⟩)⟩
  · rw [if_pos q] at k; exact k
  · rw [if_neg q] at k; exact k
theorem M_wayNow (hz : IZ t σ) (hp : IPl t σ) (hr : IRn t σ) {i j : Nat} (hi : i < tN t 4) (hj : j < tN t 4) {post : Int32 → MS → Prop} (k : post (wyv σ i j) σ) : wp_M_wayNow σ (nI i) (nI j) post := by
  refine M_far hz hp hi hj (M_up hz hp hi hj ?_)
  rintro x rfl
  refine M_rain hr (itE (fun q => ?_) (fun q => ?_))
  · unfold wyv at k; rw [if_pos q] at k; exact k
  · unfold wyv at k; rw [if_neg q] at k; exact k
theorem C_far (hp : IPl t σ) {i j : Nat} (hi : i < tN t 4) (hj : j < tN t 4) {post : Int32 → CS → Prop} (k : post (farv (σ 6 i) (σ 6 j)) t) : wp_Place_farTo t i j post := by
  refine ⟨hj, hi, ?_⟩
  rw [(hp.1 i hi).1, (hp.1 j hj).1]; exact k
theorem C_up (hp : IPl t σ) {i j : Nat} (hi : i < tN t 4) (hj : j < tN t 4) {post : Int32 → CS → Prop} (k : post (upv (σ 7 i) (σ 7 j)) t) : wp_Place_upTo t i j post := by
  refine ⟨hj, hi, ?_⟩
  rw [(hp.1 i hi).2.1, (hp.1 j hj).2.1]
  rintro x rfl
  refine itE (fun q => ?_) (fun q => ?_)
  · unfold upv at k; rw [if_pos q] at k; exact k
  · unfold upv at k; rw [if_neg q] at k; exact k
theorem C_wayMin (hp : IPl t σ) (hr : IRn t σ) (hm : IMi t σ) {i j : Nat} (hi : i < tN t 4) (hj : j < tN t 4) {post : Int32 → CS → Prop} (k : post (wyv σ i j) t) : wp_C_wayMinutes t i j post := by
  refine ⟨hi, C_far hp hi hj ⟨hi, C_up hp hi hj ?_⟩⟩
  rintro x rfl
  obtain ⟨T, hT, e1, e2⟩ := hm
  rw [e2, ← e1]
  refine C_rain hr (itE (fun q => ?_) (fun q => ?_))
  · unfold wyv at k; rw [if_pos q] at k; exact k
  · unfold wyv at k; rw [if_neg q] at k; exact k
end Way
