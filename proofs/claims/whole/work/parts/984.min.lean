/-! minutes -/
def mT0 (σ : MS) (x : Nat) : MS := up2 σ 1 0 (nI x)
theorem mT0_mT0 (σ : MS) (x y : Nat) : up2 (mT0 σ x) 1 0 (nI y) = mT0 σ y := by
  funext j
  show (if j = 1 then upd (upd (σ 1) 0 (nI x)) 0 (nI y) else if j = 1 then upd (σ 1) 0 (nI x) else σ j) = (if j = 1 then upd (σ 1) 0 (nI y) else σ j)
  rw [fa_upd_twice]
  by_cases h : j = 1
  · rw [if_pos h, if_pos h]
  · rw [if_neg h, if_neg h, if_neg h]
theorem mT0_id {σ : MS} {T : Nat} (h : σ 1 0 = nI T) : mT0 σ T = σ := by
  show sR σ 1 (upd (σ 1) 0 (nI T)) = σ
  rw [fa_upd_same h]; exact sR_id _ _
theorem mod600 {r : Nat} (hr : r < 2 ^ 30) : nI r - nI r / 600 * 600 = nI (r % 600) := by
  have hd := Nat.div_add_mod r 600
  have e : nI r / 600 = nI (r / 600) := pk_div (d := 600) (by omega) (by omega) (by omega)
  have e2 : nI (r / 600) * 600 = nI (r / 600 * 600) := pk_mul (r / 600) 600
  rw [e, e2, pk_sub (by omega)]
  congr 1
  omega
section Min
variable {t : CS} {σ : MS}
theorem flag_a {T i : Nat} (h : gng t σ T 200 i) (hi : i < 200) (q : tF t 82 i = 1) : ∃ a, T < a ∧ a ≤ 101000 ∧ σ 54 i = nI a ∧ tF t 81 i = nI a := by
  obtain ⟨-, -, -, -, -, d6⟩ := h
  obtain ⟨-, f2, a2, -, -, p4, p5, p6, -, p8⟩ := d6.resolve_left (fun z => by have := z.2.1; rw [q] at this; exact absurd this (by decide))
  obtain ⟨-, s2, -⟩ := p8.resolve_right (fun z => by have := z.1; rw [q] at this; exact absurd this (by decide))
  exact ⟨a2, s2.elim id (fun z => by omega), p4, p5, p6⟩
theorem flag_b {T J i : Nat} (h : gng t σ T J i) : tF t 82 i = 0 ∨ tF t 82 i = 1 := by
  obtain ⟨-, -, -, -, -, d6⟩ := h
  rcases d6 with ⟨-, q, -⟩ | ⟨-, f, a, -, -, -, -, -, -, ⟨q, -⟩ | ⟨q, -⟩⟩
  · exact Or.inl q
  · exact Or.inr q
  · exact Or.inl q
theorem flag_0 {T J i : Nat} (h : gng t σ T J i) (q : tF t 82 i = 0) : (∃ a, a ≤ T ∧ σ 54 i = nI a) ∨ (σ 50 i ≠ 1 ∧ σ 50 i ≠ 3) := by
  obtain ⟨-, -, -, -, -, d6⟩ := h
  rcases d6 with ⟨q0, -⟩ | ⟨-, f, a, -, -, -, p5, -, -, ⟨q2, -⟩ | ⟨-, q3, -⟩⟩
  · refine Or.inr ?_
    rcases q0 with e | e <;> rw [e] <;> decide
  · rw [q2] at q; exact absurd q (by decide)
  · exact Or.inl ⟨a, q3, p5⟩
theorem nextStop (hz : IZ t σ) {T G D : Nat} (hT : T ≤ 99999) (hTG : T < G) (hG : G ≤ 200000) (hD : D = T / 600) (e171 : tF t 171 0 = nI T) (hg : ∀ i, i < tN t 2 → gng t σ T 200 i) : ∃ r, T < r ∧ r ≤ G ∧ r ≤ (D + 1) * 600 ∧ (∀ i, i < tN t 2 → tF t 82 i = 1 → ∀ a, a ≤ 101000 → σ 54 i = nI a → r ≤ a) ∧ ∀ post : Int32 → CS → Prop, post (nI r) t → wp_C_nextStop t (nI G) post := by
  have hb2 := hz.b2
  have hlen : (tT t 2).length = tN t 2 := by rw [hz.ld, List.length_range]
  have main : ∀ d i x, i + d = tN t 2 → T < x → x ≤ 200000 → ∃ r, T < r ∧ r ≤ x ∧ (∀ j, i ≤ j → j < tN t 2 → tF t 82 j = 1 → ∀ a, a ≤ 101000 → σ 54 j = nI a → r ≤ a) ∧ ∀ post : Int32 → CS → Prop, post (nI r) t → wp_C_nextStop_17 post (d + 1) t (nI x) (nI i) := by
    intro d
    induction d with
    | zero =>
      intro i x hi hx hx2
      refine ⟨x, hx, Nat.le_refl _, fun j h1 h2 => by omega, fun post hp => itT ?_ hp⟩
      rw [hlen]; exact nI_le (by omega) (by omega)
    | succ d ih =>
      intro i x hi hx hx2
      have hil : i < tN t 2 := by omega
      have go : ∀ (post : Int32 → CS → Prop), (if (tF t 82 i) = 0 then (wp_C_nextStop_59 (wp_C_nextStop_17 post (d + 1)) post t (nI x) (nI i)) else (∀ x8 : Int32, x8 = (if (tF t 81 i) < nI x then (tF t 81 i) else nI x) → (wp_C_nextStop_59 (wp_C_nextStop_17 post (d + 1)) post t x8 (nI i)))) → wp_C_nextStop_17 post (d + 1 + 1) t (nI x) (nI i) := fun post hgo => by
        refine itF ?_ ⟨?_, ?_, nm_r (e' := i) ?_ ⟨hil, hgo⟩⟩
        · rw [hlen]; exact nI_ge hil (by omega)
        · rw [hlen]; exact vp_in_nI hil (by omega)
        · rw [hlen]; omega
        · rw [hz.ld, nI_clamp (by omega), rng_getD hil]
      rcases flag_b (hg i hil) with q | q
      · obtain ⟨r, r1, r2, r3, r4⟩ := ih (i + 1) x (by omega) hx hx2
        refine ⟨r, r1, r2, fun j h1 h2 h3 => ?_, fun post hp => go post (itT q (nm_e (by rw [nI_1]; exact r4 post hp)))⟩
        by_cases e : j = i
        · subst e; rw [q] at h3; exact absurd h3 (by decide)
        · exact r3 j (by omega) h2 h3
      · obtain ⟨a, a1, a2, a3, a4⟩ := flag_a (hg i hil) (by omega) q
        have step : ∀ y, y ≤ x → y ≤ a → T < y → (if (tF t 81 i) < nI x then (tF t 81 i) else nI x) = nI y → ∃ r, T < r ∧ r ≤ x ∧ (∀ j, i ≤ j → j < tN t 2 → tF t 82 j = 1 → ∀ a, a ≤ 101000 → σ 54 j = nI a → r ≤ a) ∧ ∀ post : Int32 → CS → Prop, post (nI r) t → wp_C_nextStop_17 post (d + 1 + 1) t (nI x) (nI i) := fun y y1 y2 y3 y4 => by
          obtain ⟨r, r1, r2, r3, r4⟩ := ih (i + 1) y (by omega) y3 (by omega)
          refine ⟨r, r1, by omega, fun j h1 h2 h3 b hb h4 => ?_, fun post hp => go post (itF (by rw [q]; decide) (nm_r y4 (nm_e (by rw [nI_1]; exact r4 post hp))))⟩
          by_cases e : j = i
          · subst e
            have : b = a := (nI_eq (by omega) (by omega)).mp (h4.symm.trans a3)
            omega
          · exact r3 j (by omega) h2 h3 b hb h4
        by_cases hax : a < x
        · exact step a (by omega) (Nat.le_refl _) a1 (by rw [a4]; exact if_pos (nI_lt hax (by omega)))
        · exact step x (Nat.le_refl _) (by omega) hx (by rw [a4]; exact if_neg (nI_nlt (by omega) (by omega)))
  have edd : (nI T / 600 + 1) * 600 = nI ((D + 1) * 600) := by
    have e : nI T / 600 = nI D := by rw [hD]; exact pk_div (d := 600) (by omega) (by omega) (by omega)
    rw [e, nI_1]
    exact pk_mul (D + 1) 600
  have fin : ∀ x, x ≤ G → x ≤ (D + 1) * 600 → T < x → (if (nI T / 600 + 1) * 600 < nI G then (nI T / 600 + 1) * 600 else nI G) = nI x → ∃ r, T < r ∧ r ≤ G ∧ r ≤ (D + 1) * 600 ∧ (∀ i, i < tN t 2 → tF t 82 i = 1 → ∀ a, a ≤ 101000 → σ 54 i = nI a → r ≤ a) ∧ ∀ post : Int32 → CS → Prop, post (nI r) t → wp_C_nextStop t (nI G) post := fun x x1 x2 x3 x4 => by
    obtain ⟨r, r1, r2, r3, r4⟩ := main (tN t 2) 0 x (by omega) x3 (by omega)
    refine ⟨r, r1, by omega, by omega, fun i hi => r3 i (by omega) hi, fun post hp => ?_⟩
    show ∀ x11 : Int32, x11 = (if ((tF t 171 0 / 600 + (1 : Int32)) * (600 : Int32)) < nI G then ((tF t 171 0 / 600 + (1 : Int32)) * (600 : Int32)) else nI G) → (∃ nn : Nat, wp_C_nextStop_17 post nn t x11 (0 : Int32))
    rw [e171]
    exact nm_r x4 ⟨tN t 2 + 1, r4 post hp⟩
  by_cases q : (D + 1) * 600 < G
  · exact fin ((D + 1) * 600) (by omega) (Nat.le_refl _) (by omega) (by rw [edd]; exact if_pos (nI_lt q (by omega)))
  · exact fin G (Nat.le_refl _) (by omega) hTG (by rw [edd]; exact if_neg (nI_nlt (by omega) (by omega)))
theorem M_arr_idle (hz : IZ t σ) (hno : ∀ i, i < tN t 2 → ¬ (σ 54 i = σ 1 0 ∧ (σ 50 i = 1 ∨ σ 50 i = 3))) {post : MS → Prop} (k : post σ) : wp_M_arrive σ post := by
  have hb2 := hz.b2
  have main : ∀ d i, i + d = tN t 2 → wp_M_arrive_2 post (d + 1) σ (nI i) := by
    intro d
    induction d with
    | zero =>
      intro i hi
      refine itT ?_ k
      rw [hz.m43]; exact nI_le (by omega) (by omega)
    | succ d ih =>
      intro i hi
      have hil : i < tN t 2 := by omega
      have hvl : vp_in (nI i) 200 := vp_in_nI (by omega) (by omega)
      have h113 : wp_M_arrive_113 (wp_M_arrive_2 post (d + 1)) post σ (nI i) := nm_e (by rw [nI_1]; exact ih (i + 1) (by omega))
      refine itF (by rw [hz.m43]; exact nI_ge hil (by omega)) ⟨hvl, ?_⟩
      rw [nI_clamp (by omega)]
      exact itE (fun q => ⟨hvl, itF (fun q2 => hno i hil ⟨q, Or.inl q2⟩) ⟨hvl, itF (fun q2 => hno i hil ⟨q, Or.inr q2⟩) h113⟩⟩) (fun _ => h113)
  exact ⟨tN t 2 + 1, main (tN t 2) 0 (by omega)⟩
theorem M_idle (hz : IZ t σ) {T r D N : Nat} (hT : T ≤ 99999) (hr : r ≤ 200000) (hD : D = T / 600) (hr6 : r ≤ (D + 1) * 600) (hN : N ≤ 600) (hno : ∀ x, T < x → x < r → ∀ i, i < tN t 2 → ¬ (σ 54 i = nI x ∧ (σ 50 i = 1 ∨ σ 50 i = 3))) {Q : Int32 → MS → Prop} : ∀ d x k, x + d + 1 = r → T ≤ x → k + d < N → (∃ nn, wp_M_minutes_26 Q nn (mT0 σ (r - 1)) (nI N) (nI (k + d))) → ∃ nn, wp_M_minutes_26 Q nn (mT0 σ x) (nI N) (nI k) := by
  intro d
  induction d with
  | zero =>
    intro x k hx hT2 hk hp
    rw [show r - 1 = x by omega] at hp
    exact hp
  | succ d ih =>
    intro x k hx hT2 hk hp
    obtain ⟨nn, hh⟩ := ih (x + 1) (k + 1) (by omega) (by omega) (by omega) (by rw [show k + 1 + d = k + (d + 1) by omega]; exact hp)
    refine ⟨nn + 1, itF (nI_ge (by omega) (by omega)) ?_⟩
    have e1 : (mT0 σ x) 1 0 + 1 = nI (x + 1) := by
      show upd (σ 1) 0 (nI x) 0 + 1 = _
      rw [pk_us, nI_1]
    rw [e1, mT0_mT0]
    have e2 : (mT0 σ (x + 1)) 1 0 = nI (x + 1) := (show upd (σ 1) 0 (nI (x + 1)) 0 = _ from pk_us)
    refine nm_e ?_
    rw [e2, mod600 (by omega)]
    refine itF (nI_ne0 (by omega) (by omega)) (M_arr_idle (t := t) (σ := mT0 σ (x + 1)) hz (fun i hi => ?_) (nm_e ?_))
    · rw [e2]; exact hno (x + 1) (by omega) (by omega) i hi
    · rw [nI_1]; exact hh
end Min
