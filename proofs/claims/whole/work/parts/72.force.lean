/-! which by-law is in force -/
def frc (p : Nat → Bool) : Nat → Option Nat
  | 0 => none
  | n + 1 => if p n then some n else frc p n
def fv (o : Option Nat) : Int32 := match o with
  | none => -2
  | some o => nI o
def inF (σ : MS) (f u d k : Int32) (o : Nat) : Bool := decide (σ 27 o = f ∧ σ 28 o = u ∧ ¬ k < σ 29 o ∧ ¬ d < σ 30 o)
theorem frc_lt {p : Nat → Bool} : ∀ {n o : Nat}, frc p n = some o → o < n
  | 0, _, h => by cases h
  | n + 1, o, h => by
    unfold frc at h
    by_cases q : p n = true
    · rw [if_pos q] at h; cases h; omega
    · rw [if_neg q] at h; have := frc_lt h; omega
theorem ni_m1 (n : Nat) : nI n + (-1) = nI n - 1 := (Int32.sub_eq_add_neg _ _).symm
section Force
variable {t : CS} {σ : MS}
theorem M_force (hz : IZ t σ) {f u d k : Int32} {post : Int32 → MS → Prop} (hp : post (fv (frc (inF σ f u d k) (tN t 1))) σ) : wp_M_forceOn σ f u d k post := by
  have hb := hz.b1
  have main : ∀ n, n ≤ 40 → post (fv (frc (inF σ f u d k) n)) σ → wp_M_forceOn_8 post (n + 1) σ f u d k (nI n - 1) := by
    intro n
    induction n with
    | zero =>
      intro _ hp
      exact hp
    | succ n ih =>
      intro hn hp
      rw [nI_pred]
      have hc : (nI n).toNatClampNeg = n := nI_clamp (by omega)
      have hv : vp_in (nI n) 40 := vp_in_nI (by omega) (by omega)
      have no : ¬ inF σ f u d k n = true → wp_M_forceOn_61 (wp_M_forceOn_8 post (n + 1)) post σ f u d k (nI n) := fun q => by
        rintro x1 rfl
        rw [ni_m1]
        refine ih (by omega) ?_
        unfold frc at hp; rw [if_neg q] at hp; exact hp
      refine itF (nI_pos (by omega)) ⟨hv, ?_⟩
      rw [hc]
      refine itE (fun q1 => ⟨hv, itE (fun q2 => ⟨hv, itE (fun q3 => ?_) (fun q3 => ⟨hv, itE (fun q4 => ?_) (fun q4 => ?_)⟩)⟩) (fun q2 => ?_)⟩) (fun q1 => ?_)
      · exact no (fun e => (of_decide_eq_true e).2.2.1 q3)
      · exact no (fun e => (of_decide_eq_true e).2.2.2 q4)
      · have e : inF σ f u d k n = true := decide_eq_true ⟨q1, q2, q3, q4⟩
        unfold frc at hp; rw [if_pos e] at hp; exact hp
      · exact no (fun e => q2 (of_decide_eq_true e).2.1)
      · exact no (fun e => q1 (of_decide_eq_true e).1)
  unfold wp_M_forceOn
  rw [hz.m26]
  rintro x11 rfl
  exact ⟨tN t 1 + 1, main (tN t 1) hb hp⟩
theorem C_force (hz : IZ t σ) (hl : ILw t σ) {f u d k : Int32} {post : Option Nat → CS → Prop} (hp : post (frc (inF σ f u d k) (tN t 1)) t) : wp_C_lawKnown t f u d k post := by
  have hb := hz.b1
  have hll : (tT t 3).length = tN t 1 := by rw [hz.lw, List.length_range]
  have main : ∀ n, n ≤ tN t 1 → post (frc (inF σ f u d k) n) t → wp_C_lawKnown_11 post (n + 1) t f u d k (nI n - 1) := by
    intro n
    induction n with
    | zero =>
      intro _ hp
      exact hp
    | succ n ih =>
      intro hn hp
      rw [nI_pred]
      have hc : (nI n).toNatClampNeg = n := nI_clamp (by omega)
      have no : ¬ inF σ f u d k n = true → wp_C_lawKnown_70 (wp_C_lawKnown_11 post (n + 1)) post t f u d k (nI n) := fun q => by
        rintro x1 rfl
        rw [ni_m1]
        refine ih (by omega) ?_
        unfold frc at hp; rw [if_neg q] at hp; exact hp
      refine itF (nI_pos (by omega)) ⟨by rw [hll]; exact vp_in_nI (by omega) (by omega), by omega, ?_⟩
      rw [hc, hz.lw, rng_getD (by omega)]
      refine nm_e ?_
      refine ⟨by omega, ?_⟩
      obtain ⟨w1, w2, w3, w4, -⟩ := hl n (by omega)
      rw [w1, w2, w3, w4]
      refine itE (fun q1 => itE (fun q2 => itE (fun q3 => ?_) (fun q3 => itE (fun q4 => ?_) (fun q4 => ?_))) (fun q2 => ?_)) (fun q1 => ?_)
      · exact no (fun e => (of_decide_eq_true e).2.2.1 q3)
      · exact no (fun e => (of_decide_eq_true e).2.2.2 q4)
      · have e : inF σ f u d k n = true := decide_eq_true ⟨q1, q2, q3, q4⟩
        unfold frc at hp; rw [if_pos e] at hp; exact hp
      · exact no (fun e => q2 (of_decide_eq_true e).2.1)
      · exact no (fun e => q1 (of_decide_eq_true e).1)
  unfold wp_C_lawKnown
  rw [hll]
  rintro x11 rfl
  exact ⟨tN t 1 + 1, main (tN t 1) (Nat.le_refl _) hp⟩
theorem s_inForce (h : Inv t σ) (a1 a2 a3 a4 : Int32) : wp_C_inForce t a1 a2 a3 a4 (fun v t1 => wp_M_inForce σ a1 a2 a3 a4 (fun w σ1 => v = w ∧ Inv t1 σ1)) := by
  unfold wp_C_inForce
  rcases ix a1 (n := 4) (by omega) with hn | ⟨f, hf, rfl⟩
  · refine C_fe_no h.z hn (oN ?_)
    exact M_fe_no hn ⟨rfl, h⟩
  refine C_fe h.z hf (oS ?_)
  by_cases h1 : a2 < 0 ∨ 4 < a2
  · refine Cz_no h1 ?_
    exact M_fe hf (Mw_no h1 ⟨rfl, h⟩)
  refine Cz_yes h1 ?_
  by_cases h2 : a3 < 0 ∨ 166 < a3
  · refine Cz_no h2 ?_
    exact M_fe hf (Mw_yes h1 (Mz_no h2 ⟨rfl, h⟩))
  refine Cz_yes h2 ?_
  by_cases h3 : a4 < 0 ∨ 166 < a4
  · refine Cz_no h3 ?_
    exact M_fe hf (Mw_yes h1 (Mz_yes h2 (Mz_no h3 ⟨rfl, h⟩)))
  refine Cz_yes h3 (C_force h.z h.lw ?_)
  have hM : ∀ v : Int32, v = fv (frc (inF σ (nI f) a2 a3 a4) (tN t 1)) → wp_M_inForce σ (nI f) a2 a3 a4 (fun w σ1 => v = w ∧ Inv t σ1) := fun v hv => M_fe hf (Mw_yes h1 (Mz_yes h2 (Mz_yes h3 (M_force h.z ⟨hv, h⟩))))
  cases e : frc (inF σ (nI f) a2 a3 a4) (tN t 1) with
  | none => exact oN (hM _ (by rw [e]; rfl))
  | some o => exact oS ⟨frc_lt e, hM _ (by rw [e]; rfl)⟩
end Force
