/-! a day begins: the pensions, and the whole of it -/
section Day2
variable {t : CS} {σ : MS}
theorem pensLoop {D g J f : Nat} (hf : f < 4) : ∀ d i t σ (B : Int), i + d = tN t 3 → Day t σ D g J B → B + 99 * d ≤ 10000000 → ∃ t' σ', Day t' σ' D g J (B + 99 * d) ∧ fr t σ t' σ' ∧ (∀ post : CS → Prop, post t' → wp_C_payPensions_2 post (d + 1) t f (nI i)) ∧ (∀ post : MS → Prop, post σ' → wp_M_payFund_43 post (d + 1) σ (nI f) (nI i)) := by
  intro d
  induction d with
  | zero =>
    intro i t σ B hi h hB
    obtain ⟨⟨hz, -⟩, -⟩ := id h
    have hb3 := hz.b3
    have e : i = tN t 3 := by omega
    refine ⟨t, σ, Day_mono h (by omega), fr_rfl t σ, fun post hp => itT ?_ hp, fun post hp => itT ?_ hp⟩
    · rw [hz.mn, List.length_range, e]; exact nI_le (Nat.le_refl _) (by omega)
    · rw [hz.m10, e]; exact nI_le (Nat.le_refl _) (by omega)
  | succ d ih =>
    intro i t σ B hi h hB
    obtain ⟨hM, hI, hP⟩ := id h
    obtain ⟨hz, hc, hs, hp, hr, hmi, hn, hw, hd, htp, hlw, hld, hg⟩ := id hM
    have hb3 := hz.b3
    have hil : i < tN t 3 := by omega
    have hlen : (tT t 1).length = tN t 3 := by rw [hz.mn, List.length_range]
    have n1 := (hn.1 i hil).1
    obtain ⟨T, hT, m1, m2⟩ := id hmi
    have e171 : tF t 171 0 = σ 1 0 := by rw [m1, m2]
    obtain ⟨u1, u2, u3, u4, u5, -, ⟨x, -, hx, e66⟩, -⟩ := hI f hf
    have hvf : vp_in (nI f) 4 := vp_in_nI hf (by omega)
    have Cgo : ∀ post : CS → Prop, (if σ 11 i = nI f then (wp_Man_getsPension t i (fun r10 t9 => if r10 = 0 then (wp_C_payPensions_52 (wp_C_payPensions_2 post (d + 1)) post t9 f (nI i)) else (f < tN t9 0 ∧ (wp_Fel_payOut t9 f i (tF t9 9 f) (fun  t13 => wp_C_payPensions_52 (wp_C_payPensions_2 post (d + 1)) post t13 f (nI i)))))) else (wp_C_payPensions_52 (wp_C_payPensions_2 post (d + 1)) post t f (nI i))) → wp_C_payPensions_2 post (d + 1 + 1) t f (nI i) := fun post hgo => by
      refine itF ?_ ⟨?_, ?_, nm_r (e' := i) ?_ ⟨hil, by rw [hz.1]; exact hf, ?_⟩⟩
      · rw [hlen]; exact nI_ge hil (by omega)
      · rw [hlen]; exact vp_in_nI hil (by omega)
      · rw [hlen]; omega
      · rw [hz.mn, nI_clamp (by omega), rng_getD hil]
      · rw [n1]; exact hgo
    by_cases q : old σ (nI f) i = true
    · obtain ⟨q1, q2, q3⟩ := of_decide_eq_true q
      obtain ⟨t1, σ1, y1, y2, y3, y4⟩ := payStep h (by omega) hf hil hx
      obtain ⟨t', σ', z1, z2, z3, z4⟩ := ih (i + 1) t1 σ1 (B + 99) (by rw [fr_N y2]; omega) y1 (by omega)
      refine ⟨t', σ', Day_mono z1 (by omega), fr_trans y2 z2, fun post hp => Cgo post (itT q1 ?_), fun post hp => ?_⟩
      · refine C_pens (σ := σ) hn hil q1 (fun _ => itF (by decide) ⟨by rw [hz.1]; exact hf, ?_⟩) (fun a => by rw [q] at a; exact absurd a (by decide))
        rw [u5, e66]
        exact y3 _ (nm_e (by rw [nI_1]; exact z3 post hp))
      · refine itF (by rw [hz.m10]; exact nI_ge hil (by omega)) (M_old (by omega) (fun _ => itF (by decide) ⟨hvf, ?_⟩) (fun a => by rw [q] at a; exact absurd a (by decide)))
        rw [nI_clamp (by omega), e66]
        exact y4 _ (nm_e (by rw [nI_1]; exact z4 post hp))
    · have q : old σ (nI f) i = false := by
        cases hh : old σ (nI f) i with
        | false => rfl
        | true => exact absurd hh q
      obtain ⟨t', σ', z1, z2, z3, z4⟩ := ih (i + 1) t σ B (by omega) h (by omega)
      have h56 : ∀ post : CS → Prop, post t' → wp_C_payPensions_52 (wp_C_payPensions_2 post (d + 1)) post t f (nI i) := fun post hp => nm_e (by rw [nI_1]; exact z3 post hp)
      refine ⟨t', σ', Day_mono z1 (by omega), z2, fun post hp => Cgo post (itE (fun q1 => ?_) (fun _ => h56 post hp)), fun post hp => ?_⟩
      · exact C_pens (σ := σ) hn hil q1 (fun a => by rw [q] at a; exact absurd a (by decide)) (fun _ => itT rfl (h56 post hp))
      · exact itF (by rw [hz.m10]; exact nI_ge hil (by omega)) (M_old (by omega) (fun a => by rw [q] at a; exact absurd a (by decide)) (fun _ => itT rfl (nm_e (by rw [nI_1]; exact z4 post hp))))
theorem Day_next {D g J : Nat} {B : Int} (h : Day t σ D g J B) (hg : g < 4) (hD : D + 1 < 167) : Day (sF t 6 g (tF t 5 g)) σ D (g + 1) J B := by
  obtain ⟨hM, hI, hP⟩ := h
  refine ⟨hM, fun f hf => ?_, hP⟩
  obtain ⟨u1, u2, u3, u4, u5, u6, u7, u8, u9, u10, u11, u12⟩ := hI f hf
  by_cases e : f = g
  · subst e
    rw [if_neg (Nat.lt_irrefl _)] at u9 u10 u12
    rw [if_pos (by omega)]
    refine ⟨u1, u2, u3, u4, u5, u6, u7, u8, ?_, ?_, u11, fun d h1 h2 => u12 d (by omega) h2⟩
    · show fb_si (fun d => (σ 68 (167 * f + d)).toInt) (D + 1) = (upd (tF t 6) f (tF t 5 f) f).toInt
      rw [pk_us, u10, u2]
    · rw [fb_si_succ, u10, u12 (D + 1) (by omega) hD]
      show (σ 64 f).toInt + (0 : Int32).toInt = _
      rw [show (0 : Int32).toInt = 0 from by decide]; omega
  · have e2 : (if f < g + 1 then D + 1 else D) = (if f < g then D + 1 else D) := by
      by_cases q : f < g
      · rw [if_pos q, if_pos (by omega)]
      · rw [if_neg q, if_neg (by omega)]
    rw [e2]
    refine ⟨u1, u2, u3, u4, u5, u6, u7, u8, ?_, u10, u11, u12⟩
    show _ = (upd (tF t 6) g (tF t 5 g) f).toInt
    rw [pk_un e]; exact u9
theorem felLoop {D J : Nat} (hD : D + 1 < 167) : ∀ (d g : Nat) t σ (B : Int), g + d = 4 → Day t σ D g J B → B + 11880 * (d : Int) ≤ 10000000 → ∃ t' σ', Day t' σ' D 4 J (B + 11880 * (d : Int)) ∧ fr t σ t' σ' ∧ (∀ post : CS → Prop, post t' → wp_C_beginDay_36 post (d + 1) t (nI g)) ∧ (∀ (k26 : MS → Int32 → Int32 → Prop) (post : Int32 → MS → Prop) x1 x2, wp_M_minutes_93 k26 post σ' x1 x2 → wp_M_minutes_77 k26 post (d + 1) σ x1 x2 (nI g)) := by
  intro d
  induction d with
  | zero =>
    intro g t σ B hg h hB
    obtain ⟨⟨hz, -⟩, -⟩ := id h
    have e : g = 4 := by omega
    subst e
    refine ⟨t, σ, Day_mono h (by omega), fr_rfl t σ, fun post hp => itT ?_ hp, fun k26 post x1 x2 hp => hp⟩
    rw [hz.2.1]; decide
  | succ d ih =>
    intro g t σ B hg h hB
    obtain ⟨⟨hz, -⟩, -⟩ := id h
    have hg4 : g < 4 := by omega
    have hb3 := hz.b3
    have h1 := Day_next h hg4 hD
    have hlen : (tT t 4).length = 4 := by rw [hz.2.1]; rfl
    obtain ⟨t1, σ1, y1, y2, y3, y4⟩ := helpLoop (D := D) (g := g + 1) (J := J) hg4 (tN t 3) 0 (sF t 6 g (tF t 5 g)) σ B (by show 0 + tN t 3 = tN t 3; omega) h1 (by omega)
    have e3 : tN t1 3 = tN t 3 := fr_N y2 3
    obtain ⟨t2, σ2, w1, w2, w3, w4⟩ := pensLoop (D := D) (g := g + 1) (J := J) hg4 (tN t 3) 0 t1 σ1 (B + 99 * (tN t 3 : Int)) (by omega) y1 (by omega)
    obtain ⟨t', σ', z1, z2, z3, z4⟩ := ih (g + 1) t2 σ2 (B + 11880) (by omega) (Day_mono w1 (by omega)) (by omega)
    refine ⟨t', σ', Day_mono z1 (by omega), fr_trans (fr_trans (σ' := σ) ⟨rfl, rfl, rfl, rfl, rfl⟩ y2) (fr_trans w2 z2), fun post hp => ?_, fun k26 post x1 x2 hp => ?_⟩
    · refine itF ?_ ⟨?_, ?_, nm_r (e' := g) ?_ ⟨by rw [hz.1]; exact hg4, nm_e ⟨tN t 3 + 1, y3 _ ⟨tN t 3 + 1, w3 _ (nm_e ?_)⟩⟩⟩⟩
      · rw [hlen]; exact nI_ge hg4 (by omega)
      · rw [hlen]; exact vp_in_nI hg4 (by omega)
      · rw [hlen]; omega
      · rw [hz.2.1, nI_clamp (by omega), fel_getD hg4]
      · rw [nI_1]; exact z3 post hp
    · refine itF (nI_ge (a := g) (b := 4) hg4 (by omega)) ⟨tN t 3 + 1, y4 _ ⟨tN t 3 + 1, w4 _ (nm_e ?_)⟩⟩
      rw [nI_1]; exact z4 k26 post x1 x2 hp
def z0 (s : Nat → Int32) (n m : Nat) : Int32 := if m < n then 0 else s m
theorem z0_0 (s : Nat → Int32) : z0 s 0 = s := by
  funext m
  exact if_neg (by omega)
theorem z0_s (s : Nat → Int32) (n : Nat) : upd (z0 s n) n 0 = z0 s (n + 1) := by
  funext m
  unfold z0
  by_cases e : m = n
  · subst e; rw [pk_us, if_pos (by omega)]
  · rw [pk_un e]
    by_cases q : m < n
    · rw [if_pos q, if_pos (by omega)]
    · rw [if_neg q, if_neg (by omega)]
def tHr (t : CS) (H : Nat → Int32) : CS := (sR t.1 101 H, t.2)
theorem tHr_set (t : CS) (H : Nat → Int32) (j : Nat) (v : Int32) : sF (tHr t H) 101 j v = tHr t (upd H j v) := by
  unfold tHr sF
  exact Prod.ext (sR_co t.1 101 H j v) rfl
theorem C_hours (hz : IZ t σ) {post : CS → Prop} (k : ∃ nn, wp_C_beginDay_36 post nn (tHr t (z0 (tF t 101) (tN t 3))) 0) : wp_C_beginDay t post := by
  have hb3 := hz.b3
  have hlen : (tT t 1).length = tN t 3 := by rw [hz.mn, List.length_range]
  have main : ∀ d i, i + d = tN t 3 → wp_C_beginDay_2 post (d + 1) (tHr t (z0 (tF t 101) i)) (nI i) := by
    intro d
    induction d with
    | zero =>
      intro i hi
      have e : i = tN t 3 := by omega
      subst e
      refine itT ?_ k
      show nI (tT t 1).length ≤ nI (tN t 3)
      rw [hlen]; exact nI_le (Nat.le_refl _) (by omega)
    | succ d ih =>
      intro i hi
      have hil : i < tN t 3 := by omega
      refine itF ?_ ⟨?_, ?_, nm_r (e' := i) ?_ ⟨hil, ?_⟩⟩
      · show ¬ nI (tT t 1).length ≤ nI i
        rw [hlen]; exact nI_ge hil (by omega)
      · show vp_in (nI i) (tT t 1).length
        rw [hlen]; exact vp_in_nI hil (by omega)
      · show (tT t 1).length < 2 ^ 31
        rw [hlen]; omega
      · show (tT t 1).getD (nI i).toNatClampNeg 0 = i
        rw [hz.mn, nI_clamp (by omega), rng_getD hil]
      · rw [tHr_set, z0_s]
        refine nm_e (nm_e ?_)
        rw [nI_1]
        exact ih (i + 1) (by omega)
  refine ⟨tN t 3 + 1, ?_⟩
  have := main (tN t 3) 0 (by omega)
  have e : tHr t (tF t 101) = t := Prod.ext (sR_id _ _) rfl
  rw [z0_0, e] at this
  exact this
theorem M_hours (hz : IZ t σ) {k26 : MS → Int32 → Int32 → Prop} {post : Int32 → MS → Prop} {x1 x2 : Int32} (k : ∃ nn, wp_M_minutes_77 k26 post nn (sR σ 15 (z0 (σ 15) (tN t 3))) x1 x2 0) : ∃ nn, wp_M_minutes_54 k26 post nn σ x1 x2 0 := by
  have hb3 := hz.b3
  have main : ∀ d i, i + d = tN t 3 → wp_M_minutes_54 k26 post (d + 1) (sR σ 15 (z0 (σ 15) i)) x1 x2 (nI i) := by
    intro d
    induction d with
    | zero =>
      intro i hi
      have e : i = tN t 3 := by omega
      subst e
      refine itT ?_ k
      show σ 10 0 ≤ nI (tN t 3)
      rw [hz.m10]; exact nI_le (Nat.le_refl _) (by omega)
    | succ d ih =>
      intro i hi
      have hil : i < tN t 3 := by omega
      refine itF ?_ ⟨vp_in_nI (by omega) (by omega), ?_⟩
      · show ¬ σ 10 0 ≤ nI i
        rw [hz.m10]; exact nI_ge hil (by omega)
      · rw [nI_clamp (by omega), sR_co, z0_s]
        refine nm_e (nm_e ?_)
        rw [nI_1]
        exact ih (i + 1) (by omega)
  refine ⟨tN t 3 + 1, ?_⟩
  have := main (tN t 3) 0 (by omega)
  rw [z0_0, sR_id] at this
  exact this
theorem Mid_hours {J : Nat} (h : Mid t σ J) : Mid (tHr t (z0 (tF t 101) (tN t 3))) (sR σ 15 (z0 (σ 15) (tN t 3))) J := by
  obtain ⟨hz, hc, hs, hp, hr, hm, hn, hw, hd, htp, hlw, hld, hg⟩ := h
  refine ⟨hz, hc, hs, hp, hr, hm, ⟨fun i hi => ?_, fun i hi => ?_⟩, hw, hd, htp, hlw, hld, hg⟩
  · obtain ⟨n1, n2, n3, n4, n5, n6⟩ := hn.1 i hi
    refine ⟨n1, n2, n3, n4, ?_, n6⟩
    show z0 (tF t 101) (tN t 3) i = z0 (σ 15) (tN t 3) i
    unfold z0
    rw [n5]
  · obtain ⟨y1, y2, y3⟩ := hn.2 i hi
    refine ⟨y1, ?_, y3⟩
    show z0 (σ 15) (tN t 3) i = 0
    unfold z0
    rw [y2, ite_self]
theorem DayAll {D J : Nat} (h : Mid t σ J) (hF : IFu t σ D) (hP : IPh t σ (47520 * (D : Int))) (hD : D + 1 < 167) : ∃ t' σ', Mid t' σ' J ∧ IFu t' σ' (D + 1) ∧ IPh t' σ' (47520 * ((D + 1 : Nat) : Int)) ∧ fr t σ t' σ' ∧ (∀ post : CS → Prop, post t' → wp_C_beginDay t post) ∧ (∀ (k26 : MS → Int32 → Int32 → Prop) (post : Int32 → MS → Prop) x1 x2, wp_M_minutes_93 k26 post σ' x1 x2 → ∃ nn, wp_M_minutes_54 k26 post nn σ x1 x2 0) := by
  have h0 : Day (tHr t (z0 (tF t 101) (tN t 3))) (sR σ 15 (z0 (σ 15) (tN t 3))) D 0 J (47520 * (D : Int)) := ⟨Mid_hours h, fun f hf => by rw [if_neg (Nat.not_lt_zero f)]; exact hF.2 f hf, hP⟩
  obtain ⟨t', σ', y1, y2, y3, y4⟩ := felLoop hD 4 0 _ _ _ (by omega) h0 (by omega)
  obtain ⟨z1, z2, z3⟩ := y1
  refine ⟨t', σ', z1, ⟨hD, fun f hf => ?_⟩, ⟨z3.1, ?_⟩, fr_trans (σ' := sR σ 15 (z0 (σ 15) (tN t 3))) ⟨rfl, rfl, rfl, rfl, rfl⟩ y2, fun post hp => C_hours h.1 ⟨5, y3 post hp⟩, fun k26 post x1 x2 hp => M_hours h.1 ⟨5, y4 k26 post x1 x2 hp⟩⟩
  · have := z2 f hf
    rw [if_pos hf] at this
    exact this
  · have := z3.2
    omega
end Day2
