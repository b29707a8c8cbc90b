/-! a day begins -/
def IFf (t : CS) (σ : MS) (D f : Nat) : Prop := tF t 4 f = σ 63 f ∧ tF t 5 f = σ 64 f ∧ tF t 7 f = σ 65 f ∧ tF t 8 f = σ 66 f ∧ tF t 9 f = σ 67 f ∧ rg (σ 66 f) 0 99 ∧ rg (σ 67 f) 0 99 ∧ 0 ≤ (σ 64 f).toInt ∧ fb_si (fun d => (σ 68 (167 * f + d)).toInt) D = (tF t 6 f).toInt ∧ fb_si (fun d => (σ 68 (167 * f + d)).toInt) (D + 1) = (σ 64 f).toInt ∧ (∀ d, 0 ≤ (σ 68 (167 * f + d)).toInt ∨ 167 ≤ d) ∧ ∀ d, D < d → d < 167 → σ 68 (167 * f + d) = 0
def Day (t : CS) (σ : MS) (D g J : Nat) (B : Int) : Prop := Mid t σ J ∧ (∀ f, f < 4 → IFf t σ (if f < g then D + 1 else D) f) ∧ IPh t σ B
def fr (t : CS) (σ : MS) (t' : CS) (σ' : MS) : Prop := t'.2 = t.2 ∧ tF t' 82 = tF t 82 ∧ σ' 1 = σ 1 ∧ σ' 50 = σ 50 ∧ σ' 54 = σ 54
theorem fr_rfl (t : CS) (σ : MS) : fr t σ t σ := ⟨rfl, rfl, rfl, rfl, rfl⟩
theorem fr_trans {t t' t2 : CS} {σ σ' σ2 : MS} (h : fr t σ t' σ') (h2 : fr t' σ' t2 σ2) : fr t σ t2 σ2 := ⟨h2.1.trans h.1, h2.2.1.trans h.2.1, h2.2.2.1.trans h.2.2.1, h2.2.2.2.1.trans h.2.2.2.1, h2.2.2.2.2.trans h.2.2.2.2⟩
theorem fr_N {t t' : CS} {σ σ' : MS} (h : fr t σ t' σ') (k : Nat) : tN t' k = tN t k := by
  unfold tN
  rw [h.1]
section DaySec
variable {t : CS} {σ : MS}
theorem Day_mono {D g J : Nat} {B B' : Int} (h : Day t σ D g J B) (hB : B ≤ B') : Day t σ D g J B' := by
  obtain ⟨h1, h2, h3, h4⟩ := h
  exact ⟨h1, h2, h3, by omega⟩
theorem payStep {D g J : Nat} {B : Int} (h : Day t σ D g J B) (hB : B ≤ 10000000) {f m x : Nat} (hf : f < 4) (hm : m < tN t 3) (hx : x ≤ 99) : ∃ t' σ', Day t' σ' D g J (B + 99) ∧ fr t σ t' σ' ∧ (∀ post : CS → Prop, post t' → wp_Fel_payOut t f m (nI x) post) ∧ (∀ post : MS → Prop, post σ' → wp_M_give σ (nI f) (nI m) (nI x) post) := by
  obtain ⟨hM, hI, hP⟩ := id h
  obtain ⟨hz, hc, hs, hp, hr, hmi, hn, hw, hd, htp, hlw, hld, hg⟩ := id hM
  have hb3 := hz.b3
  have hb2 := hz.b2
  have e4 := (hI f hf).1
  have e7 := (hI f hf).2.2.1
  have e100 := (hn.1 m hm).2.2.2.1
  have hcf : (nI f).toNatClampNeg = f := nI_clamp (by omega)
  have hcm : (nI m).toNatClampNeg = m := nI_clamp (by omega)
  have hvf : vp_in (nI f) 4 := vp_in_nI hf (by omega)
  have hvm : vp_in (nI m) 60 := vp_in_nI (by omega) (by omega)
  by_cases q : tF t 4 f < nI x
  · refine ⟨t, σ, Day_mono h (by omega), fr_rfl t σ, fun post hp => ⟨by rw [hz.1]; exact hf, itT q hp⟩, fun post hp => ⟨hvf, itF ?_ hp⟩⟩
    rw [hcf, ← e4]; exact Int32.not_le.mpr q
  · have ex : (nI x).toInt = x := nI_toInt (by omega)
    have p1 := si_part (f := fun m => (σ 14 m).toInt) 60 hP.1 m (by omega)
    have p1 : (σ 14 m).toInt ≤ fb_si (fun m => (σ 14 m).toInt) 60 := p1
    have p0 := hP.1 m (by omega)
    have p2 := si_pos (f := fun f => (σ 64 f).toInt) 4 (fun f hf => (hI f hf).2.2.2.2.2.2.2.1)
    have ht : thr t σ ≤ tN t 2 := fb_ct_le _ _
    have hphi := hP.2
    have hphi2 : phi σ = fb_si (fun m => (σ 14 m).toInt) 60 + fb_si (fun f => (σ 64 f).toInt) 4 := rfl
    have ea : (σ 14 m + nI x).toInt = (σ 14 m).toInt + x := by rw [fb_addI (by rw [ex]; omega) (by rw [ex]; omega), ex]
    refine ⟨sF (sF (sF t 4 f (tF t 4 f - nI x)) 7 f (tF t 7 f + nI x)) 100 m (tF t 100 m + nI x), up2 (up2 (up2 σ 63 f (σ 63 f - nI x)) 65 f (σ 65 f + nI x)) 14 m (σ 14 m + nI x), ⟨⟨hz, hc, hs, hp, hr, hmi, ⟨fun i hi => ?_, fun i hi => ?_⟩, hw, hd, htp, hlw, hld, hg⟩, fun f' hf' => ?_, fun i hi => ?_, ?_⟩, ⟨rfl, rfl, rfl, rfl, rfl⟩, fun post hp => ⟨by rw [hz.1]; exact hf, itF q (nm_e ⟨by show f < tN t 0; rw [hz.1]; exact hf, nm_e ⟨hm, nm_e hp⟩⟩)⟩, fun post hp => ⟨hvf, itT ?_ ⟨hvf, hvf, ?_⟩⟩⟩
    · obtain ⟨n1, n2, n3, n4, n5⟩ := hn.1 i hi
      refine ⟨n1, n2, n3, ?_, n5⟩
      show upd (tF t 100) m (tF t 100 m + nI x) i = upd (σ 14) m (σ 14 m + nI x) i
      by_cases e : i = m
      · subst e; rw [pk_us, pk_us, n4]
      · rw [pk_un e, pk_un e]; exact n4
    · obtain ⟨z1, z2⟩ := hn.2 i hi
      have hi : tN t 3 ≤ i := hi
      refine ⟨?_, z2⟩
      show upd (σ 14) m (σ 14 m + nI x) i = 0
      rw [pk_un (by omega)]; exact z1
    · obtain ⟨u1, u2, u3, u4⟩ := hI f' hf'
      refine ⟨?_, u2, ?_, u4⟩
      · show upd (tF t 4) f (tF t 4 f - nI x) f' = upd (σ 63) f (σ 63 f - nI x) f'
        by_cases e : f' = f
        · subst e; rw [pk_us, pk_us, u1]
        · rw [pk_un e, pk_un e]; exact u1
      · show upd (tF t 7) f (tF t 7 f + nI x) f' = upd (σ 65) f (σ 65 f + nI x) f'
        by_cases e : f' = f
        · subst e; rw [pk_us, pk_us, u3]
        · rw [pk_un e, pk_un e]; exact u3
    · show 0 ≤ (upd (σ 14) m (σ 14 m + nI x) i).toInt
      by_cases e : i = m
      · subst e; rw [pk_us, ea]; omega
      · rw [pk_un e]; exact hP.1 i hi
    · show fb_si (fun i => (upd (σ 14) m (σ 14 m + nI x) i).toInt) 60 + fb_si (fun f => (σ 64 f).toInt) 4 ≤ 100000 * (thr t σ : Int) + (B + 99)
      rw [si_upd (by omega), ea]; omega
    · rw [hcf, ← e4]; exact Int32.not_lt.mp q
    · rw [hcf, hcm]
      exact nm_e ⟨hvf, hvf, nm_e ⟨hvm, hvm, nm_e hp⟩⟩
theorem helpLoop {D g J f : Nat} (hf : f < 4) : ∀ d i t σ (B : Int), i + d = tN t 3 → Day t σ D g J B → B + 99 * d ≤ 10000000 → ∃ t' σ', Day t' σ' D g J (B + 99 * d) ∧ fr t σ t' σ' ∧ (∀ post : CS → Prop, post t' → wp_C_payHelp_2 post (d + 1) t f (nI i)) ∧ (∀ post : MS → Prop, (∃ nn, wp_M_payFund_43 post nn σ' (nI f) 0) → wp_M_payFund_2 post (d + 1) σ (nI f) (nI i)) := by
  intro d
  induction d with
  | zero =>
    intro i t σ B hi h hB
    obtain ⟨⟨hz, -⟩, -⟩ := id h
    have hb3 := hz.b3
    have e : i = tN t 3 := by omega
    refine ⟨t, σ, Day_mono h (by omega), fr_rfl t σ, fun post hp => itT ?_ hp, fun post hp => itT ?_ hp⟩
    · rw [hz.mn, List.length_range, e]; exact nI_le (Nat.le_refl _) (by omega)
    · rw [hz.m10, e]; exact nI_le (Nat.le_refl _) (by omega)
  | succ d ih =>
    intro i t σ B hi h hB
    obtain ⟨hM, hI, hP⟩ := id h
    obtain ⟨hz, hc, hs, hp, hr, hmi, hn, hw, hd, htp, hlw, hld, hg⟩ := id hM
    have hb3 := hz.b3
    have hil : i < tN t 3 := by omega
    have hlen : (tT t 1).length = tN t 3 := by rw [hz.mn, List.length_range]
    have n1 := (hn.1 i hil).1
    obtain ⟨T, hT, m1, m2⟩ := id hmi
    have e171 : tF t 171 0 = σ 1 0 := by rw [m1, m2]
    obtain ⟨u1, u2, u3, u4, u5, ⟨x, -, hx, e66⟩, -⟩ := hI f hf
    have hvf : vp_in (nI f) 4 := vp_in_nI hf (by omega)
    have Cgo : ∀ post : CS → Prop, (if σ 11 i = nI f then (wp_Man_getsHelpAt t i (tF t 171 0) (fun r10 t9 => if r10 = 0 then (wp_C_payHelp_56 (wp_C_payHelp_2 post (d + 1)) post t9 f (nI i)) else (f < tN t9 0 ∧ (wp_Fel_payOut t9 f i (tF t9 8 f) (fun  t13 => wp_C_payHelp_56 (wp_C_payHelp_2 post (d + 1)) post t13 f (nI i)))))) else (wp_C_payHelp_56 (wp_C_payHelp_2 post (d + 1)) post t f (nI i))) → wp_C_payHelp_2 post (d + 1 + 1) t f (nI i) := fun post hgo => by
      refine itF ?_ ⟨?_, ?_, nm_r (e' := i) ?_ ⟨hil, by rw [hz.1]; exact hf, ?_⟩⟩
      · rw [hlen]; exact nI_ge hil (by omega)
      · rw [hlen]; exact vp_in_nI hil (by omega)
      · rw [hlen]; omega
      · rw [hz.mn, nI_clamp (by omega), rng_getD hil]
      · rw [n1]; exact hgo
    by_cases q : hpd σ (nI f) (σ 1 0) i = true
    · obtain ⟨q1, q2, q3⟩ := of_decide_eq_true q
      obtain ⟨t1, σ1, y1, y2, y3, y4⟩ := payStep h (by omega) hf hil hx
      obtain ⟨t', σ', z1, z2, z3, z4⟩ := ih (i + 1) t1 σ1 (B + 99) (by rw [fr_N y2]; omega) y1 (by omega)
      refine ⟨t', σ', Day_mono z1 (by omega), fr_trans y2 z2, fun post hp => Cgo post (itT q1 ?_), fun post hp => ?_⟩
      · refine C_helpAt (σ := σ) hn hil q1 (fun _ => itF (by decide) ⟨by rw [hz.1]; exact hf, ?_⟩) (fun a => by rw [e171, q] at a; exact absurd a (by decide))
        rw [u4, e66]
        exact y3 _ (nm_e (by rw [nI_1]; exact z3 post hp))
      · refine itF (by rw [hz.m10]; exact nI_ge hil (by omega)) (M_helped (by omega) (fun _ => itF (by decide) ⟨hvf, ?_⟩) (fun a => by rw [q] at a; exact absurd a (by decide)))
        rw [nI_clamp (by omega), e66]
        exact y4 _ (nm_e (by rw [nI_1]; exact z4 post hp))
    · have q : hpd σ (nI f) (σ 1 0) i = false := by
        cases hh : hpd σ (nI f) (σ 1 0) i with
        | false => rfl
        | true => exact absurd hh q
      obtain ⟨t', σ', z1, z2, z3, z4⟩ := ih (i + 1) t σ B (by omega) h (by omega)
      have h56 : ∀ post : CS → Prop, post t' → wp_C_payHelp_56 (wp_C_payHelp_2 post (d + 1)) post t f (nI i) := fun post hp => nm_e (by rw [nI_1]; exact z3 post hp)
      refine ⟨t', σ', Day_mono z1 (by omega), z2, fun post hp => Cgo post (itE (fun q1 => ?_) (fun _ => h56 post hp)), fun post hp => ?_⟩
      · exact C_helpAt (σ := σ) hn hil q1 (fun a => by rw [e171, q] at a; exact absurd a (by decide)) (fun _ => itT rfl (h56 post hp))
      · exact itF (by rw [hz.m10]; exact nI_ge hil (by omega)) (M_helped (by omega) (fun a => by rw [q] at a; exact absurd a (by decide)) (fun _ => itT rfl (nm_e (by rw [nI_1]; exact z4 post hp))))
end DaySec
