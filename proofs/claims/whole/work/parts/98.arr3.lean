/-! one load comes -/
def ksum (t : CS) : Nat := tK t 7 + tK t 8 + tK t 9 + tK t 10
theorem ksum_tBk {t : CS} {f : Nat} {A : Nat → Int32} {R : List Nat} {K : Nat} (hf : f < 4) : ksum (tBk t f A R K) + tK t (f + 7) = ksum t + K := by
  match f, hf with
  | 0, _ => show K + tK t 8 + tK t 9 + tK t 10 + tK t 7 = tK t 7 + tK t 8 + tK t 9 + tK t 10 + K; omega
  | 1, _ => show tK t 7 + K + tK t 9 + tK t 10 + tK t 8 = tK t 7 + tK t 8 + tK t 9 + tK t 10 + K; omega
  | 2, _ => show tK t 7 + tK t 8 + K + tK t 10 + tK t 9 = tK t 7 + tK t 8 + tK t 9 + tK t 10 + K; omega
  | 3, _ => show tK t 7 + tK t 8 + tK t 9 + K + tK t 10 = tK t 7 + tK t 8 + tK t 9 + tK t 10 + K; omega
section Arr3
variable {t : CS} {σ : MS}
/-- the men go back into their row, on both sides -/
theorem Back {l f J : Nat} (h : Mid t σ J) (hl : l < tN t 2) (hf : f < 4) {ch : List Nat} (hch : tT t (l + 11) = ch) (h8 : ch.length ≤ 8) (hnd : ch.Nodup) (hcm : ∀ m ∈ ch, m < tN t 3) (h11 : ∀ m ∈ ch, σ 11 m = nI f) (hno : ∀ m ∈ ch, m ∉ tT t (f + 7)) (hfl : ∀ i, i < tN t 2 → tF t 82 i = 1 → ∀ m ∈ ch, m ∉ tT t (i + 11)) {g h' : Nat → Int32} (ho : outR σ f (tT t (f + 7) ++ ch) g h') : ∃ t' c s, Mid t' (mBk σ (a18 (σ 18) ch) g h') J ∧ (Fnd t σ → Fnd t' (mBk σ (a18 (σ 18) ch) g h')) ∧ (∀ k, tN t' k = tN t k) ∧ (∀ i, tF t' 82 i = tF t 82 i) ∧ ksum t + c ≤ ksum t' ∧ 4 * ksum t + s ≤ 4 * ksum t' ∧ (∀ g, g < 4 → tK t' (g + 7) ≤ max (tK t (g + 7)) 88) ∧ ∀ post : CS → Prop, post t' → wp_C_comeBack c s t l f post := by
  obtain ⟨hz, hc, hs, hp, hr, hm, hn, hw, hd, htp, hlw, hld, hg⟩ := id h
  obtain ⟨w1, w2, w3, w4⟩ := hw f hf
  have hb3 := hz.b3
  have hnd2 : (tT t (f + 7) ++ ch).Nodup := List.nodup_append.mpr ⟨w3, hnd, fun a ha b hb q => hno b hb (q ▸ ha)⟩
  have hlen : (tT t (f + 7) ++ ch).length ≤ tN t 3 := nodup_le hnd2 (fun x hx => (List.mem_append.mp hx).elim (fun q => (w4 x q).1) (hcm x))
  rw [List.length_append] at hlen
  obtain ⟨K, c, s, k1, k2, k3, k4, k5, k6⟩ := C_comeBack hz.1 hl hf hch h8 hcm (fun m hm => (w4 m hm).1) (by omega) (hc (f + 7)).1 (hc (f + 7)).2
  have hks := ksum_tBk (t := t) (A := a18 (tF t 104) ch) (R := tT t (f + 7) ++ ch) (K := K) hf
  refine ⟨tBk t f (a18 (tF t 104) ch) (tT t (f + 7) ++ ch) K, c, s, Mid_back h hf hnd hcm h11 hno hfl ho k1 k2, fun q => q, fun _ => rfl, fun _ => rfl, by omega, by omega, fun g hg => ?_, k6⟩
  by_cases e : g = f
  · subst e; rw [tBk_K]; exact k3
  · rw [tBk_Kn (by omega)]; omega
theorem Arrive {l T D : Nat} (h : Mid t σ l) (hl : l < tN t 2) (hT : σ 1 0 = nI T) (hT9 : T ≤ 99999) (flag : tF t 82 l = 1) (h54 : σ 54 l = nI T) (eD : σ 1 0 / 600 = nI D) (hF : IFu t σ D) (hP : IPh t σ (47520 * (D : Int))) : ∃ f t' σ' c s, f < 4 ∧ σ 53 l = nI f ∧ (σ 50 l = 1 ∨ σ 50 l = 3) ∧ Mid t' σ' (l + 1) ∧ Fnd t' σ' ∧ (∀ k, tN t' k = tN t k) ∧ σ' 1 = σ 1 ∧ σ' 54 = σ 54 ∧ (∀ i, i ≠ l → σ' 50 i = σ 50 i) ∧ (∀ i, i ≠ l → tF t' 82 i = tF t 82 i) ∧ ksum t + c ≤ ksum t' ∧ 4 * ksum t + s ≤ 4 * ksum t' ∧ (∀ g, g < 4 → tK t' (g + 7) ≤ max (tK t (g + 7)) 88) ∧ (∀ mc ms uc us k2 post, uc + c ≤ mc → us + s ≤ ms → wp_C_bringIn_86 mc ms k2 post (uc + c) (us + s) t' (nI l) → (∀ t16 : CS, t16 = sF t 82 l 0 → (l < tN t16 2 ∧ (if (tF t16 75 l) = (1 : Int32) then (∀ t19 : CS, t19 = sF t16 75 l (2 : Int32) → (wp_C_payFor t19 l f (fun t20 => wp_C_bringIn_80 mc ms k2 post uc us t20 (nI l) l f))) else (wp_C_bringIn_80 mc ms k2 post uc us t16 (nI l) l f))))) ∧ (∀ k2 post, wp_M_arrive_113 k2 post σ' (nI l) → wp_M_arrive_46 k2 post σ (nI l)) := by
  obtain ⟨hz, hc, hs, hp, hr, hm, hn, hw, hd, htp, hlw, hld, hg⟩ := id h
  have hb2 := hz.b2
  have hb3 := hz.b3
  obtain ⟨T2, g1, g2, g3⟩ := hg
  have eT2 : T2 = T := (nI_eq (by omega) (by omega)).mp (g1.symm.trans hT)
  subst eT2
  obtain ⟨c1, c2, c3, c4, c5, c6⟩ := g3 l hl
  obtain ⟨q1, f, a, q2, q3, q4, q5, q6, q7, q8⟩ := c6.resolve_left (fun q => by have := q.2.1; rw [flag] at this; exact absurd this (by decide))
  obtain ⟨r1, r2, r3, r4⟩ := q8.resolve_right (fun q => by have := q.1; rw [flag] at this; exact absurd this (by decide))
  have ea : a = T2 := (nI_eq (by omega) (by omega)).mp (q5.symm.trans h54)
  subst ea
  have hD := hF.1
  have hne : 0 < (tT t (l + 11)).length := List.length_pos_iff.mpr q1
  have hfl : ∀ i, i < tN t 2 → i ≠ l → tF t 82 i = 1 → ∀ m ∈ tT t (l + 11), m ∉ tT t (i + 11) := fun i hi hil hfi m hmm hmi => by
    obtain ⟨-, -, -, -, -, d6⟩ := g3 i hi
    obtain ⟨-, f2, a2, -, -, -, -, -, -, p8⟩ := d6.resolve_left (fun q => by have := q.2.1; rw [hfi] at this; exact absurd this (by decide))
    obtain ⟨-, -, -, s4⟩ := p8.resolve_right (fun q => by have := q.1; rw [hfi] at this; exact absurd this (by decide))
    exact hil ((nI_eq (by omega) (by omega)).mp ((s4 m hmi).2.1.symm.trans (r4 m hmm).2.1))
  have hno : ∀ m ∈ tT t (l + 11), m ∉ tT t (f + 7) := fun m hm => (r4 m hm).2.2
  obtain ⟨w1, w2, w3, w4⟩ := hw f q2
  have hnd2 : (tT t (f + 7) ++ tT t (l + 11)).Nodup := List.nodup_append.mpr ⟨w3, c4, fun a ha b hb q => hno b hb (q ▸ ha)⟩
  have hlen : (tT t (f + 7) ++ tT t (l + 11)).length ≤ tN t 3 := nodup_le hnd2 (fun x hx => (List.mem_append.mp hx).elim (fun q => (w4 x q).1) (c5 x))
  rw [List.length_append] at hlen
  obtain ⟨g, h', ho, hk⟩ := M_arr48 (σ := σ) (l := l) (f := f) (by omega) q2 c1 c3 c2 (fun m hm => by have := c5 m hm; omega) q7 (IRw.row hz hw q2) (by omega)
  have hvl : vp_in (nI l) 200 := vp_in_nI (by omega) (by omega)
  have e75 : tF t 75 l = σ 50 l := (hld.1 l hl).2.2.2.2.2.2.2.2.2.2.2.1
  have fl2 : ∀ i, i < tN t 2 → upd (tF t 82) l 0 i = 1 → ∀ m ∈ tT t (l + 11), m ∉ tT t (i + 11) := fun i hi q => by
    by_cases e : i = l
    · subst e; rw [pk_us] at q; exact absurd q (by decide)
    · rw [pk_un e] at q; exact hfl i hi e q
  rcases r3 with e1 | e3
  · -- carried: it is there, and paid for
    obtain ⟨l1, l2, l3, l4, l5, l6, l7, l8, l9, l10, l11, l12, l13, l14, l15, l16, l17, ⟨due, -, hdue, e49⟩, l19, ⟨p, -, hpp, e55⟩, ⟨sh, -, hsh, e56⟩, l22⟩ := hld.1 l hl
    have hv := pvl_le a due p
    have hkk := kpt_le (v := pvl a due p) hsh
    obtain ⟨b1, b2, b3, b4, b5⟩ := IPh_b hz hF hP
    have hok0 : okp (σ 14) (tN t 3) (fb_si (fun m => (σ 14 m).toInt) 60) := ⟨hP.1, rfl, fun m hm => (hn.2 m hm).1⟩
    have hok := cfin_ok (par := pvl a due p - kpt (pvl a due p) sh) hb3 q1 c5 hok0 (by unfold phi at b1; omega)
    have hagr := cfin_agree (q := nI ((pvl a due p - kpt (pvl a due p) sh) / (tT t (l + 11)).length)) (rm := nI ((pvl a due p - kpt (pvl a due p) sh) % (tT t (l + 11)).length)) hne c5 (c := σ 14) (c1 := tF t 100) (fun m hm => (hn.1 m hm).2.2.2.1)
    obtain ⟨hM, hFn⟩ := Mid_paid h hl q2 hT hT9 h54 flag e1 eD hF hP (v := pvl a due p) (kt := kpt (pvl a due p) sh) (by omega) hkk hok hagr
    have hC := fun post : CS → Prop => C_payF (post := post) (t := sF (sF t 82 l 0) 75 l 2) hz.1 hl q2 hne rfl c2 c5 q4 hdue hpp hsh q6 (l10.trans e49) (l15.trans e55) (l16.trans e56)
    have hMp := fun post : MS → Prop => M_payF (post := post) (σ := up2 (mBk σ (a18 (σ 18) (tT t (l + 11))) g h') 50 l 2) (by omega) q2 hD eD hne c1 c3 c2 (fun m hm => by have := c5 m hm; omega) q4 hdue hpp hsh hT e49 e55 e56 q3
    have ho2 : outR (mPy σ l f D (nI (pvl a due p)) (nI (kpt (pvl a due p) sh)) (cfin (nI ((pvl a due p - kpt (pvl a due p) sh) / (tT t (l + 11)).length)) (nI ((pvl a due p - kpt (pvl a due p) sh) % (tT t (l + 11)).length)) (tT t (l + 11)) (σ 14))) f (tT t (f + 7) ++ tT t (l + 11)) g h' := ho
    obtain ⟨t', c, s, x1, x2, x3, x4, x5, x6, x7, x8⟩ := Back hM hl q2 rfl c2 c4 c5 q7 hno fl2 ho2
    refine ⟨f, t', _, c, s, q2, q3, Or.inl e1, x1, x2 hFn, x3, rfl, rfl, fun i hi => (show upd (σ 50) l 2 i = σ 50 i from pk_un hi), fun i hi => (x4 i).trans (show upd (tF t 82) l 0 i = tF t 82 i from pk_un hi), x5, x6, x7, ?_, ?_⟩
    · intro mc ms uc us k2 post hc hs hp
      refine nm_e ⟨hl, itT ?_ (nm_e (hC (fun t20 => wp_C_bringIn_80 mc ms k2 post uc us t20 (nI l) l f) ⟨c, s, ⟨hc, hs⟩, x8 _ hp⟩))⟩
      show tF t 75 l = 1
      rw [e75]; exact e1
    · intro k2 post hp
      refine hk k2 post ⟨hvl, itF (by rw [e1]; decide) ⟨hvl, nm_e (hMp (fun σ8 => wp_M_arrive_113 k2 post σ8 (nI l)) ?_)⟩⟩
      have e14 : (up2 (mBk σ (a18 (σ 18) (tT t (l + 11))) g h') 50 l 2) 14 = σ 14 := rfl
      rw [e14, mPy_mBk]
      exact hp
  · -- it fell on the way
    have hM := Mid_off h hl hT hT9 h54 flag e3
    obtain ⟨t', c, s, x1, x2, x3, x4, x5, x6, x7, x8⟩ := Back hM hl q2 rfl c2 c4 c5 q7 hno fl2 ho
    refine ⟨f, t', _, c, s, q2, q3, Or.inr e3, x1, x2 ⟨D, eD, hF, hP⟩, x3, rfl, rfl, fun i hi => rfl, fun i hi => (x4 i).trans (show upd (tF t 82) l 0 i = tF t 82 i from pk_un hi), x5, x6, x7, ?_, ?_⟩
    · intro mc ms uc us k2 post hc hs hp
      refine nm_e ⟨hl, itF ?_ ⟨c, s, ⟨hc, hs⟩, x8 _ hp⟩⟩
      show ¬ tF t 75 l = 1
      rw [e75, e3]; decide
    · intro k2 post hp
      exact hk k2 post ⟨hvl, itT e3 hp⟩
end Arr3
