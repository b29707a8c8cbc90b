/-! a load that comes, what holds after -/
theorem gng_J {t : CS} {σ : MS} {T l i : Nat} (h : gng t σ T l i) (hi : i ≠ l) : gng t σ T (l + 1) i := by
  obtain ⟨a1, a2, a3, a4, a5, a6⟩ := h
  refine ⟨a1, a2, a3, a4, a5, ?_⟩
  rcases a6 with q | ⟨q1, f, a, q2, q3, q4, q5, q6, q7, q8⟩
  · exact Or.inl q
  · refine Or.inr ⟨q1, f, a, q2, q3, q4, q5, q6, q7, ?_⟩
    rcases q8 with ⟨r1, r2, r3⟩ | r
    · exact Or.inl ⟨r1, r2.elim Or.inl (fun q => Or.inr ⟨q.1, by omega⟩), r3⟩
    · exact Or.inr r
theorem gng_off {t t' : CS} {σ σ' : MS} {T l : Nat} (h : gng t σ T l l) (hT : σ 54 l = nI T) (hT9 : T ≤ 99999) (flag : tF t 82 l = 1) (e82 : tF t' 82 l = 0) (e50 : σ' 50 l = 2 ∨ σ' 50 l = 3) (e58 : σ' 58 l = σ 58 l) (e59 : ∀ k, k < 8 → σ' 59 (8 * l + k) = σ 59 (8 * l + k)) (eT : tT t' (l + 11) = tT t (l + 11)) (eN : tN t 3 = tN t' 3) (e53 : σ' 53 l = σ 53 l) (e54 : σ' 54 l = σ 54 l) (e81 : tF t' 81 l = tF t 81 l) (e11 : ∀ m, m < tN t 3 → σ' 11 m = σ 11 m) : gng t' σ' T (l + 1) l := by
  obtain ⟨a1, a2, a3, a4, a5, a6⟩ := h
  unfold gng
  rw [eT, e58, e53, e54, e81, ← eN]
  refine ⟨a1, a2, fun k hk => (e59 k (by omega)).trans (a3 k hk), a4, a5, ?_⟩
  rcases a6 with ⟨-, q, -⟩ | ⟨q1, f, a, q2, q3, q4, q5, q6, q7, q8⟩
  · rw [flag] at q; exact absurd q (by decide)
  · have e : a = T := (nI_eq (by omega) (by omega)).mp (q5.symm.trans hT)
    exact Or.inr ⟨q1, f, a, q2, q3, q4, q5, q6, fun m hm => (e11 m (a5 m hm)).trans (q7 m hm), Or.inr ⟨e82, by omega, e50⟩⟩
theorem sR_mBk {σ : MS} {k : Nat} {A g h R : Nat → Int32} (h1 : k ≠ 18) (h2 : k ≠ 20) (h3 : k ≠ 21) : sR (mBk σ A g h) k R = mBk (sR σ k R) A g h := by
  unfold mBk
  rw [sR_comm (k := k) (j := 18) h1, sR_comm (k := k) (j := 20) h2, sR_comm (k := k) (j := 21) h3]
theorem finM_mBk {σ : MS} {f D : Nat} {x : Int32} {A g h : Nat → Int32} : finM (mBk σ A g h) f D x = mBk (finM σ f D x) A g h := by
  unfold mBk
  rw [finM_sR (by decide) (by decide) (by decide), finM_sR (by decide) (by decide) (by decide), finM_sR (by decide) (by decide) (by decide)]
def tPy (t : CS) (l f : Nat) (v kt : Int32) (c1 : Nat → Int32) : CS := tCo (finC (sF (sF (sF t 82 l 0) 75 l 2) 80 l v) f kt) c1
def mPy (σ : MS) (l f D : Nat) (v kt : Int32) (c : Nat → Int32) : MS := sR (finM (up2 (up2 σ 50 l 2) 57 l v) f D kt) 14 c
theorem mPy_mBk (σ : MS) (l f D : Nat) (v kt : Int32) (c A g h : Nat → Int32) : sR (finM (up2 (up2 (mBk σ A g h) 50 l 2) 57 l v) f D kt) 14 c = mBk (mPy σ l f D v kt c) A g h := by
  have e1 : up2 (mBk σ A g h) 50 l 2 = mBk (up2 σ 50 l 2) A g h := sR_mBk (σ := σ) (k := 50) (R := upd (σ 50) l 2) (by decide) (by decide) (by decide)
  have e2 : up2 (mBk (up2 σ 50 l 2) A g h) 57 l v = mBk (up2 (up2 σ 50 l 2) 57 l v) A g h := sR_mBk (σ := up2 σ 50 l 2) (k := 57) (R := upd (σ 57) l v) (by decide) (by decide) (by decide)
  rw [e1, e2, finM_mBk, sR_mBk (by decide) (by decide) (by decide)]
  rfl
section Arr2
variable {t : CS} {σ : MS}
theorem Mid_off {l T : Nat} (h : Mid t σ l) (hl : l < tN t 2) (hT : σ 1 0 = nI T) (hT9 : T ≤ 99999) (h54 : σ 54 l = nI T) (flag : tF t 82 l = 1) (e3 : σ 50 l = 3) : Mid (sF t 82 l 0) σ (l + 1) := by
  obtain ⟨hz, hc, hs, hp, hr, hm, hn, hw, hd, htp, hlw, hld, hg⟩ := h
  obtain ⟨T2, g1, g2, g3⟩ := hg
  have eT2 : T2 = T := (nI_eq (by omega) (by omega)).mp (g1.symm.trans hT)
  subst eT2
  refine ⟨hz, hc, hs, hp, hr, hm, hn, hw, hd, htp, hlw, hld, T2, g1, g2, fun i hi => ?_⟩
  by_cases e : i = l
  · subst e
    exact gng_off (g3 i hi) h54 hT9 flag (show upd (tF t 82) i 0 i = 0 from pk_us) (Or.inr e3) rfl (fun _ _ => rfl) rfl rfl rfl rfl rfl (fun _ _ => rfl)
  · exact gng_congr (gng_J (g3 i hi) e) rfl (fun _ _ => rfl) rfl (Nat.le_refl _) rfl (show upd (tF t 82) l 0 i = tF t 82 i from pk_un e) rfl rfl rfl (fun _ _ => rfl) (fun _ _ _ _ => ⟨rfl, rfl, fun _ _ hx => hx⟩)
theorem Mid_paid {l T f D v kt : Nat} (h : Mid t σ l) (hl : l < tN t 2) (hf : f < 4) (hT : σ 1 0 = nI T) (hT9 : T ≤ 99999) (h54 : σ 54 l = nI T) (flag : tF t 82 l = 1) (e1 : σ 50 l = 1) (eD : σ 1 0 / 600 = nI D) (hF : IFu t σ D) (hP : IPh t σ (47520 * (D : Int))) (hv : v ≤ 100000) (hkt : kt ≤ v) {c c1 : Nat → Int32} (hok : okp c (tN t 3) (fb_si (fun m => (σ 14 m).toInt) 60 + ((v - kt : Nat) : Int))) (hc1 : ∀ m, m < tN t 3 → c1 m = c m) : Mid (tPy t l f (nI v) (nI kt) c1) (mPy σ l f D (nI v) (nI kt) c) (l + 1) ∧ Fnd (tPy t l f (nI v) (nI kt) c1) (mPy σ l f D (nI v) (nI kt) c) := by
  obtain ⟨hz, hc, hs, hp, hr, hm, hn, hw, hd, htp, hlw, hld, hg⟩ := h
  obtain ⟨T2, g1, g2, g3⟩ := hg
  have eT2 : T2 = T := (nI_eq (by omega) (by omega)).mp (g1.symm.trans hT)
  subst eT2
  obtain ⟨k1, k2, k3⟩ := hok
  obtain ⟨b1, b2, b3, b4, b5⟩ := IPh_b hz hF hP
  have ek : (nI kt).toInt = kt := nI_toInt (by omega)
  have p0 : 0 ≤ (σ 64 f).toInt := (hF.2 f hf).2.2.2.2.2.2.2.1
  have b3f := b3 f hf
  constructor
  · refine ⟨hz, hc, hs, hp, hr, hm, ⟨fun i hi => ?_, fun i hi => ?_⟩, hw, hd, htp, hlw, ⟨fun i hi => ?_, fun i hi => ?_⟩, T2, g1, g2, fun i hi => ?_⟩
    · obtain ⟨n1, n2, n3, n4, n5⟩ := hn.1 i hi
      exact ⟨n1, n2, n3, hc1 i hi, n5⟩
    · obtain ⟨z1, z2⟩ := hn.2 i hi
      exact ⟨k3 i hi, z2⟩
    · obtain ⟨l1, l2, l3, l4, l5, l6, l7, l8, l9, l10, l11, l12, l13, l14, l15, l16, l17, l18, l19, l20, l21, l22⟩ := hld.1 i hi
      refine ⟨l1, l2, l3, l4, l5, l6, l7, l8, l9, l10, l11, ?_, l13, l14, l15, l16, ?_, l18, l19, l20, l21, ?_⟩
      · show upd (tF t 75) l 2 i = upd (σ 50) l 2 i
        by_cases e : i = l
        · subst e; rw [pk_us, pk_us]
        · rw [pk_un e, pk_un e]; exact l12
      · show upd (tF t 80) l (nI v) i = upd (σ 57) l (nI v) i
        by_cases e : i = l
        · subst e; rw [pk_us, pk_us]
        · rw [pk_un e, pk_un e]; exact l17
      · show rg (upd (σ 57) l (nI v) i) 0 100000
        by_cases e : i = l
        · subst e; rw [pk_us]; exact ⟨v, by omega, hv, rfl⟩
        · rw [pk_un e]; exact l22
    · obtain ⟨z1, z2, z3, z4, z5⟩ := hld.2 i hi
      have hi : tN t 2 ≤ i := hi
      refine ⟨z1, z2, z3, ?_, z5⟩
      show upd (σ 57) l (nI v) i = 0
      rw [pk_un (by omega)]; exact z4
    · by_cases e : i = l
      · subst e
        exact gng_off (t' := tPy t i f (nI v) (nI kt) c1) (σ' := mPy σ i f D (nI v) (nI kt) c) (g3 i hi) h54 hT9 flag (show upd (tF t 82) i 0 i = 0 from pk_us) (Or.inl (show upd (σ 50) i 2 i = 2 from pk_us)) rfl (fun _ _ => rfl) rfl rfl rfl rfl rfl (fun _ _ => rfl)
      · exact gng_congr (t' := tPy t l f (nI v) (nI kt) c1) (σ' := mPy σ l f D (nI v) (nI kt) c) (gng_J (g3 i hi) e) rfl (fun _ _ => rfl) rfl (Nat.le_refl _) (show upd (σ 50) l 2 i = σ 50 i from pk_un e) (show upd (tF t 82) l 0 i = tF t 82 i from pk_un e) rfl rfl rfl (fun _ _ => rfl) (fun _ _ _ _ => ⟨rfl, rfl, fun _ _ hx => hx⟩)
  · have hF2 : IFu (sF (sF (sF t 82 l 0) 75 l 2) 80 l (nI v)) (up2 (up2 σ 50 l 2) 57 l (nI v)) D := hF
    have hb : ((up2 (up2 σ 50 l 2) 57 l (nI v)) 64 f).toInt + (nI kt).toInt < 2147483648 := by
      show (σ 64 f).toInt + (nI kt).toInt < 2147483648
      rw [ek]; omega
    have hF3 := IFu_in hf hF2 (x := nI kt) (by rw [ek]; omega) hb
    refine ⟨D, eD, hF3, k1, ?_⟩
    have ephi : phi (mPy σ l f D (nI v) (nI kt) c) = phi σ + v := by
      have e2 := phi_in (σ := sR (up2 (up2 σ 50 l 2) 57 l (nI v)) 14 c) (D := D) hf (x := nI kt) hb p0 (by rw [ek]; omega)
      have e3 : finM (sR (up2 (up2 σ 50 l 2) 57 l (nI v)) 14 c) f D (nI kt) = mPy σ l f D (nI v) (nI kt) c := finM_sR (by decide) (by decide) (by decide)
      rw [e3] at e2
      rw [e2, ek]
      unfold phi
      show fb_si (fun m => (c m).toInt) 60 + fb_si (fun f => (σ 64 f).toInt) 4 + (kt : Int) = _
      rw [k2]; omega
    have ethr : thr (tPy t l f (nI v) (nI kt) c1) (mPy σ l f D (nI v) (nI kt) c) = thr t σ + 1 := by
      have e2 := fb_ct_upd (fun k => decide (σ 50 k = 2)) true (i := l) (n := tN t 2) hl
      have e3 : (decide (σ 50 l = 2)) = false := by rw [e1]; decide
      rw [e3] at e2
      have e4 : thr (tPy t l f (nI v) (nI kt) c1) (mPy σ l f D (nI v) (nI kt) c) = fb_ct (fun k => if k = l then true else decide (σ 50 k = 2)) (tN t 2) := fb_ct_cong (fun k hk => by
        show decide (upd (σ 50) l 2 k = 2) = _
        by_cases e : k = l
        · subst e; rw [pk_us, if_pos rfl]; decide
        · rw [pk_un e, if_neg e])
      rw [e4]
      exact e2
    rw [ephi, ethr]
    have := hP.2
    omega
end Arr2
