/-! what comes into the fund -/
def finM (σ : MS) (f D : Nat) (x : Int32) : MS := up2 (up2 (up2 σ 63 f (σ 63 f + x)) 64 f (σ 64 f + x)) 68 (167 * f + D) (σ 68 (167 * f + D) + x)
def finC (t : CS) (f : Nat) (x : Int32) : CS := sF (sF t 4 f (tF t 4 f + x)) 5 f (tF t 5 f + x)
theorem i167 (f k : Nat) : (167 : Int32) * nI f + nI k = nI (167 * f + k) := by
  rw [show (167 : Int32) = nI 167 from rfl, pk_mul, nI_add]
theorem M_comes {σ : MS} {f D : Nat} (hf : f < 4) (hD : D < 167) (eD : σ 1 0 / 600 = nI D) {x : Int32} {post : MS → Prop} (k : post (finM σ f D x)) : wp_M_comesToFund σ (nI f) x post := by
  have hcf : (nI f).toNatClampNeg = f := nI_clamp (by omega)
  have hvf : vp_in (nI f) 4 := vp_in_nI hf (by omega)
  refine ⟨hvf, hvf, ?_⟩
  rw [hcf]
  refine nm_e ⟨hvf, hvf, nm_e ?_⟩
  show vp_in ((167 : Int32) * nI f + σ 1 0 / 600) 668 ∧ vp_in ((167 : Int32) * nI f + σ 1 0 / 600) 668 ∧ _
  have hv : vp_in (nI (167 * f + D)) 668 := vp_in_nI (by omega) (by omega)
  rw [eD, i167]
  refine ⟨hv, hv, nm_r (e' := finM σ f D x) ?_ k⟩
  show up2 (up2 (up2 σ 63 f (σ 63 f + x)) 64 f (σ 64 f + x)) 68 ((167 : Int32) * nI f + σ 1 0 / 600).toNatClampNeg (σ 68 ((167 : Int32) * nI f + σ 1 0 / 600).toNatClampNeg + x) = _
  rw [eD, i167, nI_clamp (by omega)]; rfl
theorem C_takeIn {t : CS} {f : Nat} (hf : f < tN t 0) {x : Int32} {post : CS → Prop} (k : post (finC t f x)) : wp_Fel_takeIn t f x post := ⟨hf, nm_e ⟨hf, nm_e k⟩⟩
theorem si_upd {f : Nat → Int32} {i n : Nat} {v : Int32} (hi : i < n) : fb_si (fun k => (upd f i v k).toInt) n = fb_si (fun k => (f k).toInt) n - (f i).toInt + v.toInt := by
  have := fb_si_upd (fun k => (f k).toInt) v.toInt hi
  rw [← this]
  refine fb_si_cong (fun k _ => ?_)
  by_cases e : k = i
  · rw [if_pos e, e, pk_us]
  · rw [if_neg e, pk_un e]
theorem si_pos {f : Nat → Int} : ∀ n, (∀ k, k < n → 0 ≤ f k) → 0 ≤ fb_si f n
  | 0, _ => Int.le_refl _
  | n + 1, h => by
    have := si_pos n (fun k hk => h k (by omega))
    have h2 := h n (by omega)
    rw [fb_si_succ]; omega
theorem si_part {f : Nat → Int} : ∀ n, (∀ k, k < n → 0 ≤ f k) → ∀ i, i < n → f i ≤ fb_si f n
  | 0, _, i, hi => absurd hi (Nat.not_lt_zero i)
  | n + 1, h, i, hi => by
    have h0 := si_pos n (fun k hk => h k (by omega))
    have h2 := h n (by omega)
    rw [fb_si_succ]
    by_cases e : i = n
    · subst e; omega
    · have := si_part n (fun k hk => h k (by omega)) i (by omega)
      omega
theorem IFu_in {t : CS} {σ : MS} {D f : Nat} (hf : f < 4) {x : Int32} (h : IFu t σ D) (hx : 0 ≤ x.toInt) (hb : (σ 64 f).toInt + x.toInt < 2147483648) : IFu (finC t f x) (finM σ f D x) D := by
  obtain ⟨hD, h⟩ := h
  obtain ⟨-, -, -, -, -, -, -, f8, f9, f10, f11, -⟩ := h f hf
  have eD1 : (σ 68 (167 * f + D)).toInt ≤ (σ 64 f).toInt := by
    rw [← f10]
    exact si_part (D + 1) (fun k hk => (f11 k).resolve_right (by omega)) D (by omega)
  have eD0 : 0 ≤ (σ 68 (167 * f + D)).toInt := (f11 D).resolve_right (by omega)
  have a68 : (σ 68 (167 * f + D) + x).toInt = (σ 68 (167 * f + D)).toInt + x.toInt := fb_addI (by omega) (by omega)
  have a64 : (σ 64 f + x).toInt = (σ 64 f).toInt + x.toInt := fb_addI (by omega) (by omega)
  refine ⟨hD, fun g hg => ?_⟩
  obtain ⟨u1, u2, u3, u4, u5, u6, u7, u8, u9, u10, u11, u12⟩ := h g hg
  have e68 : ∀ d, d < 167 → g ≠ f → upd (σ 68) (167 * f + D) (σ 68 (167 * f + D) + x) (167 * g + d) = σ 68 (167 * g + d) := fun d hd hgf => by
    refine pk_un (fun q => ?_)
    rcases Nat.lt_trichotomy g f with q2 | q2 | q2
    · omega
    · exact hgf q2
    · omega
  have e68f : ∀ d, d ≠ D → upd (σ 68) (167 * f + D) (σ 68 (167 * f + D) + x) (167 * f + d) = σ 68 (167 * f + d) := fun d hd => pk_un (by omega)
  show upd (tF t 4) f (tF t 4 f + x) g = upd (σ 63) f (σ 63 f + x) g ∧ upd (tF t 5) f (tF t 5 f + x) g = upd (σ 64) f (σ 64 f + x) g ∧ tF t 7 g = σ 65 g ∧ tF t 8 g = σ 66 g ∧ tF t 9 g = σ 67 g ∧ rg (σ 66 g) 0 99 ∧ rg (σ 67 g) 0 99 ∧ 0 ≤ (upd (σ 64) f (σ 64 f + x) g).toInt ∧ fb_si (fun d => (upd (σ 68) (167 * f + D) (σ 68 (167 * f + D) + x) (167 * g + d)).toInt) D = (tF t 6 g).toInt ∧ fb_si (fun d => (upd (σ 68) (167 * f + D) (σ 68 (167 * f + D) + x) (167 * g + d)).toInt) (D + 1) = (upd (σ 64) f (σ 64 f + x) g).toInt ∧ (∀ d, 0 ≤ (upd (σ 68) (167 * f + D) (σ 68 (167 * f + D) + x) (167 * g + d)).toInt ∨ 167 ≤ d) ∧ ∀ d, D < d → d < 167 → upd (σ 68) (167 * f + D) (σ 68 (167 * f + D) + x) (167 * g + d) = 0
  by_cases e : g = f
  · subst e
    rw [pk_us, pk_us, pk_us, pk_us, u1, u2, a64]
    have s1 : fb_si (fun d => (upd (σ 68) (167 * g + D) (σ 68 (167 * g + D) + x) (167 * g + d)).toInt) D = fb_si (fun d => (σ 68 (167 * g + d)).toInt) D := fb_si_cong (fun d hd => by rw [e68f d (by omega)])
    refine ⟨rfl, rfl, u3, u4, u5, u6, u7, by omega, by rw [s1]; exact u9, ?_, fun d => ?_, fun d h1 h2 => by rw [e68f d (by omega)]; exact u12 d h1 h2⟩
    · rw [fb_si_succ, s1, pk_us, a68, ← u10, fb_si_succ]; omega
    · by_cases e2 : d = D
      · subst e2; rw [pk_us, a68]; exact Or.inl (by omega)
      · rw [e68f d e2]; exact u11 d
  · rw [pk_un e, pk_un e, pk_un e, pk_un e]
    refine ⟨u1, u2, u3, u4, u5, u6, u7, u8, ?_, ?_, fun d => ?_, fun d h1 h2 => by rw [e68 d h2 e]; exact u12 d h1 h2⟩
    · rw [← u9]; exact fb_si_cong (fun d hd => by rw [e68 d (by omega) e])
    · rw [← u10]; exact fb_si_cong (fun d hd => by rw [e68 d (by omega) e])
    · by_cases h167 : 167 ≤ d
      · exact Or.inr h167
      · rw [e68 d (by omega) e]; exact u11 d
theorem phi_in {σ : MS} {f D : Nat} (hf : f < 4) {x : Int32} (hb : (σ 64 f).toInt + x.toInt < 2147483648) (h0 : 0 ≤ (σ 64 f).toInt) (hx : 0 ≤ x.toInt) : phi (finM σ f D x) = phi σ + x.toInt := by
  have a64 : (σ 64 f + x).toInt = (σ 64 f).toInt + x.toInt := fb_addI (by omega) (by omega)
  unfold phi
  show fb_si (fun m => (σ 14 m).toInt) 60 + fb_si (fun g => (upd (σ 64) f (σ 64 f + x) g).toInt) 4 = _
  rw [si_upd hf, a64]; omega
theorem phi_coin {σ : MS} {m : Nat} (hm : m < 60) (c : Nat → Int32) (v : Int32) : fb_si (fun k => (upd c m v k).toInt) 60 = fb_si (fun k => (c k).toInt) 60 - (c m).toInt + v.toInt := si_upd hm
theorem IPh_b {t : CS} {σ : MS} {D : Nat} (hz : IZ t σ) (hF : IFu t σ D) (h : IPh t σ (47520 * (D : Int))) : phi σ < 30000000 ∧ (∀ m, m < 60 → (σ 14 m).toInt ≤ phi σ) ∧ (∀ f, f < 4 → (σ 64 f).toInt ≤ phi σ) ∧ 0 ≤ fb_si (fun m => (σ 14 m).toInt) 60 ∧ 0 ≤ fb_si (fun f => (σ 64 f).toInt) 4 := by
  have hb := hz.b2
  have h1 : thr t σ ≤ tN t 2 := fb_ct_le _ _
  have hD := hF.1
  have p1 := si_pos (f := fun m => (σ 14 m).toInt) 60 h.1
  have hf4 : ∀ f, f < 4 → 0 ≤ (σ 64 f).toInt := fun f hf => (hF.2 f hf).2.2.2.2.2.2.2.1
  have p2 := si_pos (f := fun f => (σ 64 f).toInt) 4 hf4
  have h2 := h.2
  refine ⟨by omega, fun m hm => ?_, fun f hf => ?_, p1, p2⟩
  · have := si_part (f := fun m => (σ 14 m).toInt) 60 h.1 m hm
    unfold phi
    have this : (σ 14 m).toInt ≤ fb_si (fun m => (σ 14 m).toInt) 60 := this
    omega
  · have := si_part (f := fun f => (σ 64 f).toInt) 4 hf4 f hf
    unfold phi
    have this : (σ 64 f).toInt ≤ fb_si (fun f => (σ 64 f).toInt) 4 := this
    omega
