/-! a load that comes -/
def pvl (a due p : Nat) : Nat := if a ≤ due then p else p / 2
def kpt (v sh : Nat) : Nat := v * sh / 100
theorem pvl_le (a due p : Nat) : pvl a due p ≤ p := by
  unfold pvl
  split <;> omega
theorem kpt_le {v sh : Nat} (h : sh ≤ 100) : kpt v sh ≤ v := by
  unfold kpt
  have : v * sh ≤ v * 100 := Nat.mul_le_mul_left v h
  omega
section Arr
variable {t : CS} {σ : MS}
theorem C_payF {l f : Nat} (hz0 : tN t 0 = 4) (hl : l < tN t 2) (hf : f < 4) {ch : List Nat} (hne : 0 < ch.length) (hch : tT t (l + 11) = ch) (h8 : ch.length ≤ 8) (hcm : ∀ m ∈ ch, m < tN t 3) {a due p sh : Nat} (ha : a ≤ 101000) (hdu : due ≤ 200000) (hp : p ≤ 100000) (hsh : sh ≤ 100) (e81 : tF t 81 l = nI a) (e72 : tF t 72 l = nI due) (e78 : tF t 78 l = nI p) (e79 : tF t 79 l = nI sh) {post : CS → Prop} (k : post (tCo (finC (sF t 80 l (nI (pvl a due p))) f (nI (kpt (pvl a due p) sh))) (cfin (nI ((pvl a due p - kpt (pvl a due p) sh) / ch.length)) (nI ((pvl a due p - kpt (pvl a due p) sh) % ch.length)) ch (tF t 100)))) : wp_C_payFor t l f post := by
  have hv := pvl_le a due p
  have hk := kpt_le (v := pvl a due p) hsh
  have hmul : pvl a due p * sh ≤ 100000 * 100 := Nat.mul_le_mul (by omega) hsh
  have h38 : ∀ x, x = nI (pvl a due p) → wp_C_payFor_38 post t l f (nI ch.length) l x := fun x ex => by
    subst ex
    refine ⟨hl, nm_e ⟨hl, ?_⟩⟩
    have e80 : tF (sF t 80 l (nI (pvl a due p))) 80 l = nI (pvl a due p) := (show upd (tF t 80) l (nI (pvl a due p)) l = _ from pk_us)
    have e79' : tF (sF t 80 l (nI (pvl a due p))) 79 l = nI sh := e79
    rw [e80, e79', pk_mul]
    refine nm_r (e' := nI (kpt (pvl a due p) sh)) (pk_div (d := 100) (by omega) (by omega) (by omega)) ⟨by show f < tN t 0; omega, C_takeIn (t := sF t 80 l (nI (pvl a due p))) (by show f < tN t 0; omega) ⟨hl, ?_⟩⟩
    have e80' : tF (finC (sF t 80 l (nI (pvl a due p))) f (nI (kpt (pvl a due p) sh))) 80 l = nI (pvl a due p) := e80
    rw [e80', pk_sub (by omega)]
    refine nm_e ⟨ch.length + 1, ?_⟩
    have main := C_pay73 (t := finC (sF t 80 l (nI (pvl a due p))) f (nI (kpt (pvl a due p) sh))) hl hne hch h8 hcm (par := pvl a due p - kpt (pvl a due p) sh) (by omega) (c0 := tF t 100) k ch.length 0 (tF t 100) (by omega) rfl
    have e : tCo (finC (sF t 80 l (nI (pvl a due p))) f (nI (kpt (pvl a due p) sh))) (tF t 100) = finC (sF t 80 l (nI (pvl a due p))) f (nI (kpt (pvl a due p) sh)) := tCo_id (finC (sF t 80 l (nI (pvl a due p))) f (nI (kpt (pvl a due p) sh)))
    rw [e] at main
    exact main
  refine ⟨hl, by omega, ?_⟩
  rw [hch]
  refine nm_e (itF (nI_ne0 hne (by omega)) ?_)
  rw [e81, e72, e78]
  refine itE (fun q => h38 _ ?_) (fun q => h38 _ ?_)
  · have : a ≤ due := by
      have := (fa_le _ _).mp q
      rw [nI_toInt (by omega), nI_toInt (by omega)] at this
      omega
    unfold pvl; rw [if_pos this]
  · have : ¬ a ≤ due := fun hh => q (nI_le hh (by omega))
    unfold pvl; rw [if_neg this]
    exact pk_div (d := 2) (by omega) (by omega) (by omega)
theorem M_payF {l f D : Nat} (hl : l < 200) (hf : f < 4) (hD : D < 167) (eD : σ 1 0 / 600 = nI D) {ch : List Nat} (hne : 0 < ch.length) (h58 : σ 58 l = nI ch.length) (h59 : ∀ k, k < ch.length → σ 59 (8 * l + k) = nI (ch.getD k 0)) (h8 : ch.length ≤ 8) (hcm : ∀ m ∈ ch, m < 60) {a due p sh : Nat} (ha : a ≤ 101000) (hdu : due ≤ 200000) (hp : p ≤ 100000) (hsh : sh ≤ 100) (e1 : σ 1 0 = nI a) (e49 : σ 49 l = nI due) (e55 : σ 55 l = nI p) (e56 : σ 56 l = nI sh) (e53 : σ 53 l = nI f) {post : MS → Prop} (k : post (sR (finM (up2 σ 57 l (nI (pvl a due p))) f D (nI (kpt (pvl a due p) sh))) 14 (cfin (nI ((pvl a due p - kpt (pvl a due p) sh) / ch.length)) (nI ((pvl a due p - kpt (pvl a due p) sh) % ch.length)) ch (σ 14)))) : wp_M_pays σ (nI l) post := by
  have hv := pvl_le a due p
  have hk := kpt_le (v := pvl a due p) hsh
  have hmul : pvl a due p * sh ≤ 100000 * 100 := Nat.mul_le_mul (by omega) hsh
  have hcl : (nI l).toNatClampNeg = l := nI_clamp (by omega)
  have hvl : vp_in (nI l) 200 := vp_in_nI hl (by omega)
  have h42 : ∀ x, x = nI (pvl a due p) → wp_M_pays_42 post σ (nI l) (nI f) (nI l) x := fun x ex => by
    subst ex
    refine ⟨hvl, ?_⟩
    rw [hcl]
    refine nm_e ⟨hvl, hvl, ?_⟩
    have e57 : (up2 σ 57 l (nI (pvl a due p))) 57 l = nI (pvl a due p) := (show upd (σ 57) l (nI (pvl a due p)) l = _ from pk_us)
    have e56' : (up2 σ 57 l (nI (pvl a due p))) 56 l = nI sh := e56
    rw [e57, e56', pk_mul]
    refine nm_r (e' := nI (kpt (pvl a due p) sh)) (pk_div (d := 100) (by omega) (by omega) (by omega)) (M_comes (σ := up2 σ 57 l (nI (pvl a due p))) hf hD eD ⟨hvl, ?_⟩)
    have e57' : (finM (up2 σ 57 l (nI (pvl a due p))) f D (nI (kpt (pvl a due p) sh))) 57 l = nI (pvl a due p) := e57
    have e58' : (finM (up2 σ 57 l (nI (pvl a due p))) f D (nI (kpt (pvl a due p) sh))) 58 l = nI ch.length := h58
    rw [e57', e58', pk_sub (by omega)]
    refine nm_e ⟨hvl, nI_ne0 hne (by omega), ?_⟩
    rw [pk_div (by omega) hne (by omega)]
    refine nm_e ⟨ch.length + 1, ?_⟩
    have main := M_pay90 (σ := finM (up2 σ 57 l (nI (pvl a due p))) f D (nI (kpt (pvl a due p) sh))) hl hne h58 h59 h8 hcm (par := pvl a due p - kpt (pvl a due p) sh) (by omega) (c0 := σ 14) k ch.length 0 (σ 14) (by omega) rfl
    have e : sR (finM (up2 σ 57 l (nI (pvl a due p))) f D (nI (kpt (pvl a due p) sh))) 14 (σ 14) = finM (up2 σ 57 l (nI (pvl a due p))) f D (nI (kpt (pvl a due p) sh)) := sR_id (finM (up2 σ 57 l (nI (pvl a due p))) f D (nI (kpt (pvl a due p) sh))) 14
    rw [e] at main
    exact main
  refine ⟨hvl, ?_⟩
  rw [hcl, e53]
  refine nm_e ⟨hvl, ?_⟩
  rw [e1, e49, e55]
  refine itE (fun q => ⟨hvl, h42 _ ?_⟩) (fun q => ⟨hvl, h42 _ ?_⟩)
  · have : a ≤ due := by
      have := (fa_le _ _).mp q
      rw [nI_toInt (by omega), nI_toInt (by omega)] at this
      omega
    unfold pvl; rw [if_pos this]
  · have : ¬ a ≤ due := fun hh => q (nI_le hh (by omega))
    unfold pvl; rw [if_neg this]
    exact pk_div (d := 2) (by omega) (by omega) (by omega)
end Arr
