/-! foretold -/
theorem w64 {n : Nat} (h : n < 2 ^ 31) : (nI n).toInt64 = lN n := Int32.toInt64_ofNat' (by rw [show Int32.maxValue.toInt = 2147483647 from by decide]; omega)
theorem o64 (x : Int32) : x.toInt64 = Int64.ofInt x.toInt := by
  have := fb_rng x
  rw [fa_eq64, Int32.toInt_toInt64, Int64.toInt_ofInt, fb_bmodL (by omega) (by omega)]
theorem len_ct (p : Nat → Bool) : ∀ n, ((List.range n).filter p).length = fb_ct p n
  | 0 => rfl
  | n + 1 => by
    rw [List.range_succ, List.filter_append, List.length_append, len_ct p n, fb_ct_succ]
    by_cases h : p n = true
    · rw [if_pos h]; simp [h]
    · rw [if_neg h]; simp [h]
def hpd (σ : MS) (f x : Int32) (m : Nat) : Bool := decide (σ 11 m = f ∧ σ 19 m = 0 ∧ ¬ σ 17 m ≤ x)
def old (σ : MS) (f : Int32) (m : Nat) : Bool := decide (σ 11 m = f ∧ σ 19 m = 0 ∧ ¬ σ 13 m < 70)
def fst6 (mn : Int64) (h p o : Nat) (hc : Nat → Nat) (k : Nat) (c : Int64) : Int64 := ((c + mn) - lN (h * hc k)) - lN (p * o)
def fres (mn : Int64) (h p o D : Nat) (hc : Nat → Nat) : Nat → Nat → Int64 → Int32
  | 0, _, _ => -2
  | d + 1, k, c => if 0 ≤ lg_cmp (fst6 mn h p o hc k c) 0 then fres mn h p o D hc d (k + 1) (fst6 mn h p o hc k c) else nI (D + k)
section Fore
variable {t : CS} {σ : MS}
theorem M_helped {m : Nat} (hm : m < 60) {f x : Int32} {post : Int32 → MS → Prop} (k1 : hpd σ f x m = true → post 1 σ) (k0 : hpd σ f x m = false → post 0 σ) : wp_M_isHelped σ (nI m) f x post := by
  have hv : vp_in (nI m) 60 := vp_in_nI hm (by omega)
  refine ⟨hv, ?_⟩
  rw [nI_clamp (by omega)]
  refine itE (fun q1 => ⟨hv, itE (fun q2 => ⟨hv, itE (fun q3 => k0 (decide_eq_false (fun q => q.2.2 q3))) (fun q3 => k1 (decide_eq_true ⟨q1, q2, q3⟩))⟩) (fun q2 => k0 (decide_eq_false (fun q => q2 q.2.1)))⟩) (fun q1 => k0 (decide_eq_false (fun q => q1 q.1)))
theorem M_old {m : Nat} (hm : m < 60) {f : Int32} {post : Int32 → MS → Prop} (k1 : old σ f m = true → post 1 σ) (k0 : old σ f m = false → post 0 σ) : wp_M_isOld σ (nI m) f post := by
  have hv : vp_in (nI m) 60 := vp_in_nI hm (by omega)
  refine ⟨hv, ?_⟩
  rw [nI_clamp (by omega)]
  refine itE (fun q1 => ⟨hv, itE (fun q2 => ⟨hv, itE (fun q3 => k0 (decide_eq_false (fun q => q.2.2 q3))) (fun q3 => k1 (decide_eq_true ⟨q1, q2, q3⟩))⟩) (fun q2 => k0 (decide_eq_false (fun q => q2 q.2.1)))⟩) (fun q1 => k0 (decide_eq_false (fun q => q1 q.1)))
theorem M_fore155 (hz : IZ t σ) {f p : Nat} (hf : f < 4) (hp : p ≤ 99) (e67 : σ 67 f = nI p) {k78 : MS → Int32 → Int64 → Int64 → Int32 → Prop} {post : Int32 → MS → Prop} {x4 X : Int64} {x8 x9 : Int32} (k : if 0 ≤ lg_cmp (X - lN (p * fb_ct (old σ (nI f)) (tN t 3))) 0 then k78 σ (nI f) x4 (X - lN (p * fb_ct (old σ (nI f)) (tN t 3))) (x8 + 1) else post x9 σ) : ∀ d i, i + d = tN t 3 → wp_M_foretold_155 k78 post (d + 1) σ (nI f) x4 (X - lN (p * fb_ct (old σ (nI f)) i)) x8 x9 (nI i) := by
  have hb3 := hz.b3
  have hvf : vp_in (nI f) 4 := vp_in_nI hf (by omega)
  intro d
  induction d with
  | zero =>
    intro i hi
    have e : i = tN t 3 := by omega
    subst e
    refine itT (by rw [hz.m10]; exact nI_le (Nat.le_refl _) (by omega)) ?_
    refine itE (fun q => nm_e ?_) (fun q => ?_)
    · rw [if_pos q] at k; exact k
    · rw [if_neg q] at k; exact k
  | succ d ih =>
    intro i hi
    refine itF (by rw [hz.m10]; exact nI_ge (by omega) (by omega)) (M_old (by omega) (fun q => itF (by decide) ⟨hvf, nm_e (nm_e ?_)⟩) (fun q => itT rfl (nm_e (nm_e ?_))))
    · have := ih (i + 1) (by omega)
      rw [fb_ct_succ, if_pos q, Nat.mul_add, Nat.mul_one, ← lN_add, ← Int64.sub_sub] at this
      rw [nI_1, nI_clamp (by omega), e67, w64 (by omega)]; exact this
    · have := ih (i + 1) (by omega)
      rw [fb_ct_succ, if_neg (by rw [q]; decide)] at this
      rw [nI_1, Int64.sub_zero]; exact this
theorem M_fore105 (hz : IZ t σ) {f h : Nat} (hf : f < 4) (hh : h ≤ 99) (e66 : σ 66 f = nI h) {k78 : MS → Int32 → Int64 → Int64 → Int32 → Prop} {post : Int32 → MS → Prop} {x4 X : Int64} {x8 x9 : Int32} (k : ∃ nn, wp_M_foretold_155 k78 post nn σ (nI f) x4 (X - lN (h * fb_ct (hpd σ (nI f) (600 * x9)) (tN t 3))) x8 x9 0) : ∀ d i, i + d = tN t 3 → wp_M_foretold_105 k78 post (d + 1) σ (nI f) x4 (X - lN (h * fb_ct (hpd σ (nI f) (600 * x9)) i)) x8 x9 (nI i) := by
  have hb3 := hz.b3
  have hvf : vp_in (nI f) 4 := vp_in_nI hf (by omega)
  intro d
  induction d with
  | zero =>
    intro i hi
    have e : i = tN t 3 := by omega
    subst e
    exact itT (by rw [hz.m10]; exact nI_le (Nat.le_refl _) (by omega)) k
  | succ d ih =>
    intro i hi
    refine itF (by rw [hz.m10]; exact nI_ge (by omega) (by omega)) (M_helped (by omega) (fun q => itF (by decide) ⟨hvf, nm_e (nm_e ?_)⟩) (fun q => itT rfl (nm_e (nm_e ?_))))
    · have := ih (i + 1) (by omega)
      rw [fb_ct_succ, if_pos q, Nat.mul_add, Nat.mul_one, ← lN_add, ← Int64.sub_sub] at this
      rw [nI_1, nI_clamp (by omega), e66, w64 (by omega)]; exact this
    · have := ih (i + 1) (by omega)
      rw [fb_ct_succ, if_neg (by rw [q]; decide)] at this
      rw [nI_1, Int64.sub_zero]; exact this
def hcD (t : CS) (σ : MS) (f D k : Nat) : Nat := fb_ct (hpd σ (nI f) (600 * nI (D + k))) (tN t 3)
theorem M_fore78 (hz : IZ t σ) {f h p D : Nat} (hf : f < 4) (hh : h ≤ 99) (hp : p ≤ 99) (e66 : σ 66 f = nI h) (e67 : σ 67 f = nI p) (eD : σ 1 0 / 600 = nI D) {post : Int32 → MS → Prop} {mn : Int64} : ∀ d k c, k + d = 401 → post (fres mn h p (fb_ct (old σ (nI f)) (tN t 3)) D (hcD t σ f D) d k c) σ → wp_M_foretold_78 post (d + 1) σ (nI f) mn c (nI k) := by
  intro d
  induction d with
  | zero =>
    intro k c hk hp
    exact itT (by rw [show k = 401 by omega]; decide) hp
  | succ d ih =>
    intro k c hk hpp
    refine itF (nI_nlt (a := 400) (b := k) (by omega) (by omega)) ?_
    show ∀ x20 : Int32, x20 = (σ 1 0 / 600 + nI k) → _
    rw [eD, nI_add]
    refine nm_e (nm_e ⟨tN t 3 + 1, ?_⟩)
    have h105 := M_fore105 hz hf hh e66 (k78 := wp_M_foretold_78 post (d + 1)) (post := post) (x4 := mn) (X := c + mn) (x8 := nI k) (x9 := nI (D + k)) ⟨tN t 3 + 1, by
      have h155 := M_fore155 hz hf hp e67 (k78 := wp_M_foretold_78 post (d + 1)) (post := post) (x4 := mn) (X := (c + mn) - lN (h * fb_ct (hpd σ (nI f) (600 * nI (D + k))) (tN t 3))) (x8 := nI k) (x9 := nI (D + k)) ?_ (tN t 3) 0 (by omega)
      · rw [show fb_ct (old σ (nI f)) 0 = 0 from rfl, Nat.mul_zero, show lN 0 = (0 : Int64) from rfl, Int64.sub_zero] at h155
        exact h155
      · refine itE (fun q => ?_) (fun q => ?_)
        · rw [nI_1]
          refine ih (k + 1) _ (by omega) ?_
          have e : fres mn h p (fb_ct (old σ (nI f)) (tN t 3)) D (hcD t σ f D) (d + 1) k c = fres mn h p (fb_ct (old σ (nI f)) (tN t 3)) D (hcD t σ f D) d (k + 1) (fst6 mn h p (fb_ct (old σ (nI f)) (tN t 3)) (hcD t σ f D) k c) := if_pos q
          rw [e] at hpp; exact hpp
        · have e : fres mn h p (fb_ct (old σ (nI f)) (tN t 3)) D (hcD t σ f D) (d + 1) k c = nI (D + k) := if_neg q
          rw [e] at hpp; exact hpp⟩ (tN t 3) 0 (by omega)
    rw [show fb_ct (hpd σ (nI f) (600 * nI (D + k))) 0 = 0 from rfl, Nat.mul_zero, show lN 0 = (0 : Int64) from rfl, Int64.sub_zero] at h105
    exact h105
def sm6 (σ : MS) (f : Nat) : Nat → Int64
  | 0 => 0
  | i + 1 => sm6 σ f i + (σ 68 (167 * f + i)).toInt64
theorem sm6_eq (f : Nat) : ∀ i, sm6 σ f i = Int64.ofInt (fb_si (fun d => (σ 68 (167 * f + d)).toInt) i)
  | 0 => rfl
  | i + 1 => by rw [fb_si_succ, Int64.ofInt_add, ← o64, ← sm6_eq f i]; rfl
def mean (A : Int32) (D : Nat) : Int64 := if D = 0 then 0 else A.toInt64 / lN D
theorem M_fore (h : Inv t σ) {f : Nat} (hf : f < 4) {hp pn D : Nat} (e66 : σ 66 f = nI hp) (e67 : σ 67 f = nI pn) (h66 : hp ≤ 99) (h67 : pn ≤ 99) (eD : σ 1 0 / 600 = nI D) (hF : IFu t σ D) {post : Int32 → MS → Prop} (k : post (fres (mean (tF t 6 f) D) hp pn (fb_ct (old σ (nI f)) (tN t 3)) D (hcD t σ f D) 400 1 (σ 63 f).toInt64) σ) : wp_M_foretold σ (nI f) post := by
  have hD := hF.1
  have hcf : (nI f).toNatClampNeg = f := nI_clamp (by omega)
  have hvf : vp_in (nI f) 4 := vp_in_nI hf (by omega)
  have h64 : ∀ mn, mn = mean (tF t 6 f) D → wp_M_foretold_64 post σ (nI f) mn := fun mn e => by
    subst e
    refine ⟨hvf, nm_e ⟨401, ?_⟩⟩
    rw [hcf]
    exact M_fore78 h.z hf h66 h67 e66 e67 eD 400 1 _ (by omega) k
  have eA : sm6 σ f D = (tF t 6 f).toInt64 := by
    rw [sm6_eq, (hF.2 f hf).2.2.2.2.2.2.2.2.1, o64]
  have main : ∀ d i, i + d = D → wp_M_foretold_14 post (d + 1) σ (nI f) (sm6 σ f i) (nI i) := by
    intro d
    induction d with
    | zero =>
      intro i hi
      have e : i = D := by omega
      subst e
      show if σ 1 0 / 600 ≤ nI i then _ else _
      rw [eD]
      refine itT (nI_le (Nat.le_refl _) (by omega)) ?_
      show if σ 1 0 / 600 = 0 then _ else _
      rw [eD]
      refine itE (fun q => h64 _ ?_) (fun q => ?_)
      · have : i = 0 := (nI_eq (b := 0) (by omega) (by omega)).mp q
        unfold mean; rw [if_pos this]
      · have hi0 : i ≠ 0 := fun e => q (by rw [e]; rfl)
        show ¬ (σ 1 0 / 600).toInt64 = 0 ∧ wp_M_foretold_64 post σ (nI f) (sm6 σ f i / (σ 1 0 / 600).toInt64)
        rw [eD, w64 (by omega)]
        refine ⟨fun q2 => hi0 ((fb_lN_inj (b := 0) (by omega) (by omega)).mp q2), h64 _ ?_⟩
        unfold mean; rw [if_neg hi0, eA]
    | succ d ih =>
      intro i hi
      show if σ 1 0 / 600 ≤ nI i then _ else _
      rw [eD]
      refine itF (nI_ge (by omega) (by omega)) ?_
      rw [i167, nI_clamp (by omega)]
      refine ⟨vp_in_nI (by omega) (by omega), nm_e (nm_e ?_)⟩
      rw [nI_1]
      exact ih (i + 1) (by omega)
  exact M_fe hf ⟨D + 1, main D 0 (by omega)⟩
theorem C_helpAt (hn : IMn t σ) {m : Nat} (hm : m < tN t 3) {f x : Int32} (hf : σ 11 m = f) {post : Int32 → CS → Prop} (k1 : hpd σ f x m = true → post 1 t) (k0 : hpd σ f x m = false → post 0 t) : wp_Man_getsHelpAt t m x post := by
  obtain ⟨n1, n2, n3, n4, n5, n6, n7, n8, n9, -⟩ := hn.1 m hm
  refine ⟨hm, hm, ?_⟩
  rw [n7]
  refine itE (fun q => itT rfl (k0 (decide_eq_false (fun a => a.2.2 q)))) (fun q => itF (by decide) ⟨hm, ?_⟩)
  rw [n9]
  exact itE (fun q2 => k1 (decide_eq_true ⟨hf, q2, q⟩)) (fun q2 => k0 (decide_eq_false (fun a => q2 a.2.1)))
theorem C_pens (hn : IMn t σ) {m : Nat} (hm : m < tN t 3) {f : Int32} (hf : σ 11 m = f) {post : Int32 → CS → Prop} (k1 : old σ f m = true → post 1 t) (k0 : old σ f m = false → post 0 t) : wp_Man_getsPension t m post := by
  obtain ⟨n1, n2, n3, n4, n5, n6, n7, n8, n9, -⟩ := hn.1 m hm
  refine ⟨hm, ?_⟩
  rw [n3, n9]
  exact itE (fun q => k0 (decide_eq_false (fun a => a.2.2 q))) (fun q => itE (fun q2 => k1 (decide_eq_true ⟨hf, q2, q⟩)) (fun q2 => k0 (decide_eq_false (fun a => q2 a.2.1))))
theorem flt_s {p : Nat → Bool} {i : Nat} : (List.range (i + 1)).filter p = (List.range i).filter p ++ (if p i then [i] else []) := by
  rw [List.range_succ, List.filter_append]
  congr 1
  by_cases h : p i = true
  · rw [if_pos h]; simp [h]
  · rw [if_neg h]; simp [h]
theorem C_hurtOld (hz : IZ t σ) (hn : IMn t σ) {f : Nat} (hf : f < 4) {mc ms k5 k6 : Nat} {c5 c6 : List Nat} {z : Int32} (h6 : c6.length ≤ k6) (hk6 : k6 ≤ 400) (hmc : 400 ≤ mc) (hms : 1600 ≤ ms) {post : Int32 → CS → Prop} (k : ∀ k6', ((List.range (tN t 3)).filter (hpd σ (nI f) (tF t 171 0))).length ≤ k6' → k6' ≤ 400 → post (nI (fb_ct (old σ (nI f)) (tN t 3))) (tW t c5 ((List.range (tN t 3)).filter (hpd σ (nI f) (tF t 171 0))) k5 k6' z)) : wp_C_gatherHurtAndCountOld mc ms (tW t c5 c6 k5 k6 z) f post := by
  have hb3 := hz.b3
  have hl : ∀ c6 k6, (tT (tW t c5 c6 k5 k6 z) 1).length = tN t 3 := fun c6 k6 => by
    show (tT t 1).length = _
    rw [hz.mn, List.length_range]
  have main : ∀ d i k6 uc us, i + d = tN t 3 → ((List.range i).filter (hpd σ (nI f) (tF t 171 0))).length ≤ k6 → k6 ≤ 400 → uc ≤ k6 → us ≤ 4 * k6 → wp_C_gatherHurtAndCountOld_11 mc ms post (d + 1) uc us (tW t c5 ((List.range i).filter (hpd σ (nI f) (tF t 171 0))) k5 k6 z) f (nI (fb_ct (old σ (nI f)) i)) (nI i) := by
    intro d
    induction d with
    | zero =>
      intro i k6 uc us hi h1 h2 _ _
      have e : i = tN t 3 := by omega
      refine itT ?_ ?_
      · rw [hl, e]; exact nI_le (Nat.le_refl _) (by omega)
      · rw [e] at h1 ⊢
        exact k k6 h1 h2
    | succ d ih =>
      intro i k6 uc us hi h1 h2 h3 h4
      have hx : i < tN t 3 := by omega
      have hlen : ((List.range i).filter (hpd σ (nI f) (tF t 171 0))).length ≤ 60 := Nat.le_trans (List.length_filter_le _ _) (by rw [List.length_range]; omega)
      refine itF ?_ ⟨?_, ?_, ?_⟩
      · rw [hl]; exact nI_ge (by omega) (by omega)
      · rw [hl]; exact vp_in_nI (by omega) (by omega)
      · rw [hl]; omega
      refine nm_r (e' := i) ?_ ⟨hx, by show f < tN t 0; rw [hz.1]; exact hf, ?_⟩
      · show (tT t 1).getD (nI i).toNatClampNeg 0 = i
        rw [hz.mn, nI_clamp (by omega), rng_getD hx]
      have n1 := (hn.1 i hx).1
      have nxt : ∀ k6 uc us, ((List.range (i + 1)).filter (hpd σ (nI f) (tF t 171 0))).length ≤ k6 → k6 ≤ 400 → uc ≤ k6 → us ≤ 4 * k6 → ∀ c, c = nI (fb_ct (old σ (nI f)) (i + 1)) → wp_C_gatherHurtAndCountOld_83 mc ms (wp_C_gatherHurtAndCountOld_11 mc ms post (d + 1)) post uc us (tW t c5 ((List.range (i + 1)).filter (hpd σ (nI f) (tF t 171 0))) k5 k6 z) f c (nI i) := fun k6 uc us g1 g2 g3 g4 c ec => by
        subst ec
        refine nm_e ?_
        rw [nI_1]
        exact ih (i + 1) k6 uc us (by omega) g1 g2 g3 g4
      have n72 : σ 11 i = nI f → ∀ k6 uc us, ((List.range (i + 1)).filter (hpd σ (nI f) (tF t 171 0))).length ≤ k6 → k6 ≤ 400 → uc ≤ k6 → us ≤ 4 * k6 → wp_C_gatherHurtAndCountOld_72 mc ms (wp_C_gatherHurtAndCountOld_11 mc ms post (d + 1)) post uc us (tW t c5 ((List.range (i + 1)).filter (hpd σ (nI f) (tF t 171 0))) k5 k6 z) f (nI (fb_ct (old σ (nI f)) i)) (nI i) i := fun ef k6 uc us g1 g2 g3 g4 => by
        refine ⟨hx, C_pens (t := tW t c5 _ k5 k6 z) hn hx ef (fun q => itF (by decide) (nm_e (nxt k6 uc us g1 g2 g3 g4 _ ?_))) (fun q => itT rfl (nxt k6 uc us g1 g2 g3 g4 _ ?_))⟩
        · rw [fb_ct_succ, if_pos q, nI_1]
        · rw [fb_ct_succ, if_neg (by rw [q]; decide)]; rfl
      show if tF t 97 i = nI f then _ else _
      rw [n1]
      refine itE (fun q1 => ?_) (fun q1 => ?_)
      · refine C_helpAt (t := tW t c5 _ k5 k6 z) hn hx q1 (x := tF t 171 0) (fun q => itF (by decide) ⟨by show k6 < 2 ^ 20; omega, ?_, hx, ?_, ?_⟩) (fun q => itT rfl ?_)
        · intro x hxx
          have hxx : x ∈ (List.range i).filter (hpd σ (nI f) (tF t 171 0)) := hxx
          have := List.mem_range.mp (List.mem_filter.mp hxx).1
          show x < tN t 3
          omega
        · have hc := capN_pot h1
          have ho := capN_ok h1 h2 (by omega)
          show (uc + aC ((List.range i).filter (hpd σ (nI f) (tF t 171 0))).length k6 ≤ mc ∧ us + aS ((List.range i).filter (hpd σ (nI f) (tF t 171 0))).length k6 ≤ ms)
          constructor <;> omega
        · have q : hpd σ (nI f) (tF t 171 0) i = true := q
          rintro c16 s17 rfl rfl t18 rfl
          rw [tW_a6]
          have hc := capN_pot h1
          have ho := capN_ok h1 h2 (by omega)
          have e2 : (List.range (i + 1)).filter (hpd σ (nI f) (tF t 171 0)) = (List.range i).filter (hpd σ (nI f) (tF t 171 0)) ++ [i] := by
            rw [flt_s, if_pos q]
          rw [← e2]
          refine n72 q1 _ _ _ ?_ ho.2 ?_ ?_
          · rw [e2, List.length_append]; exact ho.1
          · show uc + aC ((List.range i).filter (hpd σ (nI f) (tF t 171 0))).length k6 ≤ _
            have := hc.2.1
            omega
          · show us + aS ((List.range i).filter (hpd σ (nI f) (tF t 171 0))).length k6 ≤ _
            have := hc.2.2
            omega
        · have q : hpd σ (nI f) (tF t 171 0) i = false := q
          have e2 : (List.range (i + 1)).filter (hpd σ (nI f) (tF t 171 0)) = (List.range i).filter (hpd σ (nI f) (tF t 171 0)) := by
            rw [flt_s, if_neg (by rw [q]; decide), List.append_nil]
          rw [← e2] at h1 ⊢
          exact n72 q1 k6 uc us h1 h2 h3 h4
      · have e2 : (List.range (i + 1)).filter (hpd σ (nI f) (tF t 171 0)) = (List.range i).filter (hpd σ (nI f) (tF t 171 0)) := by
          rw [flt_s, if_neg (fun q => q1 (of_decide_eq_true q).1), List.append_nil]
        rw [← e2] at h1 ⊢
        refine nxt k6 uc us h1 h2 h3 h4 _ ?_
        rw [fb_ct_succ, if_neg (fun q => q1 (of_decide_eq_true q).1)]; rfl
  refine ⟨by show c6.length < 2 ^ 31; omega, ?_⟩
  rintro t20 rfl
  rw [tW_c6]
  exact ⟨tN t 3 + 1, main (tN t 3) 0 k6 0 0 (by omega) (by simp) hk6 (by omega) (by omega)⟩
theorem C_still {L : List Nat} (hL : tT t 6 = L) (hm : ∀ m ∈ L, m < tN t 3) (hl : L.length ≤ 60) (hn : ∀ m, m < tN t 3 → tF t 103 m = σ 17 m) {x : Int32} {post : Int32 → CS → Prop} (k : post (nI (L.filter (fun m => decide (¬ σ 17 m ≤ x))).length) t) : wp_C_stillHurt t x post := by
  have main : ∀ d i, i + d = L.length → wp_C_stillHurt_4 post (d + 1) t x (nI ((L.take i).filter (fun m => decide (¬ σ 17 m ≤ x))).length) (nI i) := by
    intro d
    induction d with
    | zero =>
      intro i hi
      have e : i = L.length := by omega
      refine itT ?_ ?_
      · rw [hL, e]; exact nI_le (Nat.le_refl _) (by omega)
      · rw [e, List.take_length]; exact k
    | succ d ih =>
      intro i hi
      have hil : i < L.length := by omega
      refine itF ?_ ⟨?_, ?_, ?_⟩
      · rw [hL]; exact nI_ge hil (by omega)
      · rw [hL]; exact vp_in_nI hil (by omega)
      · rw [hL]; omega
      have hx := hm _ (getD_mem hil)
      refine nm_r (e' := L.getD i 0) (by rw [hL, nI_clamp (by omega)]) ⟨hx, hx, ?_⟩
      rw [hn _ hx]
      have hI := ih (i + 1) (by omega)
      rw [filter_snoc hil] at hI
      refine itE (fun q => itT rfl (nm_e ?_)) (fun q => itF (by decide) (nm_e (nm_e ?_)))
      · rw [if_neg (by intro a; exact (of_decide_eq_true a) q), List.append_nil] at hI
        rw [nI_1]; exact hI
      · rw [if_pos (decide_eq_true q), List.length_append] at hI
        rw [nI_1, nI_1]; exact hI
  exact ⟨L.length + 1, main _ 0 (by omega)⟩
end Fore
