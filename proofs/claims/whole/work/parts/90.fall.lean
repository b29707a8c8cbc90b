/-! fall -/
theorem cl_c (r : Int32) {c : Int32} (hc : 0 ≤ c.toInt) : 0 ≤ (cl r c).toInt ∧ (cl r c).toInt ≤ c.toInt := by
  have l0 : (0 : Int32).toInt = 0 := by decide
  unfold cl
  by_cases h : r < c
  · rw [if_pos h]
    have a := (fa_lt _ _).mp h
    by_cases h2 : (0 : Int32) < r
    · rw [if_pos h2]
      have b := (fa_lt _ _).mp h2
      omega
    · rw [if_neg h2]; omega
  · rw [if_neg h]
    by_cases h2 : (0 : Int32) < c
    · rw [if_pos h2]; omega
    · rw [if_neg h2]; omega
theorem M_fine {r c : Int32} (hc : 0 ≤ c.toInt) {A : Prop} (hA : A) {X : Int32 → Prop} (k : X (cl r c)) : if 0 ≤ r then (A ∧ (if r ≤ c then X r else (A ∧ X c))) else X 0 := by
  have l0 : (0 : Int32).toInt = 0 := by decide
  unfold cl at k
  by_cases h : r < c
  · rw [if_pos h] at k
    by_cases h2 : (0 : Int32) < r
    · rw [if_pos h2] at k
      exact itT (Int32.le_of_lt h2) ⟨hA, itT (Int32.le_of_lt h) k⟩
    · rw [if_neg h2] at k
      refine itE (fun q => ⟨hA, itT (Int32.le_of_lt h) ?_⟩) (fun _ => k)
      rw [Int32.le_antisymm (Int32.not_lt.mp h2) q]; exact k
  · rw [if_neg h] at k
    have hcr : c ≤ r := Int32.not_lt.mp h
    have h0r : (0 : Int32) ≤ r := Int32.le_trans ((fa_le _ _).mpr (by rw [l0]; exact hc)) hcr
    have k2 : X c := by
      by_cases h2 : (0 : Int32) < c
      · rw [if_pos h2] at k; exact k
      · rw [if_neg h2] at k
        have : c = 0 := Int32.le_antisymm (Int32.not_lt.mp h2) ((fa_le _ _).mpr (by rw [l0]; exact hc))
        rw [this]; exact k
    refine itT h0r ⟨hA, itE (fun q => ?_) (fun _ => ⟨hA, k2⟩)⟩
    rw [Int32.le_antisymm q hcr]; exact k2
def ffo (V : Nat → Int32) : List Nat → (Nat → Int32) → Int32 → (Nat → Int32) × Int32
  | [], c, a => (c, a)
  | m :: r, c, a => ffo V r (upd c m (c m - cl (V m) (c m))) (a + cl (V m) (c m))
def okc (c : Nat → Int32) (a : Int32) (n : Nat) (B : Int) : Prop := (∀ m, m < 60 → 0 ≤ (c m).toInt) ∧ 0 ≤ a.toInt ∧ fb_si (fun m => (c m).toInt) 60 + a.toInt = B ∧ ∀ m, n ≤ m → c m = 0
theorem okc_step {c : Nat → Int32} {a : Int32} {n : Nat} {B : Int} (hB : B < 2147483648) (hn : n ≤ 60) (h : okc c a n B) {m : Nat} (hm : m < n) (v : Int32) : okc (upd c m (c m - cl v (c m))) (a + cl v (c m)) n B := by
  obtain ⟨h1, h2, h3, h4⟩ := h
  obtain ⟨k1, k2⟩ := cl_c v (h1 m (by omega))
  have hp := si_part (f := fun m => (c m).toInt) 60 h1 m (by omega)
  have hp : (c m).toInt ≤ fb_si (fun m => (c m).toInt) 60 := hp
  have hr := fb_rng (c m)
  have e1 : (c m - cl v (c m)).toInt = (c m).toInt - (cl v (c m)).toInt := fb_subI (by omega) (by omega)
  have e2 : (a + cl v (c m)).toInt = a.toInt + (cl v (c m)).toInt := fb_addI (by omega) (by omega)
  refine ⟨fun k hk => ?_, by omega, ?_, fun k hk => ?_⟩
  · by_cases e : k = m
    · subst e; rw [pk_us, e1]; omega
    · rw [pk_un e]; exact h1 k hk
  · rw [si_upd (by omega), e1, e2]; omega
  · rw [pk_un (by omega)]; exact h4 k hk
theorem ffo_ok {V : Nat → Int32} {n : Nat} (hn : n ≤ 60) {B : Int} (hB : B < 2147483648) : ∀ (ms : List Nat) (c : Nat → Int32) (a : Int32), (∀ m ∈ ms, m < n) → okc c a n B → okc (ffo V ms c a).1 (ffo V ms c a).2 n B
  | [], _, _, _, h => h
  | m :: r, c, a, hm, h => ffo_ok hn hB r _ _ (fun x hx => hm x (List.mem_cons_of_mem _ hx)) (okc_step hB hn h (hm m List.mem_cons_self) (V m))
theorem ffo_drop {V : Nat → Int32} {ch : List Nat} {i : Nat} (hi : i < ch.length) (c : Nat → Int32) (a : Int32) : ffo V (ch.drop i) c a = ffo V (ch.drop (i + 1)) (upd c (ch.getD i 0) (c (ch.getD i 0) - cl (V (ch.getD i 0)) (c (ch.getD i 0)))) (a + cl (V (ch.getD i 0)) (c (ch.getD i 0))) := by
  have hd : ch.drop i = ch.getD i 0 :: ch.drop (i + 1) := by
    have e : ch.getD i 0 = ch[i] := by rw [List.getD_eq_getElem?_getD, List.getElem?_eq_getElem hi]; rfl
    rw [e]; exact List.drop_eq_getElem_cons hi
  rw [hd]; rfl
def tCo (t : CS) (c : Nat → Int32) : CS := (sR t.1 100 c, t.2)
theorem tCo_set (t : CS) (c P Q : Nat → Int32) (d : Int32) (j : Nat) (v : Int32) : sF (tS (tCo t c) P Q d) 100 j v = tS (tCo t (upd c j v)) P Q d := by
  unfold tS tCo sF
  refine Prod.ext ?_ rfl
  funext x
  show (if x = 100 then upd c j v else if x = 162 then upd (t.1 162) 4 d else if x = 100 then c else t.1 x) = (if x = 162 then upd (t.1 162) 4 d else if x = 100 then upd c j v else t.1 x)
  by_cases h : x = 100
  · subst h; rfl
  · rw [if_neg h, if_neg h, if_neg h]
theorem fmc_H {σ : MS} {H : Nat → Int32} {f : Int32} {n : Nat} (hH : ∀ m, m < n → H m = σ 17 m ∨ σ 1 0 < σ 16 m) (l : Nat) (v : Int32) : fmc (sR (up2 σ 50 l v) 17 H) f n = fmc σ f n := by
  unfold fmc
  refine fb_ct_cong (fun k hk => ?_)
  show decide (σ 11 k = f ∧ ¬ σ 1 0 < σ 16 k ∧ ¬ σ 1 0 < H k ∧ σ 19 k = 0) = _
  rcases hH k hk with e | e
  · rw [e]
  · rw [decide_eq_false (fun q => q.2.1 e), decide_eq_false (fun q => q.2.1 e)]
theorem nmv_cong {t : CS} {σ σ' : MS} {f : Int32} {l m : Option Nat} (h1 : σ' 1 = σ 1) (h6 : σ' 6 = σ 6) (h7 : σ' 7 = σ 7) (h12 : σ' 12 = σ 12) (h13 : σ' 13 = σ 13) (h15 : σ' 15 = σ 15) (h44 : σ' 44 = σ 44) (h45 : σ' 45 = σ 45) (h48 : σ' 48 = σ 48) (h49 : σ' 49 = σ 49) (hf : fmc σ' f (tN t 3) = fmc σ f (tN t 3)) (hr : ∀ x, rn σ' x = rn σ x) (i : Nat) : nmv t σ' f l m i = nmv t σ f l m i := by
  unfold nmv ltv
  rw [h1, h6, h7, h12, h13, h15, h44, h45, h48, h49, hf, hr]
theorem nmv_H {t : CS} {σ : MS} {H : Nat → Int32} {f : Int32} {l : Nat} {m : Option Nat} (hH : ∀ m, m < tN t 3 → H m = σ 17 m ∨ σ 1 0 < σ 16 m) (v : Int32) (l2 : Option Nat) : ∀ i, i < 13 → nmv t (sR (up2 σ 50 l v) 17 H) f l2 m i = nmv t σ f l2 m i := fun i _ =>
  nmv_cong (σ := σ) (σ' := sR (up2 σ 50 l v) 17 H) rfl rfl rfl rfl rfl rfl rfl rfl rfl rfl (fmc_H hH l v) (fun _ => rfl) i
theorem svv_H {t : CS} {σ : MS} {H : Nat → Int32} {f u : Int32} {l : Nat} {l2 m : Option Nat} (hH : ∀ m, m < tN t 3 → H m = σ 17 m ∨ σ 1 0 < σ 16 m) (v : Int32) : svv t (sR (up2 σ 50 l v) 17 H) f u l2 m = svv t σ f u l2 m := by
  unfold svv
  show (match frc (inF σ f u (σ 1 0 / 600) (σ 1 0 / 600)) (tN t 1) with | none => unw σ u l2 | some o => lwv t (nmv t (sR (up2 σ 50 l v) 17 H) f l2 m) o) = _
  cases frc (inF σ f u (σ 1 0 / 600) (σ 1 0 / 600)) (tN t 1) with
  | none => rfl
  | some o => exact evk_nm (nmv_H hH v l2) _ _ _ _
section Fall
variable {t : CS} {σ : MS}
theorem Core_co' (h : Core t σ) {c c1 : Nat → Int32} (hc : ∀ m, tN t 3 ≤ m → c m = 0) (h1 : ∀ m, m < tN t 3 → c1 m = c m) : Core (tCo t c1) (sR σ 14 c) := by
  obtain ⟨hz, hp, hr, hm, hn, hlw, hld⟩ := h
  refine ⟨hz, hp, hr, hm, ⟨fun i hi => ?_, fun i hi => ?_⟩, hlw, hld⟩
  · obtain ⟨n1, n2, n3, n4, n5⟩ := hn.1 i hi
    exact ⟨n1, n2, n3, h1 i hi, n5⟩
  · obtain ⟨z1, z2⟩ := hn.2 i hi
    exact ⟨hc i hi, z2⟩
theorem Core_co (h : Core t σ) {c : Nat → Int32} (hc : ∀ m, tN t 3 ≤ m → c m = 0) : Core (tCo t c) (sR σ 14 c) := Core_co' h hc (fun _ _ => rfl)
theorem C_fines (h : Core t σ) {l f : Nat} (hl : l < tN t 2) (hf : f < tN t 0) {ch : List Nat} (hch : tT t (l + 11) = ch) (h8 : ch.length ≤ 8) (hcm : ∀ m ∈ ch, m < tN t 3) {V : Nat → Int32} (hV : ∀ m, m < tN t 3 → svv t σ (nI f) 3 (some l) (some m) = V m) {B : Int} (hB : B < 2147483648) {post : Int32 → CS → Prop} {c0 : Nat → Int32} {a0 : Int32} (k : ∀ P Q d c1, (∀ m, m < tN t 3 → c1 m = (ffo V ch c0 a0).1 m) → post (ffo V ch c0 a0).2 (finC (tS (tCo t c1) P Q d) f (ffo V ch c0 a0).2)) : ∀ d i c a P Q dd c1, i + d = ch.length → okc c a (tN t 3) B → ffo V (ch.drop i) c a = ffo V ch c0 a0 → (∀ m, m < tN t 3 → c1 m = c m) → wp_C_takeFines_20 post (d + 1) (tS (tCo t c1) P Q dd) l f a (nI i) := by
  have hb3 := h.1.b3
  intro d
  induction d with
  | zero =>
    intro i c a P Q dd c1 hi hok he h1
    have e : i = ch.length := by omega
    rw [List.drop_eq_nil_of_le (by omega)] at he
    have he : (c, a) = ffo V ch c0 a0 := he
    refine ⟨hl, by show l + 11 < tN t 2 + 11; omega, itT ?_ ⟨hf, C_takeIn (t := tS (tCo t c1) P Q dd) hf ?_⟩⟩
    · show nI (tT t (l + 11)).length ≤ nI i
      rw [hch, e]; exact nI_le (Nat.le_refl _) (by omega)
    · have := k P Q dd c1
      rw [← he] at this
      exact this h1
  | succ d ih =>
    intro i c a P Q dd c1 hi hok he h1
    have hil : i < ch.length := by omega
    have hj := hcm _ (getD_mem hil)
    refine ⟨hl, by show l + 11 < tN t 2 + 11; omega, itF ?_ ⟨?_, ?_, ?_⟩⟩
    · show ¬ nI (tT t (l + 11)).length ≤ nI i
      rw [hch]; exact nI_ge hil (by omega)
    · show vp_in (nI i) (tT t (l + 11)).length
      rw [hch]; exact vp_in_nI hil (by omega)
    · show (tT t (l + 11)).length < 2 ^ 31
      rw [hch]; omega
    refine nm_r (e' := ch.getD i 0) ?_ ⟨hj, hf, ?_⟩
    · show (tT t (l + 11)).getD (nI i).toNatClampNeg 0 = _
      rw [hch, nI_clamp (by omega)]
    refine C_says' (Core_co' h hok.2.2.2 h1) (l := some l) (m := some (ch.getD i 0)) hl hj (fun P' Q' d' => ?_)
    have es : svv (tCo t c1) (sR σ 14 c) (nI f) 3 (some l) (some (ch.getD i 0)) = V (ch.getD i 0) := hV _ hj
    rw [es]
    have ec : tF (tS (tCo t c1) P' Q' d') 100 (ch.getD i 0) = c (ch.getD i 0) := h1 _ hj
    have ec0 : tF (tS (tCo t c1) P Q dd) 100 (ch.getD i 0) = c (ch.getD i 0) := h1 _ hj
    rw [ec, ec0]
    refine nm_r (e' := cl (V (ch.getD i 0)) (c (ch.getD i 0))) rfl ⟨hj, ?_⟩
    refine nm_r (e' := tS (tCo t (upd c1 (ch.getD i 0) (c (ch.getD i 0) - cl (V (ch.getD i 0)) (c (ch.getD i 0))))) P' Q' d') (tCo_set _ _ _ _ _ _ _) ?_
    refine nm_e ?_
    rintro x17 rfl
    rw [nI_1]
    refine ih (i + 1) _ _ P' Q' d' (upd c1 (ch.getD i 0) (c (ch.getD i 0) - cl (V (ch.getD i 0)) (c (ch.getD i 0)))) (by omega) (okc_step hB hb3 hok hj _) ?_ (fun m hm => ?_)
    · rw [← ffo_drop hil]; exact he
    · by_cases e : m = ch.getD i 0
      · rw [e, pk_us, pk_us]
      · rw [pk_un e, pk_un e]; exact h1 m hm
theorem finM_sR {σ : MS} {f D : Nat} {x : Int32} {k : Nat} {P : Nat → Int32} (h1 : k ≠ 63) (h2 : k ≠ 64) (h3 : k ≠ 68) : finM (sR σ k P) f D x = sR (finM σ f D x) k P := by
  funext j
  have e63 : sR σ k P 63 = σ 63 := if_neg (fun q => h1 q.symm)
  have e64 : sR σ k P 64 = σ 64 := if_neg (fun q => h2 q.symm)
  have e68 : sR σ k P 68 = σ 68 := if_neg (fun q => h3 q.symm)
  show (if j = 68 then upd (sR σ k P 68) (167 * f + D) (sR σ k P 68 (167 * f + D) + x) else if j = 64 then upd (sR σ k P 64) f (sR σ k P 64 f + x) else if j = 63 then upd (sR σ k P 63) f (sR σ k P 63 f + x) else sR σ k P j) = (if j = k then P else if j = 68 then upd (σ 68) (167 * f + D) (σ 68 (167 * f + D) + x) else if j = 64 then upd (σ 64) f (σ 64 f + x) else if j = 63 then upd (σ 63) f (σ 63 f + x) else σ j)
  rw [e63, e64, e68]
  by_cases h : j = k
  · rw [if_pos h, if_neg (by omega), if_neg (by omega), if_neg (by omega)]
    exact if_pos h
  · rw [if_neg h]
    by_cases q1 : j = 68
    · rw [if_pos q1, if_pos q1]
    rw [if_neg q1, if_neg q1]
    by_cases q2 : j = 64
    · rw [if_pos q2, if_pos q2]
    rw [if_neg q2, if_neg q2]
    by_cases q3 : j = 63
    · rw [if_pos q3, if_pos q3]
    rw [if_neg q3, if_neg q3]
    exact if_neg h
theorem finM_two (σ : MS) (f D : Nat) (a x : Int32) : finM (finM σ f D a) f D x = finM σ f D (a + x) := by
  funext j
  show (if j = 68 then upd (upd (σ 68) (167 * f + D) (σ 68 (167 * f + D) + a)) (167 * f + D) (upd (σ 68) (167 * f + D) (σ 68 (167 * f + D) + a) (167 * f + D) + x) else if j = 64 then upd (upd (σ 64) f (σ 64 f + a)) f (upd (σ 64) f (σ 64 f + a) f + x) else if j = 63 then upd (upd (σ 63) f (σ 63 f + a)) f (upd (σ 63) f (σ 63 f + a) f + x) else finM σ f D a j) = (if j = 68 then upd (σ 68) (167 * f + D) (σ 68 (167 * f + D) + (a + x)) else if j = 64 then upd (σ 64) f (σ 64 f + (a + x)) else if j = 63 then upd (σ 63) f (σ 63 f + (a + x)) else σ j)
  rw [pk_us, pk_us, pk_us, fa_upd_twice, fa_upd_twice, fa_upd_twice, Int32.add_assoc, Int32.add_assoc, Int32.add_assoc]
  by_cases q1 : j = 68
  · rw [if_pos q1, if_pos q1]
  rw [if_neg q1, if_neg q1]
  by_cases q2 : j = 64
  · rw [if_pos q2, if_pos q2]
  rw [if_neg q2, if_neg q2]
  by_cases q3 : j = 63
  · rw [if_pos q3, if_pos q3]
  rw [if_neg q3, if_neg q3]
  show (if j = 68 then _ else if j = 64 then _ else if j = 63 then _ else σ j) = σ j
  rw [if_neg q1, if_neg q2, if_neg q3]
theorem finM_0 (σ : MS) (f D : Nat) : finM σ f D 0 = σ := by
  funext j
  show (if j = 68 then upd (σ 68) (167 * f + D) (σ 68 (167 * f + D) + 0) else if j = 64 then upd (σ 64) f (σ 64 f + 0) else if j = 63 then upd (σ 63) f (σ 63 f + 0) else σ j) = σ j
  rw [Int32.add_zero, Int32.add_zero, Int32.add_zero, fa_upd_same rfl, fa_upd_same rfl, fa_upd_same rfl]
  by_cases q1 : j = 68
  · rw [if_pos q1, q1]
  rw [if_neg q1]
  by_cases q2 : j = 64
  · rw [if_pos q2, q2]
  rw [if_neg q2]
  by_cases q3 : j = 63
  · rw [if_pos q3, q3]
  rw [if_neg q3]
def mFa (σ : MS) (f D : Nat) (a : Int32) (c P Q : Nat → Int32) : MS := sR (sR (sR (finM σ f D a) 14 c) 41 P) 42 Q
theorem mFa_in (σ : MS) (f D : Nat) (a x : Int32) (c P Q : Nat → Int32) : finM (mFa σ f D a c P Q) f D x = mFa σ f D (a + x) c P Q := by
  unfold mFa
  rw [finM_sR (by decide) (by decide) (by decide), finM_sR (by decide) (by decide) (by decide), finM_sR (by decide) (by decide) (by decide), finM_two]
theorem mFa_co (σ : MS) (f D : Nat) (a : Int32) (c P Q : Nat → Int32) (m : Nat) (v : Int32) : up2 (mFa σ f D a c P Q) 14 m v = mFa σ f D a (upd c m v) P Q := by
  funext j
  show (if j = 14 then upd c m v else if j = 42 then Q else if j = 41 then P else if j = 14 then c else finM σ f D a j) = (if j = 42 then Q else if j = 41 then P else if j = 14 then upd c m v else finM σ f D a j)
  by_cases h : j = 14
  · subst h; rfl
  · rw [if_neg h, if_neg h, if_neg h]
theorem M_fines (h : Core t σ) {l f D : Nat} (hl : l < tN t 2) (hf : f < 4) (hD : D < 167) (eD : σ 1 0 / 600 = nI D) {ch : List Nat} (h58 : σ 58 l = nI ch.length) (h59 : ∀ k, k < ch.length → σ 59 (8 * l + k) = nI (ch.getD k 0)) (h8 : ch.length ≤ 8) (hcm : ∀ m ∈ ch, m < tN t 3) {V : Nat → Int32} (hV : ∀ m, m < tN t 3 → svv t σ (nI f) 3 (some l) (some m) = V m) {B : Int} (hB : B < 2147483648) {post : Int32 → MS → Prop} {c0 : Nat → Int32} {a0 x2 x3 : Int32} (k : ∀ P Q, (vp_in (nI l) 200 ∧ (∀ σ10 : MS, σ10 = up2 (mFa σ f D (ffo V ch c0 a0).2 (ffo V ch c0 a0).1 P Q) 50 l (3 : Int32) → (if x2 < 0 then (post (ffo V ch c0 a0).2 σ10) else (vp_in x2 60 ∧ (∀ σ13 : MS, σ13 = up2 σ10 17 x2.toNatClampNeg x3 → (post (ffo V ch c0 a0).2 σ13))))))) : ∀ d i c a P Q, i + d = ch.length → okc c a (tN t 3) B → ffo V (ch.drop i) c a = ffo V ch c0 a0 → wp_M_fall_70 post (d + 1) (mFa σ f D a c P Q) (nI l) x2 x3 a (nI f) (nI i) := by
  have hb3 := h.1.b3
  have hb2 := h.1.b2
  have hcl : (nI l).toNatClampNeg = l := nI_clamp (by omega)
  have hvl : vp_in (nI l) 200 := vp_in_nI (by omega) (by omega)
  intro d
  induction d with
  | zero =>
    intro i c a P Q hi hok he
    have e : i = ch.length := by omega
    rw [List.drop_eq_nil_of_le (by omega)] at he
    have he : (c, a) = ffo V ch c0 a0 := he
    refine ⟨hvl, itT ?_ ?_⟩
    · show σ 58 (nI l).toNatClampNeg ≤ nI i
      rw [hcl, h58, e]; exact nI_le (Nat.le_refl _) (by omega)
    · have := k P Q
      rw [← he] at this
      rw [hcl]; exact this
  | succ d ih =>
    intro i c a P Q hi hok he
    have hil : i < ch.length := by omega
    have hj := hcm _ (getD_mem hil)
    have hvj : vp_in (nI (ch.getD i 0)) 60 := vp_in_nI (by omega) (by omega)
    have hcj : (nI (ch.getD i 0)).toNatClampNeg = ch.getD i 0 := nI_clamp (by omega)
    refine ⟨hvl, itF ?_ ?_⟩
    · show ¬ σ 58 (nI l).toNatClampNeg ≤ nI i
      rw [hcl, h58]; exact nI_ge hil (by omega)
    rw [i8, nI_clamp (n := 8 * l + i) (by omega)]
    refine ⟨vp_in_nI (by omega) (by omega), nm_r (e' := nI (ch.getD i 0)) (h59 i hil) ?_⟩
    have hcore : Core (tCo t c) (sR (finM σ f D a) 14 c) := Core_co (t := t) (σ := finM σ f D a) h hok.2.2.2
    refine M_says' (t := tCo t c) (σ := sR (finM σ f D a) 14 c) hcore (l := some l) (m := some (ch.getD i 0)) hl hj (fun P' Q' => ?_)
    have es : svv (tCo t c) (sR (finM σ f D a) 14 c) (nI f) 3 (some l) (some (ch.getD i 0)) = V (ch.getD i 0) := hV _ hj
    rw [es, hcj]
    have ec : (sR (sR (sR (finM σ f D a) 14 c) 41 P') 42 Q') 14 (ch.getD i 0) = c (ch.getD i 0) := rfl
    rw [ec]
    refine M_fine (hok.1 _ (by omega)) hvj (X := fun v => wp_M_fall_140 (wp_M_fall_70 post (d + 1)) post (sR (sR (sR (finM σ f D a) 14 c) 41 P') 42 Q') (nI l) x2 x3 a (nI f) (nI i) (nI (ch.getD i 0)) v) ⟨hvj, hvj, ?_⟩
    rw [hcj, ec]
    refine nm_r (e' := mFa σ f D a (upd c (ch.getD i 0) (c (ch.getD i 0) - cl (V (ch.getD i 0)) (c (ch.getD i 0)))) P' Q') (mFa_co _ _ _ _ _ _ _ _ _) ?_
    refine nm_e (M_comes (σ := mFa σ f D a (upd c (ch.getD i 0) (c (ch.getD i 0) - cl (V (ch.getD i 0)) (c (ch.getD i 0)))) P' Q') hf hD eD ?_)
    rw [mFa_in]
    rintro x6 rfl
    rw [nI_1]
    refine ih (i + 1) _ _ P' Q' (by omega) (okc_step hB hb3 hok hj _) ?_
    rw [← ffo_drop hil]; exact he
end Fall
