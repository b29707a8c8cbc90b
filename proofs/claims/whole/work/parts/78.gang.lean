/-! a gang is chosen: the class -/
def mgb (σ : MS) (w : Int32) (m : Nat) : Bool := decide (¬ σ 1 0 < σ 16 m ∧ ¬ σ 1 0 < σ 17 m ∧ ¬ (if σ 13 m < 60 then (480 : Int32) else 240) < σ 15 m + w)
theorem mg_t {σ : MS} {w : Int32} {m : Nat} (h1 : ¬ σ 1 0 < σ 16 m) (h2 : ¬ σ 1 0 < σ 17 m) (h3 : ¬ (if σ 13 m < 60 then (480 : Int32) else 240) < σ 15 m + w) : mgb σ w m = true := decide_eq_true ⟨h1, h2, h3⟩
theorem mg_f {σ : MS} {w : Int32} {m : Nat} (h : ¬ (¬ σ 1 0 < σ 16 m ∧ ¬ σ 1 0 < σ 17 m ∧ ¬ (if σ 13 m < 60 then (480 : Int32) else 240) < σ 15 m + w)) : mgb σ w m = false := decide_eq_false h
def dix (z : Int32) (n : Nat) : Nat := (z.toBitVec.toNat / 256) % n
theorem dix_eq (z : Int32) {n : Nat} (hn : 0 < n) (hn2 : n < 2 ^ 20) : (((z.toUInt32 >>> ((8 : Int32).toUInt32 &&& Int32.toUInt32 31)).toInt32) - ((z.toUInt32 >>> ((8 : Int32).toUInt32 &&& Int32.toUInt32 31)).toInt32) / nI n * nI n) = nI (dix z n) := by
  have h1 : (z.toUInt32 >>> ((8 : Int32).toUInt32 &&& Int32.toUInt32 31)).toInt32.toBitVec.toNat = z.toBitVec.toNat / 2 ^ 8 := pk_ushr z 8 8 (by decide)
  have hz : z.toBitVec.toNat < 2 ^ 32 := z.toBitVec.isLt
  have h2 : (z.toUInt32 >>> ((8 : Int32).toUInt32 &&& Int32.toUInt32 31)).toInt32 = nI (z.toBitVec.toNat / 256) := by
    have e : (nI (z.toBitVec.toNat / 256)).toBitVec.toNat = z.toBitVec.toNat / 256 := pk_tn (by omega)
    refine Int32.toBitVec_inj.mp (BitVec.eq_of_toNat_eq ?_)
    rw [h1, e]
  rw [h2, pk_rem (by omega) hn (by omega)]; rfl
def nzv (dc : Bool) (z : Int32) : Int32 := if dc then z * 1103515245 + 12345 else z
def pki (dc : Bool) (z : Int32) (n : Nat) : Nat := if dc then dix (nzv dc z) n else 0
def pick (dc : Bool) (least N : Int32) (str : Nat → Int32) : Nat → List Nat → List Nat → Int32 → Int32 → Bool × List Nat × List Nat × Int32
  | 0, rem, ch, z, _ => (false, ch, rem, z)
  | n + 1, rem, ch, z, pw => if rem = [] then (false, ch, rem, z) else if ¬ nI (ch.length + 1) < least ∧ ¬ 4 * (pw + str (rem.getD (pki dc z rem.length) 0)) < N then (true, ch ++ [rem.getD (pki dc z rem.length) 0], rem.eraseIdx (pki dc z rem.length), nzv dc z) else pick dc least N str n (rem.eraseIdx (pki dc z rem.length)) (ch ++ [rem.getD (pki dc z rem.length) 0]) (nzv dc z) (pw + str (rem.getD (pki dc z rem.length) 0))
def tW (t : CS) (c5 c6 : List Nat) (k5 k6 : Nat) (z : Int32) : CS := (up2 t.1 172 0 z, t.2.1, va_up (va_up t.2.2.1 5 c5) 6 c6, t.2.2.2.1, t.2.2.2.2.1, va_up (va_up t.2.2.2.2.2 5 k5) 6 k6)
theorem va_up_56 {α : Type} (f : Nat → α) (a b c : α) : va_up (va_up (va_up f 5 a) 6 b) 5 c = va_up (va_up f 5 c) 6 b := by
  funext j
  unfold va_up
  by_cases h : j = 6
  · subst h; rfl
  · rw [if_neg h]
    by_cases h2 : j = 5
    · rw [if_pos h2, if_neg h, if_pos h2]
    · rw [if_neg h2, if_neg h, if_neg h2, if_neg h2]
theorem up2_up2 (σ : MS) (k i : Nat) (a b : Int32) : up2 (up2 σ k i a) k i b = up2 σ k i b := by
  funext x y
  unfold up2 upd
  by_cases h : x = k
  · rw [if_pos h, if_pos h, if_pos rfl]
    by_cases h2 : y = i
    · rw [if_pos h2, if_pos h2]
    · rw [if_neg h2, if_neg h2, if_neg h2]
  · rw [if_neg h, if_neg h, if_neg h]
def capN (n k : Nat) : Nat := if n < k then k else newCap k
theorem tW_c6 (t : CS) (c5 c6 xs : List Nat) (k5 k6 : Nat) (z : Int32) : sT (tW t c5 c6 k5 k6 z) 6 xs = tW t c5 xs k5 k6 z := by
  unfold tW sT
  refine Prod.ext rfl (Prod.ext rfl (Prod.ext ?_ rfl))
  exact bx_uu _ 6 c6 xs
theorem tW_c5 (t : CS) (c5 c6 xs : List Nat) (k5 k6 : Nat) (z : Int32) : sT (tW t c5 c6 k5 k6 z) 5 xs = tW t xs c6 k5 k6 z := by
  unfold tW sT
  refine Prod.ext rfl (Prod.ext rfl (Prod.ext ?_ rfl))
  exact va_up_56 _ c5 c6 xs
theorem tW_z (t : CS) (c5 c6 : List Nat) (k5 k6 : Nat) (z z2 : Int32) : sF (tW t c5 c6 k5 k6 z) 172 0 z2 = tW t c5 c6 k5 k6 z2 := by
  unfold tW sF
  refine Prod.ext ?_ rfl
  exact up2_up2 _ 172 0 z z2
theorem tW_a6 (t : CS) (c5 c6 : List Nat) (k5 k6 : Nat) (z : Int32) (j : Nat) : lAdd (tW t c5 c6 k5 k6 z) 6 j = tW t c5 (c6 ++ [j]) k5 (capN c6.length k6) z := by
  unfold lAdd
  have e : tT (tW t c5 c6 k5 k6 z) 6 = c6 := rfl
  have e2 : tK (tW t c5 c6 k5 k6 z) 6 = k6 := rfl
  rw [e, e2, tW_c6]
  unfold tW sK
  refine Prod.ext rfl (Prod.ext rfl (Prod.ext rfl (Prod.ext rfl (Prod.ext rfl ?_))))
  exact bx_uu _ 6 k6 _
theorem tW_a5 (t : CS) (c5 c6 : List Nat) (k5 k6 : Nat) (z : Int32) (j : Nat) : lAdd (tW t c5 c6 k5 k6 z) 5 j = tW t (c5 ++ [j]) c6 (capN c5.length k5) k6 z := by
  unfold lAdd
  have e : tT (tW t c5 c6 k5 k6 z) 5 = c5 := rfl
  have e2 : tK (tW t c5 c6 k5 k6 z) 5 = k5 := rfl
  rw [e, e2, tW_c5]
  unfold tW sK
  refine Prod.ext rfl (Prod.ext rfl (Prod.ext rfl (Prod.ext rfl (Prod.ext rfl ?_))))
  exact va_up_56 _ k5 k6 _
theorem tW_same (t : CS) : tW t (tT t 5) (tT t 6) (tK t 5) (tK t 6) (tF t 172 0) = t := by
  unfold tW
  refine Prod.ext ?_ (Prod.ext rfl (Prod.ext ?_ (Prod.ext rfl (Prod.ext rfl ?_))))
  · funext a b
    show up2 t.1 172 0 (t.1 172 0) a b = t.1 a b
    unfold up2 upd
    by_cases h : a = 172
    · rw [if_pos h, h]
      by_cases h2 : b = 0
      · rw [if_pos h2, h2]
      · rw [if_neg h2]
    · rw [if_neg h]
  · funext a
    show va_up (va_up t.2.2.1 5 (t.2.2.1 5)) 6 (t.2.2.1 6) a = t.2.2.1 a
    unfold va_up
    by_cases h : a = 6
    · rw [if_pos h, h]
    · rw [if_neg h]
      by_cases h2 : a = 5
      · rw [if_pos h2, h2]
      · rw [if_neg h2]
  · funext a
    show va_up (va_up t.2.2.2.2.2 5 (t.2.2.2.2.2 5)) 6 (t.2.2.2.2.2 6) a = t.2.2.2.2.2 a
    unfold va_up
    by_cases h : a = 6
    · rw [if_pos h, h]
    · rw [if_neg h]
      by_cases h2 : a = 5
      · rw [if_pos h2, h2]
      · rw [if_neg h2]
theorem capN_pot {n k : Nat} (h : n ≤ k) : k ≤ capN n k ∧ aC n k + k ≤ capN n k ∧ aS n k + 4 * k ≤ 4 * capN n k := by
  unfold capN aC aS newCap
  split
  · omega
  · split <;> omega
theorem capN_ok {n k : Nat} (h : n ≤ k) (hk : k ≤ 400) (hn : n ≤ 200) : n + 1 ≤ capN n k ∧ capN n k ≤ 400 := by
  unfold capN newCap
  split
  · omega
  · split <;> omega
section Gang
variable {t : CS} {σ : MS}
theorem C_mayGo (hn : IMn t σ) (hm : IMi t σ) {m : Nat} (hmm : m < tN t 3) {w : Int32} {post : Int32 → CS → Prop} (k1 : mgb σ w m = true → post 1 t) (k0 : mgb σ w m = false → post 0 t) : wp_Man_mayGo t m (tF t 171 0) w post := by
  obtain ⟨T, hT, e1, e2⟩ := hm
  have em : tF t 171 0 = σ 1 0 := by rw [e1, e2]
  obtain ⟨n1, n2, n3, n4, n5, n6, n7, -⟩ := hn.1 m hmm
  have h18 : ∀ lim : Int32, (if σ 13 m < 60 then (480 : Int32) else 240) = lim → wp_Man_mayGo_18 post t m (tF t 171 0) w lim := fun lim hlim => by
    refine ⟨hmm, hmm, itE (fun q => itT rfl (k0 (mg_f (fun a => a.1 (by rw [em, n6] at q; exact q))))) (fun q => itF (by decide) ⟨hmm, hmm, itE (fun q2 => itT rfl ⟨hmm, itE (fun q3 => k0 (mg_f (fun a => a.2.2 (by rw [hlim, ← n5]; exact q3)))) (fun q3 => k1 (mg_t (by rw [em, n6] at q; exact q) (by rw [em, n7] at q2; exact Int32.not_lt.mpr q2) (by rw [hlim, ← n5]; exact q3)))⟩) (fun q2 => itF (by decide) (k0 (mg_f (fun a => q2 (by rw [em, n7]; exact Int32.not_lt.mp a.2.1)))))⟩)⟩
  refine ⟨hmm, ?_⟩
  rw [n3]
  exact itE (fun q => h18 480 (if_pos q)) (fun q => h18 240 (if_neg q))
theorem filter_snoc {p : Nat → Bool} {xs : List Nat} {i : Nat} (hi : i < xs.length) : (xs.take (i + 1)).filter p = (xs.take i).filter p ++ (if p (xs.getD i 0) then [xs.getD i 0] else []) := by
  have e : xs.getD i 0 = xs[i] := by rw [List.getD_eq_getElem?_getD, List.getElem?_eq_getElem hi]; rfl
  rw [List.take_succ, List.filter_append, List.getElem?_eq_getElem hi, e]
  congr 1
  by_cases h : p xs[i] = true
  · rw [if_pos h]; simp [h]
  · rw [if_neg h]; simp [h]
theorem C_gather (h : Core t σ) (hw : IRw t σ) {f : Nat} (hf : f < 4) {w : Int32} {mc ms k5 k6 : Nat} {c5 c6 : List Nat} {z : Int32} (h6 : c6.length ≤ k6) (hk6 : k6 ≤ 400) (hmc : 400 ≤ mc) (hms : 1600 ≤ ms) {post : CS → Prop} (k : ∀ k6', ((tT t (f + 7)).filter (mgb σ w)).length ≤ k6' → k6' ≤ 400 → post (tW t c5 ((tT t (f + 7)).filter (mgb σ w)) k5 k6' z)) : wp_C_gatherCandidates mc ms (tW t c5 c6 k5 k6 z) f w post := by
  obtain ⟨hz, hp, hr, hm, hn, hlw, hld⟩ := id h
  have hrow := IRw.row hz hw hf
  have hmem := (hw f hf).2.2.2
  have hb3 := hz.b3
  have eR : ∀ c6 k6, tT (tW t c5 c6 k5 k6 z) (f + 7) = tT t (f + 7) := fun c6 k6 => by
    show va_up (va_up t.2.2.1 5 c5) 6 c6 (f + 7) = _
    unfold va_up
    rw [if_neg (by omega), if_neg (by omega)]
  have main : ∀ d i k6 uc us, i + d = (tT t (f + 7)).length → (((tT t (f + 7)).take i).filter (mgb σ w)).length ≤ k6 → k6 ≤ 400 → uc ≤ k6 → us ≤ 4 * k6 → wp_C_gatherCandidates_9 mc ms post (d + 1) uc us (tW t c5 (((tT t (f + 7)).take i).filter (mgb σ w)) k5 k6 z) f w (nI i) := by
    intro d
    induction d with
    | zero =>
      intro i k6 uc us hi h1 h2 _ _
      have e : i = (tT t (f + 7)).length := by omega
      refine ⟨by show f < tN t 0; rw [hz.1]; exact hf, by show f + 7 < tN t 2 + 11; omega, itT ?_ ?_⟩
      · rw [eR, e]; exact nI_le (Nat.le_refl _) (by have := hrow.2.2.1; omega)
      · rw [e, List.take_length] at h1 ⊢
        exact k k6 h1 h2
    | succ d ih =>
      intro i k6 uc us hi h1 h2 h3 h4
      have hl := hrow.2.2.1
      have hlen : (((tT t (f + 7)).take i).filter (mgb σ w)).length ≤ 60 := Nat.le_trans (List.length_filter_le _ _) (by rw [List.length_take]; omega)
      refine ⟨by show f < tN t 0; rw [hz.1]; exact hf, by show f + 7 < tN t 2 + 11; omega, itF ?_ ⟨?_, ?_, ?_⟩⟩
      · rw [eR]; exact nI_ge (by omega) (by omega)
      · rw [eR]; exact vp_in_nI (by omega) (by omega)
      · rw [eR]; omega
      rw [eR, nI_clamp (n := i) (by omega)]
      refine nm_e ⟨(hmem _ (getD_mem (by omega))).1, ?_⟩
      have hx := (hmem _ (getD_mem (row := tT t (f + 7)) (k := i) (by omega))).1
      refine C_mayGo (t := tW t c5 _ k5 k6 z) hn hm hx (fun q => itF (by decide) ⟨by show k6 < 2 ^ 20; omega, ?_, hx, ?_, ?_⟩) (fun q => itT rfl ?_)
      · intro x hxx
        have hxx : x ∈ ((tT t (f + 7)).take i).filter (mgb σ w) := hxx
        exact (hmem x (List.mem_of_mem_take (List.mem_filter.mp hxx).1)).1
      · have hc := capN_pot h1
        have ho := capN_ok h1 h2 (by omega)
        show (uc + aC (((tT t (f + 7)).take i).filter (mgb σ w)).length k6 ≤ mc ∧ us + aS (((tT t (f + 7)).take i).filter (mgb σ w)).length k6 ≤ ms)
        constructor <;> omega
      · rintro c16 s17 rfl rfl t18 rfl
        rw [tW_a6]
        rintro x1 rfl
        rw [nI_1]
        have hc := capN_pot h1
        have ho := capN_ok h1 h2 (by omega)
        have e2 : ((tT t (f + 7)).take (i + 1)).filter (mgb σ w) = ((tT t (f + 7)).take i).filter (mgb σ w) ++ [(tT t (f + 7)).getD i 0] := by
          rw [filter_snoc (by omega), if_pos q]
        rw [← e2]
        refine ih (i + 1) _ _ _ (by omega) ?_ ho.2 ?_ ?_
        · rw [e2, List.length_append]; exact ho.1
        · show uc + aC (((tT t (f + 7)).take i).filter (mgb σ w)).length k6 ≤ _
          have := hc.2.1
          omega
        · show us + aS (((tT t (f + 7)).take i).filter (mgb σ w)).length k6 ≤ _
          have := hc.2.2
          omega
      · rintro x1 rfl
        rw [nI_1]
        have e2 : ((tT t (f + 7)).take (i + 1)).filter (mgb σ w) = ((tT t (f + 7)).take i).filter (mgb σ w) := by
          rw [filter_snoc (by omega), if_neg (by rw [q]; decide), List.append_nil]
        rw [← e2] at h1 ⊢
        exact ih (i + 1) k6 uc us (by omega) h1 h2 h3 h4
  refine ⟨by show c6.length < 2 ^ 31; omega, ?_⟩
  rintro t20 rfl
  rw [tW_c6]
  exact ⟨(tT t (f + 7)).length + 1, main (tT t (f + 7)).length 0 k6 0 0 (by omega) (by simp) hk6 (by omega) (by omega)⟩
end Gang
