/-! those that come back -/
def Mid (t : CS) (σ : MS) (J : Nat) : Prop := IZ t σ ∧ IC t ∧ IS t ∧ IPl t σ ∧ IRn t σ ∧ IMi t σ ∧ IMn t σ ∧ IRw t σ ∧ IDi t σ ∧ ITp t σ ∧ ILw t σ ∧ ILd t σ ∧ IGn t σ J
def Fnd (t : CS) (σ : MS) : Prop := ∃ D : Nat, σ 1 0 / 600 = nI D ∧ IFu t σ D ∧ IPh t σ (47520 * (D : Int))
theorem Inv_mid {t : CS} {σ : MS} (h : Inv t σ) : Mid t σ 200 ∧ Fnd t σ := ⟨⟨h.z, h.c, h.s, h.p, h.r, h.m, h.n, h.w, h.d, h.tp, h.lw, h.ld, h.g⟩, h.f⟩
theorem Mid_inv {t : CS} {σ : MS} (h : Mid t σ 200) (hf : Fnd t σ) : Inv t σ := by
  obtain ⟨hz, hc, hs, hp, hr, hm, hn, hw, hd, htp, hlw, hld, hg⟩ := h
  exact ⟨hz, hc, hs, hp, hr, hm, hn, hw, hd, htp, hlw, hld, hg, hf⟩
def a18 (s : Nat → Int32) (L : List Nat) (m : Nat) : Int32 := if m ∈ L then -1 else s m
theorem a18_nil (s : Nat → Int32) : a18 s [] = s := by
  funext m
  exact if_neg (by simp)
theorem a18_snoc (s : Nat → Int32) (L : List Nat) (x : Nat) : upd (a18 s L) x (-1) = a18 s (L ++ [x]) := by
  funext m
  unfold a18
  by_cases e : m = x
  · subst e; rw [pk_us, if_pos (by simp)]
  · rw [pk_un e]
    by_cases h : m ∈ L
    · rw [if_pos h, if_pos (by simp [h])]
    · rw [if_neg h, if_neg (by simp [h, e])]
theorem take_snoc {xs : List Nat} {i : Nat} (hi : i < xs.length) : xs.take (i + 1) = xs.take i ++ [xs.getD i 0] := by
  have e : xs.getD i 0 = xs[i] := by rw [List.getD_eq_getElem?_getD, List.getElem?_eq_getElem hi]; rfl
  rw [List.take_succ, List.getElem?_eq_getElem hi, e]; rfl
def tBk (t : CS) (f : Nat) (A : Nat → Int32) (R : List Nat) (K : Nat) : CS := (sR t.1 104 A, t.2.1, va_up t.2.2.1 (f + 7) R, t.2.2.2.1, t.2.2.2.2.1, va_up t.2.2.2.2.2 (f + 7) K)
theorem tBk_id (t : CS) (f : Nat) : tBk t f (tF t 104) (tT t (f + 7)) (tK t (f + 7)) = t := by
  unfold tBk
  refine Prod.ext (sR_id _ _) (Prod.ext rfl (Prod.ext ?_ (Prod.ext rfl (Prod.ext rfl ?_))))
  · funext k
    show va_up t.2.2.1 (f + 7) (t.2.2.1 (f + 7)) k = t.2.2.1 k
    unfold va_up
    by_cases e : k = f + 7
    · rw [if_pos e, e]
    · rw [if_neg e]
  · funext k
    show va_up t.2.2.2.2.2 (f + 7) (t.2.2.2.2.2 (f + 7)) k = t.2.2.2.2.2 k
    unfold va_up
    by_cases e : k = f + 7
    · rw [if_pos e, e]
    · rw [if_neg e]
theorem tBk_T (t : CS) (f : Nat) (A : Nat → Int32) (R : List Nat) (K : Nat) : tT (tBk t f A R K) (f + 7) = R := va_up_self _ _ _
theorem tBk_K (t : CS) (f : Nat) (A : Nat → Int32) (R : List Nat) (K : Nat) : tK (tBk t f A R K) (f + 7) = K := va_up_self _ _ _
theorem tBk_Tn {t : CS} {f : Nat} {A : Nat → Int32} {R : List Nat} {K k : Nat} (h : k ≠ f + 7) : tT (tBk t f A R K) k = tT t k := va_up_ne _ _ h
theorem tBk_Kn {t : CS} {f : Nat} {A : Nat → Int32} {R : List Nat} {K k : Nat} (h : k ≠ f + 7) : tK (tBk t f A R K) k = tK t k := va_up_ne _ _ h
theorem tBk_add (t : CS) (f : Nat) (A : Nat → Int32) (R : List Nat) (K m : Nat) : lAdd (sF (tBk t f A R K) 104 m (-1)) (f + 7) m = tBk t f (upd A m (-1)) (R ++ [m]) (capN R.length K) := by
  have e1 : tT (sF (tBk t f A R K) 104 m (-1)) (f + 7) = R := tBk_T t f A R K
  have e2 : tK (sF (tBk t f A R K) 104 m (-1)) (f + 7) = K := tBk_K t f A R K
  unfold lAdd
  rw [e1, e2]
  unfold tBk sK sT sF capN
  refine Prod.ext ?_ (Prod.ext rfl (Prod.ext ?_ (Prod.ext rfl (Prod.ext rfl ?_))))
  · funext x
    show (if x = 104 then upd A m (-1) else if x = 104 then A else t.1 x) = (if x = 104 then upd A m (-1) else t.1 x)
    by_cases e : x = 104
    · rw [if_pos e, if_pos e]
    · rw [if_neg e, if_neg e, if_neg e]
  · funext k
    show va_up (va_up t.2.2.1 (f + 7) R) (f + 7) (R ++ [m]) k = va_up t.2.2.1 (f + 7) (R ++ [m]) k
    unfold va_up
    by_cases e : k = f + 7
    · rw [if_pos e, if_pos e]
    · rw [if_neg e, if_neg e, if_neg e]
  · funext k
    show va_up (va_up t.2.2.2.2.2 (f + 7) K) (f + 7) (if R.length < K then K else newCap K) k = va_up t.2.2.2.2.2 (f + 7) (if R.length < K then K else newCap K) k
    unfold va_up
    by_cases e : k = f + 7
    · rw [if_pos e, if_pos e]
    · rw [if_neg e, if_neg e, if_neg e]
theorem capN_88 {n k : Nat} (h : n ≤ k) (hn : n < 60) : capN n k ≤ max k 88 := by
  unfold capN newCap
  split
  · omega
  · split <;> omega
section Back
variable {t : CS} {σ : MS}
theorem C_exist_comesIn {f m : Nat} {row : List Nat} (hf : f < 4) (hm : m < 60) (ef : σ 11 m = nI f) (hr : rowR σ f row) (hl : row.length < 60) : ∃ g h, outR σ f (row ++ [m]) g h ∧ ∀ post : MS → Prop, post (sR (sR σ 20 g) 21 h) → wp_M_comesIn σ (nI m) post := by
  have key : ∀ post : MS → Prop, post (sR (sR σ 20 (upd (σ 20) f (nI (row.length + 1)))) 21 (upd (σ 21) (60 * f + row.length) (nI m))) → wp_M_comesIn σ (nI m) post := fun post hp => by
    have hcm : (nI m).toNatClampNeg = m := nI_clamp (by omega)
    have hcf : (nI f).toNatClampNeg = f := nI_clamp (by omega)
    have hvf : vp_in (nI f) 4 := vp_in_nI hf (by omega)
    refine ⟨vp_in_nI hm (by omega), ?_⟩
    rw [hcm, ef]
    refine nm_e ⟨hvf, ?_⟩
    rw [hcf, hr.1, i60, nI_clamp (by omega)]
    refine ⟨vp_in_nI (by omega) (by omega), nm_e ⟨hvf, hvf, nm_r (e' := sR (sR σ 20 (upd (σ 20) f (nI (row.length + 1)))) 21 (upd (σ 21) (60 * f + row.length) (nI m))) ?_ hp⟩⟩
    show sR (sR σ 21 (upd (σ 21) (60 * f + row.length) (nI m))) 20 (upd (σ 20) f (σ 20 f + 1)) = _
    rw [hr.1, nI_1]
    exact sR_comm (by decide)
  refine ⟨_, _, ⟨?_, fun f' hf' => pk_un hf', fun j hj => ?_, fun f' k' hf' hk' => ?_⟩, key⟩
  · rw [pk_us, List.length_append]; rfl
  · rw [List.length_append] at hj
    have hj : j < row.length + 1 := hj
    by_cases e : j = row.length
    · subst e
      rw [pk_us, List.getD_eq_getElem?_getD, List.getElem?_append_right (Nat.le_refl _), Nat.sub_self]; rfl
    · rw [pk_un (by omega), List.getD_eq_getElem?_getD, List.getElem?_append_left (by omega), ← List.getD_eq_getElem?_getD]
      exact hr.2.1 j (by omega)
  · refine pk_un (fun q => ?_)
    have hl2 := hl
    rcases Nat.lt_trichotomy f' f with q2 | q2 | q2
    · omega
    · exact hf' q2
    · omega
theorem C_comeBack {l f : Nat} (hz0 : tN t 0 = 4) (hl : l < tN t 2) (hf : f < 4) {ch : List Nat} (hch : tT t (l + 11) = ch) (h8 : ch.length ≤ 8) (hcm : ∀ m ∈ ch, m < tN t 3) (hrm : ∀ m ∈ tT t (f + 7), m < tN t 3) (hlen : (tT t (f + 7)).length + ch.length ≤ 60) (hK : (tT t (f + 7)).length ≤ tK t (f + 7)) (hK4 : tK t (f + 7) ≤ 400) : ∃ K c s, (tT t (f + 7) ++ ch).length ≤ K ∧ K ≤ 400 ∧ K ≤ max (tK t (f + 7)) 88 ∧ c + tK t (f + 7) ≤ K ∧ s + 4 * tK t (f + 7) ≤ 4 * K ∧ ∀ post : CS → Prop, post (tBk t f (a18 (tF t 104) ch) (tT t (f + 7) ++ ch) K) → wp_C_comeBack c s t l f post := by
  have main : ∀ d i K, i + d = ch.length → (tT t (f + 7) ++ ch.take i).length ≤ K → K ≤ 400 → ∃ K' c s, (tT t (f + 7) ++ ch).length ≤ K' ∧ K' ≤ 400 ∧ K' ≤ max K 88 ∧ c + K ≤ K' ∧ s + 4 * K ≤ 4 * K' ∧ ∀ (post : CS → Prop) mc ms uc us, uc + c ≤ mc → us + s ≤ ms → post (tBk t f (a18 (tF t 104) ch) (tT t (f + 7) ++ ch) K') → wp_C_comeBack_2 mc ms post (d + 1) uc us (tBk t f (a18 (tF t 104) (ch.take i)) (tT t (f + 7) ++ ch.take i) K) l f (nI i) := by
    intro d
    have eT : ∀ A R K, tT (tBk t f A R K) (l + 11) = ch := fun A R K => by rw [tBk_Tn (by omega), hch]
    induction d with
    | zero =>
      intro i K hi h1 h2
      have e : i = ch.length := by omega
      rw [e, List.take_length] at h1 ⊢
      refine ⟨K, 0, 0, h1, h2, by omega, by omega, by omega, fun post mc ms uc us _ _ hp => ⟨hl, by show l + 11 < tN t 2 + 11; omega, itT ?_ hp⟩⟩
      rw [eT]; exact nI_le (Nat.le_refl _) (by omega)
    | succ d ih =>
      intro i K hi h1 h2
      have hil : i < ch.length := by omega
      have hx := hcm _ (getD_mem hil)
      have hlt : (tT t (f + 7) ++ ch.take i).length = (tT t (f + 7)).length + i := by rw [List.length_append, List.length_take]; omega
      have hpot := capN_pot h1
      have hok := capN_ok h1 h2 (by omega)
      have h88 := capN_88 h1 (by omega)
      have e2 : tT t (f + 7) ++ ch.take (i + 1) = tT t (f + 7) ++ ch.take i ++ [ch.getD i 0] := by rw [take_snoc hil, List.append_assoc]
      obtain ⟨K', c, s, k1, k2, k3, k4, k5, k6⟩ := ih (i + 1) (capN (tT t (f + 7) ++ ch.take i).length K) (by omega) (by rw [e2, List.length_append]; exact hok.1) hok.2
      refine ⟨K', aC (tT t (f + 7) ++ ch.take i).length K + c, aS (tT t (f + 7) ++ ch.take i).length K + s, k1, k2, by omega, by omega, by omega, fun post mc ms uc us hc hs hp => ⟨hl, by show l + 11 < tN t 2 + 11; omega, itF ?_ ⟨?_, ?_, ?_⟩⟩⟩
      · rw [eT]; exact nI_ge hil (by omega)
      · rw [eT]; exact vp_in_nI hil (by omega)
      · rw [eT]; omega
      refine nm_r (e' := ch.getD i 0) (by rw [eT, nI_clamp (by omega)]) ⟨hx, nm_e ?_⟩
      have t1 : tT (sF (tBk t f (a18 (tF t 104) (ch.take i)) (tT t (f + 7) ++ ch.take i) K) 104 (ch.getD i 0) (-1)) (f + 7) = tT t (f + 7) ++ ch.take i := tBk_T t f (a18 (tF t 104) (ch.take i)) (tT t (f + 7) ++ ch.take i) K
      have t2 : tK (sF (tBk t f (a18 (tF t 104) (ch.take i)) (tT t (f + 7) ++ ch.take i) K) 104 (ch.getD i 0) (-1)) (f + 7) = K := tBk_K t f (a18 (tF t 104) (ch.take i)) (tT t (f + 7) ++ ch.take i) K
      have hel : ∀ x ∈ tT t (f + 7) ++ ch.take i, x < tN t 3 := fun x hx => by
        rcases List.mem_append.mp hx with q | q
        · exact hrm x q
        · exact hcm x (List.mem_of_mem_take q)
      refine ⟨by show f < tN t 0; omega, by show f + 7 < tN t 2 + 11; omega, by rw [t2]; omega, ?_, hx, ?_, ?_⟩
      · intro x hx
        rw [t1] at hx
        have := hel x hx
        match f, hf with
        | 0, _ => exact this
        | 1, _ => exact this
        | 2, _ => exact this
        | 3, _ => exact this
      · rw [t1, t2]; exact ⟨by omega, by omega⟩
      · rw [t1, t2, tBk_add, a18_snoc, ← take_snoc hil, ← e2]
        rintro c15 s16 rfl rfl
        refine nm_e (nm_e ?_)
        rw [nI_1]
        exact k6 post mc ms _ _ (by omega) (by omega) hp
  obtain ⟨K', c, s, k1, k2, k3, k4, k5, k6⟩ := main ch.length 0 (tK t (f + 7)) (by omega) (by rw [List.take_zero, List.append_nil]; exact hK) hK4
  refine ⟨K', c, s, k1, k2, k3, k4, k5, fun post hp => ⟨ch.length + 1, ?_⟩⟩
  have := k6 post c s 0 0 (by omega) (by omega) hp
  rw [List.take_zero, List.append_nil, a18_nil, tBk_id] at this
  exact this
def mBk (σ : MS) (A g h : Nat → Int32) : MS := sR (sR (sR σ 18 A) 20 g) 21 h
theorem mBk_id (σ : MS) : mBk σ (σ 18) (σ 20) (σ 21) = σ := by
  unfold mBk
  rw [sR_id]
  show sR (sR σ 20 (σ 20)) 21 (σ 21) = σ
  rw [sR_id, sR_id]
theorem mBk_next (σ : MS) (A g h g' h' : Nat → Int32) (m : Nat) : sR (sR (up2 (mBk σ A g h) 18 m (-1)) 20 g') 21 h' = mBk σ (upd A m (-1)) g' h' := by
  funext j
  show (if j = 21 then h' else if j = 20 then g' else if j = 18 then upd A m (-1) else if j = 21 then h else if j = 20 then g else if j = 18 then A else σ j) = (if j = 21 then h' else if j = 20 then g' else if j = 18 then upd A m (-1) else σ j)
  by_cases h1 : j = 21
  · subst h1; rfl
  by_cases h2 : j = 20
  · subst h2; rfl
  by_cases h3 : j = 18
  · subst h3; rfl
  simp only [if_neg h1, if_neg h2, if_neg h3]
theorem M_arr48 {l f : Nat} (hl : l < 200) (hf : f < 4) {R ch : List Nat} (h58 : σ 58 l = nI ch.length) (h59 : ∀ k, k < ch.length → σ 59 (8 * l + k) = nI (ch.getD k 0)) (h8 : ch.length ≤ 8) (hcm : ∀ m ∈ ch, m < 60) (h11 : ∀ m ∈ ch, σ 11 m = nI f) (hR : rowR σ f R) (hlen : R.length + ch.length ≤ 60) : ∃ g h, outR σ f (R ++ ch) g h ∧ ∀ (k2 : MS → Int32 → Prop) (post : MS → Prop), (vp_in (nI l) 200 ∧ (if σ 50 l = (3 : Int32) then wp_M_arrive_113 k2 post (mBk σ (a18 (σ 18) ch) g h) (nI l) else (vp_in (nI l) 200 ∧ (∀ σ7 : MS, σ7 = up2 (mBk σ (a18 (σ 18) ch) g h) 50 l (2 : Int32) → (wp_M_pays σ7 (nI l) (fun σ8 => wp_M_arrive_113 k2 post σ8 (nI l))))))) → wp_M_arrive_46 k2 post σ (nI l) := by
  have hcl : (nI l).toNatClampNeg = l := nI_clamp (by omega)
  have hvl : vp_in (nI l) 200 := vp_in_nI hl (by omega)
  have main : ∀ d i g h, i + d = ch.length → outR σ f (R ++ ch.take i) g h → ∃ g' h', outR σ f (R ++ ch) g' h' ∧ ∀ (k2 : MS → Int32 → Prop) (post : MS → Prop), (vp_in (nI l) 200 ∧ (if σ 50 l = (3 : Int32) then wp_M_arrive_113 k2 post (mBk σ (a18 (σ 18) ch) g' h') (nI l) else (vp_in (nI l) 200 ∧ (∀ σ7 : MS, σ7 = up2 (mBk σ (a18 (σ 18) ch) g' h') 50 l (2 : Int32) → (wp_M_pays σ7 (nI l) (fun σ8 => wp_M_arrive_113 k2 post σ8 (nI l))))))) → wp_M_arrive_48 k2 post (d + 1) (mBk σ (a18 (σ 18) (ch.take i)) g h) (nI l) (nI i) := by
    intro d
    induction d with
    | zero =>
      intro i g h hi ho
      have e : i = ch.length := by omega
      rw [e, List.take_length] at ho ⊢
      refine ⟨g, h, ho, fun k2 post hp => ⟨hvl, itT ?_ ?_⟩⟩
      · show σ 58 (nI l).toNatClampNeg ≤ nI ch.length
        rw [hcl, h58]; exact nI_le (Nat.le_refl _) (by omega)
      · rw [hcl]; exact hp
    | succ d ih =>
      intro i g h hi ho
      have hil : i < ch.length := by omega
      have hx := hcm _ (getD_mem hil)
      have hlt : (R ++ ch.take i).length = R.length + i := by rw [List.length_append, List.length_take]; omega
      have e2 : R ++ ch.take (i + 1) = R ++ ch.take i ++ [ch.getD i 0] := by rw [take_snoc hil, List.append_assoc]
      obtain ⟨o1, o2, o3, o4⟩ := ho
      have hrow : rowR (up2 (mBk σ (a18 (σ 18) (ch.take i)) g h) 18 (ch.getD i 0) (-1)) f (R ++ ch.take i) := by
        refine ⟨o1, o3, by omega, fun x hx => ?_⟩
        rcases List.mem_append.mp hx with q | q
        · exact hR.2.2.2 x q
        · exact hcm x (List.mem_of_mem_take q)
      obtain ⟨g', h', ho', hk'⟩ := C_exist_comesIn (σ := up2 (mBk σ (a18 (σ 18) (ch.take i)) g h) 18 (ch.getD i 0) (-1)) hf hx (h11 _ (getD_mem hil)) hrow (by omega)
      have ho2 : outR σ f (R ++ ch.take (i + 1)) g' h' := by
        obtain ⟨p1, p2, p3, p4⟩ := ho'
        rw [e2]
        exact ⟨p1, fun f' hf' => (p2 f' hf').trans (o2 f' hf'), p3, fun f' k hf' hk => (p4 f' k hf' hk).trans (o4 f' k hf' hk)⟩
      obtain ⟨g2, h2, k1, k3⟩ := ih (i + 1) g' h' (by omega) ho2
      refine ⟨g2, h2, k1, fun k2 post hp => ⟨hvl, itF ?_ ?_⟩⟩
      · show ¬ σ 58 (nI l).toNatClampNeg ≤ nI i
        rw [hcl, h58]; exact nI_ge hil (by omega)
      rw [i8, nI_clamp (n := 8 * l + i) (by omega)]
      refine ⟨vp_in_nI (by omega) (by omega), nm_r (e' := nI (ch.getD i 0)) (h59 i hil) ⟨vp_in_nI hx (by omega), ?_⟩⟩
      rw [nI_clamp (by omega)]
      refine nm_e (hk' _ (nm_e ?_))
      rw [nI_1, mBk_next, a18_snoc, ← take_snoc hil]
      exact k3 k2 post hp
  have ho : outR σ f (R ++ ch.take 0) (σ 20) (σ 21) := by
    rw [List.take_zero, List.append_nil]
    exact ⟨hR.1, fun _ _ => rfl, hR.2.1, fun _ _ _ _ => rfl⟩
  obtain ⟨g, h, k1, k2⟩ := main ch.length 0 (σ 20) (σ 21) (by omega) ho
  refine ⟨g, h, k1, fun k post hp => ⟨ch.length + 1, ?_⟩⟩
  have := k2 k post hp
  rw [List.take_zero, a18_nil, mBk_id] at this
  exact this
end Back
