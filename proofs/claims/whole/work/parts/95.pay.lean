/-! those that come back, and what they are paid -/
def cfo (q : Int32) : List Nat → (Nat → Int32) → (Nat → Int32)
  | [], c => c
  | m :: r, c => cfo q r (upd c m (c m + q))
def cfin (q rm : Int32) (ch : List Nat) (c : Nat → Int32) : Nat → Int32 := upd (cfo q ch c) (ch.getD 0 0) (cfo q ch c (ch.getD 0 0) + rm)
theorem cfo_drop {q : Int32} {ch : List Nat} {i : Nat} (hi : i < ch.length) (c : Nat → Int32) : cfo q (ch.drop i) c = cfo q (ch.drop (i + 1)) (upd c (ch.getD i 0) (c (ch.getD i 0) + q)) := by
  have hd : ch.drop i = ch.getD i 0 :: ch.drop (i + 1) := by
    have e : ch.getD i 0 = ch[i] := by rw [List.getD_eq_getElem?_getD, List.getElem?_eq_getElem hi]; rfl
    rw [e]; exact List.drop_eq_getElem_cons hi
  rw [hd]; rfl
def okp (c : Nat → Int32) (n : Nat) (B : Int) : Prop := (∀ m, m < 60 → 0 ≤ (c m).toInt) ∧ fb_si (fun m => (c m).toInt) 60 = B ∧ ∀ m, n ≤ m → c m = 0
theorem okp_step {c : Nat → Int32} {n : Nat} {B : Int} (hn : n ≤ 60) (h : okp c n B) {m q : Nat} (hm : m < n) (hq : B + q < 2147483648) : okp (upd c m (c m + nI q)) n (B + q) := by
  obtain ⟨h1, h2, h3⟩ := h
  have hp := si_part (f := fun m => (c m).toInt) 60 h1 m (by omega)
  have hp : (c m).toInt ≤ fb_si (fun m => (c m).toInt) 60 := hp
  have h0 := h1 m (by omega)
  have eq : (nI q).toInt = q := nI_toInt (by omega)
  have e1 : (c m + nI q).toInt = (c m).toInt + q := by rw [fb_addI (by rw [eq]; omega) (by rw [eq]; omega), eq]
  refine ⟨fun k hk => ?_, ?_, fun k hk => ?_⟩
  · by_cases e : k = m
    · subst e; rw [pk_us, e1]; omega
    · rw [pk_un e]; exact h1 k hk
  · rw [si_upd (by omega), e1, h2]; omega
  · rw [pk_un (by omega)]; exact h3 k hk
theorem cfo_ok {n q : Nat} (hn : n ≤ 60) : ∀ (ms : List Nat) (c : Nat → Int32) (B : Int), (∀ m ∈ ms, m < n) → okp c n B → B + ((q * ms.length : Nat) : Int) < 2147483648 → okp (cfo (nI q) ms c) n (B + ((q * ms.length : Nat) : Int))
  | [], _, B, _, h, _ => by
    have : B + ((q * ([] : List Nat).length : Nat) : Int) = B := by simp
    rw [this]; exact h
  | m :: r, c, B, hm, h, hb => by
    have e : q * (m :: r).length = q * r.length + q := by rw [List.length_cons, Nat.mul_add, Nat.mul_one]
    rw [e] at hb ⊢
    have := cfo_ok (q := q) hn r _ _ (fun x hx => hm x (List.mem_cons_of_mem _ hx)) (okp_step (q := q) hn h (hm m List.mem_cons_self) (by omega)) (by omega)
    have e2 : B + ((q * r.length + q : Nat) : Int) = B + q + ((q * r.length : Nat) : Int) := by omega
    rw [e2]; exact this
theorem cfin_ok {n par : Nat} (hn : n ≤ 60) {ch : List Nat} (hne : ch ≠ []) {c : Nat → Int32} {B : Int} (hm : ∀ m ∈ ch, m < n) (h : okp c n B) (hb : B + par < 2147483648) : okp (cfin (nI (par / ch.length)) (nI (par % ch.length)) ch c) n (B + par) := by
  have hl : 0 < ch.length := List.length_pos_iff.mpr hne
  have hd := Nat.div_add_mod par ch.length
  have hmul : par / ch.length * ch.length = ch.length * (par / ch.length) := Nat.mul_comm _ _
  have h1 := cfo_ok (q := par / ch.length) hn ch c B hm h (by omega)
  have h2 := okp_step (q := par % ch.length) hn h1 (hm _ (getD_mem (row := ch) (k := 0) hl)) (by omega)
  have e : B + (par : Int) = B + ((par / ch.length * ch.length : Nat) : Int) + ((par % ch.length : Nat) : Int) := by omega
  rw [e]; exact h2
theorem tCo_co (t : CS) (c : Nat → Int32) (j : Nat) (v : Int32) : sF (tCo t c) 100 j v = tCo t (upd c j v) := by
  unfold tCo sF
  refine Prod.ext ?_ rfl
  funext x
  show (if x = 100 then upd c j v else if x = 100 then c else t.1 x) = (if x = 100 then upd c j v else t.1 x)
  by_cases h : x = 100
  · rw [if_pos h, if_pos h]
  · rw [if_neg h, if_neg h, if_neg h]
theorem sR_co (σ : MS) (k : Nat) (c : Nat → Int32) (j : Nat) (v : Int32) : up2 (sR σ k c) k j v = sR σ k (upd c j v) := by
  funext x
  show (if x = k then upd (if k = k then c else σ k) j v else if x = k then c else σ x) = (if x = k then upd c j v else σ x)
  by_cases h : x = k
  · rw [if_pos h, if_pos h, if_pos rfl]
  · rw [if_neg h, if_neg h, if_neg h]
section Pay
variable {t : CS} {σ : MS}
theorem Mid_back {f J : Nat} (h : Mid t σ J) (hf : f < 4) {ch : List Nat} (hnd : ch.Nodup) (hcm : ∀ m ∈ ch, m < tN t 3) (h11 : ∀ m ∈ ch, σ 11 m = nI f) (hno : ∀ m ∈ ch, m ∉ tT t (f + 7)) (hfl : ∀ i, i < tN t 2 → tF t 82 i = 1 → ∀ m ∈ ch, m ∉ tT t (i + 11)) {g h' : Nat → Int32} (ho : outR σ f (tT t (f + 7) ++ ch) g h') {K : Nat} (hK : (tT t (f + 7) ++ ch).length ≤ K) (hK4 : K ≤ 400) : Mid (tBk t f (a18 (tF t 104) ch) (tT t (f + 7) ++ ch) K) (mBk σ (a18 (σ 18) ch) g h') J := by
  obtain ⟨hz, hc, hs, hp, hr, hm, hn, hw, hd, htp, hlw, hld, hg⟩ := h
  have eT : ∀ k, k ≠ f + 7 → tT (tBk t f (a18 (tF t 104) ch) (tT t (f + 7) ++ ch) K) k = tT t k := fun k hk => tBk_Tn hk
  have eTf : tT (tBk t f (a18 (tF t 104) ch) (tT t (f + 7) ++ ch) K) (f + 7) = tT t (f + 7) ++ ch := tBk_T _ _ _ _ _
  refine ⟨⟨hz.1, by rw [eT 4 (by omega)]; exact hz.2.1, hz.b4, hz.b3, hz.b2, hz.b1, by rw [eT 0 (by omega)]; exact hz.pl, by rw [eT 1 (by omega)]; exact hz.mn, by rw [eT 2 (by omega)]; exact hz.ld, by rw [eT 3 (by omega)]; exact hz.lw, hz.m5, hz.m10, hz.m43, hz.m26⟩, fun k => ?_, ?_, hp, hr, hm, ⟨fun i hi => ?_, hn.2⟩, fun f' hf' => ?_, hd, htp, hlw, hld, ?_⟩
  · by_cases e : k = f + 7
    · subst e
      rw [eTf, tBk_K]; exact ⟨hK, hK4⟩
    · rw [eT k e, tBk_Kn e]; exact hc k
  · unfold IS
    rw [eT 5 (by omega), eT 6 (by omega)]; exact hs
  · obtain ⟨n1, n2, n3, n4, n5, n6, n7, n8, n9⟩ := hn.1 i hi
    refine ⟨n1, n2, n3, n4, n5, n6, n7, ?_, n9⟩
    show a18 (tF t 104) ch i = a18 (σ 18) ch i
    unfold a18
    rw [n8]
  · obtain ⟨o1, o2, o3, o4⟩ := ho
    by_cases e : f' = f
    · subst e
      rw [eTf]
      obtain ⟨w1, w2, w3, w4⟩ := hw f' hf
      refine ⟨o1, o3, ?_, fun m hm => ?_⟩
      · exact List.nodup_append.mpr ⟨w3, hnd, fun a ha b hb q => hno b hb (q ▸ ha)⟩
      · rcases List.mem_append.mp hm with q | q
        · exact w4 m q
        · exact ⟨hcm m q, h11 m q⟩
    · rw [eT (f' + 7) (by omega)]
      obtain ⟨w1, w2, w3, w4⟩ := hw f' hf'
      have hl := (IRw.row hz hw hf').2.2.1
      exact ⟨(o2 f' e).trans w1, fun k hk => (o4 f' k e (by omega)).trans (w2 k hk), w3, w4⟩
  · obtain ⟨T, g1, g2, g3⟩ := hg
    refine ⟨T, g1, g2, fun i hi => ?_⟩
    refine gng_congr (g3 i hi) rfl (fun _ _ => rfl) (eT (i + 11) (by omega)) (Nat.le_refl _) rfl rfl rfl rfl rfl (fun _ _ => rfl) (fun q m hmm hm3 => ?_)
    have hmc : m ∉ ch := fun a => hfl i hi q m a hmm
    refine ⟨rfl, if_neg hmc, fun f' hf' hx => ?_⟩
    by_cases e : f' = f
    · subst e
      rw [eTf]
      exact fun a => (List.mem_append.mp a).elim hx hmc
    · rw [eT (f' + 7) (by omega)]; exact hx
theorem C_pay73 {l : Nat} (hl : l < tN t 2) {ch : List Nat} (hne : 0 < ch.length) (hch : tT t (l + 11) = ch) (h8 : ch.length ≤ 8) (hcm : ∀ m ∈ ch, m < tN t 3) {par : Nat} (hpar : par < 2 ^ 30) {c0 : Nat → Int32} {post : CS → Prop} (k : post (tCo t (cfin (nI (par / ch.length)) (nI (par % ch.length)) ch c0))) : ∀ d i c, i + d = ch.length → cfo (nI (par / ch.length)) (ch.drop i) c = cfo (nI (par / ch.length)) ch c0 → wp_C_payFor_73 post (d + 1) (tCo t c) l (nI ch.length) (nI par) (nI i) := by
  have ediv : nI par / nI ch.length = nI (par / ch.length) := pk_div (by omega) hne (by omega)
  have erem : nI par - nI (par / ch.length) * nI ch.length = nI (par % ch.length) := by
    have hd := Nat.div_add_mod par ch.length
    have hmul : par / ch.length * ch.length = ch.length * (par / ch.length) := Nat.mul_comm _ _
    rw [pk_mul, pk_sub (by omega)]
    congr 1
    omega
  have hn0 : ¬ nI ch.length = 0 := nI_ne0 hne (by omega)
  intro d
  induction d with
  | zero =>
    intro i c hi he
    have e : i = ch.length := by omega
    rw [List.drop_eq_nil_of_le (by omega)] at he
    have he : c = cfo (nI (par / ch.length)) ch c0 := he
    have hx := hcm _ (getD_mem (row := ch) (k := 0) hne)
    refine itT (by rw [e]; exact nI_le (Nat.le_refl _) (by omega)) ⟨hl, by show l + 11 < tN t 2 + 11; omega, ?_, ?_, ?_⟩
    · show vp_in 0 (tT t (l + 11)).length
      rw [hch]; exact vp_in_nI (n := 0) hne (by omega)
    · show (tT t (l + 11)).length < 2 ^ 31
      rw [hch]; omega
    · refine nm_r (e' := ch.getD 0 0) (by show (tT t (l + 11)).getD 0 0 = _; rw [hch]) ⟨hx, hn0, ?_⟩
      rw [ediv, erem, tCo_co]
      refine nm_r (e' := tCo t (cfin (nI (par / ch.length)) (nI (par % ch.length)) ch c0)) ?_ k
      unfold cfin
      rw [← he]; rfl
  | succ d ih =>
    intro i c hi he
    have hil : i < ch.length := by omega
    have hx := hcm _ (getD_mem hil)
    refine itF (nI_ge hil (by omega)) ⟨hl, by show l + 11 < tN t 2 + 11; omega, ?_, ?_, ?_⟩
    · show vp_in (nI i) (tT t (l + 11)).length
      rw [hch]; exact vp_in_nI hil (by omega)
    · show (tT t (l + 11)).length < 2 ^ 31
      rw [hch]; omega
    · refine nm_r (e' := ch.getD i 0) (by show (tT t (l + 11)).getD (nI i).toNatClampNeg 0 = _; rw [hch, nI_clamp (by omega)]) ⟨hx, hn0, ?_⟩
      rw [ediv, tCo_co]
      refine nm_e (nm_e ?_)
      rw [nI_1]
      exact ih (i + 1) (upd c (ch.getD i 0) (c (ch.getD i 0) + nI (par / ch.length))) (by omega) (by rw [← cfo_drop hil]; exact he)
theorem cfo_agree {q : Int32} {n : Nat} : ∀ (ms : List Nat) (c c1 : Nat → Int32), (∀ m ∈ ms, m < n) → (∀ m, m < n → c1 m = c m) → ∀ m, m < n → cfo q ms c1 m = cfo q ms c m
  | [], _, _, _, h => h
  | x :: r, c, c1, hm, h => cfo_agree r _ _ (fun y hy => hm y (List.mem_cons_of_mem _ hy)) (fun m hmn => by
    by_cases e : m = x
    · rw [e, pk_us, pk_us, h x (hm x List.mem_cons_self)]
    · rw [pk_un e, pk_un e]; exact h m hmn)
theorem cfin_agree {q rm : Int32} {n : Nat} {ch : List Nat} (hne : 0 < ch.length) {c c1 : Nat → Int32} (hm : ∀ m ∈ ch, m < n) (h : ∀ m, m < n → c1 m = c m) (m : Nat) (hmn : m < n) : cfin q rm ch c1 m = cfin q rm ch c m := by
  have ha := cfo_agree (q := q) ch c c1 hm h
  have hx := hm _ (getD_mem (row := ch) (k := 0) hne)
  unfold cfin
  by_cases e : m = ch.getD 0 0
  · rw [e, pk_us, pk_us, ha _ hx]
  · rw [pk_un e, pk_un e]; exact ha m hmn
end Pay
section Pay2
variable {t : CS} {σ : MS}
theorem M_pay90 {l : Nat} (hl : l < 200) {ch : List Nat} (hne : 0 < ch.length) (h58 : σ 58 l = nI ch.length) (h59 : ∀ k, k < ch.length → σ 59 (8 * l + k) = nI (ch.getD k 0)) (h8 : ch.length ≤ 8) (hcm : ∀ m ∈ ch, m < 60) {par : Nat} (hpar : par < 2 ^ 30) {c0 : Nat → Int32} {post : MS → Prop} (k : post (sR σ 14 (cfin (nI (par / ch.length)) (nI (par % ch.length)) ch c0))) : ∀ d i c, i + d = ch.length → cfo (nI (par / ch.length)) (ch.drop i) c = cfo (nI (par / ch.length)) ch c0 → wp_M_pays_90 post (d + 1) (sR σ 14 c) (nI l) (nI par) (nI (par / ch.length)) (nI i) := by
  have erem : nI par - nI (par / ch.length) * nI ch.length = nI (par % ch.length) := by
    have hd := Nat.div_add_mod par ch.length
    have hmul : par / ch.length * ch.length = ch.length * (par / ch.length) := Nat.mul_comm _ _
    rw [pk_mul, pk_sub (by omega)]
    congr 1
    omega
  have hcl : (nI l).toNatClampNeg = l := nI_clamp (by omega)
  have hvl : vp_in (nI l) 200 := vp_in_nI hl (by omega)
  intro d
  induction d with
  | zero =>
    intro i c hi he
    have e : i = ch.length := by omega
    rw [List.drop_eq_nil_of_le (by omega)] at he
    have he : c = cfo (nI (par / ch.length)) ch c0 := he
    have hx := hcm _ (getD_mem (row := ch) (k := 0) hne)
    have e8 : (8 : Int32) * nI l = nI (8 * l) := pk_mul 8 l
    have h0 : σ 59 (8 * l) = nI (ch.getD 0 0) := h59 0 hne
    have h0' : (sR σ 14 c) 59 (8 * l) = nI (ch.getD 0 0) := h0
    have h58' : (sR σ 14 c) 58 l = nI ch.length := h58
    refine ⟨hvl, itT ?_ ?_⟩
    · show σ 58 (nI l).toNatClampNeg ≤ nI i
      rw [hcl, h58, e]; exact nI_le (Nat.le_refl _) (by omega)
    rw [hcl, e8, nI_clamp (n := 8 * l) (by omega), h0', h58', erem, nI_clamp (n := ch.getD 0 0) (by omega)]
    refine ⟨vp_in_nI (by omega) (by omega), vp_in_nI hx (by omega), hvl, vp_in_nI hx (by omega), ?_⟩
    rw [sR_co]
    refine nm_r (e' := sR σ 14 (cfin (nI (par / ch.length)) (nI (par % ch.length)) ch c0)) ?_ k
    unfold cfin
    rw [← he]; rfl
  | succ d ih =>
    intro i c hi he
    have hil : i < ch.length := by omega
    have hx := hcm _ (getD_mem hil)
    have h0' : (sR σ 14 c) 59 (8 * l + i) = nI (ch.getD i 0) := h59 i hil
    refine ⟨hvl, itF ?_ ?_⟩
    · show ¬ σ 58 (nI l).toNatClampNeg ≤ nI i
      rw [hcl, h58]; exact nI_ge hil (by omega)
    rw [i8, nI_clamp (n := 8 * l + i) (by omega), h0', nI_clamp (n := ch.getD i 0) (by omega)]
    refine ⟨vp_in_nI (by omega) (by omega), vp_in_nI hx (by omega), vp_in_nI hx (by omega), ?_⟩
    rw [sR_co]
    refine nm_e (nm_e ?_)
    rw [nI_1]
    exact ih (i + 1) (upd c (ch.getD i 0) (c (ch.getD i 0) + nI (par / ch.length))) (by omega) (by rw [← cfo_drop hil]; exact he)
end Pay2
