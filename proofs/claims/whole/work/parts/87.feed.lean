/-! feed -/
def cb (v : Int32) (s : Nat) : Int32 := ((v.toUInt32 >>> ((nI s).toUInt32 &&& Int32.toUInt32 31)).toInt32) &&& 255
theorem cb_rg (v : Int32) (s : Nat) : ∃ b, b < 256 ∧ cb v s = nI b := pk_andE _ 8 (by decide)
theorem cb_M (v : Int32) {s : Nat} (hs : s ≤ 24) : vp_nar .byte ((v >>> (nI s &&& 31)).toInt8.toInt32) = (cb v s).toInt8.toInt32 := by
  rw [pk_vb]
  have e : (v >>> (nI s &&& 31)) &&& 255 = cb v s := b_ext (fun i hi => by
    unfold cb
    rw [b_and, b_and, b_255, b_sshr s (by omega) v hi, b_ushr s (by omega)]
    by_cases h : i < 8
    · rw [if_pos (by omega)]
    · rw [decide_eq_false h, Bool.and_false, Bool.and_false])
  rw [← e, fa_byte_low]
def tB (t : CS) (g : Nat → Int32) (n : Nat) : CS := (up2 t.1 161 2 (nI n), sR t.2.1 2 g, t.2.2)
def mB2 (σ : MS) (g : Nat → Int32) (n : Nat) : MS := sR (sR σ 24 g) 25 (upd (σ 25) 0 (nI n))
theorem tB_set (t : CS) (g : Nat → Int32) (n m i : Nat) (v : Int32) : sF (sA (tB t g n) 2 i v) 161 2 (nI m) = tB t (upd g i v) m := by
  unfold tB sF sA
  refine Prod.ext ?_ (Prod.ext ?_ rfl)
  · exact up2_up2 _ 161 2 _ _
  · exact up2_sR _ 2 g i v
theorem tB_same (t : CS) {n : Nat} (h : tF t 161 2 = nI n) : tB t (tA t 2) n = t := by
  unfold tB
  refine Prod.ext ?_ (Prod.ext ?_ rfl)
  · funext a b
    show up2 t.1 161 2 (nI n) a b = t.1 a b
    rw [← h]
    unfold up2 upd
    by_cases h : a = 161
    · rw [if_pos h, h]
      by_cases h2 : b = 2
      · rw [if_pos h2, h2]
      · rw [if_neg h2]
    · rw [if_neg h]
  · exact sR_same _ 2
theorem mB2_set (σ : MS) (g : Nat → Int32) (n m i : Nat) (v : Int32) : up2 (up2 (mB2 σ g n) 24 i v) 25 0 (nI m) = mB2 σ (upd g i v) m := by
  funext j
  show (if j = 25 then upd (upd (σ 25) 0 (nI n)) 0 (nI m) else if j = 24 then upd g i v else mB2 σ g n j) = (if j = 25 then upd (σ 25) 0 (nI m) else if j = 24 then upd g i v else σ j)
  rw [fa_upd_twice]
  by_cases h : j = 25
  · rw [if_pos h, if_pos h]
  · rw [if_neg h, if_neg h]
    by_cases h2 : j = 24
    · rw [if_pos h2, if_pos h2]
    · rw [if_neg h2, if_neg h2]
      show (if j = 25 then _ else if j = 24 then _ else σ j) = σ j
      rw [if_neg h, if_neg h2]
theorem mB2_same (σ : MS) {n : Nat} (h : σ 25 0 = nI n) : mB2 σ (σ 24) n = σ := by
  funext j
  show (if j = 25 then upd (σ 25) 0 (nI n) else if j = 24 then σ 24 else σ j) = σ j
  by_cases h1 : j = 25
  · subst h1; rw [if_pos rfl]; exact fa_upd_same h
  · rw [if_neg h1]
    by_cases h2 : j = 24
    · subst h2; rw [if_pos rfl]
    · rw [if_neg h2]
def fed (g : Nat → Int32) (n : Nat) (v : Int32) : Nat → Int32 := upd (upd (upd (upd g n (cb v 24)) (n + 1) (cb v 16)) (n + 2) (cb v 8)) (n + 3) (cb v 0)
def fedM (g : Nat → Int32) (n : Nat) (v : Int32) : Nat → Int32 := upd (upd (upd (upd g n (cb v 24).toInt8.toInt32) (n + 1) (cb v 16).toInt8.toInt32) (n + 2) (cb v 8).toInt8.toInt32) (n + 3) (cb v 0).toInt8.toInt32
theorem C_one {t : CS} {g : Nat → Int32} {n s : Nat} {v : Int32} {post : CS → Prop} {N : Nat} (hn : n < 200) (hs : s ≤ 24) {x : Int32} (hx : nI s + (-8) = x) (k : wp_Tape_addBytes_3 post N (tB t (upd g n (cb v s)) (n + 1)) v x) : wp_Tape_addBytes_3 post (N + 1) (tB t g n) v (nI s) := by
  have e : tF (tB t g n) 161 2 = nI n := rfl
  refine itF (nI_pos (by omega)) ?_
  rw [e]
  refine itF (nI_pos (by omega)) (itF (nI_ge (a := n) (b := 200) (by omega) (by omega)) ⟨vp_in_nI (by omega) (by omega), ?_⟩)
  rw [nI_clamp (n := n) (by omega)]
  refine nm_e ?_
  refine nm_r (e' := tB t (upd g n (cb v s)) (n + 1)) ?_ ?_
  · show sF (sA (tB t g n) 2 n (cb v s)) 161 2 (nI n + 1) = _
    rw [nI_1, tB_set]
  · rintro x1 rfl
    rw [hx]; exact k
theorem C_add4 {t : CS} {g : Nat → Int32} {n : Nat} {v : Int32} {post : CS → Prop} (hn : n + 4 ≤ 200) (k : post (tB t (fed g n v) (n + 4))) : wp_Tape_addBytes (tB t g n) v post := by
  refine ⟨5, ?_⟩
  refine C_one (s := 24) (N := 4) (by omega) (by omega) (show nI 24 + (-8) = nI 16 by decide) ?_
  refine C_one (s := 16) (N := 3) (by omega) (by omega) (show nI 16 + (-8) = nI 8 by decide) ?_
  refine C_one (s := 8) (N := 2) (by omega) (by omega) (show nI 8 + (-8) = nI 0 by decide) ?_
  refine C_one (s := 0) (N := 1) (by omega) (by omega) (show nI 0 + (-8) = -8 by decide) ?_
  exact k
theorem M_one {σ : MS} {g : Nat → Int32} {n q : Nat} {v : Int32} {post : MS → Prop} {N : Nat} (hn : n < 200) (hq : q ≤ 3) {x : Int32} (hx : nI q + (-1) = x) (k : wp_M_four_2 post N (mB2 σ (upd g n (cb v (8 * q)).toInt8.toInt32) (n + 1)) v x) : wp_M_four_2 post (N + 1) (mB2 σ g n) v (nI q) := by
  have e : mB2 σ g n 25 0 = nI n := rfl
  refine itF (nI_pos (by omega)) ?_
  rw [e, show (8 : Int32) * nI q = nI (8 * q) from pk_mul 8 q, cb_M v (by omega), nI_clamp (n := n) (by omega)]
  refine ⟨vp_in_nI (by omega) (by omega), nm_e ?_⟩
  refine nm_r (e' := mB2 σ (upd g n (cb v (8 * q)).toInt8.toInt32) (n + 1)) ?_ ?_
  · show up2 (up2 (mB2 σ g n) 24 n (cb v (8 * q)).toInt8.toInt32) 25 0 (nI n + 1) = _
    rw [nI_1, mB2_set]
  · rintro x5 rfl
    rw [hx]; exact k
theorem M_four {σ : MS} {g : Nat → Int32} {n : Nat} {v : Int32} {post : MS → Prop} (hn : n + 4 ≤ 200) (k : post (mB2 σ (fedM g n v) (n + 4))) : wp_M_four (mB2 σ g n) v post := by
  refine ⟨5, ?_⟩
  refine M_one (q := 3) (N := 4) (by omega) (by omega) (show nI 3 + (-1) = nI 2 by decide) ?_
  refine M_one (q := 2) (N := 3) (by omega) (by omega) (show nI 2 + (-1) = nI 1 by decide) ?_
  refine M_one (q := 1) (N := 2) (by omega) (by omega) (show nI 1 + (-1) = nI 0 by decide) ?_
  refine M_one (q := 0) (N := 1) (by omega) (by omega) (show nI 0 + (-1) = -1 by decide) ?_
  exact k
def byR (g h : Nat → Int32) (n : Nat) : Prop := ∀ k, k < n → ∃ b, b < 256 ∧ g k = nI b ∧ h k = (nI b).toInt8.toInt32
theorem byR_1 {g h : Nat → Int32} {n : Nat} (H : byR g h n) (v : Int32) (s : Nat) : byR (upd g n (cb v s)) (upd h n (cb v s).toInt8.toInt32) (n + 1) := fun k hk => by
  by_cases e : k = n
  · subst e
    obtain ⟨b, hb, e⟩ := cb_rg v s
    rw [pk_us, pk_us]
    exact ⟨b, hb, e, by rw [e]⟩
  · rw [pk_un e, pk_un e]; exact H k (by omega)
theorem byR_4 {g h : Nat → Int32} {n : Nat} (H : byR g h n) (v : Int32) : byR (fed g n v) (fedM h n v) (n + 4) := byR_1 (byR_1 (byR_1 (byR_1 H v 24) v 16) v 8) v 0
theorem s_feed {t : CS} {σ : MS} (h : Inv t σ) (a1 a2 a3 a4 a5 : Int32) : wp_C_feed t a1 a2 a3 a4 a5 (fun v t1 => wp_M_feed σ a1 a2 a3 a4 a5 (fun w σ1 => v = w ∧ Inv t1 σ1)) := by
  obtain ⟨n, hn, e1, e2, e3⟩ := h.tp
  unfold wp_C_feed wp_M_feed
  rw [e1, e2, show nI n + 20 = nI (n + 20) from nI_add n 20]
  by_cases hq : n + 20 ≤ 200
  · refine itT (nI_le (b := 200) hq (by omega)) ?_
    rw [← tB_same t e2]
    refine C_add4 (by omega) (C_add4 (by omega) (C_add4 (by omega) (C_add4 (by omega) (C_add4 (by omega) ?_))))
    refine itT (nI_le (b := 200) hq (by omega)) ?_
    rw [← mB2_same σ e1]
    refine M_four (by omega) (M_four (by omega) (M_four (by omega) (M_four (by omega) (M_four (by omega) ⟨rfl, ?_⟩))))
    have hb : byR (tA t 2) (σ 24) n := e3
    have hb5 := byR_4 (byR_4 (byR_4 (byR_4 (byR_4 hb a1) a2) a3) a4) a5
    exact ⟨h.z, h.c, h.s, h.p, h.r, h.m, h.n, h.w, h.d, ⟨n + 4 + 4 + 4 + 4 + 4, by omega, rfl, rfl, hb5⟩, h.lw, h.ld, h.g, h.f⟩
  · refine itF (nI_ge (a := 200) (b := n + 20) (by omega) (by omega)) (itF (nI_ge (a := 200) (b := n + 20) (by omega) (by omega)) ⟨rfl, h⟩)
