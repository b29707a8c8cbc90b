/-! the model's works, the class's reckon -/
theorem i220 (f k : Nat) : (220 : Int32) * nI f + nI k = nI (220 * f + k) := by
  rw [show (220 : Int32) = nI 220 from rfl, pk_mul, nI_add]
theorem ni_s1 {d : Nat} (h : 1 ≤ d) : nI d - 1 = nI (d - 1) := pk_sub (b := 1) h
theorem evk_N {nm g S : Nat → Int32} {r k d : Nat} (h : ¬ g k < 1000) : evk nm g (r + 1) k d S = evk nm g r (k + 1) (d + 1) (upd S d (g k - 1000)) := by
  show (if ¬ g k < 1000 then _ else _) = _
  rw [if_pos h]
theorem evk_M {nm g S : Nat → Int32} {r k d : Nat} (h : g k < 1000) (h1 : ¬ g k < 128) (h2 : ¬ 141 ≤ g k) : evk nm g (r + 1) k d S = evk nm g r (k + 1) (d + 1) (upd S d (nm (g k - 128).toNatClampNeg)) := by
  show (if ¬ g k < 1000 then _ else if ¬ g k < 128 ∧ ¬ 141 ≤ g k then _ else _) = _
  rw [if_neg (fun q => q h), if_pos ⟨h1, h2⟩]
theorem evk_G {nm g S : Nat → Int32} {r k d : Nat} (h : g k = 1) : evk nm g (r + 1) k d S = S 0 := by
  show (if ¬ g k < 1000 then _ else if ¬ g k < 128 ∧ ¬ 141 ≤ g k then _ else if g k = 1 then _ else _) = _
  rw [h, if_neg (by decide), if_neg (by decide), if_pos rfl]
theorem evk_Not {nm g S : Nat → Int32} {r k d : Nat} (h : g k = 144) : evk nm g (r + 1) k d S = evk nm g r (k + 1) d (upd S (d - 1) (if S (d - 1) = 0 then 1 else 0)) := by
  show (if ¬ g k < 1000 then _ else if ¬ g k < 128 ∧ ¬ 141 ≤ g k then _ else if g k = 1 then _ else if g k = 144 then _ else _) = _
  rw [h, if_neg (by decide), if_neg (by decide), if_neg (by decide), if_pos rfl]
theorem evk_If {nm g S : Nat → Int32} {r k d : Nat} (h : g k = 141) : evk nm g (r + 1) k d S = if S 1 = 0 then evk nm g r (k + 1) 0 S else S 0 := by
  show (if ¬ g k < 1000 then _ else if ¬ g k < 128 ∧ ¬ 141 ≤ g k then _ else if g k = 1 then _ else if g k = 144 then _ else if g k = 141 then _ else _) = _
  rw [h, if_neg (by decide), if_neg (by decide), if_neg (by decide), if_neg (by decide), if_pos rfl]
theorem evk_B {nm g S : Nat → Int32} {r k d : Nat} (h0 : g k < 1000) (h1 : g k < 128 ∨ 141 ≤ g k) (h2 : g k ≠ 1) (h3 : g k ≠ 144) (h4 : g k ≠ 141) : evk nm g (r + 1) k d S = evk nm g r (k + 1) (d - 1) (upd S (d - 2) (wkv (g k) (S (d - 2)) (S (d - 1)))) := by
  show (if ¬ g k < 1000 then _ else if ¬ g k < 128 ∧ ¬ 141 ≤ g k then _ else if g k = 1 then _ else if g k = 144 then _ else if g k = 141 then _ else _) = _
  rw [if_neg (fun q => q h0), if_neg (fun q => h1.elim q.1 q.2), if_neg h2, if_neg h3, if_neg h4]
theorem agr_push {P S : Nat → Int32} {d : Nat} (h : ∀ i, i < d → P i = S i) {x y : Int32} (e : x = y) : ∀ i, i < d + 1 → upd P d x i = upd S d y i := fun i hi => by
  by_cases q : i = d
  · subst q; rw [pk_us, pk_us]; exact e
  · rw [pk_un q, pk_un q]; exact h i (by omega)
theorem agr_set {P S : Nat → Int32} {d j : Nat} (h : ∀ i, i < d → P i = S i) {x y : Int32} (e : x = y) : ∀ i, i < d → upd P j x i = upd S j y i := fun i hi => by
  by_cases q : i = j
  · subst q; rw [pk_us, pk_us]; exact e
  · rw [pk_un q, pk_un q]; exact h i hi
theorem M_works {t : CS} {σ : MS} (hz : tN t 1 ≤ 40) (hl : ILw t σ) {o : Nat} (ho : o < tN t 1) {post : Int32 → MS → Prop} (k : ∀ P, post (evk (σ 41) (tA t (o + 8)) (tG t 2 o) 0 0 (fun _ => 0)) (sR σ 42 P)) : wp_M_works σ (nI o) post := by
  obtain ⟨-, -, -, -, hN, e31, htr, hdp⟩ := hl o ho
  generalize hV : evk (σ 41) (tA t (o + 8)) (tG t 2 o) 0 0 (fun _ => 0) = V at k
  generalize hg : tA t (o + 8) = g at htr hdp hV
  generalize hNN : tG t 2 o = N at hN e31 htr hdp hV
  have hco : (nI o).toNatClampNeg = o := nI_clamp (by omega)
  have hvo : vp_in (nI o) 40 := vp_in_nI (by omega) (by omega)
  have main : ∀ r kk d S P, kk + r = N → dpt g kk = some d → d ≤ 200 → (∀ i, i < d → P i = S i) → evk (σ 41) g r kk d S = V → wp_M_works_8 post (r + 1) (sR σ 42 P) (nI o) (nI d) (nI (220 * o + kk)) := by
    intro r
    induction r with
    | zero =>
      intro kk d S P hk hd hdl hag hv
      refine ⟨hvo, itT ?_ ?_⟩
      · show (220 : Int32) * nI o + σ 31 (nI o).toNatClampNeg ≤ nI (220 * o + kk)
        rw [hco, e31, i220]; exact nI_le (by omega) (by omega)
      · have hv : (0 : Int32) = V := hv
        rw [hv]; exact k P
    | succ r ih =>
      intro kk d S P hk hd hdl hag hv
      obtain ⟨d', h1, h2⟩ := dpt_step hdp (show kk < N by omega) hd
      have hx : (nI (220 * o + kk)).toNatClampNeg = 220 * o + kk := nI_clamp (by omega)
      refine ⟨hvo, itF ?_ ⟨vp_in_nI (by omega) (by omega), ?_⟩⟩
      · show ¬ (220 : Int32) * nI o + σ 31 (nI o).toNatClampNeg ≤ nI (220 * o + kk)
        rw [hco, e31, i220]; exact nI_ge (by omega) (by omega)
      obtain ⟨s, hs⟩ : ∃ s, s = σ 32 (220 * o + kk) := ⟨_, rfl⟩
      have htk := htr kk (by omega)
      rw [← hs] at htk
      refine nm_r (e' := s) (show σ 32 (nI (220 * o + kk)).toNatClampNeg = s by rw [hx, hs]) ?_
      have nxt : ∀ d2 S2 P2, dpt g (kk + 1) = some d2 → d2 ≤ 200 → (∀ i, i < d2 → P2 i = S2 i) → evk (σ 41) g r (kk + 1) d2 S2 = V → wp_M_works_188 (wp_M_works_8 post (r + 1)) post (sR σ 42 P2) (nI o) (nI d2) (nI (220 * o + kk)) := fun d2 S2 P2 q1 q2 q3 q4 => by
        rintro x1 rfl
        rw [nI_1]; exact ih (kk + 1) d2 S2 P2 (by omega) q1 q2 q3 q4
      rcases kind_of htk with ⟨c1, c2, c3⟩ | ⟨c1, c2, c3, k', c4, c5, c6, c7, c8, c9, c10⟩ | ⟨c1, c2⟩ | ⟨c1, c2⟩ | ⟨c1, c2⟩ | ⟨c0, c1, c2, c3, c4, c5, c6, c7, c8, c9, c10⟩
      · obtain ⟨p1, p2⟩ := dst_push h1 (Or.inl (Int32.not_lt.mp c1))
        rw [evk_N c1] at hv
        refine itF (by rw [c2]; decide) (itF (by rw [c2]; decide) (itT c2 (itT c2 ⟨vp_in_nI (by omega) (by omega), vp_in_nI (by omega) (by omega), ?_⟩)))
        rintro σ5 rfl x6 rfl
        rw [up2_sR, nI_1, nI_clamp (n := d) (by omega)]
        refine nxt (d + 1) _ _ (by rw [h2, p2]) (by omega) (agr_push hag ?_) hv
        show σ 33 (nI (220 * o + kk)).toNatClampNeg = g kk - 1000
        rw [hx, c3]
      · obtain ⟨p1, p2⟩ := dst_push h1 (Or.inr ⟨Int32.not_lt.mp c2, Int32.not_le.mp c3⟩)
        rw [evk_M c1 c2 c3] at hv
        refine itF c7 (itF c8 (itF c9 (itF c10 (itF c9 ?_))))
        rw [c6]
        refine ⟨vp_in_nI c4 (by omega), vp_in_nI (by omega) (by omega), ?_⟩
        rintro σ5 rfl x6 rfl
        rw [up2_sR, nI_1, nI_clamp (n := d) (by omega)]
        refine nxt (d + 1) _ _ (by rw [h2, p2]) (by omega) (agr_push hag ?_) hv
        show σ 41 (nI k').toNatClampNeg = σ 41 (g kk - 128).toNatClampNeg
        rw [c5]
      · rw [c1] at h1
        obtain ⟨p1, p2⟩ := dst_give h1
        rw [evk_G c1] at hv
        refine itT c2 ⟨vp_in_nI (n := 0) (by omega) (by omega), ?_⟩
        show post (P 0) (sR σ 42 P)
        rw [hag 0 (by omega), hv]; exact k P
      · rw [c1] at h1
        obtain ⟨p1, p2⟩ := dst_not h1
        rw [evk_Not c1] at hv
        refine itF (by rw [c2]; decide) (itF (by rw [c2]; decide) (itF (by rw [c2]; decide) (itT (by rw [c2]; decide) (itT c2 ?_))))
        rw [ni_s1 p1, nI_clamp (by omega)]
        refine ⟨vp_in_nI (by omega) (by omega), ?_⟩
        show (if P (d - 1) = 0 then _ else _)
        have hq : P (d - 1) = S (d - 1) := hag _ (by omega)
        refine itE (fun q => ⟨vp_in_nI (by omega) (by omega), ?_⟩) (fun q => ⟨vp_in_nI (by omega) (by omega), ?_⟩)
        · rintro σ3 rfl
          rw [up2_sR, nI_clamp (by omega)]
          refine nxt d _ _ (by rw [h2, p2]) hdl (agr_set hag ?_) hv
          rw [← hq, if_pos q]
        · rintro σ3 rfl
          rw [up2_sR, nI_clamp (by omega)]
          refine nxt d _ _ (by rw [h2, p2]) hdl (agr_set hag ?_) hv
          rw [← hq, if_neg q]
      · rw [c1] at h1
        obtain ⟨p1, p2⟩ := dst_if h1
        rw [evk_If c1] at hv
        refine itF (by rw [c2]; decide) (itT c2 ⟨vp_in_nI (n := 1) (by omega) (by omega), ?_⟩)
        show (if P 1 = 0 then _ else _)
        rw [← hag 1 (by omega)] at hv
        refine itE (fun q => ?_) (fun q => ⟨vp_in_nI (n := 0) (by omega) (by omega), ?_⟩)
        · rw [if_pos q] at hv
          exact nxt 0 S P (by rw [h2, p2]) (by omega) (fun i hi => absurd hi (Nat.not_lt_zero i)) hv
        · rw [if_neg q] at hv
          show post (P 0) (sR σ 42 P)
          rw [hag 0 (by omega), hv]; exact k P
      · obtain ⟨p1, p2⟩ := dst_bin h1 c1 c2 c3 c4 c5
        rw [evk_B c1 c2 c3 c4 c5] at hv
        refine itF c6 (itF c7 (itF c8 (itT c9 (itF c10 ?_))))
        refine nm_r (e' := nI (d - 1)) (by rw [ni_m1, ni_s1 (by omega)]) ?_
        rw [ni_s1 (d := d - 1) (by omega), nI_clamp (n := d - 1 - 1) (by omega), nI_clamp (n := d - 1) (by omega)]
        refine ⟨vp_in_nI (by omega) (by omega), vp_in_nI (by omega) (by omega), M_both c0 ⟨vp_in_nI (by omega) (by omega), ?_⟩⟩
        rintro σ25 rfl
        rw [up2_sR]
        refine nxt (d - 1) (upd S (d - 1 - 1) (wkv (g kk) (S (d - 1 - 1)) (S (d - 1)))) _ (by rw [h2, p2]) (by omega) (agr_set (fun i hi => hag i (by omega)) ?_) ?_
        · show wkv (g kk) (P (d - 1 - 1)) (P (d - 1)) = _
          rw [hag (d - 1 - 1) (by omega), hag (d - 1) (by omega)]
        · rw [show d - 1 - 1 = d - 2 by omega]; exact hv
  unfold wp_M_works
  refine nm_r (e' := nI (220 * o + 0)) (by rw [← i220, nI_0, Int32.add_zero]) ⟨N + 1, ?_⟩
  have e0 : sR σ 42 (σ 42) = σ := by
    funext j
    unfold sR
    by_cases q : j = 42
    · rw [if_pos q, q]
    · rw [if_neg q]
  have := main N 0 0 (fun _ => 0) (σ 42) (by omega) rfl (by omega) (fun i hi => absurd hi (Nat.not_lt_zero i)) hV
  rw [e0] at this
  exact this
def tS (t : CS) (P Q : Nat → Int32) (d : Int32) : CS := (up2 t.1 162 4 d, sR (sR t.2.1 6 P) 7 Q, t.2.2)
theorem tS_put (t : CS) (P Q : Nat → Int32) (d d2 : Int32) (i : Nat) (v : Int32) : sF (sA (tS t P Q d) 7 i v) 162 4 d2 = tS t P (upd Q i v) d2 := by
  unfold tS sF sA
  refine Prod.ext ?_ (Prod.ext ?_ rfl)
  · funext a b
    show up2 (up2 t.1 162 4 d) 162 4 d2 a b = up2 t.1 162 4 d2 a b
    unfold up2 upd
    by_cases h : a = 162
    · rw [if_pos h, if_pos h, if_pos rfl]
      by_cases h2 : b = 4
      · rw [if_pos h2, if_pos h2]
      · rw [if_neg h2, if_neg h2, if_neg h2]
    · rw [if_neg h, if_neg h, if_neg h]
  · exact up2_sR _ 7 Q i v
theorem tS_cnt (t : CS) (P Q : Nat → Int32) (d d2 : Int32) : sF (tS t P Q d) 162 4 d2 = tS t P Q d2 := by
  unfold tS sF
  refine Prod.ext ?_ rfl
  funext a b
  show up2 (up2 t.1 162 4 d) 162 4 d2 a b = up2 t.1 162 4 d2 a b
  unfold up2 upd
  by_cases h : a = 162
  · rw [if_pos h, if_pos h, if_pos rfl]
    by_cases h2 : b = 4
    · rw [if_pos h2, if_pos h2]
    · rw [if_neg h2, if_neg h2, if_neg h2]
  · rw [if_neg h, if_neg h, if_neg h]
theorem tS_same (t : CS) : tS t (tA t 6) (tA t 7) (tF t 162 4) = t := by
  unfold tS
  refine Prod.ext ?_ (Prod.ext ?_ rfl)
  · funext a b
    show up2 t.1 162 4 (t.1 162 4) a b = t.1 a b
    unfold up2 upd
    by_cases h : a = 162
    · rw [if_pos h, h]
      by_cases h2 : b = 4
      · rw [if_pos h2, h2]
      · rw [if_neg h2]
    · rw [if_neg h]
  · funext a
    show sR (sR t.2.1 6 (t.2.1 6)) 7 (t.2.1 7) a = t.2.1 a
    unfold sR
    by_cases h : a = 7
    · rw [if_pos h, h]
    · rw [if_neg h]
      by_cases h2 : a = 6
      · rw [if_pos h2, h2]
      · rw [if_neg h2]
theorem C_put {t : CS} {P Q : Nat → Int32} {d : Nat} (hd : d < 200) {v : Int32} {post : CS → Prop} (k : post (tS t P (upd Q d v) (nI (d + 1)))) : wp_Reck_put (tS t P Q (nI d)) v post := by
  have e : tF (tS t P Q (nI d)) 162 4 = nI d := rfl
  unfold wp_Reck_put
  rw [e]
  refine itF (nI_pos (by omega)) (itF (nI_ge (a := d) (b := 200) (by omega) (by omega)) ⟨vp_in_nI (by omega) (by omega), ?_⟩)
  rintro t4 rfl t5 rfl
  show post (sF (sA (tS t P Q (nI d)) 7 (nI d).toNatClampNeg v) 162 4 (nI d + 1))
  rw [tS_put, nI_clamp (by omega), nI_1]; exact k
theorem C_take {t : CS} {P Q : Nat → Int32} {d : Nat} (hd : d < 200) {post : Int32 → CS → Prop} (k : post (Q d) (tS t P Q (nI d))) : wp_Reck_take (tS t P Q (nI (d + 1))) post := by
  have e : tF (tS t P Q (nI (d + 1))) 162 4 = nI (d + 1) := rfl
  unfold wp_Reck_take
  rw [e]
  refine itF (nI_nle (by omega) (by omega)) (itT (nI_le (a := d + 1) (b := 200) (by omega) (by omega)) ?_)
  rintro t3 rfl
  rw [tS_cnt, nI_pred]
  show vp_in (nI d) 200 ∧ post (Q (nI d).toNatClampNeg) (tS t P Q (nI d))
  rw [nI_clamp (by omega)]
  exact ⟨vp_in_nI (by omega) (by omega), k⟩
theorem C_notName {t : CS} {c : Int32} {post : Int32 → CS → Prop} (h : c < 128 ∨ 141 ≤ c) (k : post 0 t) : wp_Token_isName t c post := itE (fun _ => k) (fun q => itT (h.resolve_left q) k)
theorem C_reckon {t : CS} {σ : MS} {P : Nat → Int32} (hz : tN t 1 ≤ 40) (hl : ILw t σ) {o : Nat} (ho : o < tN t 1) {Q0 : Nat → Int32} {d0 : Int32} {post : Int32 → CS → Prop} (k : ∀ Q d, post (evk P (tA t (o + 8)) (tG t 2 o) 0 0 (fun _ => 0)) (tS t P Q d)) : wp_Reck_reckon (tS t P Q0 d0) (o + 8) post := by
  obtain ⟨-, -, -, -, hN, e31, htr, hdp⟩ := hl o ho
  generalize hV : evk P (tA t (o + 8)) (tG t 2 o) 0 0 (fun _ => 0) = V at k
  generalize hg : tA t (o + 8) = g at htr hdp hV
  generalize hNN : tG t 2 o = N at hN e31 htr hdp hV
  have ea : ∀ Q d, tA (tS t P Q d) (o + 8) = g := fun Q d => by
    rw [← hg]
    show sR (sR t.2.1 6 P) 7 Q (o + 8) = t.2.1 (o + 8)
    unfold sR
    rw [if_neg (by omega), if_neg (by omega)]
  have el : ∀ Q d, alen (tS t P Q d) (o + 8) = N := fun Q d => hNN
  have main : ∀ r kk d S Q, kk + r = N → dpt g kk = some d → d ≤ 200 → (∀ i, i < d → Q i = S i) → evk P g r kk d S = V → wp_Reck_reckon_7 post (r + 1) (tS t P Q (nI d)) (o + 8) (nI kk) := by
    intro r
    induction r with
    | zero =>
      intro kk d S Q hk hd hdl hag hv
      refine ⟨by show o + 8 < tN t 1 + 8; omega, itT ?_ ?_⟩
      · rw [el]; exact nI_le (by omega) (by omega)
      · have hv : (0 : Int32) = V := hv
        rw [hv]; exact k _ _
    | succ r ih =>
      intro kk d S Q hk hd hdl hag hv
      obtain ⟨d', h1, h2⟩ := dpt_step hdp (show kk < N by omega) hd
      refine ⟨by show o + 8 < tN t 1 + 8; omega, itF ?_ ⟨?_, ?_⟩⟩
      · rw [el]; exact nI_ge (by omega) (by omega)
      · rw [el]; exact vp_in_nI (by omega) (by omega)
      rw [ea, nI_clamp (n := kk) (by omega)]
      rintro x8 rfl
      have nxt : ∀ d2 S2 Q2, dpt g (kk + 1) = some d2 → d2 ≤ 200 → (∀ i, i < d2 → Q2 i = S2 i) → evk P g r (kk + 1) d2 S2 = V → wp_Reck_reckon_140 (wp_Reck_reckon_7 post (r + 1)) post (tS t P Q2 (nI d2)) (o + 8) (nI kk) := fun d2 S2 Q2 q1 q2 q3 q4 => by
        rintro x1 rfl
        rw [nI_1]; exact ih (kk + 1) d2 S2 Q2 (by omega) q1 q2 q3 q4
      rcases kind_of (htr kk (by omega)) with ⟨c1, c2, c3⟩ | ⟨c1, c2, c3, k', c4, c5, c6, c7, c8, c9, c10⟩ | ⟨c1, c2⟩ | ⟨c1, c2⟩ | ⟨c1, c2⟩ | ⟨c0, c1, c2, c3, c4, c5, c6, c7, c8, c9, c10⟩
      · obtain ⟨p1, p2⟩ := dst_push h1 (Or.inl (Int32.not_lt.mp c1))
        rw [evk_N c1] at hv
        refine itF c1 (itF (by decide) (C_put p1 ?_))
        exact nxt (d + 1) _ _ (by rw [h2, p2]) (by omega) (agr_push hag rfl) hv
      · obtain ⟨p1, p2⟩ := dst_push h1 (Or.inr ⟨Int32.not_lt.mp c2, Int32.not_le.mp c3⟩)
        rw [evk_M c1 c2 c3] at hv
        refine itT c1 (itT rfl (itF c2 (itF c3 (itF (by decide) ?_))))
        rw [c5] at hv ⊢
        refine itF (nI_pos (by omega)) (itF (nI_ge (a := k') (b := 13) (by omega) (by omega)) ⟨vp_in_nI c4 (by omega), C_put p1 ?_⟩)
        exact nxt (d + 1) _ _ (by rw [h2, p2]) (by omega) (agr_push hag rfl) hv
      · rw [c1] at h1
        obtain ⟨p1, p2⟩ := dst_give h1
        rw [evk_G c1] at hv
        refine itT (by rw [c1]; decide) (itT rfl (itT (by rw [c1]; decide) (itT rfl (itT c1 ?_))))
        subst p1
        refine C_take (by omega) ?_
        rw [hag 0 (by omega), hv]; exact k _ _
      · rw [c1] at h1
        obtain ⟨p1, p2⟩ := dst_not h1
        rw [evk_Not c1] at hv
        refine itT (by rw [c1]; decide) (itT rfl (itF (by rw [c1]; decide) (itT (by rw [c1]; decide) (itT rfl (itF (by rw [c1]; decide) (itT c1 ?_))))))
        obtain ⟨e, rfl⟩ : ∃ e, d = e + 1 := ⟨d - 1, by omega⟩
        refine C_take (by omega) ?_
        have hq : Q e = S e := hag _ (by omega)
        refine itE (fun q => C_truth1 (C_put (by omega) ?_)) (fun q => C_truth0 (C_put (by omega) ?_))
        · refine nxt (e + 1) _ _ (by rw [h2, p2]) hdl (agr_push (fun i hi => hag i (by omega)) ?_) hv
          show (1 : Int32) = if S e = 0 then 1 else 0
          rw [← hq, if_pos q]
        · refine nxt (e + 1) _ _ (by rw [h2, p2]) hdl (agr_push (fun i hi => hag i (by omega)) ?_) hv
          show (0 : Int32) = if S e = 0 then 1 else 0
          rw [← hq, if_neg q]
      · rw [c1] at h1
        obtain ⟨p1, p2⟩ := dst_if h1
        rw [evk_If c1] at hv
        subst p1
        refine itT (by rw [c1]; decide) (itT rfl (itF (by rw [c1]; decide) (itT (by rw [c1]; decide) (itT rfl (itF (by rw [c1]; decide) (itF (by rw [c1]; decide) (C_take (by omega) (C_take (by omega) (itT c1 ?_)))))))))
        rw [← hag 1 (by omega)] at hv
        refine itE (fun q => ?_) (fun q => ?_)
        · rw [if_pos q] at hv
          exact nxt 0 S Q (by rw [h2, p2]) (by omega) (fun i hi => absurd hi (Nat.not_lt_zero i)) hv
        · rw [if_neg q] at hv
          rw [hag 0 (by omega), hv]; exact k _ _
      · obtain ⟨p1, p2⟩ := dst_bin h1 c1 c2 c3 c4 c5
        rw [evk_B c1 c2 c3 c4 c5] at hv
        obtain ⟨e, rfl⟩ : ∃ e, d = e + 2 := ⟨d - 2, by omega⟩
        refine itT c1 (itT rfl (C_notName c2 (itT rfl (itF c3 (itF c4 (C_take (by omega) (C_take (by omega) (itF c5 (C_worked (C_put (by omega) ?_))))))))))
        refine nxt (e + 1) _ _ (by rw [h2, p2]; rfl) (by omega) (agr_push (fun i hi => hag i (by omega)) ?_) hv
        show wkv (g kk) (Q e) (Q (e + 1)) = wkv (g kk) (S e) (S (e + 1))
        rw [hag e (by omega), hag (e + 1) (by omega)]
  unfold wp_Reck_reckon
  rintro t35 rfl
  rw [tS_cnt]
  exact ⟨N + 1, main N 0 0 (fun _ => 0) Q0 (by omega) rfl (by omega) (fun i hi => absurd hi (Nat.not_lt_zero i)) hV⟩
