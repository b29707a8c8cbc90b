/-! send -/
def outS (t : CS) (f l : Nat) (w : Int32) : CS := sF (sF (sF (sF (sF t 75 l 1) 77 l (nI f)) 76 l (tF t 171 0)) 81 l (tF t 171 0 + w)) 82 l 1
def outM (σ : MS) (f l : Nat) (w n : Int32) : MS := up2 (up2 (up2 (up2 (up2 σ 50 l 1) 52 l (σ 1 0)) 53 l (nI f)) 54 l (σ 1 0 + w)) 58 l n
theorem l100k : (100000 : Int32) = nI 100000 := by decide +kernel
theorem l100 : (100 : Int32) = nI 100 := by decide +kernel
theorem cl_rgK (r : Int32) : rg (cl r 100000) 0 100000 := cl_rg r l100k (by omega) (by omega)
theorem cl_rgH (r : Int32) : rg (cl r 100) 0 100 := cl_rg r l100 (by omega) (by omega)
theorem M_clampK {σ : MS} {r : Int32} {post : Int32 → MS → Prop} (k : post (cl r 100000) σ) : wp_M_clamp σ r 100000 post := M_clamp l100k (by omega) (by omega) k
theorem M_clampH {σ : MS} {r : Int32} {post : Int32 → MS → Prop} (k : post (cl r 100) σ) : wp_M_clamp σ r 100 post := M_clamp l100 (by omega) (by omega) k
theorem cFo_N {f l : Nat} {w : Int32} : ∀ (ch : List Nat) (t : CS), tN (cFo f l w t ch) = tN t
  | [], _ => rfl
  | j :: rest, t => (cFo_N rest (cSt f l w t j)).trans rfl
theorem cFo_G {f l : Nat} (hf : f < 4) {w : Int32} : ∀ (ch : List Nat) (t : CS), tT (cFo f l w t ch) (l + 11) = tT t (l + 11) ++ ch
  | [], t => (List.append_nil _).symm
  | j :: rest, t => by
    show tT (cFo f l w (cSt f l w t j) rest) (l + 11) = _
    rw [cFo_G hf rest, cSt_G hf, List.append_assoc]; rfl
section Send3
variable {t : CS} {σ : MS}
theorem Inv_pr (h : Inv t σ) {l : Nat} (hl : l < tN t 2) {p : Int32} (hp : rg p 0 100000) : Inv (sF t 78 l p) (up2 σ 55 l p) := by
  refine ⟨h.z, h.c, h.s, h.p, h.r, h.m, h.n, h.w, h.d, h.tp, h.lw, ⟨fun i hi => ?_, fun i hi => ?_⟩, h.g, h.f⟩
  · obtain ⟨k1, k2, k3, k4, k5, k6, k7, k8, k9, k10, k11, k12, k13, k14, k15, k16, k17, k18, k19, k20, k21⟩ := h.ld.1 i hi
    refine ⟨k1, k2, k3, k4, k5, k6, k7, k8, k9, k10, k11, k12, k13, k14, ?_, k16, k17, k18, k19, ?_, k21⟩
    · show upd (tF t 78) l p i = upd (σ 55) l p i
      by_cases e : i = l
      · subst e; rw [pk_us, pk_us]
      · rw [pk_un e, pk_un e]; exact k15
    · show rg (upd (σ 55) l p i) 0 100000
      by_cases e : i = l
      · subst e; rw [pk_us]; exact hp
      · rw [pk_un e]; exact k20
  · obtain ⟨z1, z2, z3⟩ := h.ld.2 i hi
    have hi : tN t 2 ≤ i := hi
    refine ⟨z1, ?_, z3⟩
    show upd (σ 55) l p i = 0
    rw [pk_un (by omega)]; exact z2
theorem Inv_sh (h : Inv t σ) {l : Nat} (hl : l < tN t 2) {p : Int32} (hp : rg p 0 100) : Inv (sF t 79 l p) (up2 σ 56 l p) := by
  refine ⟨h.z, h.c, h.s, h.p, h.r, h.m, h.n, h.w, h.d, h.tp, h.lw, ⟨fun i hi => ?_, fun i hi => ?_⟩, h.g, h.f⟩
  · obtain ⟨k1, k2, k3, k4, k5, k6, k7, k8, k9, k10, k11, k12, k13, k14, k15, k16, k17, k18, k19, k20, k21, k22⟩ := h.ld.1 i hi
    refine ⟨k1, k2, k3, k4, k5, k6, k7, k8, k9, k10, k11, k12, k13, k14, k15, ?_, k17, k18, k19, k20, ?_, k22⟩
    · show upd (tF t 79) l p i = upd (σ 56) l p i
      by_cases e : i = l
      · subst e; rw [pk_us, pk_us]
      · rw [pk_un e, pk_un e]; exact k16
    · show rg (upd (σ 56) l p i) 0 100
      by_cases e : i = l
      · subst e; rw [pk_us]; exact hp
      · rw [pk_un e]; exact k21
  · obtain ⟨z1, z2, z3, z4⟩ := h.ld.2 i hi
    have hi : tN t 2 ≤ i := hi
    refine ⟨z1, z2, ?_, z4⟩
    show upd (σ 56) l p i = 0
    rw [pk_un (by omega)]; exact z3
theorem Inv_lot (h : Inv t σ) {f : Nat} (z : Int32) : Inv (sF t 3 f z) (up2 σ 23 f z) := by
  refine ⟨h.z, h.c, h.s, h.p, h.r, h.m, h.n, h.w, fun g hg => ?_, h.tp, h.lw, h.ld, h.g, h.f⟩
  obtain ⟨d1, d2, d3⟩ := h.d g hg
  refine ⟨d1, ?_, d3⟩
  show upd (tF t 3) f z g = upd (σ 23) f z g
  by_cases e : g = f
  · subst e; rw [pk_us, pk_us]
  · rw [pk_un e, pk_un e]; exact d2
theorem SX_start (h : Inv t σ) {f l : Nat} (hf : f < 4) (hl : l < tN t 2) (h50 : σ 50 l = 0) {ch : List Nat} (h8 : ch.length ≤ 8) (hch : ∀ x ∈ ch, x ∈ tT t (f + 7)) {w : Int32} {T v : Nat} (hT : σ 1 0 = nI T) (hTb : T ≤ 99999) (hw : w = nI v) (hv5 : 5 ≤ v) (hv : v ≤ 453) : SX (outS t f l w) (outM σ f l w (nI ch.length)) l f (T + v) ch 0 := by
  obtain ⟨T0, hT0, m1, m2⟩ := h.m
  have em : tF t 171 0 = σ 1 0 := by rw [m1, m2]
  have ea : σ 1 0 + w = nI (T + v) := by rw [hT, hw, nI_add]
  have hwf := h.w f hf
  obtain ⟨T1, g1, g2, g3⟩ := h.g
  have eT : T1 = T := (nI_eq (by omega) (by omega)).mp (g1.symm.trans hT)
  subst eT
  obtain ⟨-, -, -, -, -, q6⟩ := g3 l hl
  have hl0 : tT t (l + 11) = [] ∧ tF t 82 l = 0 := by
    rcases q6 with ⟨-, q1, -, q2⟩ | ⟨-, f2, a, -, -, -, -, -, -, o⟩
    · exact ⟨q2, q1⟩
    · rcases o with ⟨-, -, o, -⟩ | ⟨-, -, o⟩ <;> rcases o with o | o <;> rw [h50] at o <;> exact absurd o (by decide)
  refine ⟨h.z, h.c, h.s, h.p, h.r, h.m, h.n, h.w, h.d, h.tp, h.lw, ⟨fun i hi => ?_, fun i hi => ?_⟩, ?_, T1, hT, hTb, by omega, by omega, fun k hk hkl => ?_, (show upd (σ 58) l (nI ch.length) l = nI ch.length from pk_us), hl0.1, fun k hk => absurd hk (Nat.not_lt_zero k), (show upd (tF t 82) l 1 l = 1 from pk_us), (show upd (σ 50) l 1 l = 1 from pk_us), (show upd (σ 53) l (nI f) l = nI f from pk_us), ?_, ?_, fun m hm => hwf.2.2.2 m (hch m hm), (fun m hm => by rw [List.take_zero] at hm; cases hm), fun m hm => hch m (by rw [List.drop_zero] at hm; exact hm)⟩
  · obtain ⟨k1, k2, k3, k4, k5, k6, k7, k8, k9, k10, k11, k12, k13, k14, k15⟩ := h.ld.1 i hi
    refine ⟨k1, k2, k3, k4, k5, k6, k7, k8, k9, k10, k11, ?_, ?_, ?_, k15⟩
    · show upd (tF t 75) l 1 i = upd (σ 50) l 1 i
      by_cases e : i = l
      · subst e; rw [pk_us, pk_us]
      · rw [pk_un e, pk_un e]; exact k12
    · show upd (tF t 76) l (tF t 171 0) i = upd (σ 52) l (σ 1 0) i
      by_cases e : i = l
      · subst e; rw [pk_us, pk_us, em]
      · rw [pk_un e, pk_un e]; exact k13
    · show upd (tF t 77) l (nI f) i = upd (σ 53) l (nI f) i
      by_cases e : i = l
      · subst e; rw [pk_us, pk_us]
      · rw [pk_un e, pk_un e]; exact k14
  · obtain ⟨z1, z2, z3, z4, z5⟩ := h.ld.2 i hi
    have hi : tN t 2 ≤ i := hi
    refine ⟨?_, z2, z3, z4, ?_⟩
    · show upd (σ 52) l (σ 1 0) i = 0
      rw [pk_un (by omega)]; exact z1
    · show upd (σ 58) l (nI ch.length) i = 0
      rw [pk_un (by omega)]; exact z5
  · obtain ⟨D, hD, hF, hP⟩ := h.f
    refine ⟨D, hD, hF, hP.1, ?_⟩
    have e : thr (outS t f l w) (outM σ f l w (nI ch.length)) = thr t σ := by
      unfold thr
      refine fb_ct_cong (fun k hk => ?_)
      show decide (upd (σ 50) l 1 k = 2) = decide (σ 50 k = 2)
      by_cases e : k = l
      · subst e; rw [pk_us, h50]; rfl
      · rw [pk_un e]
    rw [e]; exact hP.2
  · exact gng_congr (g3 k hk) (show upd (σ 58) l (nI ch.length) k = σ 58 k from pk_un hkl) (fun _ _ => rfl) rfl (Nat.le_refl _) (show upd (σ 50) l 1 k = σ 50 k from pk_un hkl) (show upd (tF t 82) l 1 k = tF t 82 k from pk_un hkl) (show upd (σ 53) l (nI f) k = σ 53 k from pk_un hkl) (show upd (σ 54) l (σ 1 0 + w) k = σ 54 k from pk_un hkl) (show upd (tF t 81) l (tF t 171 0 + w) k = tF t 81 k from pk_un hkl) (fun _ _ => rfl) (fun _ m _ _ => ⟨rfl, rfl, fun _ _ hx => hx⟩)
  · show upd (σ 54) l (σ 1 0 + w) l = nI (T1 + v)
    rw [pk_us, ea]
  · show upd (tF t 81) l (tF t 171 0 + w) l = nI (T1 + v)
    rw [pk_us, em, ea]
theorem Core_of (h : Inv t σ) : Core t σ := h.core
theorem C_setTail {f l : Nat} (hf : f < 4) (hl : l < tN t 2) (hn0 : tN t 0 = 4) {w : Int32} {ch : List Nat} (hnd : ch.Nodup) (h8 : ch.length ≤ 8) {mc ms : Nat} (hmc : 8 ≤ mc) (hms : 4880 ≤ ms) (hok : cOk (outS t f l w) f l ch 0) {post : CS → Prop} (k : post (cFo f l w (outS t f l w) ch)) : l < tN t 2 ∧ (∀ t41 : CS, t41 = sF t 75 l (1 : Int32) → (f < tN t41 0 ∧ (l < tN t41 2 ∧ (∀ t44 : CS, t44 = sF t41 77 l (nI f) → (l < tN t44 2 ∧ (∀ t46 : CS, t46 = sF t44 76 l (tF t44 171 0) → (l < tN t46 2 ∧ (∀ t48 : CS, t48 = sF t46 81 l ((tF t46 171 0) + w) → (l < tN t48 2 ∧ (∀ t50 : CS, t50 = sF t48 82 l (1 : Int32) → (∃ nn : Nat, wp_C_setOut_100 mc ms post nn 0 0 t50 f l w (0 : Int32)))))))))))) := by
  have hf0 : f < tN t 0 := by rw [hn0]; exact hf
  refine ⟨hl, nm_e ⟨hf0, hl, nm_e ⟨hl, nm_e ⟨hl, nm_e ⟨hl, nm_e ⟨ch.length + 1, ?_⟩⟩⟩⟩⟩⟩
  refine C_setLoop (t := outS t f l w) hf hmc hms hnd h8 ch.length 0 0 0 (by omega) hok (by omega) (by omega) ?_
  rw [List.drop_zero]; exact k
theorem C_setOut (h : Inv t σ) {f l : Nat} (hf : f < 4) (hl : l < tN t 2) (h50 : σ 50 l = 0) {ch : List Nat} (h5 : tT t 5 = ch) (hnd : ch.Nodup) (h8 : ch.length ≤ 8) (hch : ∀ x ∈ ch, x ∈ tT t (f + 7)) {mc ms : Nat} (hmc : 8 ≤ mc) (hms : 4880 ≤ ms) {post : CS → Prop} {p s : Int32} (hp : p = cl (svv t σ (nI f) 1 (some l) none) 100000) (hs : s = cl (svv t σ (nI f) 4 (some l) none) 100) (k : ∀ P Q d P' Q' d', post (cFo f l (wyv σ (tG t 0 l) (tG t 1 l)) (outS (sF (tS (sF (tS t P Q d) 78 l p) P' Q' d') 79 l s) f l (wyv σ (tG t 0 l) (tG t 1 l))) ch)) : wp_C_setOut mc ms t f l post := by
  have hf0 : f < tN t 0 := by rw [h.z.1]; exact hf
  obtain ⟨l1, l2, l3, l4, l5, l6, -⟩ := h.ld.1 l hl
  have rp : rg p 0 100000 := by rw [hp]; exact cl_rgK _
  refine ⟨hf0, C_says h.core (l := some l) (m := none) hl trivial (fun P Q d => ⟨hl, ?_⟩)⟩
  refine nm_r (e' := sF (tS t P Q d) 78 l p) (by rw [hp]; rfl) ⟨hf0, ?_⟩
  have h4 : Inv (sF (tS t P Q d) 78 l p) (up2 σ 55 l p) := Inv_pr (h.scC P Q d) hl rp
  refine C_says (t := sF (tS t P Q d) 78 l p) h4.core (l := some l) (m := none) hl trivial (fun P' Q' d' => ⟨hl, ?_⟩)
  have es : svv (sF (tS t P Q d) 78 l p) (up2 σ 55 l p) (nI f) 4 (some l) none = svv t σ (nI f) 4 (some l) none := svv_tS (t := t) (σ := σ) (P := P) (Q := Q) (d := d) (nI f) 4 (some l) none
  rw [es]
  refine nm_r (e' := sF (tS (sF (tS t P Q d) 78 l p) P' Q' d') 79 l s) (by rw [hs]; rfl) ⟨hl, ?_⟩
  refine C_wayMin (t := sF (tS (sF (tS t P Q d) 78 l p) P' Q' d') 79 l s) (σ := σ) h.p h.r h.m l5 l6 ?_
  have hl0 : tT t (l + 11) = [] := by
    obtain ⟨T1, g1, g2, g3⟩ := h.g
    obtain ⟨-, -, -, -, -, q6⟩ := g3 l hl
    rcases q6 with ⟨-, q1, -, q2⟩ | ⟨-, f2, a, -, -, -, -, -, -, o⟩
    · exact q2
    · rcases o with ⟨-, -, o, -⟩ | ⟨-, -, o⟩ <;> rcases o with o | o <;> rw [h50] at o <;> exact absurd o (by decide)
  have hwf := h.w f hf
  refine C_setTail (t := sF (tS (sF (tS t P Q d) 78 l p) P' Q' d') 79 l s) hf hl h.z.1 hnd h8 hmc hms ?_ (k P Q d P' Q' d')
  exact ⟨h.z.1, h.z.b3, hl, h5, fun x hx => (hwf.2.2.2 x (hch x hx)).1, hwf.2.2.1, fun x hx => (hwf.2.2.2 x hx).1, fun x hx => hch x (by rw [List.drop_zero] at hx; exact hx), (show (tT t (l + 11)).length = 0 by rw [hl0]; rfl), (show ∀ x ∈ tT t (l + 11), x < tN t 3 by rw [hl0]; exact fun x hx => by cases hx), h.c⟩
theorem M_setTail (h5 : Inv t σ) {f l : Nat} (hf : f < 4) (hl : l < tN t 2) (h50 : σ 50 l = 0) {ch : List Nat} (hnd : ch.Nodup) (h8 : ch.length ≤ 8) (hne : ch ≠ []) (hch : ∀ x ∈ ch, x ∈ tT t (f + 7)) (h60 : σ 60 0 = nI ch.length) (htk : tkR (σ 61) ch) {w : Int32} (hw : rg w 5 453) : vp_in (nI l) 200 ∧ (∀ σ47 : MS, σ47 = up2 σ 50 l (1 : Int32) → (vp_in (nI l) 200 ∧ (∀ σ49 : MS, σ49 = up2 σ47 52 l (σ47 1 0) → (vp_in (nI l) 200 ∧ (∀ σ51 : MS, σ51 = up2 σ49 53 l (nI f) → (vp_in (nI l) 200 ∧ (∀ σ53 : MS, σ53 = up2 σ51 54 l ((σ51 1 0) + w) → (vp_in (nI l) 200 ∧ (∀ σ55 : MS, σ55 = up2 σ53 58 l (σ53 60 0) → (∃ nn : Nat, wp_M_send_173 (fun v σ1 => nI ch.length = v ∧ Inv (cFo f l w (outS t f l w) ch) σ1) nn σ55 (nI l) w (0 : Int32))))))))))) := by
  have hb := h5.z.b2
  have hv : vp_in (nI l) 200 := vp_in_nI (by omega) (by omega)
  obtain ⟨T, hT, e1, e2⟩ := h5.m
  obtain ⟨v, hv5, hv4, ev⟩ := hw
  refine ⟨hv, nm_e ⟨hv, nm_e ⟨hv, nm_e ⟨hv, nm_e ⟨hv, nm_r (e' := outM σ f l w (nI ch.length)) ?_ ⟨ch.length + 1, ?_⟩⟩⟩⟩⟩⟩
  · show up2 _ 58 l (σ 60 0) = _
    rw [h60]; rfl
  have hS := SX_start h5 hf hl h50 h8 hch (T := T) (v := v) (w := w) e1 hT ev hv5 hv4
  have hL := M_sendLoop (T := T) (w := w) hf hnd h8 hne (by rw [ev, nI_add]) ch.length 0 (outS t f l w) (outM σ f l w (nI ch.length)) (by omega) hl hS e1 h60 htk
  rw [List.drop_zero] at hL
  exact hL
theorem M_setOut (h : Inv t σ) {f l : Nat} (hf : f < 4) (hl : l < tN t 2) (h50 : σ 50 l = 0) {ch : List Nat} (hnd : ch.Nodup) (h8 : ch.length ≤ 8) (hne : ch ≠ []) (hch : ∀ x ∈ ch, x ∈ tT t (f + 7)) (h60 : σ 60 0 = nI ch.length) (htk : tkR (σ 61) ch) {P Q P' Q' : Nat → Int32} {d d' : Int32} {p s : Int32} (hp : p = cl (svv t σ (nI f) 1 (some l) none) 100000) (hs : s = cl (svv t σ (nI f) 4 (some l) none) 100) : wp_M_wayNow σ (σ 46 l) (σ 47 l) (fun r33 σ32 => wp_M_saysNow σ32 (nI f) (1 : Int32) (nI l) (-1 : Int32) (fun r35 σ34 => wp_M_clamp σ34 r35 (100000 : Int32) (fun r37 σ36 => vp_in (nI l) 200 ∧ (∀ σ39 : MS, σ39 = up2 σ36 55 l r37 → (wp_M_saysNow σ39 (nI f) (4 : Int32) (nI l) (-1 : Int32) (fun r41 σ40 => wp_M_clamp σ40 r41 (100 : Int32) (fun r43 σ42 => vp_in (nI l) 200 ∧ (∀ σ45 : MS, σ45 = up2 σ42 56 l r43 → (vp_in (nI l) 200 ∧ (∀ σ47 : MS, σ47 = up2 σ45 50 l (1 : Int32) → (vp_in (nI l) 200 ∧ (∀ σ49 : MS, σ49 = up2 σ47 52 l (σ47 1 0) → (vp_in (nI l) 200 ∧ (∀ σ51 : MS, σ51 = up2 σ49 53 l (nI f) → (vp_in (nI l) 200 ∧ (∀ σ53 : MS, σ53 = up2 σ51 54 l ((σ51 1 0) + r33) → (vp_in (nI l) 200 ∧ (∀ σ55 : MS, σ55 = up2 σ53 58 l (σ53 60 0) → (∃ nn : Nat, wp_M_send_173 (fun v σ1 => nI ch.length = v ∧ Inv (cFo f l (wyv σ (tG t 0 l) (tG t 1 l)) (outS (sF (tS (sF (tS t P Q d) 78 l p) P' Q' d') 79 l s) f l (wyv σ (tG t 0 l) (tG t 1 l))) ch) σ1) nn σ55 (nI l) r33 (0 : Int32)))))))))))))))))))) := by
  have hb := h.z.b2
  have hv : vp_in (nI l) 200 := vp_in_nI (by omega) (by omega)
  obtain ⟨l1, l2, l3, l4, l5, l6, -⟩ := h.ld.1 l hl
  have rp : rg p 0 100000 := by rw [hp]; exact cl_rgK _
  have rs : rg s 0 100 := by rw [hs]; exact cl_rgH _
  rw [l3, l4]
  refine M_wayNow h.z h.p h.r l5 l6 (M_says h.core (l := some l) (m := none) hl trivial (fun P2 Q2 => M_clampK ⟨hv, ?_⟩))
  rw [← hp]
  refine nm_e ?_
  have h4 : Inv (sF (tS t P Q d) 78 l p) (up2 (sR (sR σ 41 P2) 42 Q2) 55 l p) := Inv_pr ((h.scC P Q d).scM P2 Q2) hl rp
  refine M_says (t := sF (tS t P Q d) 78 l p) h4.core (l := some l) (m := none) hl trivial (fun P3 Q3 => ?_)
  have es : svv (sF (tS t P Q d) 78 l p) (up2 (sR (sR σ 41 P2) 42 Q2) 55 l p) (nI f) 4 (some l) none = svv t σ (nI f) 4 (some l) none := svv_tS (t := t) (σ := σ) (P := P) (Q := Q) (d := d) (nI f) 4 (some l) none
  rw [es]
  refine M_clampH ⟨hv, ?_⟩
  rw [← hs]
  refine nm_e ?_
  have h5 : Inv (sF (tS (sF (tS t P Q d) 78 l p) P' Q' d') 79 l s) (up2 (sR (sR (up2 (sR (sR σ 41 P2) 42 Q2) 55 l p) 41 P3) 42 Q3) 56 l s) := Inv_sh ((h4.scC P' Q' d').scM P3 Q3) hl rs
  exact M_setTail h5 hf hl h50 hnd h8 hne hch h60 htk (wyv_rg h.p l5 l6)
theorem s_send (h : Inv t σ) (a1 a2 : Int32) : wp_C_send 1170 14200 t a1 a2 (fun v t1 => wp_M_send σ a1 a2 (fun w σ1 => v = w ∧ Inv t1 σ1)) := by
  have hb := h.z.b2
  unfold wp_C_send
  rcases ix a1 (n := 4) (by omega) with hn | ⟨f, hf, rfl⟩
  · have hM : wp_M_send σ a1 a2 (fun w σ1 => (-1 : Int32) = w ∧ Inv t σ1) := M_fe_no hn ⟨rfl, h⟩
    refine C_fe_no h.z hn ?_
    rcases ix a2 (n := tN t 2) (by omega) with hn2 | ⟨l, hl, rfl⟩
    · exact C_ld_no h.z hn2 (oN hM)
    · exact C_ld h.z hl (oN hM)
  refine C_fe h.z hf ?_
  rcases ix a2 (n := tN t 2) (by omega) with hn2 | ⟨l, hl, rfl⟩
  · refine C_ld_no h.z hn2 (oS (oN ?_))
    exact M_fe hf (M_ld_no h.z hn2 ⟨rfl, h⟩)
  have hf0 : f < tN t 0 := by rw [h.z.1]; exact hf
  have hcf : (nI f).toNatClampNeg = f := nI_clamp (by omega)
  have hvf : vp_in (nI f) 4 := vp_in_nI hf (by omega)
  have hcl : (nI l).toNatClampNeg = l := nI_clamp (by omega)
  have hvl : vp_in (nI l) 200 := vp_in_nI (by omega) (by omega)
  refine C_ld h.z hl (oS (oS (C_hind h.core hf hl (fun P Q d => ?_))))
  rcases hnv_0 t σ f l with h0 | ⟨h0, h0'⟩
  · rw [h0]
    have h50 : σ 50 l = 0 := by
      by_cases q : σ 50 l = 0
      · exact q
      · unfold hnv at h0
        rw [if_neg q] at h0; exact absurd h0 (by decide)
    refine itT rfl ⟨hf0, 800, 3200, ⟨by omega, by omega⟩, ?_⟩
    obtain ⟨d1, d2, d3⟩ := h.d f hf
    generalize hdcd : decide (σ 22 f ≠ 0) = dc
    have hdc : σ 22 f = 0 ↔ dc = false := by
      rw [← hdcd]
      exact ⟨fun q => decide_eq_false (fun a => a q), fun q => Classical.byContradiction (fun a => of_decide_eq_false q a)⟩
    obtain ⟨o1, o2, o3, o4, o5, o6, o7⟩ := rsl_ok h hf (l := l) dc
    have hw := (h.w f hf).2.2.2
    refine C_choose (t := tS t P Q d) (dc := dc) (h.core.sc P Q d) h.w h.d h.c hf hl (show tF t 2 f = 0 ↔ dc = false by rw [d1]; exact hdc) (Nat.le_refl _) (Nat.le_refl _) (fun P' Q' d' k5 k6 g1 g2 g3 g4 => ?_)
    rw [rsl_tS] at g1 g3 ⊢
    rw [tS_tS]
    have hIW : Inv (tW (tS t P' Q' d') (rsl t σ f l dc).2.1 (rsl t σ f l dc).2.2.1 k5 k6 (rsl t σ f l dc).2.2.2) σ := Inv_tW (h.scC P' Q' d') (fun x hx => (hw x (o1 x hx)).1) (fun x hx => (hw x (o2 x hx)).1) g1 g3 g2 g4 (by omega) o4
    have hM : ∀ (X : Int32 → MS → Prop), (∀ P3 Q3 tk it, tkR tk (rsl t σ f l dc).2.1 → (if (rsl t σ f l dc).1 = true then (wp_M_wayNow (mT (sR (sR σ 41 P3) 42 Q3) (nI (rsl t σ f l dc).2.1.length) tk it (upd (σ 23) f (rsl t σ f l dc).2.2.2)) (σ 46 l) (σ 47 l) (fun r33 σ32 => wp_M_saysNow σ32 (nI f) (1 : Int32) (nI l) (-1 : Int32) (fun r35 σ34 => wp_M_clamp σ34 r35 (100000 : Int32) (fun r37 σ36 => vp_in (nI l) 200 ∧ (∀ σ39 : MS, σ39 = up2 σ36 55 l r37 → (wp_M_saysNow σ39 (nI f) (4 : Int32) (nI l) (-1 : Int32) (fun r41 σ40 => wp_M_clamp σ40 r41 (100 : Int32) (fun r43 σ42 => vp_in (nI l) 200 ∧ (∀ σ45 : MS, σ45 = up2 σ42 56 l r43 → (vp_in (nI l) 200 ∧ (∀ σ47 : MS, σ47 = up2 σ45 50 l (1 : Int32) → (vp_in (nI l) 200 ∧ (∀ σ49 : MS, σ49 = up2 σ47 52 l (σ47 1 0) → (vp_in (nI l) 200 ∧ (∀ σ51 : MS, σ51 = up2 σ49 53 l (nI f) → (vp_in (nI l) 200 ∧ (∀ σ53 : MS, σ53 = up2 σ51 54 l ((σ51 1 0) + r33) → (vp_in (nI l) 200 ∧ (∀ σ55 : MS, σ55 = up2 σ53 58 l (σ53 60 0) → (∃ nn : Nat, wp_M_send_173 X nn σ55 (nI l) r33 (0 : Int32))))))))))))))))))))) else X (-16) (mT (sR (sR σ 41 P3) 42 Q3) (nI (rsl t σ f l dc).2.1.length) tk it (σ 23)))) → wp_M_send σ (nI f) (nI l) X := fun X hX => by
      refine M_fe hf (M_ld h.z hl (M_hind h.core hf hl (fun P2 Q2 => ?_)))
      rw [h0]
      refine itT (by decide) ⟨hvf, ?_⟩
      rw [hcf]
      refine nm_e ⟨hvf, M_take (σ := sR (sR σ 41 P2) 42 Q2) (t := t) (dc := dc) h.core h.w hf hl hdc (fun P3 Q3 tk it htk _ => ?_)⟩
      have eR : rsl t (sR (sR σ 41 P2) 42 Q2) f l dc = rsl t σ f l dc := rfl
      rw [eR] at htk ⊢
      rw [sR_four]
      have hX := hX P3 Q3 tk it htk
      cases hb : (rsl t σ f l dc).1 with
      | false =>
        rw [hb] at hX
        refine itT rfl ⟨hvf, nm_e ?_⟩
        have e : up2 (mT (sR (sR σ 41 P3) 42 Q3) (nI (rsl t σ f l dc).2.1.length) tk it (upd (σ 23) f (rsl t σ f l dc).2.2.2)) 23 f (σ 23 f) = mT (sR (sR σ 41 P3) 42 Q3) (nI (rsl t σ f l dc).2.1.length) tk it (σ 23) := by
          rw [mT_23, fa_upd_twice, fa_upd_same rfl]
        show X (-16) (up2 (mT (sR (sR σ 41 P3) 42 Q3) (nI (rsl t σ f l dc).2.1.length) tk it (upd (σ 23) f (rsl t σ f l dc).2.2.2)) 23 f (σ 23 f))
        rw [e]; exact hX
      | true =>
        rw [hb] at hX
        refine itF (by decide) ⟨hvl, hvl, ?_⟩
        rw [hcl]
        exact hX
    cases hbb : (rsl t σ f l dc).1 with
    | false =>
      refine itT rfl (itF (by decide) ?_)
      refine hM _ (fun P3 Q3 tk it htk => ?_)
      rw [hbb]
      exact ⟨by decide, Inv_mT (σ := sR (sR σ 41 P3) 42 Q3) (hIW.scM P3 Q3)⟩
    | true =>
      refine itF (by decide) (itT rfl ⟨hf0, nm_e ⟨8, 4880, ⟨by omega, by omega⟩, ?_⟩⟩)
      have h3 : Inv (sF (tW (tS t P' Q' d') (rsl t σ f l dc).2.1 (rsl t σ f l dc).2.2.1 k5 k6 (rsl t σ f l dc).2.2.2) 3 f (rsl t σ f l dc).2.2.2) (up2 σ 23 f (rsl t σ f l dc).2.2.2) := Inv_lot hIW _
      have hrowE : tT (sF (tW (tS t P' Q' d') (rsl t σ f l dc).2.1 (rsl t σ f l dc).2.2.1 k5 k6 (rsl t σ f l dc).2.2.2) 3 f (rsl t σ f l dc).2.2.2) (f + 7) = tT t (f + 7) := tW_row (z := (rsl t σ f l dc).2.2.2) f
      have hch3 : ∀ x ∈ (rsl t σ f l dc).2.1, x ∈ tT (sF (tW (tS t P' Q' d') (rsl t σ f l dc).2.1 (rsl t σ f l dc).2.2.1 k5 k6 (rsl t σ f l dc).2.2.2) 3 f (rsl t σ f l dc).2.2.2) (f + 7) := fun x hx => by rw [hrowE]; exact o1 x hx
      have esv : ∀ u, svv (sF (tW (tS t P' Q' d') (rsl t σ f l dc).2.1 (rsl t σ f l dc).2.2.1 k5 k6 (rsl t σ f l dc).2.2.2) 3 f (rsl t σ f l dc).2.2.2) (up2 σ 23 f (rsl t σ f l dc).2.2.2) (nI f) u (some l) none = svv t σ (nI f) u (some l) none := fun u => svv_tS (t := t) (σ := σ) (P := P') (Q := Q') (d := d') (nI f) u (some l) none
      obtain ⟨p, hpp⟩ : ∃ p, p = cl (svv (sF (tW (tS t P' Q' d') (rsl t σ f l dc).2.1 (rsl t σ f l dc).2.2.1 k5 k6 (rsl t σ f l dc).2.2.2) 3 f (rsl t σ f l dc).2.2.2) (up2 σ 23 f (rsl t σ f l dc).2.2.2) (nI f) 1 (some l) none) 100000 := ⟨_, rfl⟩
      obtain ⟨s, hss⟩ : ∃ s, s = cl (svv (sF (tW (tS t P' Q' d') (rsl t σ f l dc).2.1 (rsl t σ f l dc).2.2.1 k5 k6 (rsl t σ f l dc).2.2.2) 3 f (rsl t σ f l dc).2.2.2) (up2 σ 23 f (rsl t σ f l dc).2.2.2) (nI f) 4 (some l) none) 100 := ⟨_, rfl⟩
      refine C_setOut (t := sF (tW (tS t P' Q' d') (rsl t σ f l dc).2.1 (rsl t σ f l dc).2.2.1 k5 k6 (rsl t σ f l dc).2.2.2) 3 f (rsl t σ f l dc).2.2.2) (σ := up2 σ 23 f (rsl t σ f l dc).2.2.2) h3 hf hl h50 (ch := (rsl t σ f l dc).2.1) rfl o5 o3 hch3 (Nat.le_refl _) (Nat.le_refl _) (p := p) (s := s) hpp hss (fun P4 Q4 d4 P5 Q5 d5 => ?_)
      have hl0 : tT t (l + 11) = [] := by
        obtain ⟨T1, g1, g2, g3⟩ := h.g
        obtain ⟨-, -, -, -, -, q6⟩ := g3 l hl
        rcases q6 with ⟨-, q1, -, q2⟩ | ⟨-, f2, a, -, -, -, -, -, -, o⟩
        · exact q2
        · rcases o with ⟨-, -, o, -⟩ | ⟨-, -, o⟩ <;> rcases o with o | o <;> rw [h50] at o <;> exact absurd o (by decide)
      rw [cFo_N, cFo_G hf]
      have e0 : tT (outS (sF (tS (sF (tS (sF (tW (tS t P' Q' d') (rsl t σ f l dc).2.1 (rsl t σ f l dc).2.2.1 k5 k6 (rsl t σ f l dc).2.2.2) 3 f (rsl t σ f l dc).2.2.2) P4 Q4 d4) 78 l p) P5 Q5 d5) 79 l s) f l (wyv (up2 σ 23 f (rsl t σ f l dc).2.2.2) (tG (sF (tW (tS t P' Q' d') (rsl t σ f l dc).2.1 (rsl t σ f l dc).2.2.1 k5 k6 (rsl t σ f l dc).2.2.2) 3 f (rsl t σ f l dc).2.2.2) 0 l) (tG (sF (tW (tS t P' Q' d') (rsl t σ f l dc).2.1 (rsl t σ f l dc).2.2.1 k5 k6 (rsl t σ f l dc).2.2.2) 3 f (rsl t σ f l dc).2.2.2) 1 l))) (l + 11) = [] := (tW_row (t := tS t P' Q' d') (z := (rsl t σ f l dc).2.2.2) (l + 4)).trans hl0
      rw [e0, List.nil_append]
      refine ⟨hl, by show l + 11 < tN t 2 + 11; omega, ?_⟩
      refine hM _ (fun P3 Q3 tk it htk => ?_)
      rw [hbb]
      refine itT rfl ?_
      have h3m : Inv (sF (tW (tS t P' Q' d') (rsl t σ f l dc).2.1 (rsl t σ f l dc).2.2.1 k5 k6 (rsl t σ f l dc).2.2.2) 3 f (rsl t σ f l dc).2.2.2) (mT (sR (sR σ 41 P3) 42 Q3) (nI (rsl t σ f l dc).2.1.length) tk it (upd (σ 23) f (rsl t σ f l dc).2.2.2)) := ⟨h3.z, h3.c, h3.s, h3.p, h3.r, h3.m, h3.n, h3.w, h3.d, h3.tp, h3.lw, h3.ld, h3.g, h3.f⟩
      have esm : ∀ u, svv (sF (tW (tS t P' Q' d') (rsl t σ f l dc).2.1 (rsl t σ f l dc).2.2.1 k5 k6 (rsl t σ f l dc).2.2.2) 3 f (rsl t σ f l dc).2.2.2) (mT (sR (sR σ 41 P3) 42 Q3) (nI (rsl t σ f l dc).2.1.length) tk it (upd (σ 23) f (rsl t σ f l dc).2.2.2)) (nI f) u (some l) none = svv t σ (nI f) u (some l) none := fun u => svv_tS (t := t) (σ := σ) (P := P') (Q := Q') (d := d') (nI f) u (some l) none
      exact M_setOut h3m hf hl h50 o5 o3 (o6 hbb) hch3 rfl htk (by rw [esm, hpp, esv]) (by rw [esm, hss, esv])
  · refine itF h0 ?_
    refine itF h0 ?_
    refine M_fe hf (M_ld h.z hl (M_hind h.core hf hl (fun P2 Q2 => itF h0' ⟨rfl, ?_⟩)))
    exact (h.scC P Q d).scM P2 Q2
end Send3
