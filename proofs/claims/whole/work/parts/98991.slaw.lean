/-! law -/
section Txt
variable {t0 : CS} {σ0 : MS} {b : Nat → Nat} {n cnt : Nat} {tk : Nat → Nat} {a : Nat}
theorem text (hC : Cx t0 σ0 b n cnt tk a) :
    (∃ S, good S 0 ∧ S.length ≤ cnt + 1 ∧ CG t0 (fun t post => wp_Reader_readRule t (fun r t1 => ∃ nn, wp_Reader_read_22 post nn t1 r (nI 0))) 0 [] (-1) cnt S ∧ ∀ post, (∀ σ, MSt σ0 b n cnt tk a σ cnt [] S → post (-1) σ) → ME σ0 b n cnt tk a post 0 [] [] 1 0 0) ∨
    (∃ j S', j ≤ cnt ∧ CG t0 (fun t post => wp_Reader_readRule t (fun r t1 => ∃ nn, wp_Reader_read_22 post nn t1 r (nI 0))) 0 [] (nI (ps b n j)) j S' ∧ ∀ post, FA σ0 b n cnt tk a post j → ME σ0 b n cnt tk a post 0 [] [] 1 0 0) := by
  have hcn : cnt ≤ 200 := Nat.le_trans hC.2.1 hC.1.1
  rcases rule hC (Nat.zero_le _) (Nat.le_refl _) good_nil with ⟨j, V, Sm', x3, x4, c, h1, h2, h3, h4, h5, h6, h7, h8, h9⟩ | ⟨j, S', h1, h2, h3, h4⟩
  · have hlen : (Sm' ++ V ++ [c]).length = Sm'.length + V.length + 1 := by
      rw [List.length_append, List.length_append]; rfl
    by_cases e0 : tk j = 0
    · have ej : j = cnt := by
        by_cases z : j < cnt
        · have := (hC.2.2.2.2.1 j z).2.2.1
          unfold okTk at this
          omega
        · omega
      subst ej
      exact Or.inl ⟨_, h5, by rw [hlen]; omega, fun t ht post k => h8 t ht _ (fun t1 ht1 => ⟨1, rd22e hC ht1 h2 (by decide) e0 (k t1 ht1)⟩), fun post k => h9 post (R_end hC e0 h3 (by omega) h4 k)⟩
    by_cases e59 : tk j = 59
    · have hjn : j < cnt := tk_in hC h2 e0
      have hs : ∀ post, ME σ0 b n cnt tk a post (j + 1) [] (Sm' ++ V ++ [c]) 1 0 0 → ME σ0 b n cnt tk a post 0 [] [] 1 0 0 := fun post k => h9 post (R_semi hC hjn e59 h3 (by omega) h4 k)
      obtain ⟨nn, P⟩ := rules hC (cnt - (j + 1)) (j + 1) (Sm' ++ V ++ [c]) 1 (Nat.le_refl _) hjn (by rw [hlen]; omega) h5 (by omega)
      rcases P with ⟨S, g1, g2, g3, g4⟩ | ⟨j2, S', g1, g2, g3⟩
      · exact Or.inl ⟨S, g1, g2, fun t ht post k => h8 t ht _ (fun t1 ht1 => ⟨nn + 1, rd22s hC ht1 h2 (by decide) (by omega) e59 (fun t2 ht2 => g3 t2 ht2 post k)⟩), fun post k => hs post (g4 post k)⟩
      · exact Or.inr ⟨j2, S', g1, fun t ht post k => h8 t ht _ (fun t1 ht1 => ⟨nn + 1, rd22s hC ht1 h2 (by decide) (by omega) e59 (fun t2 ht2 => g2 t2 ht2 post k)⟩), fun post k => hs post (g3 post k)⟩
    · exact Or.inr ⟨j, _, h2, fun t ht post k => h8 t ht _ (fun t1 ht1 => ⟨1, rd22f hC ht1 h2 (Or.inr ⟨e0, e59⟩) (k t1 ht1)⟩), fun post k => h9 post (h7 post e0 e59 k)⟩
  · exact Or.inr ⟨j, S', h2, fun t ht post k => h3 t ht _ (fun t1 ht1 => ⟨1, rd22f hC ht1 h2 (Or.inl rfl) (k t1 ht1)⟩), h4⟩
theorem M_first (hC : Cx t0 σ0 b n cnt tk a) {σ : MS} (h1 : frm a σ0 σ) (h34 : σ 34 0 = 0) (h39 : σ 39 0 = 0) (h40 : σ 40 0 = 0) {post : MS → Prop} (k : ∀ σ', MSt σ0 b n cnt tk a σ' 0 [] [] → post σ') : wp_M_advance σ post := by
  obtain ⟨c1, c2, c3, c4, c5, c6, c7, c8, c9⟩ := id hC
  have hT : Tp t0 σ b n := ⟨c1.1, by rw [h1.1 25 (by omega)]; exact c1.2.1, c1.2.2.1, fun k hk => by rw [h1.1 24 (by omega)]; exact c1.2.2.2 k hk⟩
  obtain ⟨e, c, v', d1, d2, d3⟩ := M_adv hT (Nat.zero_le _) (σ 37 0)
  have e1 : sk b n 0 = ps b n 0 := rfl
  rw [e1] at d1 d2 d3
  have d4 := d3 (σ 35 0) (σ 36 0) post
  rw [show nI 0 = σ 34 0 by rw [h34]; rfl, mK_id] at d4
  refine d4 (k _ ⟨⟨fun x hx => ?_, fun k hk => h1.2 k hk⟩, ⟨Nat.zero_le _, ?_, ?_, ?_, ?_⟩, h39, trivial, fun m hm => absurd hm List.not_mem_nil, h40, fun k hk => absurd hk (Nat.not_lt_zero k), by decide⟩)
  · rw [← h1.1 x hx]
    unfold mK
    rw [if_neg (by omega), if_neg (by omega), if_neg (by omega), if_neg (by omega)]
  · show upd (σ 34) 0 (nI e) 0 = _
    rw [pk_us]
    by_cases q : 0 < cnt
    · rw [if_pos q, (d1 (c5 _ q).1).2.2.2]
    · rw [if_neg q, (d2 (by rw [show (0 : Nat) = cnt by omega]; exact c3)).2]
  · show upd (σ 35) 0 (nI (mof c)) 0 = _
    rw [pk_us]
    by_cases q : 0 < cnt
    · have f1 := d1 (c5 _ q).1
      have f2 := c5 _ q
      rw [f2.2.2.2.1] at f1
      have f3 := f1.2.1
      have f4 := f2.2.2.1
      unfold okTk at f3 f4
      rw [(nI_eq (by omega) (by omega)).mp f1.1]
    · rw [(d2 (by rw [show (0 : Nat) = cnt by omega]; exact c3)).1, show tk 0 = 0 by rw [show (0 : Nat) = cnt by omega]; rw [c6]; omega]
  · show upd (σ 36) 0 (nI (ps b n 0)) 0 = _
    rw [pk_us]
  · intro z
    show upd (σ 37) 0 v' 0 = _
    rw [pk_us]
    by_cases q : 0 < cnt
    · have f1 := d1 (c5 _ q).1
      have f2 := c5 _ q
      rw [f2.2.2.2.1] at f1
      have f3 := f1.2.1
      have f4 := f2.2.2.1
      unfold okTk at f3 f4
      rw [(nI_eq (by omega) (by omega)).mp f1.1] at z ⊢
      exact f1.2.2.1 z
    · have e : cnt = 0 := by omega
      rw [e] at c6
      omega
end Txt
section Slaw
variable {t : CS} {σ : MS}
def lawK (a1 a2 a3 : Int32) (post : Int32 → MS → Prop) : Int32 → MS → Prop := fun r12 σ11 => ∀ σ13 : MS, σ13 = up2 σ11 25 0 (0 : Int32) → (if r12 < 0 then (vp_in (σ13 26 0) 40 ∧ (∀ σ16 : MS, σ16 = up2 σ13 27 (σ13 26 0).toNatClampNeg a1 → (vp_in (σ16 26 0) 40 ∧ (∀ σ18 : MS, σ18 = up2 σ16 28 (σ16 26 0).toNatClampNeg a2 → (wp_M_today σ18  (fun r20 σ19 => vp_in (σ18 26 0) 40 ∧ (∀ σ22 : MS, σ22 = up2 σ19 29 (σ18 26 0).toNatClampNeg r20 → (vp_in (σ22 26 0) 40 ∧ (∀ σ24 : MS, σ24 = up2 σ22 30 (σ22 26 0).toNatClampNeg a3 → (vp_in (σ24 26 0) 40 ∧ (∀ σ26 : MS, σ26 = up2 σ24 31 (σ24 26 0).toNatClampNeg (σ24 40 0) → (∀ σ27 : MS, σ27 = up2 σ26 26 0 ((σ26 26 0) + (1 : Int32)) → (post ((σ27 26 0) - (1 : Int32)) σ27))))))))))))) else (post ((-100 : Int32) - r12) σ13))
theorem lawK_ok {a1 a2 a3 r : Int32} {post : Int32 → MS → Prop} {ρ : MS} {n : Nat} (hr : r < 0) (hn : n < 40) (e26 : ρ 26 0 = nI n) (k : post (nI n) (up2 (up2 (up2 (up2 (up2 (up2 (up2 ρ 25 0 0) 27 n a1) 28 n a2) 29 n (ρ 1 0 / 600)) 30 n a3) 31 n (ρ 40 0)) 26 0 (nI (n + 1)))) : lawK a1 a2 a3 post r ρ := by
  have hv : vp_in (nI n) 40 := vp_in_nI hn (by omega)
  have hc : (nI n).toNatClampNeg = n := nI_clamp (by omega)
  refine nm_e (itT hr ?_)
  have c0 : (up2 ρ 25 0 0) 26 0 = nI n := e26
  rw [c0, hc]
  refine ⟨hv, nm_e ?_⟩
  have c1 : (up2 (up2 ρ 25 0 0) 27 n a1) 26 0 = nI n := e26
  rw [c1, hc]
  refine ⟨hv, nm_e ?_⟩
  have c2 : (up2 (up2 (up2 ρ 25 0 0) 27 n a1) 28 n a2) 26 0 = nI n := e26
  unfold wp_M_today
  rw [c2, hc]
  refine ⟨hv, nm_e ?_⟩
  show vp_in (ρ 26 0) 40 ∧ _
  refine ⟨by rw [e26]; exact hv, nm_r (e' := up2 (up2 (up2 (up2 (up2 ρ 25 0 0) 27 n a1) 28 n a2) 29 n (ρ 1 0 / 600)) 30 n a3) ?_ ?_⟩
  · show up2 (up2 (up2 (up2 (up2 ρ 25 0 0) 27 n a1) 28 n a2) 29 n (ρ 1 0 / 600)) 30 (ρ 26 0).toNatClampNeg a3 = _
    rw [e26, hc]
  refine ⟨show vp_in (ρ 26 0) 40 by rw [e26]; exact hv, nm_r (e' := up2 (up2 (up2 (up2 (up2 (up2 ρ 25 0 0) 27 n a1) 28 n a2) 29 n (ρ 1 0 / 600)) 30 n a3) 31 n (ρ 40 0)) ?_ ?_⟩
  · show up2 (up2 (up2 (up2 (up2 (up2 ρ 25 0 0) 27 n a1) 28 n a2) 29 n (ρ 1 0 / 600)) 30 n a3) 31 (ρ 26 0).toNatClampNeg (ρ 40 0) = _
    rw [e26, hc]
  refine nm_r (e' := up2 (up2 (up2 (up2 (up2 (up2 (up2 ρ 25 0 0) 27 n a1) 28 n a2) 29 n (ρ 1 0 / 600)) 30 n a3) 31 n (ρ 40 0)) 26 0 (nI (n + 1))) ?_ ?_
  · show up2 (up2 (up2 (up2 (up2 (up2 (up2 ρ 25 0 0) 27 n a1) 28 n a2) 29 n (ρ 1 0 / 600)) 30 n a3) 31 n (ρ 40 0)) 26 0 (ρ 26 0 + 1) = _
    rw [e26, nI_1]
  have c9 : (up2 (up2 (up2 (up2 (up2 (up2 (up2 ρ 25 0 0) 27 n a1) 28 n a2) 29 n (ρ 1 0 / 600)) 30 n a3) 31 n (ρ 40 0)) 26 0 (nI (n + 1))) 26 0 - 1 = nI n := by
    show upd (ρ 26) 0 (nI (n + 1)) 0 - 1 = nI n
    rw [pk_us, nI_pred]
  rw [c9]
  exact k
theorem law_read (h : Inv t σ) (hN : tN t 1 < 40) {x y w : Int32} {Y : Int32 → CS → Prop} (hM : ∀ v t1, wp_M_parse σ (nI (tN t 1)) (lawK x y w (fun u σ1 => v = u ∧ Inv t1 σ1)) → Y v t1) : wp_Reader_read t (fun r12 t11 => ∀ t13 : CS, t13 = sF t11 161 2 (0 : Int32) → (if r12 < 0 then (wpT_law 1170 14200 t13 x y w Y) else (Y ((-100 : Int32) - r12) t13))) := by
  obtain ⟨n, hT⟩ := Tp_of h.tp
  obtain ⟨b, hb⟩ : ∃ b : Nat → Nat, b = fun k => (tA t 2 k).toNatClampNeg := ⟨_, rfl⟩
  rw [← hb] at hT
  clear hb
  refine C_split hT (fun c A S hc hps hA hAc hSc => nm_e (nm_e ?_))
  have hCx : Cx (tTk t A S (c + 1)) σ b n c (fun i => (A i).toNatClampNeg) (tN t 1) := by
    refine ⟨hT, hc, hps, (show upd (t.1 163) 3 (nI (c + 1)) 3 = _ from pk_us), fun i hi => ?_, ?_, hAc, hSc, hN⟩
    · obtain ⟨a1, a2, a3⟩ := hA i hi
      obtain ⟨c', v', d1, d2, d3, d4⟩ := M_adv38 hT a1 0
      have e : (A i).toNatClampNeg = c' := by
        rw [a2, d1]
        unfold okTk at d2
        exact nI_clamp (by omega)
      show ps b n i < n ∧ A i = nI (A i).toNatClampNeg ∧ okTk (A i).toNatClampNeg ∧ ctk b n (ps b n i) = nI (A i).toNatClampNeg ∧ S i = nI (ps b n i)
      rw [e]
      exact ⟨a1, by rw [a2, d1], d2, d1, a3⟩
    · show (A c).toNatClampNeg = 0
      rw [hAc]; rfl
  have hst : CSt (tTk t A S (c + 1)) (sF (sF (tTk t A S (c + 1)) 165 3 0) 164 3 0) 0 [] := by
    refine ⟨(tTk t A S (c + 1)).2.1 5, ?_, fun k hk => absurd hk (Nat.not_lt_zero k)⟩
    unfold tPs sF
    refine Prod.ext rfl (Prod.ext ?_ rfl)
    show (tTk t A S (c + 1)).2.1 = sR (tTk t A S (c + 1)).2.1 5 ((tTk t A S (c + 1)).2.1 5)
    rw [sR_id]
  have hfr : frm (tN t 1) σ (up2 (up2 (up2 σ 34 0 0) 39 0 0) 40 0 0) := frm_up (by omega) (by omega) (frm_up (by omega) (by omega) (frm_up (by omega) (by omega) ⟨fun _ _ => rfl, fun _ _ => ⟨rfl, rfl⟩⟩))
  have hfirst : ∀ post : Int32 → MS → Prop, ME σ b n c (fun i => (A i).toNatClampNeg) (tN t 1) post 0 [] [] 1 0 0 → wp_M_parse σ (nI (tN t 1)) post := fun post k => by
    obtain ⟨nn, k⟩ := k
    exact nm_e (nm_e (nm_e (M_first hCx hfr (show upd (σ 34) 0 0 0 = 0 from pk_us) (show upd (σ 39) 0 0 0 = 0 from pk_us) (show upd (σ 40) 0 0 0 = 0 from pk_us) (fun σ' hσ' => ⟨nn, k σ' hσ'⟩))))
  rcases text hCx with ⟨S1, g1, g2, g3, g4⟩ | ⟨j, S', g1, g2, g3⟩
  · refine g3 _ hst _ (fun t' ht' => nm_e (itT (by decide) ?_))
    obtain ⟨g, et, hg⟩ := ht'
    have hI : ∀ σ', frm (tN t 1) σ σ' → Inv (sF t' 161 2 0) (up2 σ' 25 0 0) := fun σ' hf => by rw [et]; exact Inv_scr h hf
    have e164 : tF (sF t' 161 2 0) 164 3 = nI S1.length := by
      rw [et]
      exact (show upd (t.1 164) 3 (nI S1.length) 3 = _ from pk_us)
    have e5 : ∀ k, k < S1.length → tA (sF t' 161 2 0) 5 k = nI (S1.getD k 0) := fun k hk => by
      rw [et]
      exact hg k hk
    have eN : tN (sF t' 161 2 0) 1 = tN t 1 := by rw [et]; rfl
    have hT1 := hT.1
    clear et hg
    generalize sF t' 161 2 0 = u at hI e164 e5 eN ⊢
    have h0 := hI σ ⟨fun _ _ => rfl, fun _ _ => ⟨rfl, rfl⟩⟩
    have hll : (tT u 3).length = tN u 1 := by rw [h0.z.lw, List.length_range]
    have hc3 := h0.c 3
    refine ⟨S1.length, by omega, e164, hll, by omega, by omega, h0.ok, by rw [h0.z.1]; omega, ⟨by have := aC_le (tN u 1) (tK u 3); omega, by have := aS_le (n := tN u 1) hc3.2; omega⟩, hM _ _ (hfirst _ (g4 _ (fun σ1 h1 => ?_)))⟩
    have e26 : σ1 26 0 = nI (tN t 1) := by rw [h1.1.1 26 (by omega)]; exact h.z.m26
    refine lawK_ok (by decide) hN e26 ⟨by rw [eN], ?_⟩
    have hA := law_add (hI σ1 h1.1) (S := S1) (x := x) (y := y) (w := w) (by omega) g1 (by omega) e5 (by rw [eN]; exact h1.2.2.2.2.2.2.1)
    rw [eN] at hA ⊢
    rw [h1.2.2.2.2.2.1]
    exact hA
  · refine g2 _ hst _ (fun t' ht' => nm_e ?_)
    have hpsj : ps b n j ≤ n := by
      by_cases q : j < c
      · exact Nat.le_of_lt (hA j q).1
      · rw [show j = c by omega, hps]; omega
    have hT1 := hT.1
    refine itF (nI_pos (by omega)) (hM _ _ (hfirst _ (g3 _ (fun σ1 K Sm h1 => nm_e (itF (nI_pos (by omega)) ⟨rfl, ?_⟩)))))
    obtain ⟨g, et, hg⟩ := ht'
    rw [et]
    exact Inv_scr h h1.1
theorem s_law (h : Inv t σ) (a1 a2 a3 : Int32) : wp_C_law 1170 14200 t a1 a2 a3 (fun v t1 => wp_M_law σ a1 a2 a3 (fun w σ1 => v = w ∧ Inv t1 σ1)) := by
  unfold wp_C_law
  have hb1 := h.z.b1
  rcases ix a1 (n := 4) (by omega) with hn | ⟨f, hf, rfl⟩
  · refine C_fe_no h.z hn (oN ?_)
    exact M_fe_no hn ⟨rfl, h⟩
  refine C_fe h.z hf (oS ?_)
  by_cases h1 : a2 < 0 ∨ 4 < a2
  · refine Cz_no h1 ?_
    exact M_fe hf (Mw_no h1 ⟨rfl, h⟩)
  refine Cz_yes h1 ?_
  by_cases h2 : a3 < 0 ∨ 166 < a3
  · refine Cz_no h2 ?_
    exact M_fe hf (Mw_yes h1 (Mz_no h2 ⟨rfl, h⟩))
  refine Cz_yes h2 ?_
  have hl : (tT t 3).length = tN t 1 := by rw [h.z.lw, List.length_range]
  rw [hl]
  by_cases q9 : tN t 1 = 40
  · refine itF (by rw [q9]; decide) ?_
    exact M_fe hf (Mw_yes h1 (Mz_yes h2 (itT (by rw [h.z.m26, q9]; rfl) ⟨rfl, h⟩)))
  refine itT (nI_lt (a := tN t 1) (b := 40) (by omega) (by omega)) ?_
  refine law_read h (by omega) (fun v t1 k => M_fe hf (Mw_yes h1 (Mz_yes h2 (itF ?_ ?_))))
  · rw [h.z.m26]
    exact fun z => q9 ((nI_eq (a := tN t 1) (b := 40) (by omega) (by omega)).mp z)
  · rw [h.z.m26]
    exact k
end Slaw
