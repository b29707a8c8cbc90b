/-! foretold, the call -/
section Fore2
variable {t : CS} {σ : MS}
theorem C_fore57 {tw : CS} (hz0 : tN tw 0 = 4) {L : List Nat} (hL : tT tw 6 = L) (hm : ∀ m ∈ L, m < tN tw 3) (hl : L.length ≤ 60) (hn : ∀ m, m < tN tw 3 → tF tw 103 m = σ 17 m) {f h p o D : Nat} (hf : f < 4) (hh : h ≤ 99) (hpp : p ≤ 99) (ho : o ≤ 60) (hD : D < 167) (e8 : tF tw 8 f = nI h) {x4 : Int32} {mn : Int64} (e4 : x4.toInt64 = mn) {hc : Nat → Nat} (hhc : ∀ k, 0 < k → k ≤ 400 → (L.filter (fun m => decide (¬ σ 17 m ≤ nI (D + k) * 600))).length = hc k) {post : Int32 → CS → Prop} {mc ms uc us : Nat} : ∀ d k c, 0 < k → k + d = 401 → post (fres mn h p o D hc d k c) tw → wp_C_foretold_57 mc ms post (d + 1) uc us tw f (nI D) x4 (nI (p * o)) c (nI (D + k)) := by
  intro d
  have hpo : p * o ≤ 99 * 60 := Nat.mul_le_mul hpp ho
  induction d with
  | zero =>
    intro k c h0 hk hpost
    refine itT ?_ hpost
    show nI D + nI 400 < nI (D + k)
    rw [nI_add]; exact nI_lt (by omega) (by omega)
  | succ d ih =>
    intro k c h0 hk hpost
    refine itF ?_ ⟨by omega, ?_⟩
    · show ¬ nI D + nI 400 < nI (D + k)
      rw [nI_add]; exact nI_nlt (by omega) (by omega)
    refine C_still hL hm hl hn ?_
    have hc60 : hc k ≤ 60 := by rw [← hhc k h0 (by omega)]; exact Nat.le_trans (List.length_filter_le _ _) hl
    have hhk : h * hc k ≤ 99 * 60 := Nat.mul_le_mul hh hc60
    rw [hhc k h0 (by omega), e8, pk_mul, w64 (n := h * hc k) (by omega), w64 (n := p * o) (by omega), e4]
    refine nm_r (e' := fst6 mn h p o hc k c) rfl (itE (fun q => nm_e ?_) (fun q => ?_))
    · rw [nI_1]
      refine ih (k + 1) _ (by omega) (by omega) ?_
      have e : fres mn h p o D hc (d + 1) k c = fres mn h p o D hc d (k + 1) (fst6 mn h p o hc k c) := if_pos q
      rw [e] at hpost; exact hpost
    · have e : fres mn h p o D hc (d + 1) k c = nI (D + k) := if_neg q
      rw [e] at hpost; exact hpost
theorem hc_eq {T D : Nat} (hT : T ≤ 99999) (hD : D = T / 600) (f k : Nat) (h0 : 0 < k) (hk : k ≤ 400) (n : Nat) : (((List.range n).filter (hpd σ (nI f) (nI T))).filter (fun m => decide (¬ σ 17 m ≤ nI (D + k) * 600))).length = fb_ct (hpd σ (nI f) (600 * nI (D + k))) n := by
  rw [List.filter_filter, len_ct]
  refine fb_ct_cong (fun m hm => ?_)
  have e1 : nI (D + k) * 600 = nI ((D + k) * 600) := pk_mul (D + k) 600
  have e2 : 600 * nI (D + k) = nI ((D + k) * 600) := by rw [Nat.mul_comm]; exact pk_mul 600 (D + k)
  rw [e1, e2]
  unfold hpd
  have hle : nI T ≤ nI ((D + k) * 600) := nI_le (by omega) (by omega)
  by_cases q : σ 11 m = nI f ∧ σ 19 m = 0 ∧ ¬ σ 17 m ≤ nI ((D + k) * 600)
  · rw [decide_eq_true q, decide_eq_true q.2.2, decide_eq_true (show σ 11 m = nI f ∧ σ 19 m = 0 ∧ ¬ σ 17 m ≤ nI T from ⟨q.1, q.2.1, fun a => q.2.2 (Int32.le_trans a hle)⟩)]; rfl
  · rw [decide_eq_false q]
    by_cases q2 : ¬ σ 17 m ≤ nI ((D + k) * 600)
    · rw [decide_eq_true q2, decide_eq_false (fun a => q ⟨a.1, a.2.1, q2⟩)]; rfl
    · rw [decide_eq_false q2]; rfl
theorem s_foretold (h : Inv t σ) (a1 : Int32) : wp_C_foretold 1170 14200 t a1 (fun v t1 => wp_M_foretold σ a1 (fun w σ1 => v = w ∧ Inv t1 σ1)) := by
  have hb3 := h.z.b3
  unfold wp_C_foretold
  rcases ix a1 (n := 4) (by omega) with hn | ⟨f, hf, rfl⟩
  · exact C_fe_no h.z hn (oN (M_fe_no hn ⟨rfl, h⟩))
  obtain ⟨D, eD, hF, hP⟩ := h.f
  have hD := hF.1
  obtain ⟨T, hT, m1, m2⟩ := h.m
  obtain ⟨u1, u2, u3, u4, u5, ⟨hp, -, h66, e66⟩, ⟨pn, -, h67, e67⟩, u8⟩ := hF.2 f hf
  have eDT : D = T / 600 := by
    rw [m1] at eD
    have e : nI T / 600 = nI (T / 600) := pk_div (d := 600) (by omega) (by omega) (by omega)
    rw [e] at eD
    exact ((nI_eq (by omega) (by omega)).mp eD).symm
  refine C_fe h.z hf (oS ?_)
  show if tF t 171 0 / 600 ≤ 0 then _ else _
  have e171 : tF t 171 0 / 600 = nI D := by rw [m2, ← m1]; exact eD
  rw [e171]
  have h31 : ∀ x4 : Int32, x4.toInt64 = mean (tF t 6 f) D → wp_C_foretold_31 1170 14200 (fun v t1 => wp_M_foretold σ (nI f) (fun w σ1 => v = w ∧ Inv t1 σ1)) 0 0 t f (nI D) x4 := fun x4 e4 => by
    refine ⟨by rw [h.z.1]; exact hf, 400, 1600, ⟨by omega, by omega⟩, ?_⟩
    have hLl : ((List.range (tN t 3)).filter (hpd σ (nI f) (tF t 171 0))).length ≤ 60 := Nat.le_trans (List.length_filter_le _ _) (by rw [List.length_range]; exact hb3)
    have hLm : ∀ m ∈ (List.range (tN t 3)).filter (hpd σ (nI f) (tF t 171 0)), m < tN t 3 := fun m hm => List.mem_range.mp (List.mem_filter.mp hm).1
    have main := C_hurtOld (t := t) (σ := σ) h.z h.n hf (mc := 400) (ms := 1600) (k5 := tK t 5) (k6 := tK t 6) (c5 := tT t 5) (c6 := tT t 6) (z := tF t 172 0) (h.c 6).1 (h.c 6).2 (Nat.le_refl _) (Nat.le_refl _) (post := fun r10 t9 => ∀ x13 : Int32, x13 = ((tF t 9 f) * r10) → (f < tN t9 0 ∧ (∀ x15 : Int64, x15 = ((tF t9 4 f).toInt64) → (∀ x16 : Int32, x16 = (nI D + (1 : Int32)) → (∃ nn : Nat, wp_C_foretold_57 1170 14200 (fun v t1 => wp_M_foretold σ (nI f) (fun w σ1 => v = w ∧ Inv t1 σ1)) nn (0 + 400) (0 + 1600) t9 f (nI D) x4 x13 x15 x16)))))
      (fun k6' g1 g2 => by
        rw [u5, e67, pk_mul]
        refine nm_e ⟨by show f < tN t 0; rw [h.z.1]; exact hf, nm_e (nm_e ⟨401, ?_⟩)⟩
        rw [nI_1]
        refine C_fore57 (tw := tW t (tT t 5) _ (tK t 5) k6' (tF t 172 0)) h.z.1 rfl hLm hLl (fun m hm => (h.n.1 m hm).2.2.2.2.2.2.1) hf h66 h67 (Nat.le_trans (fb_ct_le _ _) hb3) hD (show tF t 8 f = nI hp by rw [u4, e66]) e4 (hc := hcD t σ f D) (fun k h0 hk => ?_) 400 1 _ (by omega) (by omega) ?_
        · rw [m2]; exact hc_eq hT eDT f k h0 hk (tN t 3)
        · refine M_fore h hf e66 e67 h66 h67 eD hF ⟨?_, ?_⟩
          · show fres _ _ _ _ _ _ _ _ (tF t 4 f).toInt64 = _
            rw [u1]
          · exact Inv_tW h h.s.1 hLm (h.c 5).1 g1 (h.c 5).2 g2 h.s.2.2.1 hLl)
    rw [tW_same] at main
    exact main
  refine itE (fun q => h31 0 ?_) (fun q => ⟨by rw [h.z.1]; exact hf, ?_, h31 _ ?_⟩)
  · have e0 : D = 0 := by
      have := (fa_le _ _).mp q
      rw [nI_toInt (by omega)] at this
      have z : (0 : Int32).toInt = 0 := by decide
      omega
    unfold mean; rw [if_pos e0]; rfl
  · intro e
    exact q (by rw [e]; exact Int32.le_refl _)
  · have hne : D ≠ 0 := fun e => q (by rw [e]; exact Int32.le_refl _)
    unfold mean
    rw [if_neg hne, Int32.toInt64_div_of_ne_right _ _ (fun e => ?_), w64 (by omega)]
    have := congrArg Int32.toInt e
    rw [nI_toInt (by omega)] at this
    have z : (-1 : Int32).toInt = -1 := by decide
    omega
end Fore2
