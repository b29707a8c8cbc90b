/-! a by-law that was read -/
theorem dpt_S {g : Nat → Int32} : ∀ (S : List Nat) (p : Nat), (∀ k, k < S.length → g (p + k) = nI (S.getD k 0)) → dpt g (p + S.length) = S.foldl dpo (dpt g p)
  | [], p, _ => rfl
  | c :: S, p, h => by
    have h0 : g p = nI c := h 0 (Nat.succ_pos _)
    have e : dpt g (p + 1) = dpo (dpt g p) c := by
      show (match dpt g p with | none => none | some d => dst d (g p)) = dpo (dpt g p) c
      rw [h0]; rfl
    show dpt g (p + (S.length + 1)) = S.foldl dpo (dpo (dpt g p) c)
    rw [← e, ← dpt_S S (p + 1) (fun k hk => by
      have := h (k + 1) (Nat.succ_lt_succ hk)
      rw [show p + 1 + k = p + (k + 1) by omega]
      exact this)]
    congr 1
    omega
theorem gd_mem {S : List Nat} {k : Nat} (h : k < S.length) : S.getD k 0 ∈ S := by
  rw [List.getD_eq_getElem?_getD, List.getElem?_eq_getElem h]
  exact List.getElem_mem h
theorem trel_of {c : Nat} {s v : Int32} (hc : okSt c) (hs : s = nI (mofS c)) (hv : 1000 ≤ c → v = nI (c - 1000)) : trel (nI c) s v := by
  rcases hc with e | e | e | e | e | e | e
  · subst e; rw [hs]; exact Or.inr (Or.inr (Or.inl ⟨rfl, rfl⟩))
  · subst e; rw [hs]; exact Or.inr (Or.inr (Or.inr (Or.inl ⟨rfl, rfl⟩)))
  · rcases e with e | e | e | e | e | e | e | e | e | e
    · subst e; rw [hs]; exact Or.inr (Or.inr (Or.inr (Or.inr (Or.inr (Or.inl ⟨rfl, rfl⟩)))))
    · subst e; rw [hs]; exact Or.inr (Or.inr (Or.inr (Or.inr (Or.inr (Or.inr (Or.inl ⟨rfl, rfl⟩))))))
    · subst e; rw [hs]; exact Or.inr (Or.inr (Or.inr (Or.inr (Or.inl ⟨rfl, rfl⟩))))
    · subst e; rw [hs]; exact Or.inr (Or.inr (Or.inr (Or.inr (Or.inr (Or.inr (Or.inr (Or.inl ⟨rfl, rfl⟩)))))))
    · subst e; rw [hs]; exact Or.inr (Or.inr (Or.inr (Or.inr (Or.inr (Or.inr (Or.inr (Or.inr (Or.inl ⟨rfl, rfl⟩))))))))
    · subst e; rw [hs]; exact Or.inr (Or.inr (Or.inr (Or.inr (Or.inr (Or.inr (Or.inr (Or.inr (Or.inr (Or.inl ⟨rfl, rfl⟩)))))))))
    · subst e; rw [hs]; exact Or.inr (Or.inr (Or.inr (Or.inr (Or.inr (Or.inr (Or.inr (Or.inr (Or.inr (Or.inr (Or.inl ⟨rfl, rfl⟩))))))))))
    · subst e; rw [hs]; exact Or.inr (Or.inr (Or.inr (Or.inr (Or.inr (Or.inr (Or.inr (Or.inr (Or.inr (Or.inr (Or.inr (Or.inl ⟨rfl, rfl⟩)))))))))))
    · subst e; rw [hs]; exact Or.inr (Or.inr (Or.inr (Or.inr (Or.inr (Or.inr (Or.inr (Or.inr (Or.inr (Or.inr (Or.inr (Or.inr (Or.inl ⟨rfl, rfl⟩))))))))))))
    · subst e; rw [hs]; exact Or.inr (Or.inr (Or.inr (Or.inr (Or.inr (Or.inr (Or.inr (Or.inr (Or.inr (Or.inr (Or.inr (Or.inr (Or.inr (Or.inl ⟨rfl, rfl⟩)))))))))))))
  · subst e; rw [hs]; exact Or.inr (Or.inr (Or.inr (Or.inr (Or.inr (Or.inr (Or.inr (Or.inr (Or.inr (Or.inr (Or.inr (Or.inr (Or.inr (Or.inr (Or.inl ⟨rfl, rfl⟩))))))))))))))
  · subst e; rw [hs]; exact Or.inr (Or.inr (Or.inr (Or.inr (Or.inr (Or.inr (Or.inr (Or.inr (Or.inr (Or.inr (Or.inr (Or.inr (Or.inr (Or.inr (Or.inr ⟨rfl, rfl⟩))))))))))))))
  · refine Or.inr (Or.inl ⟨c - 128, by omega, ?_, ?_⟩)
    · rw [hs]
      unfold mofS mof
      rw [if_neg (by omega), if_neg (by omega), if_neg (by omega), if_pos e, show c - 28 = 100 + (c - 128) by omega]
    · rw [show 128 + (c - 128) = c by omega]
  · refine Or.inl ⟨?_, c - 1000, by omega, hv e.1, ?_⟩
    · rw [hs]
      unfold mofS mof
      rw [if_neg (by omega), if_neg (by omega), if_pos e.1]; rfl
    · rw [show 1000 + (c - 1000) = c by omega]
section Ladd
variable {t : CS} {σ : MS}
theorem law_add (h : Inv t σ) {S : List Nat} {x y w : Int32} (hN : tN t 1 < 40) (hS : good S 0) (hl : S.length ≤ 201) (h5 : ∀ k, k < S.length → tA t 5 k = nI (S.getD k 0)) (hc : cdm (tN t 1) S σ) : Inv (lAdd (mkLaw t x y (tF t 171 0 / 600) w S.length (va_cpy (tA t 5) (fun _ => 0) 0 0 S.length)) 3 (tN t 1)) (up2 (up2 (up2 (up2 (up2 (up2 σ 27 (tN t 1) x) 28 (tN t 1) y) 29 (tN t 1) (σ 1 0 / 600)) 30 (tN t 1) w) 31 (tN t 1) (nI S.length)) 26 0 (nI (tN t 1 + 1))) := by
  obtain ⟨T, hT, m1, m2⟩ := id h.m
  rw [m2, ← m1]
  obtain ⟨gg, eg⟩ : ∃ gg, gg = va_cpy (tA t 5) (fun _ => 0) 0 0 S.length := ⟨_, rfl⟩
  have hgg : ∀ k, k < S.length → gg k = nI (S.getD k 0) := fun k hk => by
    rw [eg, pk_cpy_in (Nat.zero_le _) (by omega), show 0 + (k - 0) = k by omega]
    exact h5 k hk
  rw [← eg]
  generalize σ 1 0 / 600 = z
  have hll : (tT t 3).length = tN t 1 := by rw [h.z.lw, List.length_range]
  have eT : ∀ k, k ≠ 3 → tT (lAdd (mkLaw t x y z w S.length gg) 3 (tN t 1)) k = tT t k := fun k hk => lT_ne hk
  have eA : ∀ k, k ≠ tN t 1 + 8 → tA (lAdd (mkLaw t x y z w S.length gg) 3 (tN t 1)) k = tA t k := fun k hk => va_up_ne _ _ hk
  have eA2 : tA (lAdd (mkLaw t x y z w S.length gg) 3 (tN t 1)) (tN t 1 + 8) = gg := va_up_self _ _ _
  have eG : tG (lAdd (mkLaw t x y z w S.length gg) 3 (tN t 1)) 2 = va_up (tG t 2) (tN t 1) S.length := by
    funext k
    show (if 2 = 2 ∧ k = tN t 1 then S.length else tG t 2 k) = va_up (tG t 2) (tN t 1) S.length k
    unfold va_up
    by_cases e : k = tN t 1
    · rw [if_pos ⟨rfl, e⟩, if_pos e]
    · rw [if_neg (fun q => e q.2), if_neg e]
  have hcm : IC (mkLaw t x y z w S.length gg) := h.c
  refine ⟨⟨h.z.1, by rw [eT 4 (by omega)]; exact h.z.2.1, h.z.b4, h.z.b3, h.z.b2, (show tN t 1 + 1 ≤ 40 by omega), by rw [eT 0 (by omega)]; exact h.z.pl, by rw [eT 1 (by omega)]; exact h.z.mn, by rw [eT 2 (by omega)]; exact h.z.ld, ?_, h.z.m5, h.z.m10, h.z.m43, (show upd (σ 26) 0 _ 0 = _ from pk_us)⟩, IC_add hcm _ (show (tT t 3).length ≤ 200 by omega), ?_, h.p, ?_, h.m, h.n, fun f hf => ?_, h.d, ?_, fun i hi => ?_, h.ld, ?_, h.f⟩
  · rw [lT_eq]
    show tT t 3 ++ [tN t 1] = List.range (tN t 1 + 1)
    rw [h.z.lw, List.range_succ]
  · unfold IS
    rw [eT 5 (by omega), eT 6 (by omega)]; exact h.s
  · obtain ⟨k, k1, k2, k3, k4⟩ := h.r
    refine ⟨k, k1, k2, k3, fun i hi => ?_⟩
    rw [eA 0 (by omega), eA 1 (by omega)]; exact k4 i hi
  · rw [eT (f + 7) (by omega)]; exact h.w f hf
  · obtain ⟨k, k1, k2, k3, k4⟩ := h.tp
    refine ⟨k, k1, k2, k3, fun i hi => ?_⟩
    rw [eA 2 (by omega)]; exact k4 i hi
  · have hi : i < tN t 1 + 1 := hi
    rw [eG]
    show upd (tF t 33) (tN t 1) x i = upd (σ 27) (tN t 1) x i ∧ upd (tF t 34) (tN t 1) y i = upd (σ 28) (tN t 1) y i ∧ upd (tF t 35) (tN t 1) z i = upd (σ 29) (tN t 1) z i ∧ upd (tF t 36) (tN t 1) w i = upd (σ 30) (tN t 1) w i ∧ va_up (tG t 2) (tN t 1) S.length i ≤ 210 ∧ upd (σ 31) (tN t 1) (nI S.length) i = nI (va_up (tG t 2) (tN t 1) S.length i) ∧ (∀ k, k < va_up (tG t 2) (tN t 1) S.length i → trel (tA (lAdd (mkLaw t x y z w S.length gg) 3 (tN t 1)) (i + 8) k) (σ 32 (220 * i + k)) (σ 33 (220 * i + k))) ∧ dpt (tA (lAdd (mkLaw t x y z w S.length gg) 3 (tN t 1)) (i + 8)) (va_up (tG t 2) (tN t 1) S.length i) = some 0
    by_cases e : i = tN t 1
    · subst e
      rw [va_up_self, eA2]
      simp only [pk_us]
      refine ⟨trivial, trivial, trivial, trivial, by omega, trivial, fun k hk => ?_, ?_⟩
      · rw [hgg k hk]
        exact trel_of (hS.1 _ (gd_mem hk)) (hc k hk).1 (hc k hk).2
      · have := dpt_S (g := gg) S 0 (fun k hk => by rw [Nat.zero_add]; exact hgg k hk)
        rw [Nat.zero_add] at this
        rw [this]
        exact hS.2.1
    · rw [va_up_ne _ _ e, eA (i + 8) (by omega)]
      simp only [pk_un e]
      exact h.lw i (by omega)
  · obtain ⟨T2, g1, g2, g3⟩ := h.g
    refine ⟨T2, g1, g2, fun k hk => ?_⟩
    exact gng_congr (g3 k hk) rfl (fun _ _ => rfl) (eT (k + 11) (by omega)) (Nat.le_refl _) rfl rfl rfl rfl rfl (fun _ _ => rfl) (fun _ m _ _ => ⟨rfl, rfl, fun f hf hx => by rw [eT (f + 7) (by omega)]; exact hx⟩)
def mFr (σ ρ : MS) : MS := fun j => if j = 32 then ρ 32 else if j = 33 then ρ 33 else if j = 34 then ρ 34 else if j = 35 then ρ 35 else if j = 36 then ρ 36 else if j = 37 then ρ 37 else if j = 38 then ρ 38 else if j = 39 then ρ 39 else if j = 40 then ρ 40 else σ j
theorem mFr_of {a : Nat} {σ' : MS} (h : frm a σ σ') : σ' = mFr σ σ' := by
  funext j
  unfold mFr
  by_cases e1 : j = 32
  · rw [if_pos e1, e1]
  rw [if_neg e1]
  by_cases e2 : j = 33
  · rw [if_pos e2, e2]
  rw [if_neg e2]
  by_cases e3 : j = 34
  · rw [if_pos e3, e3]
  rw [if_neg e3]
  by_cases e4 : j = 35
  · rw [if_pos e4, e4]
  rw [if_neg e4]
  by_cases e5 : j = 36
  · rw [if_pos e5, e5]
  rw [if_neg e5]
  by_cases e6 : j = 37
  · rw [if_pos e6, e6]
  rw [if_neg e6]
  by_cases e7 : j = 38
  · rw [if_pos e7, e7]
  rw [if_neg e7]
  by_cases e8 : j = 39
  · rw [if_pos e8, e8]
  rw [if_neg e8]
  by_cases e9 : j = 40
  · rw [if_pos e9, e9]
  rw [if_neg e9]
  exact h.1 j (by omega)
theorem Inv_scr (h : Inv t σ) {A S0 g : Nat → Int32} {c i N : Nat} {σ' : MS} (hf : frm (tN t 1) σ σ') : Inv (sF (tPs (tTk t A S0 c) i N g) 161 2 0) (up2 σ' 25 0 0) := by
  obtain ⟨ρ, e⟩ : ∃ ρ, σ' = mFr σ ρ := ⟨σ', mFr_of hf⟩
  have h32 := hf.2
  rw [e] at h32
  have h32 : ∀ k, k < 220 * tN t 1 ∨ 220 * tN t 1 + 220 ≤ k → ρ 32 k = σ 32 k ∧ ρ 33 k = σ 33 k := h32
  rw [e]
  have eA : ∀ k, tA (sF (tPs (tTk t A S0 c) i N g) 161 2 0) (k + 8) = tA t (k + 8) := fun k => by
    show (if k + 8 = 5 then g else if k + 8 = 4 then S0 else if k + 8 = 3 then A else t.2.1 (k + 8)) = t.2.1 (k + 8)
    rw [if_neg (by omega), if_neg (by omega), if_neg (by omega)]
  refine ⟨h.z, h.c, h.s, h.p, h.r, h.m, h.n, h.w, h.d, ⟨0, by omega, (show upd (σ 25) 0 0 0 = _ from pk_us), (show upd (t.1 161) 2 0 2 = _ from pk_us), fun k hk => absurd hk (Nat.not_lt_zero k)⟩, fun j hj => ?_, h.ld, h.g, h.f⟩
  have hj : j < tN t 1 := hj
  obtain ⟨l1, l2, l3, l4, l5, l6, l7, l8⟩ := h.lw j hj
  have l5 : tG t 2 j ≤ 210 := l5
  refine ⟨l1, l2, l3, l4, l5, l6, fun k hk => ?_, by rw [eA]; exact l8⟩
  have hk : k < tG t 2 j := hk
  rw [eA]
  show trel (tA t (j + 8) k) (ρ 32 (220 * j + k)) (ρ 33 (220 * j + k))
  obtain ⟨r1, r2⟩ := h32 (220 * j + k) (Or.inl (by omega))
  rw [r1, r2]
  exact l7 k hk
end Ladd
