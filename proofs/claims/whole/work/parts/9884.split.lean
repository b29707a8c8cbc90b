/-! the tokens of a tape, one behind the other -/
def sk (b : Nat → Nat) (n p : Nat) : Nat := runE (fun x => decide (x = 32)) b (n - p) p
def ps (b : Nat → Nat) (n : Nat) : Nat → Nat
  | 0 => sk b n 0
  | i + 1 => if ps b n i < n then sk b n (eot b n (ps b n i)) else n
theorem sk_b {b : Nat → Nat} {n p : Nat} (h : p ≤ n) : p ≤ sk b n p ∧ sk b n p ≤ n := by
  have := runE_b (fun x => decide (x = 32)) b (n - p) p
  unfold sk
  omega
theorem sk_blank {b : Nat → Nat} {n p : Nat} (h : p < n) (hb : b p = 32) : sk b n p = sk b n (p + 1) := by
  unfold sk
  rw [show n - p = (n - (p + 1)) + 1 by omega]
  show (if decide (b p = 32) = true then runE (fun x => decide (x = 32)) b (n - (p + 1)) (p + 1) else p) = _
  rw [if_pos (decide_eq_true hb)]
theorem sk_here {b : Nat → Nat} {n p : Nat} (h : p < n) (hb : b p ≠ 32) : sk b n p = p := by
  unfold sk
  rw [show n - p = (n - (p + 1)) + 1 by omega]
  show (if decide (b p = 32) = true then runE (fun x => decide (x = 32)) b (n - (p + 1)) (p + 1) else p) = _
  rw [if_neg (fun q => hb (of_decide_eq_true q))]
theorem sk_n (b : Nat → Nat) (n : Nat) : sk b n n = n := by
  unfold sk
  rw [Nat.sub_self]; rfl
def tTk (t : CS) (A S : Nat → Int32) (x : Nat) : CS := (up2 t.1 163 3 (nI x), sR (sR t.2.1 3 A) 4 S, t.2.2)
theorem tTk_add (t : CS) (A S : Nat → Int32) (i : Nat) (v w : Int32) (y : Nat) : sF (sA (sA (tTk t A S i) 3 i v) 4 i w) 163 3 (nI y) = tTk t (upd A i v) (upd S i w) y := by
  unfold tTk sF sA
  refine Prod.ext ?_ (Prod.ext ?_ rfl)
  · show sR (sR t.1 163 (upd (t.1 163) 3 (nI i))) 163 (upd (upd (t.1 163) 3 (nI i)) 3 (nI y)) = sR t.1 163 (upd (t.1 163) 3 (nI y))
    rw [fa_upd_twice]
    funext j
    show (if j = 163 then _ else if j = 163 then _ else t.1 j) = (if j = 163 then _ else t.1 j)
    by_cases e : j = 163
    · rw [if_pos e, if_pos e]
    · rw [if_neg e, if_neg e, if_neg e]
  · funext j
    show (if j = 4 then upd S i w else if j = 3 then upd A i v else if j = 4 then S else if j = 3 then A else t.2.1 j) = (if j = 4 then upd S i w else if j = 3 then upd A i v else t.2.1 j)
    by_cases e : j = 4
    · rw [if_pos e, if_pos e]
    · by_cases e2 : j = 3
      · subst e2; rfl
      · simp only [if_neg e, if_neg e2]
section Split
variable {t : CS} {σ : MS}
theorem C_addTok {A S : Nat → Int32} {i : Nat} (hi : i < 201) {v w : Int32} {post : CS → Prop} (k : post (tTk t (upd A i v) (upd S i w) (i + 1))) : wp_Reader_addToken (tTk t A S i) v w post := by
  have e : tF (tTk t A S i) 163 3 = nI i := (show upd (t.1 163) 3 (nI i) 3 = _ from pk_us)
  have e2 : tF (sA (tTk t A S i) 3 i v) 163 3 = nI i := e
  have e3 : tF (sA (sA (tTk t A S i) 3 i v) 4 i w) 163 3 = nI i := e
  unfold wp_Reader_addToken
  rw [e, nI_clamp (by omega)]
  refine itF (nI_pos (by omega)) (itF (nI_ge (a := i) (b := 201) hi (by omega)) ⟨vp_in_nI hi (by omega), nm_e ?_⟩)
  rw [e2, nI_clamp (by omega)]
  refine ⟨vp_in_nI hi (by omega), nm_e ?_⟩
  rw [e3, nI_1, tTk_add]
  exact nm_e k
theorem Tp_tTk {b : Nat → Nat} {n x : Nat} {A S : Nat → Int32} (h : Tp t σ b n) : Tp (tTk t A S x) σ b n := h
theorem C_split {b : Nat → Nat} {n : Nat} (h : Tp t σ b n) {post : CS → Prop} (k : ∀ c A S, c ≤ n → ps b n c = n → (∀ i, i < c → ps b n i < n ∧ A i = ctk b n (ps b n i) ∧ S i = nI (ps b n i)) → A c = 0 → S c = nI n → post (tTk t A S (c + 1))) : wp_Reader_split t post := by
  obtain ⟨h1, h2, h3, h4⟩ := id h
  have main : ∀ d p x i A S, p + d = n → x ≤ p → i ≤ p → sk b n p = ps b n i → (∀ j, j < i → ps b n j < n ∧ A j = ctk b n (ps b n j) ∧ S j = nI (ps b n j)) → ∃ nn, wp_Reader_split_9 post nn (tTk t A S i) (nI p) (nI x) := by
    intro d
    induction d using Nat.strongRecOn with
    | _ d ih =>
      intro p x i A S hp hx hi hsk hA
      have hT : Tp (tTk t A S i) σ b n := h
      by_cases hpn : p = n
      · subst hpn
        rw [sk_n] at hsk
        have h66 : wp_Reader_split_66 post (tTk t A S i) := by
          show wp_Reader_addToken (tTk t A S i) 0 (tF t 161 2) (fun t1 => post t1)
          refine C_addTok (by omega) (k i _ _ hi hsk.symm (fun j hj => ?_) pk_us ?_)
          · rw [pk_un (by omega), pk_un (by omega)]; exact hA j hj
          · rw [pk_us]; exact h3
        refine ⟨1, itE (fun _ => h66) (fun _ => itT ?_ h66)⟩
        show tF t 161 2 ≤ nI p
        rw [h3]; exact nI_le (Nat.le_refl _) (by omega)
      · have hpl : p < n := by omega
        have he := eot_b (b := b) hpl
        have go : ∀ nn, (if nI (b p) = 32 then wp_Reader_split_60 (wp_Reader_split_9 post nn) post (tTk t A S i) (nI (eot b n p)) (nI x) else wp_Reader_meaning (tTk t A S i) (nI p) (nI (eot b n p)) (fun r11 t10 => wp_Reader_addToken t10 r11 (nI p) (fun t12 => wp_Reader_split_60 (wp_Reader_split_9 post nn) post t12 (nI (eot b n p)) (nI x)))) → ∃ nn, wp_Reader_split_9 post nn (tTk t A S i) (nI p) (nI x) := fun nn hh =>
          ⟨nn + 1, itF (nI_ge (a := x) (b := 200) (by omega) (by omega)) (itF (by show ¬ tF t 161 2 ≤ nI p; rw [h3]; exact nI_ge hpl (by omega)) (C_at hT hpl (C_end hT hpl hh)))⟩
        by_cases hb : b p = 32
        · have e1 : eot b n p = p + 1 := by
            unfold eot
            rw [hb, if_neg (by decide), if_neg (by decide)]
          obtain ⟨nn, hh⟩ := ih (n - (p + 1)) (by omega) (p + 1) (x + 1) i A S (by omega) (by omega) (by omega) (by rw [← sk_blank hpl hb]; exact hsk) hA
          refine go nn (itT (by rw [hb]; rfl) (nm_e ?_))
          rw [e1, nI_1]; exact hh
        · rw [sk_here hpl hb] at hsk
          have e2 : ps b n (i + 1) = sk b n (eot b n p) := by
            show (if ps b n i < n then sk b n (eot b n (ps b n i)) else n) = _
            rw [← hsk, if_pos hpl]
          obtain ⟨nn, hh⟩ := ih (n - eot b n p) (by omega) (eot b n p) (x + 1) (i + 1) (upd A i (ctk b n p)) (upd S i (nI p)) (by omega) (by omega) (by omega) e2.symm (fun j hj => by
            by_cases e : j = i
            · subst e
              rw [pk_us, pk_us, ← hsk]; exact ⟨hpl, rfl, rfl⟩
            · rw [pk_un e, pk_un e]; exact hA j (by omega))
          refine go nn (itF (fun q => hb ((nI_eq (a := b p) (b := 32) (by have := (h4 p hpl).1; omega) (by omega)).mp q)) (C_meaning hT hpl (C_addTok (by omega) (nm_e ?_))))
          rw [nI_1]; exact hh
  refine nm_r (e' := tTk t (tA t 3) (tA t 4) 0) ?_ (main n 0 0 0 (tA t 3) (tA t 4) (by omega) (Nat.le_refl _) (Nat.le_refl _) rfl (fun j hj => absurd hj (Nat.not_lt_zero j)))
  unfold tTk sF
  refine Prod.ext rfl (Prod.ext ?_ rfl)
  show t.2.1 = sR (sR t.2.1 3 (t.2.1 3)) 4 (t.2.1 4)
  rw [sR_id, sR_id]
end Split
