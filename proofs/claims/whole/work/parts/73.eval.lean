/-! what a by-law gives -/
def wkv (c l r : Int32) : Int32 := if c = 42 then l * r else if c = 43 then l + r else if c = 45 then l - r else if c = 47 then (if r = 0 then 0 else l / r) else if c = 60 then (if r ≤ l then 0 else 1) else if c = 61 then (if l = r then 1 else 0) else if c = 62 then (if l ≤ r then 0 else 1) else if c = 142 then (if l = 0 then (if r = 0 then 0 else 1) else 1) else if c = 143 then (if l = 0 then 0 else if r = 0 then 0 else 1) else if c = 145 then (if r < l then r else l) else if c = 146 then (if l < r then r else l) else 0
theorem itI {c : Prop} [Decidable c] {a b : Int32} {P : Int32 → Prop} {A B : Prop} (k : P (if c then a else b)) (f : P a → A) (g : P b → B) : if c then A else B := by
  by_cases h : c
  · rw [if_pos h] at k ⊢; exact f k
  · rw [if_neg h] at k ⊢; exact g k
theorem C_truth0 {t : CS} {post : Int32 → CS → Prop} (k : post 0 t) : wp_Reck_truth t 0 post := itT rfl k
theorem C_truth1 {t : CS} {post : Int32 → CS → Prop} (k : post 1 t) : wp_Reck_truth t 1 post := itF (by decide) k
theorem C_worked {t : CS} {c l r : Int32} {post : Int32 → CS → Prop} (k : post (wkv c l r) t) : wp_Reck_worked t c l r post := by
  unfold wkv at k
  unfold wp_Reck_worked
  refine itI (P := fun v => post v t) k id (fun k => itI (P := fun v => post v t) k id (fun k => itI (P := fun v => post v t) k id (fun k => itI (P := fun v => post v t) k (fun k => ?_) (fun k => itI (P := fun v => post v t) k (fun k => ?_) (fun k => itI (P := fun v => post v t) k (fun k => ?_) (fun k => itI (P := fun v => post v t) k (fun k => ?_) (fun k => itI (P := fun v => post v t) k (fun k => ?_) (fun k => itI (P := fun v => post v t) k (fun k => ?_) (fun k => itI (P := fun v => post v t) k id (fun k => itI (P := fun v => post v t) k id id))))))))))
  · by_cases h : r = 0
    · rw [if_pos h] at k ⊢; exact k
    · rw [if_neg h] at k ⊢; exact ⟨h, k⟩
  · exact itI (P := fun v => post v t) k C_truth0 C_truth1
  · exact itI (P := fun v => post v t) k C_truth1 C_truth0
  · exact itI (P := fun v => post v t) k C_truth0 C_truth1
  · exact itI (P := fun v => post v t) k (fun k => itI (P := fun v => post v t) k C_truth0 C_truth1) C_truth1
  · exact itI (P := fun v => post v t) k C_truth0 (fun k => itI (P := fun v => post v t) k C_truth0 C_truth1)
theorem div_m1 (a : Int32) : a / (-1) = -a := by
  refine (fa_eq _ _).mpr ?_
  have e : ((-1 : Int32).toInt) = -1 := by decide
  rw [Int32.toInt_div, e, Int.tdiv_neg, Int.tdiv_one, Int32.toInt_neg]
def bop (c s : Int32) : Prop := (c = 142 ∧ s = 10) ∨ (c = 143 ∧ s = 20) ∨ (c = 60 ∧ s = 40) ∨ (c = 61 ∧ s = 41) ∨ (c = 62 ∧ s = 42) ∨ (c = 43 ∧ s = 50) ∨ (c = 45 ∧ s = 51) ∨ (c = 42 ∧ s = 60) ∨ (c = 47 ∧ s = 61) ∨ (c = 145 ∧ s = 70) ∨ (c = 146 ∧ s = 71)
theorem min_eq (l r : Int32) : (if r < l then r else l) = if r ≤ l then r else l := by
  by_cases h : r < l
  · rw [if_pos h, if_pos (Int32.le_of_lt h)]
  · rw [if_neg h]
    by_cases h2 : r ≤ l
    · rw [if_pos h2]; exact (Int32.le_antisymm (Int32.not_lt.mp h) h2)
    · rw [if_neg h2]
theorem max_eq (l r : Int32) : (if l < r then r else l) = if l ≤ r then r else l := by
  by_cases h : l < r
  · rw [if_pos h, if_pos (Int32.le_of_lt h)]
  · rw [if_neg h]
    by_cases h2 : l ≤ r
    · rw [if_pos h2]; exact (Int32.le_antisymm h2 (Int32.not_lt.mp h))
    · rw [if_neg h2]
theorem M_both {σ : MS} {c s l r : Int32} {post : Int32 → MS → Prop} (h : bop c s) (k : post (wkv c l r) σ) : wp_M_both σ s l r post := by
  unfold wkv at k
  unfold wp_M_both
  rcases h with ⟨rfl, rfl⟩ | ⟨rfl, rfl⟩ | ⟨rfl, rfl⟩ | ⟨rfl, rfl⟩ | ⟨rfl, rfl⟩ | ⟨rfl, rfl⟩ | ⟨rfl, rfl⟩ | ⟨rfl, rfl⟩ | ⟨rfl, rfl⟩ | ⟨rfl, rfl⟩ | ⟨rfl, rfl⟩
  · have k : post (if l = 0 then (if r = 0 then 0 else 1) else 1) σ := k
    exact itT rfl (itI (P := fun v => post v σ) k (fun k => itI (P := fun v => post v σ) k id id) id)
  · have k : post (if l = 0 then 0 else if r = 0 then 0 else 1) σ := k
    exact itF (by decide) (itT rfl (itI (P := fun v => post v σ) k id (fun k => itI (P := fun v => post v σ) k id id)))
  · have k : post (if r ≤ l then 0 else 1) σ := k
    exact itF (by decide) (itF (by decide) (itT rfl (itI (P := fun v => post v σ) k id id)))
  · have k : post (if l = r then 1 else 0) σ := k
    exact itF (by decide) (itF (by decide) (itF (by decide) (itT rfl (itI (P := fun v => post v σ) k id id))))
  · have k : post (if l ≤ r then 0 else 1) σ := k
    exact itF (by decide) (itF (by decide) (itF (by decide) (itF (by decide) (itT rfl (itI (P := fun v => post v σ) k id id)))))
  · exact itF (by decide) (itF (by decide) (itF (by decide) (itF (by decide) (itF (by decide) (itT rfl k)))))
  · exact itF (by decide) (itF (by decide) (itF (by decide) (itF (by decide) (itF (by decide) (itF (by decide) (itT rfl k))))))
  · exact itF (by decide) (itF (by decide) (itF (by decide) (itF (by decide) (itF (by decide) (itF (by decide) (itF (by decide) (itT rfl k)))))))
  · have k : post (if r = 0 then 0 else l / r) σ := k
    refine itF (by decide) (itF (by decide) (itF (by decide) (itF (by decide) (itF (by decide) (itF (by decide) (itF (by decide) (itF (by decide) (itF (by decide) (itF (by decide) ?_)))))))))
    by_cases h : r = 0
    · rw [if_pos h] at k ⊢; exact k
    · rw [if_neg h] at k ⊢
      by_cases h2 : r = -1
      · rw [if_pos h2]; subst h2; rw [div_m1] at k; exact k
      · rw [if_neg h2]; exact ⟨h, k⟩
  · have k : post (if r < l then r else l) σ := k
    rw [min_eq] at k
    exact itF (by decide) (itF (by decide) (itF (by decide) (itF (by decide) (itF (by decide) (itF (by decide) (itF (by decide) (itF (by decide) (itT rfl (itI (P := fun v => post v σ) k id id)))))))))
  · have k : post (if l < r then r else l) σ := k
    rw [max_eq] at k
    exact itF (by decide) (itF (by decide) (itF (by decide) (itF (by decide) (itF (by decide) (itF (by decide) (itF (by decide) (itF (by decide) (itF (by decide) (itT rfl (itI (P := fun v => post v σ) k id id))))))))))
def evk (nm g : Nat → Int32) : Nat → Nat → Nat → (Nat → Int32) → Int32
  | 0, _, _, _ => 0
  | r + 1, k, d, S => if ¬ g k < 1000 then evk nm g r (k + 1) (d + 1) (upd S d (g k - 1000)) else if ¬ g k < 128 ∧ ¬ 141 ≤ g k then evk nm g r (k + 1) (d + 1) (upd S d (nm (g k - 128).toNatClampNeg)) else if g k = 1 then S 0 else if g k = 144 then evk nm g r (k + 1) d (upd S (d - 1) (if S (d - 1) = 0 then 1 else 0)) else if g k = 141 then (if S 1 = 0 then evk nm g r (k + 1) 0 S else S 0) else evk nm g r (k + 1) (d - 1) (upd S (d - 2) (wkv (g k) (S (d - 2)) (S (d - 1))))
/-- the kinds of steps -/
def kN (c s n : Int32) : Prop := ¬ c < 1000 ∧ s = 1 ∧ c - 1000 = n
def kM (c s : Int32) : Prop := c < 1000 ∧ ¬ c < 128 ∧ ¬ 141 ≤ c ∧ ∃ k : Nat, k < 13 ∧ c - 128 = nI k ∧ s - 100 = nI k ∧ s ≠ 9 ∧ s ≠ 8 ∧ s ≠ 1 ∧ ¬ s < 100
def kB (c s : Int32) : Prop := bop c s ∧ c < 1000 ∧ (c < 128 ∨ 141 ≤ c) ∧ c ≠ 1 ∧ c ≠ 144 ∧ c ≠ 141 ∧ s ≠ 9 ∧ s ≠ 8 ∧ s ≠ 1 ∧ s < 100 ∧ s ≠ 30
theorem kind_of {c s n : Int32} (h : trel c s n) : kN c s n ∨ kM c s ∨ (c = 1 ∧ s = 9) ∨ (c = 144 ∧ s = 30) ∨ (c = 141 ∧ s = 8) ∨ kB c s := by
  rcases h with ⟨h1, k, h2, h3, h4⟩ | ⟨k, h1, h2, h3⟩ | h | h | h | h | h | h | h | h | h | h | h | h | h | h
  · refine Or.inl ⟨?_, h1, ?_⟩
    · rw [h4]; exact nI_nlt (b := 1000) (by omega) (by omega)
    · rw [h4, h3, show (1000 : Int32) = nI 1000 from rfl, pk_sub (by omega), show 1000 + k - 1000 = k by omega]
  · refine Or.inr (Or.inl ⟨?_, ?_, ?_, k, h1, ?_, ?_, ?_, ?_, ?_, ?_⟩)
    · rw [h3]; exact nI_lt (b := 1000) (by omega) (by omega)
    · rw [h3]; exact nI_nlt (b := 128) (by omega) (by omega)
    · rw [h3]; exact nI_ge (b := 141) (by omega) (by omega)
    · rw [h3, show (128 : Int32) = nI 128 from rfl, pk_sub (by omega), show 128 + k - 128 = k by omega]
    · rw [h2, show (100 : Int32) = nI 100 from rfl, pk_sub (by omega), show 100 + k - 100 = k by omega]
    · rw [h2]; exact fun q => absurd ((nI_eq (b := 9) (by omega) (by omega)).mp q) (by omega)
    · rw [h2]; exact fun q => absurd ((nI_eq (b := 8) (by omega) (by omega)).mp q) (by omega)
    · rw [h2]; exact fun q => absurd ((nI_eq (b := 1) (by omega) (by omega)).mp q) (by omega)
    · rw [h2]; exact nI_nlt (b := 100) (by omega) (by omega)
  · exact Or.inr (Or.inr (Or.inl h))
  · exact Or.inr (Or.inr (Or.inr (Or.inr (Or.inl h))))
  · exact Or.inr (Or.inr (Or.inr (Or.inl h)))
  all_goals
    obtain ⟨rfl, rfl⟩ := h
    exact Or.inr (Or.inr (Or.inr (Or.inr (Or.inr ⟨by unfold bop; decide, by decide, by decide, by decide, by decide, by decide, by decide, by decide, by decide, by decide, by decide⟩))))
theorem dpt_none {g : Nat → Int32} {k : Nat} (h : dpt g k = none) : ∀ r, dpt g (k + r) = none
  | 0 => h
  | r + 1 => by
    show (match dpt g (k + r) with | none => none | some d => dst d (g (k + r))) = none
    rw [dpt_none h r]
theorem dpt_step {g : Nat → Int32} {N k d e : Nat} (hN : dpt g N = some e) (hk : k < N) (hd : dpt g k = some d) : ∃ d', dst d (g k) = some d' ∧ dpt g (k + 1) = some d' := by
  have e1 : dpt g (k + 1) = dst d (g k) := by
    show (match dpt g k with | none => none | some d => dst d (g k)) = dst d (g k)
    rw [hd]
  cases e2 : dst d (g k) with
  | none =>
    rw [e2] at e1
    have := dpt_none e1 (N - (k + 1))
    rw [show k + 1 + (N - (k + 1)) = N by omega, hN] at this
    cases this
  | some d' => exact ⟨d', rfl, by rw [e1, e2]⟩
theorem dst_push {d d' : Nat} {c : Int32} (h : dst d c = some d') (hc : 1000 ≤ c ∨ (128 ≤ c ∧ c < 141)) : d < 200 ∧ d' = d + 1 := by
  unfold dst at h
  rw [if_pos hc] at h
  by_cases q : d < 200
  · rw [if_pos q] at h; cases h; exact ⟨q, rfl⟩
  · rw [if_neg q] at h; cases h
theorem dst_give {d d' : Nat} (h : dst d 1 = some d') : d = 1 ∧ d' = 0 := by
  unfold dst at h
  rw [if_neg (by decide), if_pos rfl] at h
  by_cases q : d = 1
  · rw [if_pos q] at h; cases h; exact ⟨q, rfl⟩
  · rw [if_neg q] at h; cases h
theorem dst_if {d d' : Nat} (h : dst d 141 = some d') : d = 2 ∧ d' = 0 := by
  unfold dst at h
  rw [if_neg (by decide), if_neg (by decide), if_pos rfl] at h
  by_cases q : d = 2
  · rw [if_pos q] at h; cases h; exact ⟨q, rfl⟩
  · rw [if_neg q] at h; cases h
theorem dst_not {d d' : Nat} (h : dst d 144 = some d') : 1 ≤ d ∧ d' = d := by
  unfold dst at h
  rw [if_neg (by decide), if_neg (by decide), if_neg (by decide), if_pos rfl] at h
  by_cases q : 1 ≤ d
  · rw [if_pos q] at h; cases h; exact ⟨q, rfl⟩
  · rw [if_neg q] at h; cases h
theorem dst_bin {d d' : Nat} {c : Int32} (h : dst d c = some d') (h0 : c < 1000) (h1 : c < 128 ∨ 141 ≤ c) (h2 : c ≠ 1) (h3 : c ≠ 144) (h4 : c ≠ 141) : 2 ≤ d ∧ d' = d - 1 := by
  unfold dst at h
  have q0 : ¬ (1000 ≤ c ∨ (128 ≤ c ∧ c < 141)) := by
    rintro (q | ⟨q, q2⟩)
    · exact Int32.not_le.mpr h0 q
    · rcases h1 with h1 | h1
      · exact Int32.not_le.mpr h1 q
      · exact Int32.not_le.mpr q2 h1
  rw [if_neg q0, if_neg h2, if_neg h4, if_neg h3] at h
  by_cases q : 2 ≤ d
  · rw [if_pos q] at h; cases h; exact ⟨q, rfl⟩
  · rw [if_neg q] at h; cases h
