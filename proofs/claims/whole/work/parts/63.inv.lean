/-! what holds between the class's state and the model's, ahead of every call -/
theorem itE {c : Prop} [Decidable c] {A B : Prop} (f : c → A) (g : ¬ c → B) : if c then A else B := by
  by_cases h : c
  · rw [if_pos h]; exact f h
  · rw [if_neg h]; exact g h
theorem itT {c : Prop} [Decidable c] {A B : Prop} (h : c) (a : A) : if c then A else B := by rw [if_pos h]; exact a
theorem itF {c : Prop} [Decidable c] {A B : Prop} (h : ¬ c) (b : B) : if c then A else B := by rw [if_neg h]; exact b
def rg (x : Int32) (lo hi : Nat) : Prop := ∃ k : Nat, lo ≤ k ∧ k ≤ hi ∧ x = nI k
def trel (c s n : Int32) : Prop := (s = 1 ∧ ∃ k : Nat, k ≤ 99999 ∧ n = nI k ∧ c = nI (1000 + k)) ∨ (∃ k : Nat, k < 13 ∧ s = nI (100 + k) ∧ c = nI (128 + k)) ∨ (c = 1 ∧ s = 9) ∨ (c = 141 ∧ s = 8) ∨ (c = 144 ∧ s = 30) ∨ (c = 142 ∧ s = 10) ∨ (c = 143 ∧ s = 20) ∨ (c = 60 ∧ s = 40) ∨ (c = 61 ∧ s = 41) ∨ (c = 62 ∧ s = 42) ∨ (c = 43 ∧ s = 50) ∨ (c = 45 ∧ s = 51) ∨ (c = 42 ∧ s = 60) ∨ (c = 47 ∧ s = 61) ∨ (c = 145 ∧ s = 70) ∨ (c = 146 ∧ s = 71)
def dst (d : Nat) (c : Int32) : Option Nat := if 1000 ≤ c ∨ (128 ≤ c ∧ c < 141) then (if d < 200 then some (d + 1) else none) else if c = 1 then (if d = 1 then some 0 else none) else if c = 141 then (if d = 2 then some 0 else none) else if c = 144 then (if 1 ≤ d then some d else none) else (if 2 ≤ d then some (d - 1) else none)
def dpt (g : Nat → Int32) : Nat → Option Nat
  | 0 => some 0
  | k + 1 => match dpt g k with
    | none => none
    | some d => dst d (g k)
def farv (a b : Int32) : Int32 := if 0 ≤ b - a then b - a else 0 - (b - a)
def upv (a b : Int32) : Int32 := if b - a < 0 then (-(b - a)) / 2 else b - a
def IZ (t : CS) (σ : MS) : Prop := tN t 0 = 4 ∧ tT t 4 = [0, 1, 2, 3] ∧ tN t 4 ≤ 20 ∧ tN t 3 ≤ 60 ∧ tN t 2 ≤ 200 ∧ tN t 1 ≤ 40 ∧ tT t 0 = List.range (tN t 4) ∧ tT t 1 = List.range (tN t 3) ∧ tT t 2 = List.range (tN t 2) ∧ tT t 3 = List.range (tN t 1) ∧ σ 5 0 = nI (tN t 4) ∧ σ 10 0 = nI (tN t 3) ∧ σ 43 0 = nI (tN t 2) ∧ σ 26 0 = nI (tN t 1)
def IC (t : CS) : Prop := ∀ k, (tT t k).length ≤ tK t k ∧ tK t k ≤ 400
def IS (t : CS) : Prop := (∀ x ∈ tT t 5, x < tN t 3) ∧ (∀ x ∈ tT t 6, x < tN t 3) ∧ (tT t 5).length ≤ 60 ∧ (tT t 6).length ≤ 60
def IPl (t : CS) (σ : MS) : Prop := (∀ i, i < tN t 4 → tF t 129 i = σ 6 i ∧ tF t 130 i = σ 7 i ∧ tF t 131 i = σ 8 i ∧ tF t 132 i = σ 9 i ∧ rg (σ 6 i) 0 99 ∧ rg (σ 7 i) 0 99 ∧ rg (σ 8 i) 0 600 ∧ rg (σ 9 i) 0 600) ∧ ∀ i, tN t 4 ≤ i → σ 8 i = 0 ∧ σ 9 i = 0
def IRn (t : CS) (σ : MS) : Prop := ∃ k, k ≤ 20 ∧ σ 2 0 = nI k ∧ tF t 162 1 = nI k ∧ ∀ i, i < k → tA t 0 i = σ 3 i ∧ tA t 1 i = σ 4 i
def IMi (t : CS) (σ : MS) : Prop := ∃ T, T ≤ 99999 ∧ σ 1 0 = nI T ∧ tF t 171 0 = nI T
def IMn (t : CS) (σ : MS) : Prop := (∀ i, i < tN t 3 → tF t 97 i = σ 11 i ∧ tF t 98 i = σ 12 i ∧ tF t 99 i = σ 13 i ∧ tF t 100 i = σ 14 i ∧ tF t 101 i = σ 15 i ∧ tF t 102 i = σ 16 i ∧ tF t 103 i = σ 17 i ∧ tF t 104 i = σ 18 i ∧ tF t 105 i = σ 19 i ∧ (∃ f, f < 4 ∧ σ 11 i = nI f) ∧ bz (σ 19 i)) ∧ ∀ i, tN t 3 ≤ i → σ 14 i = 0 ∧ σ 15 i = 0 ∧ σ 16 i = 0 ∧ σ 17 i = 0 ∧ σ 19 i = 0
def IRw (t : CS) (σ : MS) : Prop := ∀ f, f < 4 → σ 20 f = nI (tT t (f + 7)).length ∧ (∀ k, k < (tT t (f + 7)).length → σ 21 (60 * f + k) = nI ((tT t (f + 7)).getD k 0)) ∧ (tT t (f + 7)).Nodup ∧ ∀ m ∈ tT t (f + 7), m < tN t 3 ∧ σ 11 m = nI f
def IDi (t : CS) (σ : MS) : Prop := ∀ f, f < 4 → tF t 2 f = σ 22 f ∧ tF t 3 f = σ 23 f ∧ bz (σ 22 f)
def ITp (t : CS) (σ : MS) : Prop := ∃ n, n ≤ 200 ∧ σ 25 0 = nI n ∧ tF t 161 2 = nI n ∧ ∀ k, k < n → ∃ b, b < 256 ∧ tA t 2 k = nI b ∧ σ 24 k = (nI b).toInt8.toInt32
def ILw (t : CS) (σ : MS) : Prop := ∀ i, i < tN t 1 → tF t 33 i = σ 27 i ∧ tF t 34 i = σ 28 i ∧ tF t 35 i = σ 29 i ∧ tF t 36 i = σ 30 i ∧ tG t 2 i ≤ 210 ∧ σ 31 i = nI (tG t 2 i) ∧ (∀ k, k < tG t 2 i → trel (tA t (i + 8) k) (σ 32 (220 * i + k)) (σ 33 (220 * i + k))) ∧ dpt (tA t (i + 8)) (tG t 2 i) = some 0
def ILd (t : CS) (σ : MS) : Prop := (∀ i, i < tN t 2 → tF t 65 i = σ 44 i ∧ tF t 66 i = σ 45 i ∧ σ 46 i = nI (tG t 0 i) ∧ σ 47 i = nI (tG t 1 i) ∧ tG t 0 i < tN t 4 ∧ tG t 1 i < tN t 4 ∧ tF t 69 i = farv (σ 6 (tG t 0 i)) (σ 6 (tG t 1 i)) ∧ tF t 70 i = upv (σ 7 (tG t 0 i)) (σ 7 (tG t 1 i)) ∧ tF t 71 i = σ 48 i ∧ tF t 72 i = σ 49 i ∧ tF t 73 i = σ 51 i ∧ tF t 75 i = σ 50 i ∧ tF t 76 i = σ 52 i ∧ tF t 77 i = σ 53 i ∧ tF t 78 i = σ 55 i ∧ tF t 79 i = σ 56 i ∧ tF t 80 i = σ 57 i ∧ rg (σ 49 i) 0 200000 ∧ rg (σ 51 i) 0 99999 ∧ rg (σ 55 i) 0 100000 ∧ rg (σ 56 i) 0 100 ∧ rg (σ 57 i) 0 100000) ∧ ∀ i, tN t 2 ≤ i → σ 52 i = 0 ∧ σ 55 i = 0 ∧ σ 56 i = 0 ∧ σ 57 i = 0 ∧ σ 58 i = 0
/-- of load i: its gang, and where it is; those from J on may come at this very minute -/
def gng (t : CS) (σ : MS) (T J i : Nat) : Prop := σ 58 i = nI (tT t (i + 11)).length ∧ (tT t (i + 11)).length ≤ 8 ∧ (∀ k, k < (tT t (i + 11)).length → σ 59 (8 * i + k) = nI ((tT t (i + 11)).getD k 0)) ∧ (tT t (i + 11)).Nodup ∧ (∀ m ∈ tT t (i + 11), m < tN t 3) ∧
  (((σ 50 i = 0 ∨ σ 50 i = 4) ∧ tF t 82 i = 0 ∧ σ 53 i = -1 ∧ tT t (i + 11) = []) ∨
   (tT t (i + 11) ≠ [] ∧ ∃ f a, f < 4 ∧ σ 53 i = nI f ∧ a ≤ 101000 ∧ σ 54 i = nI a ∧ tF t 81 i = nI a ∧ (∀ m ∈ tT t (i + 11), σ 11 m = nI f) ∧
     ((tF t 82 i = 1 ∧ (T < a ∨ (T = a ∧ J ≤ i)) ∧ (σ 50 i = 1 ∨ σ 50 i = 3) ∧ ∀ m ∈ tT t (i + 11), σ 16 m = nI a ∧ σ 18 m = nI i ∧ m ∉ tT t (f + 7)) ∨
      (tF t 82 i = 0 ∧ a ≤ T ∧ (σ 50 i = 2 ∨ σ 50 i = 3)))))
def IGn (t : CS) (σ : MS) (J : Nat) : Prop := ∃ T, σ 1 0 = nI T ∧ T ≤ 99999 ∧ ∀ i, i < tN t 2 → gng t σ T J i
def IFu (t : CS) (σ : MS) (D : Nat) : Prop := D < 167 ∧ ∀ f, f < 4 → tF t 4 f = σ 63 f ∧ tF t 5 f = σ 64 f ∧ tF t 7 f = σ 65 f ∧ tF t 8 f = σ 66 f ∧ tF t 9 f = σ 67 f ∧ rg (σ 66 f) 0 99 ∧ rg (σ 67 f) 0 99 ∧ 0 ≤ (σ 64 f).toInt ∧ fb_si (fun d => (σ 68 (167 * f + d)).toInt) D = (tF t 6 f).toInt ∧ fb_si (fun d => (σ 68 (167 * f + d)).toInt) (D + 1) = (σ 64 f).toInt ∧ (∀ d, 0 ≤ (σ 68 (167 * f + d)).toInt ∨ 167 ≤ d) ∧ ∀ d, D < d → d < 167 → σ 68 (167 * f + d) = 0
def phi (σ : MS) : Int := fb_si (fun m => (σ 14 m).toInt) 60 + fb_si (fun f => (σ 64 f).toInt) 4
def thr (t : CS) (σ : MS) : Nat := fb_ct (fun l => decide (σ 50 l = 2)) (tN t 2)
def IPh (t : CS) (σ : MS) (B : Int) : Prop := (∀ m, m < 60 → 0 ≤ (σ 14 m).toInt) ∧ phi σ ≤ 100000 * (thr t σ : Int) + B
def Inv (t : CS) (σ : MS) : Prop := IZ t σ ∧ IC t ∧ IS t ∧ IPl t σ ∧ IRn t σ ∧ IMi t σ ∧ IMn t σ ∧ IRw t σ ∧ IDi t σ ∧ ITp t σ ∧ ILw t σ ∧ ILd t σ ∧ IGn t σ 200 ∧ (∃ D, σ 1 0 / 600 = nI D ∧ IFu t σ D ∧ IPh t σ (47520 * (D : Int)))
theorem Inv_init : Inv tInit σ0 := by
  refine ⟨⟨rfl, rfl, by decide, by decide, by decide, by decide, rfl, rfl, rfl, rfl, rfl, rfl, rfl, rfl⟩, fun k => ?_, ⟨fun x h => (by cases h), fun x h => (by cases h), by decide, by decide⟩, ⟨fun i h => absurd h (Nat.not_lt_zero i), fun i _ => ⟨rfl, rfl⟩⟩, ⟨0, by decide, rfl, rfl, fun i h => absurd h (Nat.not_lt_zero i)⟩, ⟨0, by decide, rfl, rfl⟩, ⟨fun i h => absurd h (Nat.not_lt_zero i), fun i _ => ⟨rfl, rfl, rfl, rfl, rfl⟩⟩, fun f hf => ?_, fun f hf => ⟨rfl, rfl, Or.inl rfl⟩, ⟨0, by decide, rfl, rfl, fun i h => absurd h (Nat.not_lt_zero i)⟩, fun i h => absurd h (Nat.not_lt_zero i), ⟨fun i h => absurd h (Nat.not_lt_zero i), fun i _ => ⟨rfl, rfl, rfl, rfl, rfl⟩⟩, ⟨0, rfl, by decide, fun i h => absurd h (Nat.not_lt_zero i)⟩, 0, by decide, ⟨by decide, fun f hf => ⟨rfl, rfl, rfl, rfl, rfl, ⟨0, by decide, by decide, rfl⟩, ⟨0, by decide, by decide, rfl⟩, show (0 : Int) ≤ (0 : Int32).toInt by decide, show (0 : Int) = (0 : Int32).toInt by decide, show (0 : Int) + (0 : Int32).toInt = (0 : Int32).toInt by decide, fun d => Or.inl (show (0 : Int) ≤ (0 : Int32).toInt by decide), fun d _ _ => rfl⟩⟩, fun m hm => ?_, ?_⟩
  · by_cases h : k = 4
    · subst h; exact ⟨by decide, by decide⟩
    · have e1 : tT tInit k = [] := if_neg h
      have e2 : tK tInit k = 0 := if_neg h
      rw [e1, e2]; exact ⟨by decide, by decide⟩
  · have e1 : tT tInit (f + 7) = [] := by
      show (if f + 7 = 4 then [0, 1, 2, 3] else []) = ([] : List Nat)
      exact if_neg (by omega)
    rw [e1]
    exact ⟨rfl, fun k h => absurd h (Nat.not_lt_zero k), List.nodup_nil, fun m h => (by cases h)⟩
  · exact (show (0 : Int) ≤ (0 : Int32).toInt by decide)
  · exact (show phi σ0 ≤ 100000 * ((0 : Nat) : Int) + 47520 * ((0 : Nat) : Int) by decide)
