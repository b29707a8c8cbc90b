/-! the class: its state, its cells, what the heap holds of it (gen/cbase.py) -/
/-- int fields (32 * kind + slot), int arrays, lists, how many of a kind there are, where a load begins and ends and how long a law is, capacities of lists -/
abbrev CS : Type := MS × MS × (Nat → List Nat) × (Nat → Nat) × (Nat → Nat → Nat) × (Nat → Nat)
abbrev tF (t : CS) : MS := t.1
abbrev tA (t : CS) : MS := t.2.1
abbrev tT (t : CS) : Nat → List Nat := t.2.2.1
abbrev tN (t : CS) : Nat → Nat := t.2.2.2.1
abbrev tG (t : CS) : Nat → Nat → Nat := t.2.2.2.2.1
abbrev tK (t : CS) : Nat → Nat := t.2.2.2.2.2
def sF (t : CS) (k i : Nat) (v : Int32) : CS := (up2 t.1 k i v, t.2)
def sA (t : CS) (k i : Nat) (v : Int32) : CS := (t.1, up2 t.2.1 k i v, t.2.2)
def sT (t : CS) (k : Nat) (xs : List Nat) : CS := (t.1, t.2.1, va_up t.2.2.1 k xs, t.2.2.2)
def sK (t : CS) (k n : Nat) : CS := (t.1, t.2.1, t.2.2.1, t.2.2.2.1, t.2.2.2.2.1, va_up t.2.2.2.2.2 k n)
def alen (t : CS) (i : Nat) : Nat := match i with
  | 0 => 20
  | 1 => 20
  | 2 => 200
  | 3 => 201
  | 4 => 201
  | 5 => 402
  | 6 => 13
  | 7 => 200
  | i + 8 => tG t 2 i
def ek (k : Nat) : Nat := match k with
  | 0 => 4
  | 1 => 3
  | 2 => 2
  | 3 => 1
  | 4 => 0
  | _ => 3
def cnt (t : CS) (κ : Nat) : Nat := match κ with
  | 0 => tN t 0
  | 1 => tN t 1
  | 2 => tN t 2
  | 3 => tN t 3
  | 4 => tN t 4
  | 5 => 5
  | 6 => tN t 2 + 11
  | 7 => tN t 1 + 8
  | _ => 0
def kFellowship (ad : Nat → Nat → Nat) (t : CS) (i : Nat) : List Value := [.int (nI i), .ref (ad 6 (i + 7)), .int (tF t 2 i), .int (tF t 3 i), .int (tF t 4 i), .int (tF t 5 i), .int (tF t 6 i), .int (tF t 7 i), .int (tF t 8 i), .int (tF t 9 i)]
def kLaw (ad : Nat → Nat → Nat) (t : CS) (i : Nat) : List Value := [.int (nI i), .int (tF t 33 i), .int (tF t 34 i), .int (tF t 35 i), .int (tF t 36 i), .ref (ad 7 (i + 8))]
def kLoad (ad : Nat → Nat → Nat) (t : CS) (i : Nat) : List Value := [.int (nI i), .int (tF t 65 i), .int (tF t 66 i), .ref (ad 4 (tG t 0 i)), .ref (ad 4 (tG t 1 i)), .int (tF t 69 i), .int (tF t 70 i), .int (tF t 71 i), .int (tF t 72 i), .int (tF t 73 i), .ref (ad 6 (i + 11)), .int (tF t 75 i), .int (tF t 76 i), .int (tF t 77 i), .int (tF t 78 i), .int (tF t 79 i), .int (tF t 80 i), .int (tF t 81 i), .int (tF t 82 i)]
def kMan (ad : Nat → Nat → Nat) (t : CS) (i : Nat) : List Value := [.int (nI i), .int (tF t 97 i), .int (tF t 98 i), .int (tF t 99 i), .int (tF t 100 i), .int (tF t 101 i), .int (tF t 102 i), .int (tF t 103 i), .int (tF t 104 i), .int (tF t 105 i)]
def kPlace (ad : Nat → Nat → Nat) (t : CS) (i : Nat) : List Value := [.int (nI i), .int (tF t 129 i), .int (tF t 130 i), .int (tF t 131 i), .int (tF t 132 i)]
def kPorterTurns (ad : Nat → Nat → Nat) (t : CS) : List Value := [.ref (ad 6 0), .ref (ad 6 1), .ref (ad 6 2), .ref (ad 6 3), .ref (ad 6 4), .ref (ad 5 1), .ref (ad 5 2), .ref (ad 5 3), .ref (ad 5 4), .ref (ad 6 5), .ref (ad 6 6), .int (tF t 171 0), .int (tF t 172 0)]
def kSky (ad : Nat → Nat → Nat) (t : CS) : List Value := [.ref (ad 7 0), .ref (ad 7 1), .int (tF t 162 1)]
def kTape (ad : Nat → Nat → Nat) (t : CS) : List Value := [.ref (ad 7 2), .int (tF t 161 2)]
def kReader (ad : Nat → Nat → Nat) (t : CS) : List Value := [.ref (ad 7 3), .ref (ad 7 4), .ref (ad 7 5), .int (tF t 163 3), .int (tF t 164 3), .int (tF t 165 3)]
def kReckoner (ad : Nat → Nat → Nat) (t : CS) : List Value := [.ref (ad 7 6), .ref (ad 7 7), .int (tF t 162 4)]
def cellOf (Z : Nat → ClassId) (ad : Nat → Nat → Nat) (t : CS) (κ i : Nat) : va_E := match κ with
  | 0 => .inr (1, kFellowship ad t i)
  | 1 => .inr (2, kLaw ad t i)
  | 2 => .inr (3, kLoad ad t i)
  | 3 => .inr (4, kMan ad t i)
  | 4 => .inr (5, kPlace ad t i)
  | 5 => match i with
    | 0 => .inr (10, kPorterTurns ad t)
    | 1 => .inr (8, kSky ad t)
    | 2 => .inr (9, kTape ad t)
    | 3 => .inr (6, kReader ad t)
    | 4 => .inr (7, kReckoner ad t)
    | _ => .inr (7, [])
  | _ => .inl (Z 1, alen t i, .inl (tA t i))
/-- a list's own cells: the object, and its elements -/
def cObj (E mc e n : Nat) (cap : Nat) (md : Int32) : va_E := .inr (0, [.int md, .ref (if cap = 0 then E else e), .int (nI n)])
def cRow (Z : Nat → ClassId) (cap : Nat) (row : Nat → Option Nat) : va_E := .inl (Z 3, cap, .inr (.inr (.inr (.inr row))))
def LR (Z : Nat → ClassId) (E : Nat) (ad : Nat → Nat → Nat) (L : List Nat) (f : Nat → va_E) (e : Nat) (md : Int32) (k cap : Nat) (xs : List Nat) : Prop :=
  ad 6 k ∈ L ∧ f (ad 6 k) = .inr (0, [.int md, .ref (if cap = 0 then E else e), .int (nI xs.length)]) ∧ (cap = 0 → xs = []) ∧ (cap ≠ 0 → e ∈ L ∧ ∃ row, f e = cRow Z cap row ∧ xs.length ≤ cap ∧ ∀ j, j < xs.length → row j = some (ad (ek k) (xs.getD j 0)))
def CR (Z : Nat → ClassId) (E : Nat) (ad : Nat → Nat → Nat) (t : CS) (L : List Nat) (f : Nat → va_E) : Prop :=
  (∀ κ i, κ ≠ 6 → i < cnt t κ → ad κ i ∈ L ∧ f (ad κ i) = cellOf Z ad t κ i) ∧
  (∀ κ i κ' i', i < cnt t κ → i' < cnt t κ' → ad κ i = ad κ' i' → κ = κ' ∧ i = i') ∧
  ∃ (ea : Nat → Nat) (md : Nat → Int32), (∀ k, k < cnt t 6 → LR Z E ad L f (ea k) (md k) k (tK t k) (tT t k)) ∧ ∀ k k', k < cnt t 6 → k' < cnt t 6 → tK t k ≠ 0 → tK t k' ≠ 0 → ea k = ea k' → k = k'
theorem up2_ne {F : MS} {k i k' j : Nat} {v : Int32} (h : ¬ (k' = k ∧ j = i)) : up2 F k i v k' j = F k' j := by
  unfold up2 upd
  by_cases h1 : k' = k
  · subst h1
    rw [if_pos rfl]
    exact if_neg (fun e => h ⟨rfl, e⟩)
  · rw [if_neg h1]
theorem up2_eq {F : MS} {k i : Nat} {v : Int32} : up2 F k i v k i = v := by
  unfold up2 upd
  rw [if_pos rfl, if_pos rfl]
theorem cell_oth (Z : Nat → ClassId) (ad : Nat → Nat → Nat) (t : CS) (κ0 k0 i : Nat) (v : Int32) (hk : k0 < 32) (κ j : Nat) (h : ¬ (κ = κ0 ∧ j = i)) : cellOf Z ad (sF t (32 * κ0 + k0) i v) κ j = cellOf Z ad t κ j := by
  have e : ∀ k', k' < 32 → (up2 t.1 (32 * κ0 + k0) i v) (32 * κ + k') j = t.1 (32 * κ + k') j := fun k' hk' => up2_ne (by omega)
  match κ, h, e with
  | 0, h, e =>
    have e2 : (up2 t.1 (32 * κ0 + k0) i v) 2 j = t.1 2 j := e 2 (by decide)
    have e3 : (up2 t.1 (32 * κ0 + k0) i v) 3 j = t.1 3 j := e 3 (by decide)
    have e4 : (up2 t.1 (32 * κ0 + k0) i v) 4 j = t.1 4 j := e 4 (by decide)
    have e5 : (up2 t.1 (32 * κ0 + k0) i v) 5 j = t.1 5 j := e 5 (by decide)
    have e6 : (up2 t.1 (32 * κ0 + k0) i v) 6 j = t.1 6 j := e 6 (by decide)
    have e7 : (up2 t.1 (32 * κ0 + k0) i v) 7 j = t.1 7 j := e 7 (by decide)
    have e8 : (up2 t.1 (32 * κ0 + k0) i v) 8 j = t.1 8 j := e 8 (by decide)
    have e9 : (up2 t.1 (32 * κ0 + k0) i v) 9 j = t.1 9 j := e 9 (by decide)
    simp only [cellOf, kFellowship, sF, tF, e2, e3, e4, e5, e6, e7, e8, e9]
  | 1, h, e =>
    have e33 : (up2 t.1 (32 * κ0 + k0) i v) 33 j = t.1 33 j := e 1 (by decide)
    have e34 : (up2 t.1 (32 * κ0 + k0) i v) 34 j = t.1 34 j := e 2 (by decide)
    have e35 : (up2 t.1 (32 * κ0 + k0) i v) 35 j = t.1 35 j := e 3 (by decide)
    have e36 : (up2 t.1 (32 * κ0 + k0) i v) 36 j = t.1 36 j := e 4 (by decide)
    simp only [cellOf, kLaw, sF, tF, e33, e34, e35, e36]
  | 2, h, e =>
    have e65 : (up2 t.1 (32 * κ0 + k0) i v) 65 j = t.1 65 j := e 1 (by decide)
    have e66 : (up2 t.1 (32 * κ0 + k0) i v) 66 j = t.1 66 j := e 2 (by decide)
    have e69 : (up2 t.1 (32 * κ0 + k0) i v) 69 j = t.1 69 j := e 5 (by decide)
    have e70 : (up2 t.1 (32 * κ0 + k0) i v) 70 j = t.1 70 j := e 6 (by decide)
    have e71 : (up2 t.1 (32 * κ0 + k0) i v) 71 j = t.1 71 j := e 7 (by decide)
    have e72 : (up2 t.1 (32 * κ0 + k0) i v) 72 j = t.1 72 j := e 8 (by decide)
    have e73 : (up2 t.1 (32 * κ0 + k0) i v) 73 j = t.1 73 j := e 9 (by decide)
    have e75 : (up2 t.1 (32 * κ0 + k0) i v) 75 j = t.1 75 j := e 11 (by decide)
    have e76 : (up2 t.1 (32 * κ0 + k0) i v) 76 j = t.1 76 j := e 12 (by decide)
    have e77 : (up2 t.1 (32 * κ0 + k0) i v) 77 j = t.1 77 j := e 13 (by decide)
    have e78 : (up2 t.1 (32 * κ0 + k0) i v) 78 j = t.1 78 j := e 14 (by decide)
    have e79 : (up2 t.1 (32 * κ0 + k0) i v) 79 j = t.1 79 j := e 15 (by decide)
    have e80 : (up2 t.1 (32 * κ0 + k0) i v) 80 j = t.1 80 j := e 16 (by decide)
    have e81 : (up2 t.1 (32 * κ0 + k0) i v) 81 j = t.1 81 j := e 17 (by decide)
    have e82 : (up2 t.1 (32 * κ0 + k0) i v) 82 j = t.1 82 j := e 18 (by decide)
    simp only [cellOf, kLoad, sF, tF, e65, e66, e69, e70, e71, e72, e73, e75, e76, e77, e78, e79, e80, e81, e82]
  | 3, h, e =>
    have e97 : (up2 t.1 (32 * κ0 + k0) i v) 97 j = t.1 97 j := e 1 (by decide)
    have e98 : (up2 t.1 (32 * κ0 + k0) i v) 98 j = t.1 98 j := e 2 (by decide)
    have e99 : (up2 t.1 (32 * κ0 + k0) i v) 99 j = t.1 99 j := e 3 (by decide)
    have e100 : (up2 t.1 (32 * κ0 + k0) i v) 100 j = t.1 100 j := e 4 (by decide)
    have e101 : (up2 t.1 (32 * κ0 + k0) i v) 101 j = t.1 101 j := e 5 (by decide)
    have e102 : (up2 t.1 (32 * κ0 + k0) i v) 102 j = t.1 102 j := e 6 (by decide)
    have e103 : (up2 t.1 (32 * κ0 + k0) i v) 103 j = t.1 103 j := e 7 (by decide)
    have e104 : (up2 t.1 (32 * κ0 + k0) i v) 104 j = t.1 104 j := e 8 (by decide)
    have e105 : (up2 t.1 (32 * κ0 + k0) i v) 105 j = t.1 105 j := e 9 (by decide)
    simp only [cellOf, kMan, sF, tF, e97, e98, e99, e100, e101, e102, e103, e104, e105]
  | 4, h, e =>
    have e129 : (up2 t.1 (32 * κ0 + k0) i v) 129 j = t.1 129 j := e 1 (by decide)
    have e130 : (up2 t.1 (32 * κ0 + k0) i v) 130 j = t.1 130 j := e 2 (by decide)
    have e131 : (up2 t.1 (32 * κ0 + k0) i v) 131 j = t.1 131 j := e 3 (by decide)
    have e132 : (up2 t.1 (32 * κ0 + k0) i v) 132 j = t.1 132 j := e 4 (by decide)
    simp only [cellOf, kPlace, sF, tF, e129, e130, e131, e132]
  | 5, h, e =>
    match j, h, e with
    | 0, h, e =>
      have e171 : (up2 t.1 (32 * κ0 + k0) i v) 171 0 = t.1 171 0 := e 11 (by decide)
      have e172 : (up2 t.1 (32 * κ0 + k0) i v) 172 0 = t.1 172 0 := e 12 (by decide)
      simp only [cellOf, kPorterTurns, sF, tF, e171, e172]
    | 1, h, e =>
      have e162 : (up2 t.1 (32 * κ0 + k0) i v) 162 1 = t.1 162 1 := e 2 (by decide)
      simp only [cellOf, kSky, sF, tF, e162]
    | 2, h, e =>
      have e161 : (up2 t.1 (32 * κ0 + k0) i v) 161 2 = t.1 161 2 := e 1 (by decide)
      simp only [cellOf, kTape, sF, tF, e161]
    | 3, h, e =>
      have e163 : (up2 t.1 (32 * κ0 + k0) i v) 163 3 = t.1 163 3 := e 3 (by decide)
      have e164 : (up2 t.1 (32 * κ0 + k0) i v) 164 3 = t.1 164 3 := e 4 (by decide)
      have e165 : (up2 t.1 (32 * κ0 + k0) i v) 165 3 = t.1 165 3 := e 5 (by decide)
      simp only [cellOf, kReader, sF, tF, e163, e164, e165]
    | 4, h, e =>
      have e162 : (up2 t.1 (32 * κ0 + k0) i v) 162 4 = t.1 162 4 := e 2 (by decide)
      simp only [cellOf, kReckoner, sF, tF, e162]
    | j + 5, h, e => rfl
  | 6, h, e => rfl
  | κ + 7, h, e => rfl
def wordText : String := "kind weight far up value hour rain late men day age strength worked if or and not min max "
def wordBytes : List Int32 := [107, 105, 110, 100, 32, 119, 101, 105, 103, 104, 116, 32, 102, 97, 114, 32, 117, 112, 32, 118, 97, 108, 117, 101, 32, 104, 111, 117, 114, 32, 114, 97, 105, 110, 32, 108, 97, 116, 101, 32, 109, 101, 110, 32, 100, 97, 121, 32, 97, 103, 101, 32, 115, 116, 114, 101, 110, 103, 116, 104, 32, 119, 111, 114, 107, 101, 100, 32, 105, 102, 32, 111, 114, 32, 97, 110, 100, 32, 110, 111, 116, 32, 109, 105, 110, 32, 109, 97, 120, 32]
theorem cell_othA (Z : Nat → ClassId) (ad : Nat → Nat → Nat) (t : CS) (id x : Nat) (v : Int32) (κ j : Nat) (h : ¬ (κ = 7 ∧ j = id)) (h6 : κ < 8) (h66 : κ ≠ 6) : cellOf Z ad (sA t id x v) κ j = cellOf Z ad t κ j := by
  match κ, h, h6, h66 with
  | 0, _, _, _ => rfl
  | 1, _, _, _ => rfl
  | 2, _, _, _ => rfl
  | 3, _, _, _ => rfl
  | 4, _, _, _ => rfl
  | 5, _, _, _ => rfl
  | 6, _, _, h => exact absurd rfl h
  | 7, h, _, _ =>
    have hj : ¬ j = id := fun e => h ⟨rfl, e⟩
    show (Sum.inl (Z 1, alen t j, .inl (up2 t.2.1 id x v j)) : va_E) = .inl (Z 1, alen t j, .inl (t.2.1 j))
    rw [show up2 t.2.1 id x v j = t.2.1 j from if_neg hj]
  | κ + 8, _, h, _ => omega
theorem cRow_ne {Z : Nat → ClassId} {ad : Nat → Nat → Nat} {t : CS} {κ i cap : Nat} {row : Nat → Option Nat} (h : cRow Z cap row = cellOf Z ad t κ i) : False := by
  unfold cRow cellOf at h
  split at h
  · cases h
  · cases h
  · cases h
  · cases h
  · cases h
  · split at h <;> cases h
  · simp at h
theorem cnt_lt {t : CS} {κ i : Nat} (h : i < cnt t κ) : κ < 8 := by
  unfold cnt at h
  split at h <;> omega
theorem CR_up {Z : Nat → ClassId} {E : Nat} {ad : Nat → Nat → Nat} {t t' : CS} {L : List Nat} {f : Nat → va_E} (h : CR Z E ad t L f) (κ0 i : Nat) (h6 : κ0 ≠ 6) (hi : i < cnt t κ0) (hc : ∀ κ, cnt t' κ = cnt t κ) (hT : tT t' = tT t) (hK : tK t' = tK t) (ho : ∀ κ j, κ ≠ 6 → j < cnt t κ → ¬ (κ = κ0 ∧ j = i) → cellOf Z ad t' κ j = cellOf Z ad t κ j) : CR Z E ad t' L (va_up f (ad κ0 i) (cellOf Z ad t' κ0 i)) := by
  obtain ⟨h1, h2, ea, md, h3, h4⟩ := h
  refine ⟨fun κ j h6' hj => ?_, fun κ j κ' j' hj hj' => h2 κ j κ' j' (hc κ ▸ hj) (hc κ' ▸ hj'), ea, md, fun k hk' => ?_, fun k k' hk hk' hn hn' => h4 k k' (hc 6 ▸ hk) (hc 6 ▸ hk') (hK ▸ hn) (hK ▸ hn')⟩
  · rw [hc κ] at hj
    by_cases e : κ = κ0 ∧ j = i
    · obtain ⟨rfl, rfl⟩ := e
      exact ⟨(h1 _ _ h6' hj).1, va_up_self _ _ _⟩
    · have hne : ad κ j ≠ ad κ0 i := fun q => e (h2 κ j κ0 i hj hi q)
      rw [va_up_ne _ _ hne, ho κ j h6' hj e]
      exact h1 κ j h6' hj
  · rw [hc 6] at hk'
    obtain ⟨a1, a2, a3, a4⟩ := h3 k hk'
    rw [hT, hK]
    have hne : ad 6 k ≠ ad κ0 i := fun q => h6 (h2 6 k κ0 i hk' hi q).1.symm
    refine ⟨a1, by rw [va_up_ne _ _ hne]; exact a2, a3, fun hc => ?_⟩
    obtain ⟨b1, row, b2, b3⟩ := a4 hc
    have hne2 : ea k ≠ ad κ0 i := fun q => by
      have h5 := (h1 κ0 i h6 hi).2
      rw [← q, b2] at h5
      exact cRow_ne h5
    exact ⟨b1, row, by rw [va_up_ne _ _ hne2]; exact b2, b3⟩
theorem CR_sF {Z : Nat → ClassId} {E : Nat} {ad : Nat → Nat → Nat} {t : CS} {L : List Nat} {f : Nat → va_E} (h : CR Z E ad t L f) (κ0 k0 i id : Nat) (v : Int32) (hid : id = 32 * κ0 + k0) (hk : k0 < 32) (h6 : κ0 ≠ 6) (hi : i < cnt t κ0) : CR Z E ad (sF t id i v) L (va_up f (ad κ0 i) (cellOf Z ad (sF t id i v) κ0 i)) := by
  subst hid
  exact CR_up h κ0 i h6 hi (fun _ => rfl) rfl rfl (fun κ j _ _ e => cell_oth Z ad t κ0 k0 i v hk κ j e)
theorem CR_sA {Z : Nat → ClassId} {E : Nat} {ad : Nat → Nat → Nat} {t : CS} {L : List Nat} {f : Nat → va_E} (h : CR Z E ad t L f) (id x : Nat) (v : Int32) (hi : id < cnt t 7) : CR Z E ad (sA t id x v) L (va_up f (ad 7 id) (cellOf Z ad (sA t id x v) 7 id)) :=
  CR_up h 7 id (by decide) hi (fun _ => rfl) rfl rfl (fun κ j h6 hj e => cell_othA Z ad t id x v κ j e (cnt_lt hj) h6)
def cAs (L : List Nat) (sz : Nat) : Nat → Prop := fun q => q ∈ L ∨ sz ≤ q
/-- what a method finds beside the class's own cells: ArrayList's empty array, the words' text, what may be cast -/
def EV (E : Nat → Nat) (A : Nat → Prop) (U : State) : Prop :=
  va_Z "java/util/ArrayList" "DEFAULTCAPACITY_EMPTY_ELEMENTDATA" "[Ljava/lang/Object;" (.ref (E 0)) A U U.heap ∧
  va_T (.object "java/lang/Object") (E 0) 0 (fun _ => .null) A U U.heap ∧
  va_Z "java/lang/String" "COMPACT_STRINGS" "Z" (.int 1) A U U.heap ∧
  vk_S 1 [90] [wordBytes] (fun _ => E 2) (fun _ => E 3) A U U.heap ∧
  vk_R RX5 97 wordText (E 2) U ∧
  va_AO "java/lang/Object" U ∧ va_Mi "[Ljava/lang/Object;" (E 1) U ∧ va_Dc U ∧
  va_Nw (.castable RX0 "java/lang/Object") U ∧ va_Nw (.castable RX1 "java/lang/Object") U ∧ va_Nw (.castable RX2 "java/lang/Object") U ∧ va_Nw (.castable RX3 "java/lang/Object") U ∧ va_Nw (.castable RX4 "java/lang/Object") U ∧
  va_Zq "jdk/internal/util/Preconditions" "SIOOBE_FORMATTER" "Ljava/util/function/BiFunction;" A U U.heap
theorem EV.blind {E : Nat → Nat} {A : Nat → Prop} {U : State} (g : JFrame) (mk : MethodId) (a : Array Value) (h : EV E A U) : EV E A (U.calling g mk a) := by
  obtain ⟨h1, h2, h3, h4, h5, h6, h7, h8, h9, h10, h11, h12, h13, h14⟩ := h
  have hv : U.vm.Alike (U.calling g mk a).vm := Vm.Alike.refl U.vm
  exact ⟨va_Z.moved hv h1, va_T.moved hv h2, va_Z.moved hv h3, vk_S.moved hv h4, vk_R.same rfl h5, va_AO.moved hv h6, va_Mi.moved hv h7, va_Dc.moved hv h8, va_Nw.same rfl rfl h9, va_Nw.same rfl rfl h10, va_Nw.same rfl rfl h11, va_Nw.same rfl rfl h12, va_Nw.same rfl rfl h13, va_Zq.moved hv h14⟩
theorem EV.pass {E : Nat → Nat} {A B : Nat → Prop} {s U : State} {H : Heap} {locs : List Loc} (h : EV E A s) (hS : va_S A s.heap H locs) (hAB : ∀ q, B q → A q) (hU : U.heap = H) (hW : s.WarmedH U.vm) : EV E B U := by
  obtain ⟨h1, h2, h3, h4, h5, h6, h7, h8, h9, h10, h11, h12, h13, h14⟩ := h
  have hv := hW.alike
  have hq : ∀ a : Nat, a < s.heap.size → ¬ A a → U.heap[a]? = s.heap[a]? := by rw [hU]; exact hS.2.1
  exact ⟨((va_Z.moved hv h1).kept hq).narrow hAB, ((va_T.moved hv h2).kept hq).narrow hAB, ((va_Z.moved hv h3).kept hq).narrow hAB, ((vk_S.moved hv h4).kept hq).narrow hAB, vk_R.warm hW h5, va_AO.moved hv h6, va_Mi.moved hv h7, va_Dc.moved hv h8, va_Nw.warmC hW h9, va_Nw.warmC hW h10, va_Nw.warmC hW h11, va_Nw.warmC hW h12, va_Nw.warmC hW h13, ((va_Zq.moved hv h14).kept hq).narrow hAB⟩
def CC (p : Program) (s : State) (m : MethodId) (args : Array Value) (c : Code) (cc : ByteArray) (nL : Nat) (own : String) (D : va_G) (Z : Nat → ClassId) (E : Nat → Nat) (A : Nat → Prop) : Prop := CallFix p m c cc nL s args TB own ∧ va_K D vwCl (tysZ Z) s ∧ EV E A s ∧ ∀ q, s.heap.size ≤ q → A q
def PH (D : va_G) (A : Nat → Prop) (H0 : Heap) (L : List Nat) (f : Nat → va_E) (H : Heap) (locs : List Loc) : Prop := va_P D vwCl (va_pl L f) H ∧ va_D A (va_pl L f) ∧ va_S A H0 H locs
def CH (D : va_G) (Z : Nat → ClassId) (E : Nat → Nat) (ad : Nat → Nat → Nat) (A : Nat → Prop) (H0 : Heap) (t : CS) (H : Heap) (locs : List Loc) : Prop := ∃ (L : List Nat) (f : Nat → va_E), PH D A H0 L f H locs ∧ CR Z (E 0) ad t L f
def cPre (D : va_G) (Z : Nat → ClassId) (E : Nat → Nat) (ad : Nat → Nat → Nat) (L : List Nat) (sz : Nat) (t : CS) (U : State) : Prop := U.heap.size = sz ∧ va_K D vwCl (tysZ Z) U ∧ EV E (cAs L sz) U ∧ ∃ f, va_P D vwCl (va_pl L f) U.heap ∧ va_D (fun _ => True) (va_pl L f) ∧ CR Z (E 0) ad t L f
def cPost (D : va_G) (Z : Nat → ClassId) (E : Nat → Nat) (ad : Nat → Nat → Nat) (A : Nat → Prop) (t : CS) (U : State) : Prop := va_K D vwCl (tysZ Z) U ∧ ∃ (L : List Nat) (f : Nat → va_E), va_P D vwCl (va_pl L f) U.heap ∧ va_D A (va_pl L f) ∧ CR Z (E 0) ad t L f
theorem cPre_blind {D : va_G} {Z : Nat → ClassId} {E : Nat → Nat} {ad : Nat → Nat → Nat} {L : List Nat} {t : CS} (As : List Value) (sz : Nat) : FrameBlind (va_Pc As (cPre D Z E ad L sz t)) := fun a U g mk q => by
  obtain ⟨q0, q1, qK, qE, f, qP, qD, qR⟩ := q
  exact ⟨q0, q1, va_K.moved (u := U) (U := U.calling g mk a) (Vm.Alike.refl U.vm) qK, qE.blind g mk a, f, qP, qD, qR⟩
theorem pl_D {A : Nat → Prop} {L : List Nat} {f : Nat → va_E} (h : va_D A (va_pl L f)) {q : Nat} (hq : q ∈ L) : A q := by
  obtain ⟨k, hk⟩ := va_pl_get (X := []) (f := f) hq
  exact h.2 k _ hk
theorem cAs_sub {A : Nat → Prop} {s : State} {L : List Nat} {f : Nat → va_E} {H : Heap} {locs : List Loc} (hA : ∀ q, s.heap.size ≤ q → A q) (hD : va_D A (va_pl L f)) (hS : va_S A s.heap H locs) : ∀ q, cAs L H.size q → A q := fun q h => h.elim (fun h => pl_D hD h) (fun h => hA q (Nat.le_trans hS.1 h))
section CRows
variable {p : Program} {l : Launch} {e : Env} {R : Room} {s : State} {m : MethodId} {args : Array Value} {below : List Frame} {meth : Method} {c : Code} {H : Heap} {locs : List Loc} {cells slots : Nat} {Q : State → Prop} {pc nL : Nat} {ls : Array Slot} {rest : List Value} {D : va_G} {Z : Nat → ClassId} {E : Nat → Nat} {ad : Nat → Nat → Nat} {t : CS} {A : Nat → Prop} {cc : ByteArray} {own : String} {L : List Nat} {f : Nat → va_E}
theorem pg (C : CC p s m args c cc nL own D Z E A) (hH : PH D A s.heap L f H locs) {a ci : Nat} {fs : List Value} (ha : a ∈ L) (hf : f a = .inr (ci, fs)) {Cn : String} {T : u_T} {N : Nat} (hc : vwCl[ci]? = some (Cn, T, N)) (hin : ∀ w ∈ u_ws Cn T N, w ∈ TB) (k : Nat) (hk : k < N) {idx : Nat} {ref dc nm ds : String} {fin : Bool} (hT : T k = (dc, nm, ds, fin)) (hl : Cond.fieldLink own idx ref nm ds ∈ TB) (hsame : ∀ x, s.fieldFound? dc nm ds = some x → s.fieldFound? ref nm ds = some x) {v : Value} (hv : fs[k]? = some v) (hdg : decode cc pc = .ok (.getfield idx, 3))
    (kk : W p l e R s m args below meth c H locs cells slots Q (F0 m (pc + 3) ls (v :: rest))) : W p l e R s m args below meth c H locs cells slots Q (F0 m pc ls (.ref a :: rest)) := by
  obtain ⟨q0, hq⟩ := va_pl_get (X := []) (f := f) ha
  rw [hf] at hq
  exact va_get (own := own) (ref := ref) (C := Cn) (T := T) (N := N) (ci := ci) C.1.1 C.1.2.1 C.1.2.2.2.2 hin C.1.2.2.2.1 C.2.1 hH.1 q0 hq hc k hk (by rw [hT]; exact C.1.2.2.2.2 _ hl) (fun x h => by rw [hT] at h ⊢; exact hsame x h) hv hdg kk
theorem pp (C : CC p s m args c cc nL own D Z E A) (hH : PH D A s.heap L f H locs) {a ci : Nat} {fs : List Value} (ha : a ∈ L) (hf : f a = .inr (ci, fs)) {Cn : String} {T : u_T} {N : Nat} (hc : vwCl[ci]? = some (Cn, T, N)) (hin : ∀ w ∈ u_ws Cn T N, w ∈ TB) (ty0 : Nat → FieldType) (hty0 : ∀ k, k < N → parseFieldDescriptor (T k).2.2.1 = some (ty0 k)) (hnm : ∀ a, a < N → ∀ b, b < N → a ≠ b → (T a).2.1 ≠ (T b).2.1) (k : Nat) (hk : k < N) {idx : Nat} {ref dc nm ds : String} (hT : T k = (dc, nm, ds, false)) (hl : Cond.fieldLink own idx ref nm ds ∈ TB) (hsame : ∀ x, s.fieldFound? dc nm ds = some x → s.fieldFound? ref nm ds = some x) {ty : FieldType} {v : Value} (hd : parseFieldDescriptor ds = some ty) (hn : narrow ty v = v) (hfit : fits ty v = true) (hlen : k < fs.length) (hdg : decode cc pc = .ok (.putfield idx, 3))
    (kk : ∀ (H1 : Heap) (locs1 : List Loc), PH D A s.heap L (va_up f a (.inr (ci, fs.set k v))) H1 locs1 → W p l e R s m args below meth c H1 locs1 cells slots Q (F0 m (pc + 3) ls rest)) : W p l e R s m args below meth c H locs cells slots Q (F0 m pc ls (v :: .ref a :: rest)) := by
  obtain ⟨q0, hq⟩ := va_pl_get (X := []) (f := f) ha
  have hq0 := hq
  rw [hf] at hq
  refine va_put (own := own) (ref := ref) (C := Cn) (T := T) (N := N) (ci := ci) C.1.1 C.1.2.1 C.1.2.2.2.2 hin ty0 hty0 hnm C.1.2.2.2.1 C.2.1 hH.1 hH.2.1 hH.2.2 q0 hq hc k hk (by rw [hT]; exact C.1.2.2.2.2 _ hl) (fun x h => by rw [hT] at h ⊢; exact hsame x h) (by rw [hT]) (ty := ty) (by rw [hT]; exact hd) hn hfit hlen hdg (fun H1 locs1 h1 h2 h3 => ?_)
  have e := va_pl_set (X := []) (e := .inr (ci, fs.set k v)) hH.2.1 ha hq0
  exact kk H1 locs1 ⟨(show (va_pl L f).set q0 _ = va_pl L _ from e) ▸ h1, (show (va_pl L f).set q0 _ = va_pl L _ from e) ▸ h2, h3⟩
theorem cg (C : CC p s m args c cc nL own D Z E A) (hH : CH D Z E ad A s.heap t H locs) (κ i : Nat) (h6 : κ ≠ 6) (hi : i < cnt t κ) {ci : Nat} {fs : List Value} (hcell : cellOf Z ad t κ i = .inr (ci, fs)) {Cn : String} {T : u_T} {N : Nat} (hc : vwCl[ci]? = some (Cn, T, N)) (hin : ∀ w ∈ u_ws Cn T N, w ∈ TB) (k : Nat) (hk : k < N) {idx : Nat} {nm ds : String} {fin : Bool} (hT : T k = (Cn, nm, ds, fin)) (hl : Cond.fieldLink own idx Cn nm ds ∈ TB) {v : Value} (hv : fs[k]? = some v) (hdg : decode cc pc = .ok (.getfield idx, 3))
    (kk : W p l e R s m args below meth c H locs cells slots Q (F0 m (pc + 3) ls (v :: rest))) : W p l e R s m args below meth c H locs cells slots Q (F0 m pc ls (.ref (ad κ i) :: rest)) := by
  obtain ⟨L, f, hP, hR⟩ := hH
  obtain ⟨h1, h2⟩ := hR.1 κ i h6 hi
  exact pg C hP h1 (h2.trans hcell) hc hin k hk hT hl (fun _ h => h) hv hdg kk
theorem cp (C : CC p s m args c cc nL own D Z E A) (hH : CH D Z E ad A s.heap t H locs) (κ i id : Nat) (h6 : κ ≠ 6) (hi : i < cnt t κ) {ci : Nat} {fs : List Value} (hcell : cellOf Z ad t κ i = .inr (ci, fs)) {Cn : String} {T : u_T} {N : Nat} (hc : vwCl[ci]? = some (Cn, T, N)) (hin : ∀ w ∈ u_ws Cn T N, w ∈ TB) {ty0 : Nat → FieldType} (hty0 : ∀ k, k < N → parseFieldDescriptor (T k).2.2.1 = some (ty0 k)) (hnm : ∀ a, a < N → ∀ b, b < N → a ≠ b → (T a).2.1 ≠ (T b).2.1) (k : Nat) (hk : k < N) (hk32 : k < 32) (hid : id = 32 * κ + k) {idx : Nat} {nm ds : String} (hT : T k = (Cn, nm, ds, false)) (hl : Cond.fieldLink own idx Cn nm ds ∈ TB) {ty : FieldType} {v : Int32} (hd : parseFieldDescriptor ds = some ty) (hn : narrow ty (.int v) = .int v) (hfit : fits ty (.int v) = true) (hlen : k < fs.length) (hset : cellOf Z ad (sF t id i v) κ i = .inr (ci, fs.set k (.int v))) (hdg : decode cc pc = .ok (.putfield idx, 3))
    (kk : ∀ (H1 : Heap) (locs1 : List Loc), CH D Z E ad A s.heap (sF t id i v) H1 locs1 → W p l e R s m args below meth c H1 locs1 cells slots Q (F0 m (pc + 3) ls rest)) : W p l e R s m args below meth c H locs cells slots Q (F0 m pc ls (.int v :: .ref (ad κ i) :: rest)) := by
  obtain ⟨L, f, hP, hR⟩ := hH
  obtain ⟨h1, h2⟩ := hR.1 κ i h6 hi
  refine pp C hP h1 (h2.trans hcell) hc hin ty0 hty0 hnm k hk hT hl (fun _ h => h) hd hn hfit hlen hdg (fun H1 locs1 hP1 => ?_)
  rw [← hset] at hP1
  exact kk H1 locs1 ⟨L, _, hP1, CR_sF hR κ k i id v hid hk32 h6 hi⟩
theorem cai (C : CC p s m args c cc nL own D Z E A) (hH : CH D Z E ad A s.heap t H locs) (id : Nat) (hi : id < cnt t 7) {i : Int32} (hin : vp_in i (alen t id)) (hdg : decode cc pc = .ok (.iaload, 1))
    (kk : W p l e R s m args below meth c H locs cells slots Q (F0 m (pc + 1) ls (.int (tA t id i.toNatClampNeg) :: rest))) : W p l e R s m args below meth c H locs cells slots Q (F0 m pc ls (.int i :: .ref (ad 7 id) :: rest)) := by
  obtain ⟨L, f, hP, hR⟩ := hH
  obtain ⟨h1, h2⟩ := hR.1 7 id (by decide) hi
  obtain ⟨q0, hq⟩ := va_pl_get (X := []) (f := f) h1
  rw [h2] at hq
  exact va_iald C.1.1 C.1.2.1 C.2.1 hP.1 q0 1 (f := tA t id) hq rfl hin hdg kk
theorem cal (C : CC p s m args c cc nL own D Z E A) (hH : CH D Z E ad A s.heap t H locs) (id : Nat) (hi : id < cnt t 7) (hdg : decode cc pc = .ok (.arraylength, 1))
    (kk : W p l e R s m args below meth c H locs cells slots Q (F0 m (pc + 1) ls (.int (nI (alen t id)) :: rest))) : W p l e R s m args below meth c H locs cells slots Q (F0 m pc ls (.ref (ad 7 id) :: rest)) := by
  obtain ⟨L, f, hP, hR⟩ := hH
  obtain ⟨h1, h2⟩ := hR.1 7 id (by decide) hi
  obtain ⟨q0, hq⟩ := va_pl_get (X := []) (f := f) h1
  rw [h2] at hq
  exact va_alen C.1.1 C.1.2.1 C.2.1 hP.1 q0 1 hq rfl rfl hdg kk
theorem cas (C : CC p s m args c cc nL own D Z E A) (hH : CH D Z E ad A s.heap t H locs) (id : Nat) (hi : id < cnt t 7) {i x : Int32} (hset : cellOf Z ad (sA t id i.toNatClampNeg x) 7 id = .inl (Z 1, alen t id, .inl (upd (tA t id) i.toNatClampNeg x))) (hin : vp_in i (alen t id)) (hdg : decode cc pc = .ok (.iastore, 1))
    (kk : ∀ (H1 : Heap) (locs1 : List Loc), CH D Z E ad A s.heap (sA t id i.toNatClampNeg x) H1 locs1 → W p l e R s m args below meth c H1 locs1 cells slots Q (F0 m (pc + 1) ls rest)) : W p l e R s m args below meth c H locs cells slots Q (F0 m pc ls (.int x :: .int i :: .ref (ad 7 id) :: rest)) := by
  obtain ⟨L, f, hP, hR⟩ := hH
  obtain ⟨h1, h2⟩ := hR.1 7 id (by decide) hi
  obtain ⟨q0, hq⟩ := va_pl_get (X := []) (f := f) h1
  have hq0 := hq
  rw [h2] at hq
  refine va_iast C.1.1 C.1.2.1 C.2.1 hP.1 hP.2.1 hP.2.2 q0 1 (f := tA t id) hq rfl hin hdg (fun H1 locs1 g1 g2 g3 => ?_)
  have e := va_pl_set (X := []) (e := .inl (Z 1, alen t id, .inl (upd (tA t id) i.toNatClampNeg x))) hP.2.1 h1 hq0
  rw [← hset] at e
  refine kk H1 locs1 ⟨L, va_up f (ad 7 id) (cellOf Z ad (sA t id i.toNatClampNeg x) 7 id), ⟨?_, ?_, g3⟩, CR_sA hR id _ x hi⟩
  · rw [hset] at e ⊢
    exact (show (va_pl L f).set q0 _ = va_pl L _ from e) ▸ g1
  · rw [hset] at e ⊢
    exact (show (va_pl L f).set q0 _ = va_pl L _ from e) ▸ g2
theorem crecv (C : CC p s m args c cc nL own D Z E A) (hH : CH D Z E ad A s.heap t H locs) (κ i : Nat) (h6 : κ ≠ 6) (hi : i < cnt t κ) {ci : Nat} {fs : List Value} (hcell : cellOf Z ad t κ i = .inr (ci, fs)) {q : vw_C} (hc : vwCl[ci]? = some q) : ∃ cell : Cell, H[ad κ i]? = some cell ∧ cell.vm.isStatics = false ∧ s.vm.findClass q.1 = some cell.cls := by
  obtain ⟨L, f, hP, hR⟩ := hH
  obtain ⟨h1, h2⟩ := hR.1 κ i h6 hi
  obtain ⟨q0, hq⟩ := va_pl_get (X := []) (f := f) h1
  rw [h2, hcell] at hq
  exact va_recv C.2.1 hP.1 hc hq
theorem crecvL (C : CC p s m args c cc nL own D Z E A) (hH : CH D Z E ad A s.heap t H locs) (k : Nat) (hk : k < cnt t 6) : ∃ cell : Cell, H[ad 6 k]? = some cell ∧ cell.vm.isStatics = false ∧ s.vm.findClass RJx4a65c = some cell.cls := by
  obtain ⟨L, f, hP, hR⟩ := hH
  obtain ⟨-, -, ea, md, h3, -⟩ := hR
  obtain ⟨h1, h2, -⟩ := h3 k hk
  obtain ⟨q0, hq⟩ := va_pl_get (X := []) (f := f) h1
  rw [h2] at hq
  exact va_recv C.2.1 hP.1 (ci := 0) (q := (RJx4a65c, TJx4a65c, 3)) rfl hq
/-- a call: from the caller's heap to the callee's start -/
theorem cstart (C : CC p s m args c cc nL own D Z E A) (hP : PH D A s.heap L f H locs) (hR : CR Z (E 0) ad t L f) (As : List Value) (U : State) (hU : U.heap = H) (hW : s.WarmedH U.vm) : va_Pc As (cPre D Z E ad L H.size t) As.toArray U :=
  ⟨rfl, by rw [hU], va_K.moved hW.alike C.2.1, C.2.2.1.pass hP.2.2 (cAs_sub C.2.2.2 hP.2.1 hP.2.2) hU hW, f, by rw [hU]; exact hP.1, hP.2.1.weaken (fun _ _ _ _ => trivial), hR⟩
/-- and back -/
theorem cback (C : CC p s m args c cc nL own D Z E A) (hP : PH D A s.heap L f H locs) {t1 : CS} {u : State} {H1 : Heap} {locs1 : List Loc} (hu : u.heap = H1) (hB : cPost D Z E ad (cAs L H.size) t1 u) (hS : va_S A s.heap H1 locs1) : CH D Z E ad A s.heap t1 H1 locs1 := by
  obtain ⟨-, L1, f1, b1, b2, b3⟩ := hB
  rw [hu] at b1
  exact ⟨L1, f1, ⟨b1, b2.weaken (fun _ _ _ h => cAs_sub C.2.2.2 hP.2.1 hP.2.2 _ h), hS⟩, b3⟩
theorem ccVi (C : CC p s m args c cc nL own D Z E A) (hH : CH D Z E ad A s.heap t H locs) {r0 : Nat} {Cn : String} (hrc : ∃ cell : Cell, H[r0]? = some cell ∧ cell.vm.isStatics = false ∧ s.vm.findClass Cn = some cell.cls) {y : MethodName} {rm : Room} {post : Int32 → CS → Prop} {bytes : ByteArray} {maxL n idx mc ms : Nat} {ret : Option FieldType} (As : List Value) {st : List Value}
    (hM : ∀ L sz, Met l y (Wd y bytes maxL ret) rm (va_Pc (.ref r0 :: As) (cPre D Z E ad L sz t)) (va_Qi post (cPost D Z E ad (cAs L sz)) (cAs L sz)) mc ms (cAs L sz)) (cw : CallW R s args own Cn idx y bytes maxL ret (Wd y bytes maxL ret) rm mc ms n) (hn : As.length = n) (hsz : ls.size = nL) (hst : st = As.reverse ++ .ref r0 :: rest) (hro : (rest.map fun v => v.category).sum ≤ 8) (hdg : decode cc pc = .ok (.invokevirtual idx, 3)) (hc : cells + mc ≤ R.cells ∧ slots + ms ≤ R.slots)
    (kk : ∀ (r : Int32) (t1 : CS) (H1 : Heap) (locs1 : List Loc), post r t1 → CH D Z E ad A s.heap t1 H1 locs1 → W p l e R s m args below meth c H1 locs1 (cells + mc) (slots + ms) Q (F0 m (pc + 3) ls (.int r :: rest))) : W p l e R s m args below meth c H locs cells slots Q (F0 m pc ls st) := by
  subst hst
  obtain ⟨L, f, hP, hR⟩ := hH
  exact va_calli (va_runV (As := As) (rest := rest) C.1 (hM L H.size) cw ⟨cPre_blind _ _, hrc, fun U hU hW => cstart C hP hR _ U hU hW⟩ rfl hn hsz rfl (lv_room hro) hdg hc) hP.2.2 (fun q _ h => cAs_sub C.2.2.2 hP.2.1 hP.2.2 q h) (cAs_sub C.2.2.2 hP.2.1 hP.2.2) (fun r u t1 H1 locs1 ht hvm hw hB hz1 hk1 hS => kk r u H1 locs1 hw (cback C hP ht hB hS))
theorem ccVv (C : CC p s m args c cc nL own D Z E A) (hH : CH D Z E ad A s.heap t H locs) {r0 : Nat} {Cn : String} (hrc : ∃ cell : Cell, H[r0]? = some cell ∧ cell.vm.isStatics = false ∧ s.vm.findClass Cn = some cell.cls) {y : MethodName} {rm : Room} {post : CS → Prop} {bytes : ByteArray} {maxL n idx mc ms : Nat} {ret : Option FieldType} (As : List Value) {st : List Value}
    (hM : ∀ L sz, Met l y (Wd y bytes maxL ret) rm (va_Pc (.ref r0 :: As) (cPre D Z E ad L sz t)) (va_Qv post (cPost D Z E ad (cAs L sz)) (cAs L sz)) mc ms (cAs L sz)) (cw : CallW R s args own Cn idx y bytes maxL ret (Wd y bytes maxL ret) rm mc ms n) (hn : As.length = n) (hsz : ls.size = nL) (hst : st = As.reverse ++ .ref r0 :: rest) (hro : (rest.map fun v => v.category).sum ≤ 8) (hdg : decode cc pc = .ok (.invokevirtual idx, 3)) (hc : cells + mc ≤ R.cells ∧ slots + ms ≤ R.slots)
    (kk : ∀ (t1 : CS) (H1 : Heap) (locs1 : List Loc), post t1 → CH D Z E ad A s.heap t1 H1 locs1 → W p l e R s m args below meth c H1 locs1 (cells + mc) (slots + ms) Q (F0 m (pc + 3) ls rest)) : W p l e R s m args below meth c H locs cells slots Q (F0 m pc ls st) := by
  subst hst
  obtain ⟨L, f, hP, hR⟩ := hH
  exact va_callv (va_runV (As := As) (rest := rest) C.1 (hM L H.size) cw ⟨cPre_blind _ _, hrc, fun U hU hW => cstart C hP hR _ U hU hW⟩ rfl hn hsz rfl (lv_room hro) hdg hc) hP.2.2 (fun q _ h => cAs_sub C.2.2.2 hP.2.1 hP.2.2 q h) (cAs_sub C.2.2.2 hP.2.1 hP.2.2) (fun u t1 H1 locs1 ht hvm hw hB hz1 hk1 hS => kk u H1 locs1 hw (cback C hP ht hB hS))
theorem ccSi (C : CC p s m args c cc nL own D Z E A) (hH : CH D Z E ad A s.heap t H locs) {y : MethodName} {rm : Room} {post : Int32 → CS → Prop} {bytes : ByteArray} {maxL n idx mc ms : Nat} {ret : Option FieldType} (As : List Value) {st : List Value}
    (hM : ∀ L sz, Met l y (Wd y bytes maxL ret) rm (va_Pc As (cPre D Z E ad L sz t)) (va_Qi post (cPost D Z E ad (cAs L sz)) (cAs L sz)) mc ms (cAs L sz)) (cw : CallB R s args own idx y bytes maxL ret (Wd y bytes maxL ret) rm mc ms n ∧ (Cond.static y).before args s = true) (hn : As.length = n) (hsz : ls.size = nL) (hst : st = As.reverse ++ rest) (hro : (rest.map fun v => v.category).sum ≤ 8) (hdg : decode cc pc = .ok (.invokestatic idx, 3)) (hc : cells + mc ≤ R.cells ∧ slots + ms ≤ R.slots)
    (kk : ∀ (r : Int32) (t1 : CS) (H1 : Heap) (locs1 : List Loc), post r t1 → CH D Z E ad A s.heap t1 H1 locs1 → W p l e R s m args below meth c H1 locs1 (cells + mc) (slots + ms) Q (F0 m (pc + 3) ls (.int r :: rest))) : W p l e R s m args below meth c H locs cells slots Q (F0 m pc ls st) := by
  subst hst
  obtain ⟨L, f, hP, hR⟩ := hH
  exact va_calli (va_runS (As := As) (rest := rest) C.1 (hM L H.size) cw ⟨cPre_blind _ _, fun U hU hW => cstart C hP hR _ U hU hW⟩ rfl hn hsz rfl (lv_room hro) hdg hc) hP.2.2 (fun q _ h => cAs_sub C.2.2.2 hP.2.1 hP.2.2 q h) (cAs_sub C.2.2.2 hP.2.1 hP.2.2) (fun r u t1 H1 locs1 ht hvm hw hB hz1 hk1 hS => kk r u H1 locs1 hw (cback C hP ht hB hS))
theorem ccSv (C : CC p s m args c cc nL own D Z E A) (hH : CH D Z E ad A s.heap t H locs) {y : MethodName} {rm : Room} {post : CS → Prop} {bytes : ByteArray} {maxL n idx mc ms : Nat} {ret : Option FieldType} (As : List Value) {st : List Value}
    (hM : ∀ L sz, Met l y (Wd y bytes maxL ret) rm (va_Pc As (cPre D Z E ad L sz t)) (va_Qv post (cPost D Z E ad (cAs L sz)) (cAs L sz)) mc ms (cAs L sz)) (cw : CallB R s args own idx y bytes maxL ret (Wd y bytes maxL ret) rm mc ms n ∧ (Cond.static y).before args s = true) (hn : As.length = n) (hsz : ls.size = nL) (hst : st = As.reverse ++ rest) (hro : (rest.map fun v => v.category).sum ≤ 8) (hdg : decode cc pc = .ok (.invokestatic idx, 3)) (hc : cells + mc ≤ R.cells ∧ slots + ms ≤ R.slots)
    (kk : ∀ (t1 : CS) (H1 : Heap) (locs1 : List Loc), post t1 → CH D Z E ad A s.heap t1 H1 locs1 → W p l e R s m args below meth c H1 locs1 (cells + mc) (slots + ms) Q (F0 m (pc + 3) ls rest)) : W p l e R s m args below meth c H locs cells slots Q (F0 m pc ls st) := by
  subst hst
  obtain ⟨L, f, hP, hR⟩ := hH
  exact va_callv (va_runS (As := As) (rest := rest) C.1 (hM L H.size) cw ⟨cPre_blind _ _, fun U hU hW => cstart C hP hR _ U hU hW⟩ rfl hn hsz rfl (lv_room hro) hdg hc) hP.2.2 (fun q _ h => cAs_sub C.2.2.2 hP.2.1 hP.2.2 q h) (cAs_sub C.2.2.2 hP.2.1 hP.2.2) (fun u t1 H1 locs1 ht hvm hw hB hz1 hk1 hS => kk u H1 locs1 hw (cback C hP ht hB hS))
/-- a call that answers an object of kind κ or null -/
def oQ (κ : Nat) (ad : Nat → Nat → Nat) (post : Option Nat → CS → Prop) : Option Nat → CS → Prop := fun r u => ∃ o : Option Nat, r = o.map (ad κ) ∧ post o u
theorem ccVq (C : CC p s m args c cc nL own D Z E A) (hH : CH D Z E ad A s.heap t H locs) {r0 κ : Nat} {Cn : String} (hrc : ∃ cell : Cell, H[r0]? = some cell ∧ cell.vm.isStatics = false ∧ s.vm.findClass Cn = some cell.cls) {y : MethodName} {rm : Room} {post : Option Nat → CS → Prop} {bytes : ByteArray} {maxL n idx mc ms : Nat} {ret : Option FieldType} (As : List Value) {st : List Value}
    (hM : ∀ L sz, Met l y (Wd y bytes maxL ret) rm (va_Pc (.ref r0 :: As) (cPre D Z E ad L sz t)) (va_Qq (oQ κ ad post) (cPost D Z E ad (cAs L sz)) (cAs L sz)) mc ms (cAs L sz)) (cw : CallW R s args own Cn idx y bytes maxL ret (Wd y bytes maxL ret) rm mc ms n) (hn : As.length = n) (hsz : ls.size = nL) (hst : st = As.reverse ++ .ref r0 :: rest) (hro : (rest.map fun v => v.category).sum ≤ 8) (hdg : decode cc pc = .ok (.invokevirtual idx, 3)) (hc : cells + mc ≤ R.cells ∧ slots + ms ≤ R.slots)
    (kk : ∀ (o : Option Nat) (t1 : CS) (H1 : Heap) (locs1 : List Loc), post o t1 → CH D Z E ad A s.heap t1 H1 locs1 → W p l e R s m args below meth c H1 locs1 (cells + mc) (slots + ms) Q (F0 m (pc + 3) ls (va_rf (o.map (ad κ)) :: rest))) : W p l e R s m args below meth c H locs cells slots Q (F0 m pc ls st) := by
  subst hst
  obtain ⟨L, f, hP, hR⟩ := hH
  refine va_callq (va_runV (As := As) (rest := rest) C.1 (hM L H.size) cw ⟨cPre_blind _ _, hrc, fun U hU hW => cstart C hP hR _ U hU hW⟩ rfl hn hsz rfl (lv_room hro) hdg hc) hP.2.2 (fun q _ h => cAs_sub C.2.2.2 hP.2.1 hP.2.2 q h) (cAs_sub C.2.2.2 hP.2.1 hP.2.2) (fun r u t1 H1 locs1 ht hvm hw hB hz1 hk1 hS => ?_)
  obtain ⟨o, rfl, hp⟩ := hw
  exact kk o u H1 locs1 hp (cback C hP ht hB hS)
abbrev CWi (p : Program) (l : Launch) (e : Env) (R : Room) (s : State) (m : MethodId) (args : Array Value) (below : List Frame) (meth : Method) (c : Code) (D : va_G) (Z : Nat → ClassId) (E : Nat → Nat) (ad : Nat → Nat → Nat) (A : Nat → Prop) (mc ms : Nat) (post : Int32 → CS → Prop) (H : Heap) (locs : List Loc) (cells slots : Nat) (g : JFrame) : Prop := W p l e R s m args below meth c H locs cells slots (MQ below (va_Qi post (cPost D Z E ad A) A) args s mc ms A) g
abbrev CWv (p : Program) (l : Launch) (e : Env) (R : Room) (s : State) (m : MethodId) (args : Array Value) (below : List Frame) (meth : Method) (c : Code) (D : va_G) (Z : Nat → ClassId) (E : Nat → Nat) (ad : Nat → Nat → Nat) (A : Nat → Prop) (mc ms : Nat) (post : CS → Prop) (H : Heap) (locs : List Loc) (cells slots : Nat) (g : JFrame) : Prop := W p l e R s m args below meth c H locs cells slots (MQ below (va_Qv post (cPost D Z E ad A) A) args s mc ms A) g
abbrev CWq (κ : Nat) (p : Program) (l : Launch) (e : Env) (R : Room) (s : State) (m : MethodId) (args : Array Value) (below : List Frame) (meth : Method) (c : Code) (D : va_G) (Z : Nat → ClassId) (E : Nat → Nat) (ad : Nat → Nat → Nat) (A : Nat → Prop) (mc ms : Nat) (post : Option Nat → CS → Prop) (H : Heap) (locs : List Loc) (cells slots : Nat) (g : JFrame) : Prop := W p l e R s m args below meth c H locs cells slots (MQ below (va_Qq (oQ κ ad post) (cPost D Z E ad A) A) args s mc ms A) g
theorem cEnd (C : CC p s m args c cc nL own D Z E A) (hH : CH D Z E ad A s.heap t H locs) (u : State) (hu : u.heap = H) (hW : s.WarmedH u.vm) : cPost D Z E ad A t u := by
  obtain ⟨L, f, hP, hR⟩ := hH
  exact ⟨va_K.moved hW.alike C.2.1, L, f, by rw [hu]; exact hP.1, hP.2.1, hR⟩
theorem cri (C : CC p s m args c cc nL own D Z E A) (hr : meth.sig.returnType = some .int) (hk : meth.locks = false) (hH : CH D Z E ad A s.heap t H locs) {mc ms : Nat} (h1 : cells ≤ mc) (h2 : slots ≤ ms) {post : Int32 → CS → Prop} {v : Int32} (hp : post v t) (hdg : decode cc pc = .ok (.ireturn, 1)) : CWi p l e R s m args below meth c D Z E ad A mc ms post H locs cells slots (F0 m pc ls [.int v]) := by
  refine W.widen h1 h2 (W.iret C.1.1 C.1.2.1 hr (fun u hu hW => ⟨⟨v, t, rfl, hp, cEnd C hH u hu hW⟩, ?_⟩) ?_ hdg hk)
  · obtain ⟨L, f, hP, hR⟩ := hH
    exact hP.2.2.2.2
  · obtain ⟨L, f, hP, hR⟩ := hH
    exact hP.2.2.F hu
theorem crz (C : CC p s m args c cc nL own D Z E A) (hr : meth.sig.returnType = some .boolean) (hk : meth.locks = false) (hH : CH D Z E ad A s.heap t H locs) {mc ms : Nat} (h1 : cells ≤ mc) (h2 : slots ≤ ms) {post : Int32 → CS → Prop} {v : Int32} (hz : bz v) (hp : post v t) (hdg : decode cc pc = .ok (.ireturn, 1)) : CWi p l e R s m args below meth c D Z E ad A mc ms post H locs cells slots (F0 m pc ls [.int v]) := by
  refine W.widen h1 h2 (W.zret C.1.1 C.1.2.1 hr hz.nar (fun u hu hW => ⟨⟨v, t, rfl, hp, cEnd C hH u hu hW⟩, ?_⟩) ?_ hdg hk)
  · obtain ⟨L, f, hP, hR⟩ := hH
    exact hP.2.2.2.2
  · obtain ⟨L, f, hP, hR⟩ := hH
    exact hP.2.2.F hu
theorem crv (C : CC p s m args c cc nL own D Z E A) (hr : meth.sig.returnType = none) (hk : meth.locks = false) (hH : CH D Z E ad A s.heap t H locs) {mc ms : Nat} (h1 : cells ≤ mc) (h2 : slots ≤ ms) {post : CS → Prop} (hp : post t) (hdg : decode cc pc = .ok (.return_, 1)) : CWv p l e R s m args below meth c D Z E ad A mc ms post H locs cells slots (F0 m pc ls []) := by
  refine W.widen h1 h2 (W.vret C.1.1 C.1.2.1 hr (fun u hu hW => ⟨⟨t, rfl, hp, cEnd C hH u hu hW⟩, ?_⟩) ?_ hdg hk)
  · obtain ⟨L, f, hP, hR⟩ := hH
    exact hP.2.2.2.2
  · obtain ⟨L, f, hP, hR⟩ := hH
    exact hP.2.2.F hu
theorem crq (κ : Nat) (C : CC p s m args c cc nL own D Z E A) {Cn : String} (hr : meth.sig.returnType = some (.object Cn)) (hk : meth.locks = false) (hH : CH D Z E ad A s.heap t H locs) {mc ms : Nat} (h1 : cells ≤ mc) (h2 : slots ≤ ms) {post : Option Nat → CS → Prop} {o : Option Nat} (hp : post o t) (hdg : decode cc pc = .ok (.areturn, 1)) : CWq κ p l e R s m args below meth c D Z E ad A mc ms post H locs cells slots (F0 m pc ls [va_rf (o.map (ad κ))]) := by
  refine W.widen h1 h2 (W.aret C.1.1 C.1.2.1 hr (Or.inl ⟨Cn, rfl⟩) (va_rf_or _) (fun u hu hW => ⟨⟨o.map (ad κ), t, rfl, ⟨o, rfl, hp⟩, cEnd C hH u hu hW⟩, ?_⟩) ?_ hdg hk)
  · obtain ⟨L, f, hP, hR⟩ := hH
    exact hP.2.2.2.2
  · obtain ⟨L, f, hP, hR⟩ := hH
    exact hP.2.2.F hu
theorem cMet {y : MethodName} {maxL : Nat} {ret : Option FieldType} {rm : Room} {mc ms : Nat} {Qc : (Nat → Prop) → Array Value → State → Outcome → State → Prop} (hy : plainName y.cls = true) (hc : y.cls = own) (As : List Value) (hAs : (lg_sl As).length ≤ maxL)
    (body : ∀ (p : Program) (e : Env) (s : State) (m : MethodId) (args : Array Value) (below : List Frame) (meth : Method) (c : Code) (A : Nat → Prop), CC p s m args c cc maxL own D Z E A → meth.sig.returnType = ret → meth.locks = false → ∀ ls : Array Slot, lv_has ls maxL (lv_args 0 As) → CH D Z E ad A s.heap t s.heap [] → W p l e rm s m args below meth c s.heap [] 0 0 (MQ below (Qc A) args s mc ms A) (F0 m 0 ls [])) (L : List Nat) (sz : Nat) :
    Met l y (Wd y cc maxL ret) rm (va_Pc As (cPre D Z E ad L sz t)) (Qc (cAs L sz)) mc ms (cAs L sz) := by
  refine Met.ofW (cc := cc) (maxL := maxL) (ret := ret) hy (ws' := TB) rfl ?_
  intro p e s m args below meth c s₁ B hml hv
  obtain ⟨rfl, hsz, hK, hE, f, hP, hD0, hR⟩ := hv
  subst hsz
  have hl := lv_entry As (n := maxL) hAs
  rw [lg_entry_eq]
  refine body p e s m _ below meth c (cAs L s.heap.size) ⟨⟨B.exec, B.bytes, hml, by rw [← hc]; exact findClass_of_methodNamed B.named, fun w h => atoms_spec (ws := Wd y cc maxL ret) B.pre w (List.mem_cons_of_mem _ h)⟩, hK, hE, fun q h => Or.inr h⟩ B.returns B.notSynchronized _ hl ⟨L, f, ⟨hP, ⟨hD0.1, fun k q hk => Or.inl ?_⟩, va_S.rf⟩, hR⟩
  have := List.mem_of_getElem? hk
  obtain ⟨a, ha, rfl⟩ := List.mem_map.mp this
  exact ha
/-- a value that may be null: loads, stores, tests -/
theorem lq_aload_n (hx : p.tables.exec = Jvm.exec) (hb : c.code = cc) {k : Fin 4} {i : Nat} {o : Option Nat} (hdg : decode cc pc = .ok (.aload_n k, 1)) (hi : (k : Nat) = i) (hl : ls[i]? = some (.val (va_rf o))) (kk : W p l e R s m args below meth c H locs cells slots Q (F0 m (pc + 1) ls (va_rf o :: rest))) : W p l e R s m args below meth c H locs cells slots Q (F0 m pc ls rest) := by
  cases o with
  | none => exact lv_aload_nN hx hb hdg hi hl kk
  | some a => exact lv_aload_n hx hb hdg hi hl kk
theorem lq_aload (hx : p.tables.exec = Jvm.exec) (hb : c.code = cc) {i : Nat} {o : Option Nat} (hdg : decode cc pc = .ok (.aload i, 2)) (hl : ls[i]? = some (.val (va_rf o))) (kk : W p l e R s m args below meth c H locs cells slots Q (F0 m (pc + 2) ls (va_rf o :: rest))) : W p l e R s m args below meth c H locs cells slots Q (F0 m pc ls rest) := by
  cases o with
  | none => exact lv_aloadN hx hb hdg hl kk
  | some a => exact lv_aload hx hb hdg hl kk
theorem lq_astore_n (hx : p.tables.exec = Jvm.exec) (hb : c.code = cc) {k : Fin 4} {i : Nat} {o : Option Nat} {lv lv' : List (Nat × Value)} (hdg : decode cc pc = .ok (.astore_n k, 1)) (hi : (k : Nat) = i) (h : lv_has ls nL lv) (hn : i < nL) (hl : (i, va_rf o) :: lv.filter (fun q => !(q.1 == i) && !(q.1 + 1 == i && q.2.category == 2)) = lv') (kk : ∀ ls' : Array Slot, lv_has ls' nL lv' → W p l e R s m args below meth c H locs cells slots Q (F0 m (pc + 1) ls' rest)) : W p l e R s m args below meth c H locs cells slots Q (F0 m pc ls (va_rf o :: rest)) := by
  cases o with
  | none => exact lv_astore_nN hx hb hdg hi h hn hl kk
  | some a => exact lv_astore_n hx hb hdg hi h hn hl kk
theorem lq_astore (hx : p.tables.exec = Jvm.exec) (hb : c.code = cc) {i : Nat} {o : Option Nat} {lv lv' : List (Nat × Value)} (hdg : decode cc pc = .ok (.astore i, 2)) (h : lv_has ls nL lv) (hn : i < nL) (hl : (i, va_rf o) :: lv.filter (fun q => !(q.1 == i) && !(q.1 + 1 == i && q.2.category == 2)) = lv') (kk : ∀ ls' : Array Slot, lv_has ls' nL lv' → W p l e R s m args below meth c H locs cells slots Q (F0 m (pc + 2) ls' rest)) : W p l e R s m args below meth c H locs cells slots Q (F0 m pc ls (va_rf o :: rest)) := by
  cases o with
  | none => exact lv_astoreN hx hb hdg h hn hl kk
  | some a => exact lv_astore hx hb hdg h hn hl kk
theorem lq_cat (o : Option Nat) : (va_rf o).category = 1 := by cases o <;> rfl
end CRows
theorem hs_2_Fellowship (Z : Nat → ClassId) (ad : Nat → Nat → Nat) (t : CS) (i : Nat) (v : Int32) : cellOf Z ad (sF t 2 i v) 0 i = .inr (1, (kFellowship ad t i).set 2 (.int v)) := by simp [cellOf, kFellowship, sF, tF, up2, upd]
theorem hs_3_Fellowship (Z : Nat → ClassId) (ad : Nat → Nat → Nat) (t : CS) (i : Nat) (v : Int32) : cellOf Z ad (sF t 3 i v) 0 i = .inr (1, (kFellowship ad t i).set 3 (.int v)) := by simp [cellOf, kFellowship, sF, tF, up2, upd]
theorem hs_4_Fellowship (Z : Nat → ClassId) (ad : Nat → Nat → Nat) (t : CS) (i : Nat) (v : Int32) : cellOf Z ad (sF t 4 i v) 0 i = .inr (1, (kFellowship ad t i).set 4 (.int v)) := by simp [cellOf, kFellowship, sF, tF, up2, upd]
theorem hs_5_Fellowship (Z : Nat → ClassId) (ad : Nat → Nat → Nat) (t : CS) (i : Nat) (v : Int32) : cellOf Z ad (sF t 5 i v) 0 i = .inr (1, (kFellowship ad t i).set 5 (.int v)) := by simp [cellOf, kFellowship, sF, tF, up2, upd]
theorem hs_6_Fellowship (Z : Nat → ClassId) (ad : Nat → Nat → Nat) (t : CS) (i : Nat) (v : Int32) : cellOf Z ad (sF t 6 i v) 0 i = .inr (1, (kFellowship ad t i).set 6 (.int v)) := by simp [cellOf, kFellowship, sF, tF, up2, upd]
theorem hs_7_Fellowship (Z : Nat → ClassId) (ad : Nat → Nat → Nat) (t : CS) (i : Nat) (v : Int32) : cellOf Z ad (sF t 7 i v) 0 i = .inr (1, (kFellowship ad t i).set 7 (.int v)) := by simp [cellOf, kFellowship, sF, tF, up2, upd]
theorem hs_8_Fellowship (Z : Nat → ClassId) (ad : Nat → Nat → Nat) (t : CS) (i : Nat) (v : Int32) : cellOf Z ad (sF t 8 i v) 0 i = .inr (1, (kFellowship ad t i).set 8 (.int v)) := by simp [cellOf, kFellowship, sF, tF, up2, upd]
theorem hs_9_Fellowship (Z : Nat → ClassId) (ad : Nat → Nat → Nat) (t : CS) (i : Nat) (v : Int32) : cellOf Z ad (sF t 9 i v) 0 i = .inr (1, (kFellowship ad t i).set 9 (.int v)) := by simp [cellOf, kFellowship, sF, tF, up2, upd]
theorem hs_75_Load (Z : Nat → ClassId) (ad : Nat → Nat → Nat) (t : CS) (i : Nat) (v : Int32) : cellOf Z ad (sF t 75 i v) 2 i = .inr (3, (kLoad ad t i).set 11 (.int v)) := by simp [cellOf, kLoad, sF, tF, up2, upd]
theorem hs_76_Load (Z : Nat → ClassId) (ad : Nat → Nat → Nat) (t : CS) (i : Nat) (v : Int32) : cellOf Z ad (sF t 76 i v) 2 i = .inr (3, (kLoad ad t i).set 12 (.int v)) := by simp [cellOf, kLoad, sF, tF, up2, upd]
theorem hs_77_Load (Z : Nat → ClassId) (ad : Nat → Nat → Nat) (t : CS) (i : Nat) (v : Int32) : cellOf Z ad (sF t 77 i v) 2 i = .inr (3, (kLoad ad t i).set 13 (.int v)) := by simp [cellOf, kLoad, sF, tF, up2, upd]
theorem hs_78_Load (Z : Nat → ClassId) (ad : Nat → Nat → Nat) (t : CS) (i : Nat) (v : Int32) : cellOf Z ad (sF t 78 i v) 2 i = .inr (3, (kLoad ad t i).set 14 (.int v)) := by simp [cellOf, kLoad, sF, tF, up2, upd]
theorem hs_79_Load (Z : Nat → ClassId) (ad : Nat → Nat → Nat) (t : CS) (i : Nat) (v : Int32) : cellOf Z ad (sF t 79 i v) 2 i = .inr (3, (kLoad ad t i).set 15 (.int v)) := by simp [cellOf, kLoad, sF, tF, up2, upd]
theorem hs_80_Load (Z : Nat → ClassId) (ad : Nat → Nat → Nat) (t : CS) (i : Nat) (v : Int32) : cellOf Z ad (sF t 80 i v) 2 i = .inr (3, (kLoad ad t i).set 16 (.int v)) := by simp [cellOf, kLoad, sF, tF, up2, upd]
theorem hs_81_Load (Z : Nat → ClassId) (ad : Nat → Nat → Nat) (t : CS) (i : Nat) (v : Int32) : cellOf Z ad (sF t 81 i v) 2 i = .inr (3, (kLoad ad t i).set 17 (.int v)) := by simp [cellOf, kLoad, sF, tF, up2, upd]
theorem hs_82_Load (Z : Nat → ClassId) (ad : Nat → Nat → Nat) (t : CS) (i : Nat) (v : Int32) : cellOf Z ad (sF t 82 i v) 2 i = .inr (3, (kLoad ad t i).set 18 (.int v)) := by simp [cellOf, kLoad, sF, tF, up2, upd]
theorem hs_100_Man (Z : Nat → ClassId) (ad : Nat → Nat → Nat) (t : CS) (i : Nat) (v : Int32) : cellOf Z ad (sF t 100 i v) 3 i = .inr (4, (kMan ad t i).set 4 (.int v)) := by simp [cellOf, kMan, sF, tF, up2, upd]
theorem hs_101_Man (Z : Nat → ClassId) (ad : Nat → Nat → Nat) (t : CS) (i : Nat) (v : Int32) : cellOf Z ad (sF t 101 i v) 3 i = .inr (4, (kMan ad t i).set 5 (.int v)) := by simp [cellOf, kMan, sF, tF, up2, upd]
theorem hs_102_Man (Z : Nat → ClassId) (ad : Nat → Nat → Nat) (t : CS) (i : Nat) (v : Int32) : cellOf Z ad (sF t 102 i v) 3 i = .inr (4, (kMan ad t i).set 6 (.int v)) := by simp [cellOf, kMan, sF, tF, up2, upd]
theorem hs_103_Man (Z : Nat → ClassId) (ad : Nat → Nat → Nat) (t : CS) (i : Nat) (v : Int32) : cellOf Z ad (sF t 103 i v) 3 i = .inr (4, (kMan ad t i).set 7 (.int v)) := by simp [cellOf, kMan, sF, tF, up2, upd]
theorem hs_104_Man (Z : Nat → ClassId) (ad : Nat → Nat → Nat) (t : CS) (i : Nat) (v : Int32) : cellOf Z ad (sF t 104 i v) 3 i = .inr (4, (kMan ad t i).set 8 (.int v)) := by simp [cellOf, kMan, sF, tF, up2, upd]
theorem hs_105_Man (Z : Nat → ClassId) (ad : Nat → Nat → Nat) (t : CS) (i : Nat) (v : Int32) : cellOf Z ad (sF t 105 i v) 3 i = .inr (4, (kMan ad t i).set 9 (.int v)) := by simp [cellOf, kMan, sF, tF, up2, upd]
theorem hs_131_Place (Z : Nat → ClassId) (ad : Nat → Nat → Nat) (t : CS) (i : Nat) (v : Int32) : cellOf Z ad (sF t 131 i v) 4 i = .inr (5, (kPlace ad t i).set 3 (.int v)) := by simp [cellOf, kPlace, sF, tF, up2, upd]
theorem hs_132_Place (Z : Nat → ClassId) (ad : Nat → Nat → Nat) (t : CS) (i : Nat) (v : Int32) : cellOf Z ad (sF t 132 i v) 4 i = .inr (5, (kPlace ad t i).set 4 (.int v)) := by simp [cellOf, kPlace, sF, tF, up2, upd]
theorem hs_171_PorterTurns (Z : Nat → ClassId) (ad : Nat → Nat → Nat) (t : CS) (v : Int32) : cellOf Z ad (sF t 171 0 v) 5 0 = .inr (10, (kPorterTurns ad t).set 11 (.int v)) := by simp [cellOf, kPorterTurns, sF, tF, up2, upd]
theorem hs_172_PorterTurns (Z : Nat → ClassId) (ad : Nat → Nat → Nat) (t : CS) (v : Int32) : cellOf Z ad (sF t 172 0 v) 5 0 = .inr (10, (kPorterTurns ad t).set 12 (.int v)) := by simp [cellOf, kPorterTurns, sF, tF, up2, upd]
theorem hs_162_Sky (Z : Nat → ClassId) (ad : Nat → Nat → Nat) (t : CS) (v : Int32) : cellOf Z ad (sF t 162 1 v) 5 1 = .inr (8, (kSky ad t).set 2 (.int v)) := by simp [cellOf, kSky, sF, tF, up2, upd]
theorem hs_161_Tape (Z : Nat → ClassId) (ad : Nat → Nat → Nat) (t : CS) (v : Int32) : cellOf Z ad (sF t 161 2 v) 5 2 = .inr (9, (kTape ad t).set 1 (.int v)) := by simp [cellOf, kTape, sF, tF, up2, upd]
theorem hs_163_Reader (Z : Nat → ClassId) (ad : Nat → Nat → Nat) (t : CS) (v : Int32) : cellOf Z ad (sF t 163 3 v) 5 3 = .inr (6, (kReader ad t).set 3 (.int v)) := by simp [cellOf, kReader, sF, tF, up2, upd]
theorem hs_164_Reader (Z : Nat → ClassId) (ad : Nat → Nat → Nat) (t : CS) (v : Int32) : cellOf Z ad (sF t 164 3 v) 5 3 = .inr (6, (kReader ad t).set 4 (.int v)) := by simp [cellOf, kReader, sF, tF, up2, upd]
theorem hs_165_Reader (Z : Nat → ClassId) (ad : Nat → Nat → Nat) (t : CS) (v : Int32) : cellOf Z ad (sF t 165 3 v) 5 3 = .inr (6, (kReader ad t).set 5 (.int v)) := by simp [cellOf, kReader, sF, tF, up2, upd]
theorem hs_162_Reckoner (Z : Nat → ClassId) (ad : Nat → Nat → Nat) (t : CS) (v : Int32) : cellOf Z ad (sF t 162 4 v) 5 4 = .inr (7, (kReckoner ad t).set 2 (.int v)) := by simp [cellOf, kReckoner, sF, tF, up2, upd]
