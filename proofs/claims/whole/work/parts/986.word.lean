/-! the words: a number of base 27 with digits from 1 to 26 has one spelling -/
def hsh : List Nat → Nat
  | [] => 0
  | d :: r => hsh r * 27 + d
def letd (w : List Nat) : Prop := ∀ x ∈ w, 1 ≤ x ∧ x ≤ 26
theorem hsh_inj : ∀ a b : List Nat, letd a → letd b → hsh a = hsh b → a = b
  | [], [], _, _, _ => rfl
  | [], e :: s, _, hb, h => by
    have := hb e List.mem_cons_self
    have h : 0 = hsh s * 27 + e := h
    omega
  | d :: r, [], ha, _, h => by
    have := ha d List.mem_cons_self
    have h : hsh r * 27 + d = 0 := h
    omega
  | d :: r, e :: s, ha, hb, h => by
    have h1 := ha d List.mem_cons_self
    have h2 := hb e List.mem_cons_self
    have h : hsh r * 27 + d = hsh s * 27 + e := h
    have e1 : d = e := by omega
    have e2 : hsh r = hsh s := by omega
    rw [e1, hsh_inj r s (fun x hx => ha x (List.mem_cons_of_mem _ hx)) (fun x hx => hb x (List.mem_cons_of_mem _ hx)) e2]
theorem hsh_lt : ∀ a : List Nat, letd a → hsh a < 27 ^ a.length
  | [], _ => by decide
  | d :: r, ha => by
    have h1 := ha d List.mem_cons_self
    have h2 := hsh_lt r (fun x hx => ha x (List.mem_cons_of_mem _ hx))
    show hsh r * 27 + d < 27 ^ (r.length + 1)
    rw [Nat.pow_succ]
    omega
/-- the 19 words, from behind, a letter as its place in the alphabet -/
def wds : List (List Nat) := [[4, 14, 9, 11], [20, 8, 7, 9, 5, 23], [18, 1, 6], [16, 21], [5, 21, 12, 1, 22], [18, 21, 15, 8], [14, 9, 1, 18], [5, 20, 1, 12], [14, 5, 13], [25, 1, 4], [5, 7, 1], [8, 20, 7, 14, 5, 18, 20, 19], [4, 5, 11, 18, 15, 23], [6, 9], [18, 15], [4, 14, 1], [20, 15, 14], [14, 9, 13], [24, 1, 13]]
theorem wds_hsh : wds.map hsh = [223456, 332864552, 4419, 583, 11720705, 168984, 355280, 237470, 9626, 2968, 923, 206756339381, 338358928, 249, 423, 1111, 10631, 9734, 9528] := by decide +kernel
