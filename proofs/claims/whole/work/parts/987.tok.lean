/-! tokens -/
def sb (b : Nat) : Int32 := (nI b).toInt8.toInt32
theorem sb_lo {b : Nat} (h : b < 128) : sb b = nI b := fb_byte (by rw [nI_toInt (by omega)]; omega) (by rw [nI_toInt (by omega)]; omega)
theorem sb_hi {b : Nat} (h : 128 ≤ b) (h2 : b < 256) : sb b < 0 := by
  refine (fa_lt _ _).mpr ?_
  unfold sb
  rw [Int8.toInt_toInt32, Int32.toInt_toInt8, nI_toInt (by omega)]
  have z : (0 : Int32).toInt = 0 := by decide
  rw [z]
  have e : ((b : Nat) : Int).bmod (2 ^ 8) = (b : Int) - 256 := by
    rw [Int.bmod_def]
    have hm : ((b : Nat) : Int) % ((2 ^ 8 : Nat) : Int) = b := Int.emod_eq_of_lt (by omega) (by omega)
    rw [hm, if_neg (by omega)]
    rfl
  rw [e]; omega
def isL (x : Nat) : Bool := decide (97 ≤ x ∧ x ≤ 122)
def isD (x : Nat) : Bool := decide (48 ≤ x ∧ x ≤ 57)
def runE (p : Nat → Bool) (b : Nat → Nat) : Nat → Nat → Nat
  | 0, q => q
  | d + 1, q => if p (b q) then runE p b d (q + 1) else q
theorem runE_b (p : Nat → Bool) (b : Nat → Nat) : ∀ d q, q ≤ runE p b d q ∧ runE p b d q ≤ q + d
  | 0, q => ⟨Nat.le_refl _, Nat.le_refl _⟩
  | d + 1, q => by
    unfold runE
    have := runE_b p b d (q + 1)
    split <;> omega
section Tok
variable {t : CS} {σ : MS}
theorem M_isL {b : Nat} (hb : b < 256) {post : Int32 → MS → Prop} (k : post (if isL b then 1 else 0) σ) : wp_M_isLetter σ (sb b) post := by
  unfold isL at k
  by_cases h : b < 128
  · rw [sb_lo h]
    by_cases h1 : 97 ≤ b ∧ b ≤ 122
    · rw [decide_eq_true h1] at k
      exact itF (nI_nlt (a := b) (b := 97) (by omega) (by omega)) (itF (nI_nlt (a := 122) (b := b) (by omega) (by omega)) k)
    · rw [decide_eq_false h1] at k
      exact itE (fun _ => k) (fun q1 => itE (fun _ => k) (fun q2 => absurd (show 97 ≤ b ∧ b ≤ 122 from ⟨Nat.le_of_not_lt (fun z => q1 (nI_lt (a := b) (b := 97) z (by omega))), Nat.le_of_not_lt (fun z => q2 (nI_lt (a := 122) (b := b) z (by omega)))⟩) h1))
  · have h1 : ¬ (97 ≤ b ∧ b ≤ 122) := by omega
    rw [decide_eq_false h1] at k
    exact itT (Int32.lt_trans (sb_hi (by omega) hb) (by decide)) k
theorem M_isD {b : Nat} (hb : b < 256) {post : Int32 → MS → Prop} (k : post (if isD b then 1 else 0) σ) : wp_M_isDigit σ (sb b) post := by
  unfold isD at k
  by_cases h : b < 128
  · rw [sb_lo h]
    by_cases h1 : 48 ≤ b ∧ b ≤ 57
    · rw [decide_eq_true h1] at k
      exact itF (nI_nlt (a := b) (b := 48) (by omega) (by omega)) (itF (nI_nlt (a := 57) (b := b) (by omega) (by omega)) k)
    · rw [decide_eq_false h1] at k
      exact itE (fun _ => k) (fun q1 => itE (fun _ => k) (fun q2 => absurd (show 48 ≤ b ∧ b ≤ 57 from ⟨Nat.le_of_not_lt (fun z => q1 (nI_lt (a := b) (b := 48) z (by omega))), Nat.le_of_not_lt (fun z => q2 (nI_lt (a := 57) (b := b) z (by omega)))⟩) h1))
  · have h1 : ¬ (48 ≤ b ∧ b ≤ 57) := by omega
    rw [decide_eq_false h1] at k
    exact itT (Int32.lt_trans (sb_hi (by omega) hb) (by decide)) k
theorem C_isL {b : Nat} (hb : b < 256) {post : Int32 → CS → Prop} (k : post (if isL b then 1 else 0) t) : wp_Reader_isLetter t (nI b) post := by
  unfold isL at k
  by_cases h1 : 97 ≤ b ∧ b ≤ 122
  · rw [decide_eq_true h1] at k
    exact itF (nI_nlt (a := b) (b := 97) (by omega) (by omega)) (itF (nI_nlt (a := 122) (b := b) (by omega) (by omega)) k)
  · rw [decide_eq_false h1] at k
    exact itE (fun _ => k) (fun q1 => itE (fun _ => k) (fun q2 => absurd (show 97 ≤ b ∧ b ≤ 122 from ⟨Nat.le_of_not_lt (fun z => q1 (nI_lt (a := b) (b := 97) z (by omega))), Nat.le_of_not_lt (fun z => q2 (nI_lt (a := 122) (b := b) z (by omega)))⟩) h1))
theorem C_isD {b : Nat} (hb : b < 256) {post : Int32 → CS → Prop} (k : post (if isD b then 1 else 0) t) : wp_Reader_isDigit t (nI b) post := by
  unfold isD at k
  by_cases h1 : 48 ≤ b ∧ b ≤ 57
  · rw [decide_eq_true h1] at k
    exact itF (nI_nlt (a := b) (b := 48) (by omega) (by omega)) (itF (nI_nlt (a := 57) (b := b) (by omega) (by omega)) k)
  · rw [decide_eq_false h1] at k
    exact itE (fun _ => k) (fun q1 => itE (fun _ => k) (fun q2 => absurd (show 48 ≤ b ∧ b ≤ 57 from ⟨Nat.le_of_not_lt (fun z => q1 (nI_lt (a := b) (b := 48) z (by omega))), Nat.le_of_not_lt (fun z => q2 (nI_lt (a := 57) (b := b) z (by omega)))⟩) h1))
end Tok
