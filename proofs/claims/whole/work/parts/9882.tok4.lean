/-! tokens that are words -/
def wfr (k : Nat) : Nat := [0, 5, 12, 16, 19, 25, 30, 35, 40, 44, 48, 52, 61, 68, 71, 74, 78, 82, 86, 90].getD k 90
def wln (k : Nat) : Nat := wfr (k + 1) - wfr k - 1
theorem wfr_ok : ∀ k, k < 19 → wfr k + wln k + 1 = wfr (k + 1) ∧ wfr (k + 1) ≤ 90 ∧ wln k ≤ 8 ∧ wordBytes.getD (wfr k + wln k) 0 = 32 ∧ ∀ j, j < wln k → wordBytes.getD (wfr k + j) 0 ≠ 32 := by decide +kernel
def spb (b : Nat → Nat) (s k : Nat) : Bool := decide (∀ j, j < wln k → wordBytes.getD (wfr k + j) 0 = nI (b (s + j)))
def wmn (b : Nat → Nat) (s L : Nat) : Nat → Nat → Int32
  | 0, _ => 2
  | d + 1, k => if wln k = L ∧ spb b s k = true then nI (128 + k) else wmn b s L d (k + 1)
section Tok4
variable {t : CS} {σ : MS}
theorem C_spells {b : Nat → Nat} {n s k : Nat} (h : Tp t σ b n) (hk : k < 19) (hs : s + wln k ≤ n) {post : Int32 → CS → Prop} (kk : post (if spb b s k then 1 else 0) t) : wp_Reader_spells t (nI s) (nI (wfr k)) (nI (wln k)) post := by
  obtain ⟨h1, h2, h3, h4⟩ := id h
  obtain ⟨w1, w2, w3, w4, w5⟩ := wfr_ok k hk
  have main : ∀ d j, j + d = wln k → (∀ i, i < j → wordBytes.getD (wfr k + i) 0 = nI (b (s + i))) → wp_Reader_spells_3 post (d + 1) t (nI s) (nI (wfr k)) (nI (wln k)) (nI j) := by
    intro d
    induction d with
    | zero =>
      intro j hj hi
      have e : spb b s k = true := decide_eq_true (fun i hik => hi i (by omega))
      rw [if_pos e] at kk
      exact itT (nI_le (by omega) (by omega)) kk
    | succ d ih =>
      intro j hj hi
      refine itF (nI_ge (by omega) (by omega)) ?_
      rw [nI_add, nI_add]
      refine nm_e (itF (nI_pos (by omega)) (itF (nI_ge (a := wfr k + j) (b := 90) (by omega) (by omega)) ⟨vp_in_nI (by omega) (by omega), C_at h (by omega) ?_⟩))
      rw [nI_clamp (by omega)]
      refine itE (fun q => nm_e ?_) (fun q => ?_)
      · rw [nI_1]
        refine ih (j + 1) (by omega) (fun i hi2 => ?_)
        by_cases e : i = j
        · subst e; exact q
        · exact hi i (by omega)
      · have e : spb b s k = false := decide_eq_false (fun z => q (z j (by omega)))
        rw [e] at kk
        exact kk
  exact ⟨wln k + 1, main (wln k) 0 (by omega) (fun i hi => absurd hi (Nat.not_lt_zero i))⟩
theorem C_word {b : Nat → Nat} {n s L : Nat} (h : Tp t σ b n) (hs : s + L ≤ n) {post : Int32 → CS → Prop} (kk : post (wmn b s L 19 0) t) : wp_Reader_wordMeaning t (nI s) (nI L) post := by
  obtain ⟨h1, h2, h3, h4⟩ := id h
  have main : ∀ d k, k + d = 19 → post (wmn b s L d k) t → ∃ nn, wp_Reader_wordMeaning_10 post nn t (nI s) (nI L) (nI (128 + k)) (nI (wfr k)) (nI (wfr k)) := by
    intro d
    induction d with
    | zero =>
      intro k hk hp
      have e : k = 19 := by omega
      subst e
      exact ⟨1, hp⟩
    | succ d ih =>
      intro k hk hp
      have hk19 : k < 19 := by omega
      obtain ⟨w1, w2, w3, w4, w5⟩ := wfr_ok k hk19
      have inner : ∀ d2 j, j + d2 = wln k → ∃ nn, wp_Reader_wordMeaning_10 post nn t (nI s) (nI L) (nI (128 + k)) (nI (wfr k)) (nI (wfr k + j)) := by
        intro d2
        induction d2 with
        | zero =>
          intro j hj
          have e : j = wln k := by omega
          subst e
          have hnext : ¬ (wln k = L ∧ spb b s k = true) → ∃ nn, wp_Reader_wordMeaning_10 post nn t (nI s) (nI L) (nI (128 + (k + 1))) (nI (wfr (k + 1))) (nI (wfr (k + 1))) := fun q => by
            have e : wmn b s L (d + 1) k = wmn b s L d (k + 1) := if_neg q
            rw [e] at hp
            exact ih (k + 1) (by omega) hp
          have go54 : ∀ nn, wp_Reader_wordMeaning_10 post nn t (nI s) (nI L) (nI (128 + (k + 1))) (nI (wfr (k + 1))) (nI (wfr (k + 1))) → wp_Reader_wordMeaning_54 (wp_Reader_wordMeaning_10 post nn) post t (nI s) (nI L) (nI (128 + k)) (nI (wfr k + wln k)) := fun nn hh => by
            refine nm_e (nm_e (nm_e ?_))
            rw [nI_1, nI_1, w1]; exact hh
          by_cases q : wln k = L ∧ spb b s k = true
          · have e : wmn b s L (d + 1) k = nI (128 + k) := if_pos q
            rw [e] at hp
            refine ⟨1, itF (nI_ge (a := wfr k + wln k) (b := 90) (by omega) (by omega)) ⟨vp_in_nI (by omega) (by omega), ?_⟩⟩
            rw [nI_clamp (by omega), pk_sub (by omega), show wfr k + wln k - wfr k = wln k by omega]
            refine itT w4 (itT (by rw [q.1]) ?_)
            rw [← q.1]
            refine C_spells h hk19 (by omega) ?_
            rw [if_pos q.2]
            exact itF (by decide) hp
          · obtain ⟨nn, hh⟩ := hnext q
            refine ⟨nn + 1, itF (nI_ge (a := wfr k + wln k) (b := 90) (by omega) (by omega)) ⟨vp_in_nI (by omega) (by omega), ?_⟩⟩
            rw [nI_clamp (by omega), pk_sub (by omega), show wfr k + wln k - wfr k = wln k by omega]
            refine itT w4 (itE (fun q2 => ?_) (fun _ => go54 nn hh))
            have eL : wln k = L := (nI_eq (by omega) (by omega)).mp q2
            rw [← eL]
            refine C_spells h hk19 (by omega) ?_
            rw [if_neg (fun z => q ⟨eL, z⟩)]
            rw [← eL] at hh go54
            exact itT rfl (go54 nn hh)
        | succ d2 ih2 =>
          intro j hj
          obtain ⟨nn, hh⟩ := ih2 (j + 1) (by omega)
          refine ⟨nn + 1, itF (nI_ge (a := wfr k + j) (b := 90) (by omega) (by omega)) ⟨vp_in_nI (by omega) (by omega), itF ?_ (nm_e ?_)⟩⟩
          · rw [nI_clamp (by omega)]; exact w5 j (by omega)
          · rw [nI_1]; exact hh
      exact inner (wln k) 0 (by omega)
  exact main 19 0 (by omega) kk
end Tok4
