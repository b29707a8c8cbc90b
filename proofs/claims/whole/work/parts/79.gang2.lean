/-! a gang is chosen: the class's choice, the model's -/
def lst (r : Int32) : Int32 := if (1 : Int32) < (if r < (8 : Int32) then r else (8 : Int32)) then (if r < (8 : Int32) then r else (8 : Int32)) else (1 : Int32)
theorem erz_filter : ∀ (L : List Nat) (i : Nat), L.Nodup → i < L.length → L.eraseIdx i = L.filter (fun y => decide (y ≠ L.getD i 0))
  | [], i, _, h => absurd h (Nat.not_lt_zero i)
  | a :: L, 0, hn, _ => by
    have hn := List.nodup_cons.mp hn
    have e : (a :: L).getD 0 0 = a := rfl
    rw [e, List.filter_cons_of_neg (by simp), List.eraseIdx_zero, List.tail_cons]
    refine (List.filter_eq_self.mpr (fun y hy => decide_eq_true (p := y ≠ a) (fun (q : y = a) => hn.1 (q ▸ hy)))).symm
  | a :: L, i + 1, hn, hi => by
    have hn := List.nodup_cons.mp hn
    have hi : i < L.length := Nat.lt_of_succ_lt_succ hi
    have e : (a :: L).getD (i + 1) 0 = L.getD i 0 := rfl
    have hmem := getD_mem hi
    have e2 : (a :: L).filter (fun y => decide (y ≠ L.getD i 0)) = a :: L.filter (fun y => decide (y ≠ L.getD i 0)) := List.filter_cons_of_pos (p := fun y => decide (y ≠ L.getD i 0)) (decide_eq_true (p := a ≠ L.getD i 0) (fun (q : a = L.getD i 0) => hn.1 (q ▸ hmem)))
    rw [e, e2, List.eraseIdx_cons_succ, erz_filter L i hn.2 hi]
def elg (σ : MS) (w : Int32) (ch : List Nat) (m : Nat) : Bool := mgb σ w m && decide (m ∉ ch)
theorem elg_add {σ : MS} {w : Int32} {row ch : List Nat} (hn : row.Nodup) {i : Nat} (hi : i < (row.filter (elg σ w ch)).length) : (row.filter (elg σ w ch)).eraseIdx i = row.filter (elg σ w (ch ++ [(row.filter (elg σ w ch)).getD i 0])) := by
  have hnf : (row.filter (elg σ w ch)).Nodup := List.Pairwise.sublist List.filter_sublist hn
  rw [erz_filter _ i hnf hi]
  generalize (row.filter (elg σ w ch)).getD i 0 = x
  rw [List.filter_filter]
  refine List.filter_congr (fun y _ => ?_)
  unfold elg
  by_cases h1 : mgb σ w y = true
  · by_cases h2 : y ∈ ch
    · simp [h1, h2]
    · simp [h1, h2]
  · simp [h1]
theorem lst_ge1 (r : Int32) : ¬ lst r < 1 := by
  unfold lst
  by_cases h : (1 : Int32) < (if r < 8 then r else 8)
  · rw [if_pos h]; exact fun q => absurd (Int32.lt_trans h q) (by decide)
  · rw [if_neg h]; decide
def gwt (t : CS) (σ : MS) (l : Nat) : Int32 := σ 45 l + upv (σ 7 (tG t 0 l)) (σ 7 (tG t 1 l))
section Gang2
variable {t : CS} {σ : MS}
theorem C_pick (h : Core t σ) {l : Nat} (hl : l < tN t 2) {dcI least : Int32} {dc : Bool} (hdc : dcI = 0 ↔ dc = false) {mc ms : Nat} (hmc : 800 ≤ mc) (hms : 3200 ≤ ms) {k6 : Nat} {post : Int32 → CS → Prop} : ∀ n rem ch z pw k5 uc us, n + ch.length = 8 → rem.length ≤ 60 → (∀ x ∈ rem, x < tN t 3) → (∀ x ∈ ch, x < tN t 3) → ch.length ≤ k5 → k5 ≤ 400 → uc ≤ 400 + k5 → us ≤ 1600 + 4 * k5 → (∀ k5', (pick dc least (gwt t σ l) (σ 12) n rem ch z pw).2.1.length ≤ k5' → k5' ≤ 400 → post (if (pick dc least (gwt t σ l) (σ 12) n rem ch z pw).1 then 1 else 0) (tW t (pick dc least (gwt t σ l) (σ 12) n rem ch z pw).2.1 (pick dc least (gwt t σ l) (σ 12) n rem ch z pw).2.2.1 k5' k6 (pick dc least (gwt t σ l) (σ 12) n rem ch z pw).2.2.2)) → wp_C_chooseGang_60 mc ms post (n + 1) uc us (tW t ch rem k5 k6 z) l dcI least pw (nI (ch.length + 1)) := by
  obtain ⟨hz, hp, hr, hm, hn, hlw, hld⟩ := id h
  have hb3 := hz.b3
  obtain ⟨l1, l2, l3, l4, l5, l6, l7, l8, -⟩ := hld.1 l hl
  intro n
  induction n with
  | zero =>
    intro rem ch z pw k5 uc us hn8 _ _ _ h1 h2 _ _ k
    have e : ch.length = 8 := by omega
    refine itT ?_ (k k5 h1 h2)
    rw [e]; decide
  | succ n ih =>
    intro rem ch z pw k5 uc us hn8 hr60 hrem hch h1 h2 h3 h4 k
    refine itF (nI_nlt (a := 8) (b := ch.length + 1) (by omega) (by omega)) ?_
    have el : tT (tW t ch rem k5 k6 z) 6 = rem := rfl
    rw [el]
    refine nm_e ?_
    by_cases hre : rem = []
    · subst hre
      refine itT rfl ?_
      exact k k5 h1 h2
    have hpos : 0 < rem.length := List.length_pos_iff.mpr hre
    refine itF (nI_ne0 hpos (by omega)) ?_
    unfold pick at k
    rw [if_neg hre] at k
    -- what follows the throw
    have main : ∀ (z' : Int32) (i : Nat), z' = nzv dc z → i = pki dc z rem.length → i < rem.length → wp_C_chooseGang_118 mc ms (wp_C_chooseGang_60 mc ms post (n + 1)) post uc us (tW t ch rem k5 k6 z') l dcI least pw (nI (ch.length + 1)) (nI i) := fun z' i hz' hi' hi => by
      rw [← hi', ← hz'] at k
      have hx : rem.getD i 0 < tN t 3 := hrem _ (getD_mem hi)
      have hc := capN_pot h1
      have ho := capN_ok h1 h2 (by omega)
      refine ⟨(show vp_in (nI i) rem.length from vp_in_nI hi (by omega)), by show rem.length < 2 ^ 31; omega, fun x hxx => hrem x hxx, ?_⟩
      rw [nI_clamp (n := i) (by omega)]
      refine nm_r (e' := rem.getD i 0) rfl ?_
      refine nm_r (e' := tW t ch (rem.eraseIdx i) k5 k6 z') (tW_c6 t ch rem _ k5 k6 z') ?_
      refine ⟨hx, by show k5 < 2 ^ 20; omega, fun x hxx => hch x hxx, ⟨?_, ?_⟩, ?_⟩
      · show uc + aC ch.length k5 ≤ mc
        omega
      · show us + aS ch.length k5 ≤ ms
        omega
      rintro c11 s12 rfl rfl
      refine nm_r (e' := tW t (ch ++ [rem.getD i 0]) (rem.eraseIdx i) (capN ch.length k5) k6 z') (tW_a5 t ch _ k5 k6 z' _) ⟨hx, ?_⟩
      obtain ⟨n1, n2, -⟩ := hn.1 _ hx
      refine nm_r (e' := pw + σ 12 (rem.getD i 0)) (show pw + tF t 98 (rem.getD i 0) = _ by rw [n2]) ?_
      have hl2 : (ch ++ [rem.getD i 0]).length = ch.length + 1 := by rw [List.length_append]; rfl
      have nxt : ¬ (¬ nI (ch.length + 1) < least ∧ ¬ 4 * (pw + σ 12 (rem.getD i 0)) < gwt t σ l) → wp_C_chooseGang_177 mc ms (wp_C_chooseGang_60 mc ms post (n + 1)) post (uc + aC ch.length k5) (us + aS ch.length k5) (tW t (ch ++ [rem.getD i 0]) (rem.eraseIdx i) (capN ch.length k5) k6 z') l dcI least (pw + σ 12 (rem.getD i 0)) (nI (ch.length + 1)) := fun q => by
        rintro x1 rfl
        rw [if_neg q] at k
        rw [nI_1, ← hl2]
        refine ih _ _ _ _ _ _ _ (by omega) ?_ (fun x hxx => hrem x (List.mem_of_mem_eraseIdx hxx)) ?_ (by omega) ho.2 ?_ ?_ k
        · rw [List.length_eraseIdx]; split <;> omega
        · intro x hxx
          rcases List.mem_append.mp hxx with q | q
          · exact hch x q
          · rw [List.mem_singleton] at q; rw [q]; exact hx
        · have := hc.2.1; omega
        · have := hc.2.2; omega
      refine itE (fun q => nxt (fun a => a.1 q)) (fun q => ⟨hl, ?_⟩)
      show (if 4 * (pw + σ 12 (rem.getD i 0)) < tF t 66 l + tF t 70 l then _ else _)
      rw [l2, l8]
      refine itE (fun q2 => nxt (fun a => a.2 q2)) (fun q2 => ?_)
      rw [if_pos ⟨q, q2⟩] at k
      exact k _ (by rw [hl2]; exact ho.1) ho.2
    cases hd : dc with
    | false =>
      refine itT (hdc.mpr hd) ?_
      exact main z 0 (by rw [hd]; rfl) (by rw [hd]; rfl) hpos
    | true =>
      refine itF (fun q => by rw [hdc.mp q] at hd; cases hd) ?_
      refine nm_r (e' := tW t ch rem k5 k6 (nzv dc z)) (by rw [hd]; exact tW_z t ch rem k5 k6 z _) ⟨nI_ne0 hpos (by omega), ?_⟩
      refine nm_r (e' := nI (pki dc z rem.length)) ?_ (main _ _ rfl rfl ?_)
      · show (((nzv dc z).toUInt32 >>> ((8 : Int32).toUInt32 &&& Int32.toUInt32 31)).toInt32) - (((nzv dc z).toUInt32 >>> ((8 : Int32).toUInt32 &&& Int32.toUInt32 31)).toInt32) / nI rem.length * nI rem.length = _
        rw [dix_eq _ hpos (by omega)]
        unfold pki
        rw [if_pos hd]
      · unfold pki
        rw [if_pos hd]
        exact Nat.mod_lt _ hpos
end Gang2
