/-! the rows of those whose turn comes -/
def sR (σ : MS) (k : Nat) (g : Nat → Int32) : MS := fun j => if j = k then g else σ j
theorem up2_sR (σ : MS) (k : Nat) (g : Nat → Int32) (i : Nat) (v : Int32) : up2 (sR σ k g) k i v = sR σ k (upd g i v) := by
  funext j
  unfold up2 sR
  by_cases h : j = k
  · rw [if_pos h, if_pos h, if_pos rfl]
  · rw [if_neg h, if_neg h, if_neg h]
theorem up2_is (σ : MS) (k i : Nat) (v : Int32) : up2 σ k i v = sR σ k (upd (σ k) i v) := rfl
theorem fst_eq {p : Nat → Bool} {n i : Nat} (hi : i < n) (h1 : p i = true) (h2 : ∀ j, j < i → p j = false) : fa_first p n = i := by
  rcases Nat.lt_trichotomy (fa_first p n) i with h | h | h
  · have := fa_first_yes p n (Nat.lt_trans h hi)
    rw [h2 _ h] at this; cases this
  · exact h
  · have := fa_first_no p n i h
    rw [h1] at this; cases this
theorem fst_no {p : Nat → Bool} {n : Nat} (h : ∀ j, j < n → p j = false) : fa_first p n = n := by
  have h1 := fa_first_le p n
  by_cases q : fa_first p n < n
  · have := fa_first_yes p n q
    rw [h _ q] at this; cases this
  · omega
theorem beq_t {a b : Nat} (h : a = b) : (a == b) = true := by rw [h]; exact beq_self_eq_true b
def pos (row : List Nat) (m : Nat) : Nat := fa_first (fun k => row.getD k 0 == m) row.length
def pv (row : List Nat) (m : Nat) : Int32 := if pos row m < row.length then nI (pos row m) else -1
theorem pos_le (row : List Nat) (m : Nat) : pos row m ≤ row.length := fa_first_le _ _
theorem pos_get {row : List Nat} {m : Nat} (h : pos row m < row.length) : row.getD (pos row m) 0 = m := by
  have := fa_first_yes _ _ h
  exact eq_of_beq this
theorem getD_mem {row : List Nat} {k : Nat} (h : k < row.length) : row.getD k 0 ∈ row := by
  rw [List.getD_eq_getElem?_getD, List.getElem?_eq_getElem h]
  exact List.getElem_mem h
theorem pos_mem {row : List Nat} {m : Nat} : pos row m < row.length ↔ m ∈ row := by
  constructor
  · intro h
    have := getD_mem h
    rw [pos_get h] at this; exact this
  · intro h
    obtain ⟨k, hk, e⟩ := List.mem_iff_getElem.mp h
    refine Nat.lt_of_not_le (fun q => ?_)
    have := fa_first_no (fun k => row.getD k 0 == m) row.length k (Nat.lt_of_lt_of_le hk q)
    have e2 : row.getD k 0 = m := by rw [List.getD_eq_getElem?_getD, List.getElem?_eq_getElem hk]; exact e
    have this : (row.getD k 0 == m) = false := this
    rw [e2, beq_self_eq_true] at this
    cases this
theorem pv_neg {row : List Nat} {m : Nat} (hl : row.length < 2 ^ 30) : pv row m < 0 ↔ m ∉ row := by
  unfold pv
  by_cases h : pos row m < row.length
  · rw [if_pos h]
    exact ⟨fun q => absurd q (nI_pos (by omega)), fun q => absurd (pos_mem.mp h) q⟩
  · rw [if_neg h]
    exact ⟨fun _ q => h (pos_mem.mpr q), fun _ => by decide⟩
def rowR (σ : MS) (f : Nat) (row : List Nat) : Prop := σ 20 f = nI row.length ∧ (∀ k, k < row.length → σ 21 (60 * f + k) = nI (row.getD k 0)) ∧ row.length ≤ 60 ∧ ∀ x ∈ row, x < 60
theorem i60 (f k : Nat) : (60 : Int32) * nI f + nI k = nI (60 * f + k) := by
  rw [show (60 : Int32) = nI 60 from rfl, pk_mul, nI_add]
theorem i8 (f k : Nat) : (8 : Int32) * nI f + nI k = nI (8 * f + k) := by
  rw [show (8 : Int32) = nI 8 from rfl, pk_mul, nI_add]
theorem nodup_le {row : List Nat} {n : Nat} (h : row.Nodup) (hb : ∀ x ∈ row, x < n) : row.length ≤ n := by
  refine fb_holes n row.length (fun i => row.getD i 0) (fun i hi => hb _ (getD_mem hi)) (fun i j hij hj e => ?_)
  have hi : i < row.length := by omega
  have e : row.getD i 0 = row.getD j 0 := e
  rw [List.getD_eq_getElem?_getD, List.getD_eq_getElem?_getD, List.getElem?_eq_getElem hi, List.getElem?_eq_getElem hj] at e
  have e : row[i] = row[j] := e
  exact (List.pairwise_iff_getElem.mp h) i j hi hj hij e
section Rows2
variable {t : CS} {σ : MS}
theorem IRw.row (hz : IZ t σ) (h : IRw t σ) {f : Nat} (hf : f < 4) : rowR σ f (tT t (f + 7)) := by
  obtain ⟨h1, h2, h3, h4⟩ := h f hf
  have hb := hz.b3
  exact ⟨h1, h2, nodup_le h3 (fun x hx => Nat.lt_of_lt_of_le (h4 x hx).1 hb), fun x hx => Nat.lt_of_lt_of_le (h4 x hx).1 hb⟩
theorem M_placeIn {f m : Nat} {row : List Nat} (hf : f < 4) (hm : m < 60) (ef : σ 11 m = nI f) (hr : rowR σ f row) {post : Int32 → MS → Prop} (k : post (pv row m) σ) : wp_M_placeIn σ (nI m) post := by
  obtain ⟨r1, r2, r3, r4⟩ := hr
  have hcm : (nI m).toNatClampNeg = m := nI_clamp (by omega)
  have hcf : (nI f).toNatClampNeg = f := nI_clamp (by omega)
  have hvf : vp_in (nI f) 4 := vp_in_nI hf (by omega)
  have main : ∀ d i, i + d = row.length → (∀ j, j < i → (row.getD j 0 == m) = false) → wp_M_placeIn_9 post (d + 1) σ (nI m) (nI f) (nI i) := by
    intro d
    induction d with
    | zero =>
      intro i hi hn
      have e : i = row.length := by omega
      subst e
      refine ⟨hvf, itT ?_ ?_⟩
      · rw [hcf, r1]; exact nI_le (Nat.le_refl _) (by omega)
      · have e2 : pos row m = row.length := fst_no hn
        unfold pv at k; rw [e2, if_neg (Nat.lt_irrefl _)] at k; exact k
    | succ d ih =>
      intro i hi hn
      refine ⟨hvf, itF ?_ ?_⟩
      · rw [hcf, r1]; exact nI_ge (by omega) (by omega)
      · rw [i60, nI_clamp (by omega), r2 i (by omega)]
        refine ⟨vp_in_nI (by omega) (by omega), itE (fun q => ?_) (fun q => ?_)⟩
        · have hx := r4 _ (getD_mem (row := row) (k := i) (by omega))
          have e := (nI_eq (by omega) (by omega)).mp q
          have e2 : pos row m = i := fst_eq (by omega) (beq_t e) hn
          unfold pv at k; rw [e2, if_pos (by omega)] at k; exact k
        · rintro x5 rfl
          rw [nI_1]
          refine ih (i + 1) (by omega) (lt_s hn ?_)
          exact beq_false_of_ne (fun e => q (by rw [e]))
  refine ⟨vp_in_nI hm (by omega), ?_⟩
  rw [hcm, ef]
  rintro x7 rfl
  exact ⟨row.length + 1, main row.length 0 (by omega) (fun j h => absurd h (Nat.not_lt_zero j))⟩
theorem C_placeIn {f m : Nat} (hn0 : tN t 0 = 4) (hf : f < 4) (hm : m < 60) (hl : (tT t (f + 7)).length ≤ 60) (hr : ∀ x ∈ tT t (f + 7), x < tN t 3) (hb : tN t 3 ≤ 60) {post : Int32 → CS → Prop} (k : post (pv (tT t (f + 7)) m) t) : wp_Fel_placeInRow t f (nI m) post := by
  have main : ∀ d i, i + d = (tT t (f + 7)).length → (∀ j, j < i → ((tT t (f + 7)).getD j 0 == m) = false) → wp_Fel_placeInRow_2 post (d + 1) t f (nI m) (nI i) := by
    intro d
    induction d with
    | zero =>
      intro i hi hn
      have e : i = (tT t (f + 7)).length := by omega
      refine ⟨by omega, by omega, itT ?_ ?_⟩
      · rw [e]; exact nI_le (Nat.le_refl _) (by omega)
      · rw [e] at hn
        have e2 : pos (tT t (f + 7)) m = (tT t (f + 7)).length := fst_no hn
        unfold pv at k; rw [e2, if_neg (Nat.lt_irrefl _)] at k; exact k
    | succ d ih =>
      intro i hi hn
      refine ⟨by omega, by omega, itF (nI_ge (by omega) (by omega)) ⟨vp_in_nI (by omega) (by omega), by omega, ?_⟩⟩
      rw [nI_clamp (by omega)]
      rintro j6 rfl
      have hx := hr _ (getD_mem (row := tT t (f + 7)) (k := i) (by omega))
      refine ⟨hx, itE (fun q => ?_) (fun q => ?_)⟩
      · have e := (nI_eq (by omega) (by omega)).mp q
        have e2 : pos (tT t (f + 7)) m = i := fst_eq (by omega) (beq_t e) hn
        unfold pv at k; rw [e2, if_pos (by omega)] at k; exact k
      · rintro x9 rfl
        rw [nI_1]
        refine ih (i + 1) (by omega) (lt_s hn ?_)
        exact beq_false_of_ne (fun e => q (by rw [e]))
  exact ⟨(tT t (f + 7)).length + 1, main (tT t (f + 7)).length 0 (by omega) (fun j h => absurd h (Nat.not_lt_zero j))⟩
theorem C_drop_no {f m : Nat} (hn0 : tN t 0 = 4) (hf : f < 4) (hm : m < 60) (hl : (tT t (f + 7)).length ≤ 60) (hr : ∀ x ∈ tT t (f + 7), x < tN t 3) (hb : tN t 3 ≤ 60) (hx : m ∉ tT t (f + 7)) {post : Int32 → CS → Prop} (k : post 0 t) : wp_Fel_dropFromRow t f (nI m) post := by
  refine ⟨by omega, C_placeIn hn0 hf hm hl hr hb (itT ((pv_neg (by omega)).mpr hx) k)⟩
theorem C_drop {f m : Nat} (hn0 : tN t 0 = 4) (hf : f < 4) (hm : m < 60) (hl : (tT t (f + 7)).length ≤ 60) (hr : ∀ x ∈ tT t (f + 7), x < tN t 3) (hb : tN t 3 ≤ 60) (hx : m ∈ tT t (f + 7)) {post : Int32 → CS → Prop} (k : post 1 (sT t (f + 7) ((tT t (f + 7)).eraseIdx (pos (tT t (f + 7)) m)))) : wp_Fel_dropFromRow t f (nI m) post := by
  have hp := pos_mem.mpr hx
  have e : pv (tT t (f + 7)) m = nI (pos (tT t (f + 7)) m) := if_pos hp
  have hel : elOk t (f + 7) := fun x h => by
    match f, hf with
    | 0, _ => exact hr x h
    | 1, _ => exact hr x h
    | 2, _ => exact hr x h
    | 3, _ => exact hr x h
  refine ⟨by omega, C_placeIn hn0 hf hm hl hr hb ?_⟩
  rw [e]
  refine itF (nI_pos (by omega)) ⟨by omega, by omega, itT (nI_lt hp (by omega)) ⟨vp_in_nI hp (by omega), by omega, hel, ?_⟩⟩
  rintro j11 - t12 rfl
  rw [nI_clamp (by omega)]; exact k
/-- what goesOut leaves of the rows 20 and 21 -/
def outR (σ : MS) (f : Nat) (row : List Nat) (g h : Nat → Int32) : Prop := g f = nI row.length ∧ (∀ f', f' ≠ f → g f' = σ 20 f') ∧ (∀ k, k < row.length → h (60 * f + k) = nI (row.getD k 0)) ∧ ∀ f' k, f' ≠ f → k < 60 → h (60 * f' + k) = σ 21 (60 * f' + k)
theorem erz_getD {row : List Nat} {p k : Nat} (hp : p < row.length) (hk : k < row.length - 1) : (row.eraseIdx p).getD k 0 = row.getD (if k < p then k else k + 1) 0 := by
  have hl : (row.eraseIdx p).length = row.length - 1 := by rw [List.length_eraseIdx, if_pos hp]
  rw [List.getD_eq_getElem?_getD, List.getD_eq_getElem?_getD, List.getElem?_eraseIdx]
  split <;> rfl
theorem M_goesOut_no {f m : Nat} {row : List Nat} (hf : f < 4) (hm : m < 60) (ef : σ 11 m = nI f) (hr : rowR σ f row) (hx : m ∉ row) {post : MS → Prop} (k : post σ) : wp_M_goesOut σ (nI m) post := by
  refine ⟨vp_in_nI hm (by omega), ?_⟩
  rintro x8 -
  exact M_placeIn hf hm ef hr (itF (Int32.not_le.mpr ((pv_neg (by have := hr.2.2.1; omega)).mpr hx)) k)
theorem M_goesOut {f m : Nat} {row : List Nat} (hf : f < 4) (hm : m < 60) (ef : σ 11 m = nI f) (hr : rowR σ f row) (hx : m ∈ row) {post : MS → Prop} (k : ∀ g h, outR σ f (row.eraseIdx (pos row m)) g h → post (sR (sR σ 20 g) 21 h)) : wp_M_goesOut σ (nI m) post := by
  have hp := pos_mem.mpr hx
  have hr0 := hr
  obtain ⟨r1, r2, r3, r4⟩ := hr
  have e : pv row m = nI (pos row m) := if_pos hp
  have hcm : (nI m).toNatClampNeg = m := nI_clamp (by omega)
  have hcf : (nI f).toNatClampNeg = f := nI_clamp (by omega)
  have hvf : vp_in (nI f) 4 := vp_in_nI hf (by omega)
  have hle : (row.eraseIdx (pos row m)).length = row.length - 1 := by rw [List.length_eraseIdx, if_pos hp]
  have g20 : upd (σ 20) f (nI (row.length - 1)) f = nI (row.length - 1) := pk_us
  have main : ∀ d i (h : Nat → Int32), i + d = row.length - 1 → pos row m ≤ i → (∀ j, j < i → h (60 * f + j) = nI (row.getD (if j < pos row m then j else j + 1) 0)) → (∀ j, i ≤ j → j < row.length → h (60 * f + j) = nI (row.getD j 0)) → (∀ f' k, f' ≠ f → k < 60 → h (60 * f' + k) = σ 21 (60 * f' + k)) → wp_M_goesOut_31 post (d + 1) (sR (sR σ 20 (upd (σ 20) f (nI (row.length - 1)))) 21 h) (nI f) (nI i) := by
    intro d
    induction d with
    | zero =>
      intro i h hi hpi c1 c2 c3
      refine ⟨hvf, itT ?_ ?_⟩
      · show upd (σ 20) f (nI (row.length - 1)) (nI f).toNatClampNeg ≤ nI i
        rw [hcf, g20]; exact nI_le (by omega) (by omega)
      · refine k _ _ ⟨by rw [hle]; exact g20, fun f' hf' => pk_un hf', fun j hj => ?_, c3⟩
        rw [hle] at hj
        rw [erz_getD hp hj]
        exact c1 j (by omega)
    | succ d ih =>
      intro i h hi hpi c1 c2 c3
      refine ⟨hvf, itF ?_ ?_⟩
      · show ¬ upd (σ 20) f (nI (row.length - 1)) (nI f).toNatClampNeg ≤ nI i
        rw [hcf, g20]; exact nI_ge (by omega) (by omega)
      · rw [i60, nI_1, nI_clamp (by omega), nI_clamp (by omega)]
        refine ⟨vp_in_nI (by omega) (by omega), vp_in_nI (by omega) (by omega), ?_⟩
        rintro σ5 rfl x6 rfl
        rw [nI_1, up2_sR]
        refine ih (i + 1) _ (by omega) (by omega) (fun j hj => ?_) (fun j hj hj2 => ?_) (fun f' k' hf' hk' => ?_)
        · by_cases e : j = i
          · subst e
            rw [pk_us, if_neg (by omega)]
            exact c2 (j + 1) (by omega) (by omega)
          · rw [pk_un (by omega)]; exact c1 j (by omega)
        · rw [pk_un (by omega)]; exact c2 j (by omega) hj2
        · have : 60 * f' + k' ≠ 60 * f + i := by
            intro q
            rcases Nat.lt_trichotomy f' f with q2 | q2 | q2
            · omega
            · exact hf' q2
            · omega
          rw [pk_un this]; exact c3 f' k' hf' hk'
  refine ⟨vp_in_nI hm (by omega), ?_⟩
  rw [hcm, ef]
  rintro x8 rfl
  refine M_placeIn hf hm ef hr0 (itT ?_ ⟨hvf, hvf, ?_⟩)
  · rw [e]; exact nI_pos' (by omega)
  · rintro σ14 rfl
    refine ⟨row.length - 1 - pos row m + 1, ?_⟩
    rw [e, hcf, r1, show nI row.length - 1 = nI (row.length - 1) from pk_sub (b := 1) (by omega)]
    have hh := main (row.length - 1 - pos row m) (pos row m) (σ 21) (by omega) (Nat.le_refl _) (fun j hj => by rw [if_pos hj]; exact r2 j (by omega)) (fun j _ hj => r2 j hj) (fun f' k' _ _ => rfl)
    · have e3 : sR (sR σ 20 (upd (σ 20) f (nI (row.length - 1)))) 21 (σ 21) = up2 σ 20 f (nI (row.length - 1)) := by
        funext j
        unfold sR up2
        by_cases h21 : j = 21
        · subst h21; rfl
        · rw [if_neg h21]
      rw [e3] at hh
      exact hh
theorem M_comesIn {f m : Nat} {row : List Nat} (hf : f < 4) (hm : m < 60) (ef : σ 11 m = nI f) (hr : rowR σ f row) (hl : row.length < 60) {post : MS → Prop} (k : ∀ g h, outR σ f (row ++ [m]) g h → post (sR (sR σ 20 g) 21 h)) : wp_M_comesIn σ (nI m) post := by
  obtain ⟨r1, r2, r3, r4⟩ := hr
  have hcm : (nI m).toNatClampNeg = m := nI_clamp (by omega)
  have hcf : (nI f).toNatClampNeg = f := nI_clamp (by omega)
  have hvf : vp_in (nI f) 4 := vp_in_nI hf (by omega)
  refine ⟨vp_in_nI hm (by omega), ?_⟩
  rw [hcm, ef]
  rintro x2 rfl
  rw [hcf, r1, i60, nI_clamp (by omega)]
  refine ⟨hvf, vp_in_nI (by omega) (by omega), ?_⟩
  rintro σ5 rfl
  refine ⟨hvf, hvf, ?_⟩
  rintro σ8 rfl
  show post (up2 (up2 σ 21 (60 * f + row.length) (nI m)) 20 f (σ 20 f + 1))
  have e3 : up2 (up2 σ 21 (60 * f + row.length) (nI m)) 20 f (σ 20 f + 1) = sR (sR σ 20 (upd (σ 20) f (σ 20 f + 1))) 21 (upd (σ 21) (60 * f + row.length) (nI m)) := by
    funext j
    unfold sR up2
    by_cases h21 : j = 21
    · subst h21; rfl
    · rw [if_neg h21]
      by_cases h20 : j = 20
      · subst h20; rfl
      · rw [if_neg h20, if_neg h20, if_neg h21]
  rw [e3]
  refine k _ _ ⟨?_, fun f' hf' => pk_un hf', fun j hj => ?_, fun f' k' hf' hk' => ?_⟩
  · rw [pk_us, r1, nI_1, List.length_append]; rfl
  · rw [List.length_append] at hj
    have hj : j < row.length + 1 := hj
    by_cases e : j = row.length
    · subst e
      rw [pk_us, List.getD_eq_getElem?_getD, List.getElem?_append_right (Nat.le_refl _), Nat.sub_self]; rfl
    · rw [pk_un (by omega), r2 j (by omega), List.getD_eq_getElem?_getD, List.getD_eq_getElem?_getD, List.getElem?_append_left (by omega)]
  · have : 60 * f' + k' ≠ 60 * f + row.length := by
      intro q
      rcases Nat.lt_trichotomy f' f with q2 | q2 | q2
      · omega
      · exact hf' q2
      · omega
    rw [pk_un this]
theorem rowIRw (hz : IZ t σ) (h : IRw t σ) {f : Nat} (hf : f < 4) {row : List Nat} {T' : Nat → List Nat} {K' : Nat → Nat} {g h' : Nat → Int32} (eT : T' (f + 7) = row) (eTn : ∀ k, k ≠ f + 7 → T' k = tT t k) (hnd : row.Nodup) (hmem : ∀ m ∈ row, m < tN t 3 ∧ σ 11 m = nI f) (ho : outR σ f row g h') : IRw (t.1, t.2.1, T', t.2.2.2.1, t.2.2.2.2.1, K') (sR (sR σ 20 g) 21 h') := by
  intro f' hf'
  obtain ⟨o1, o2, o3, o4⟩ := ho
  show g f' = nI (T' (f' + 7)).length ∧ (∀ k, k < (T' (f' + 7)).length → h' (60 * f' + k) = nI ((T' (f' + 7)).getD k 0)) ∧ (T' (f' + 7)).Nodup ∧ ∀ m ∈ T' (f' + 7), m < tN t 3 ∧ σ 11 m = nI f'
  by_cases e : f' = f
  · subst e
    rw [eT]; exact ⟨o1, o3, hnd, hmem⟩
  · rw [eTn (f' + 7) (by omega), o2 f' e]
    obtain ⟨h1, h2, h3, h4⟩ := h f' hf'
    have hb := hz.b3
    have hl : (tT t (f' + 7)).length ≤ 60 := nodup_le h3 (fun x hx => Nat.lt_of_lt_of_le (h4 x hx).1 hb)
    exact ⟨h1, fun k hk => by rw [o4 f' k e (by omega)]; exact h2 k hk, h3, h4⟩
theorem rowIGn {J : Nat} (h : IGn t σ J) {f : Nat} (hf : f < 4) {row : List Nat} {T' : Nat → List Nat} {K' : Nat → Nat} {g h' : Nat → Int32} (eT : T' (f + 7) = row) (eTn : ∀ k, k ≠ f + 7 → T' k = tT t k) (hfl : ∀ i, i < tN t 2 → tF t 82 i = 1 → ∀ m ∈ tT t (i + 11), m ∉ tT t (f + 7) → m ∉ row) : IGn (t.1, t.2.1, T', t.2.2.2.1, t.2.2.2.2.1, K') (sR (sR σ 20 g) 21 h') J := by
  obtain ⟨T, g1, g2, g3⟩ := h
  refine ⟨T, g1, g2, fun i hi => gng_congr (g3 i hi) rfl (fun _ _ => rfl) (eTn _ (by omega)) (Nat.le_refl _) rfl rfl rfl rfl rfl (fun _ _ => rfl) (fun hq m hm hlt => ⟨rfl, rfl, fun f' hf' hx => ?_⟩)⟩
  show m ∉ T' (f' + 7)
  by_cases e : f' = f
  · subst e; rw [eT]; exact hfl i hi hq m hm hx
  · rw [eTn (f' + 7) (by omega)]; exact hx
theorem Inv_row (h : Inv t σ) {f : Nat} (hf : f < 4) {row : List Nat} {T' : Nat → List Nat} {K' : Nat → Nat} {g h' : Nat → Int32} (eT : T' (f + 7) = row) (eTn : ∀ k, k ≠ f + 7 → T' k = tT t k) (hC : ∀ k, (T' k).length ≤ K' k ∧ K' k ≤ 400) (hnd : row.Nodup) (hmem : ∀ m ∈ row, m < tN t 3 ∧ σ 11 m = nI f) (ho : outR σ f row g h') (hfl : ∀ i, i < tN t 2 → tF t 82 i = 1 → ∀ m ∈ tT t (i + 11), m ∉ tT t (f + 7) → m ∉ row) : Inv (t.1, t.2.1, T', t.2.2.2.1, t.2.2.2.2.1, K') (sR (sR σ 20 g) 21 h') := by
  refine ⟨?_, hC, ?_, h.p, h.r, h.m, h.n, rowIRw h.z h.w hf eT eTn hnd hmem ho, h.d, h.tp, h.lw, h.ld, rowIGn h.g hf eT eTn hfl, h.f⟩
  · have hz := h.z
    unfold IZ at hz ⊢
    show tN t 0 = 4 ∧ T' 4 = [0, 1, 2, 3] ∧ tN t 4 ≤ 20 ∧ tN t 3 ≤ 60 ∧ tN t 2 ≤ 200 ∧ tN t 1 ≤ 40 ∧ T' 0 = List.range (tN t 4) ∧ T' 1 = List.range (tN t 3) ∧ T' 2 = List.range (tN t 2) ∧ T' 3 = List.range (tN t 1) ∧ _
    rw [eTn 4 (by omega), eTn 0 (by omega), eTn 1 (by omega), eTn 2 (by omega), eTn 3 (by omega)]
    exact hz
  · show (∀ x ∈ T' 5, x < tN t 3) ∧ (∀ x ∈ T' 6, x < tN t 3) ∧ (T' 5).length ≤ 60 ∧ (T' 6).length ≤ 60
    rw [eTn 5 (by omega), eTn 6 (by omega)]
    exact h.s
end Rows2
