/-! a gang is chosen: the model; why -/
def mT (σ : MS) (n : Int32) (tk it lt : Nat → Int32) : MS := sR (sR (sR (sR σ 60 (upd (σ 60) 0 n)) 61 tk) 62 it) 23 lt
theorem mT_is {σ : MS} {n : Int32} {tk it lt : Nat → Int32} (j : Nat) : mT σ n tk it lt j = if j = 23 then lt else if j = 62 then it else if j = 61 then tk else if j = 60 then upd (σ 60) 0 n else σ j := rfl
theorem mT_60 (σ : MS) (n n' : Int32) (tk it lt : Nat → Int32) : up2 (mT σ n tk it lt) 60 0 n' = mT σ n' tk it lt := by
  funext j
  show (if j = 60 then upd (upd (σ 60) 0 n) 0 n' else mT σ n tk it lt j) = _
  rw [mT_is, mT_is, fa_upd_twice]
  by_cases h : j = 60
  · subst h; rfl
  · rw [if_neg h, if_neg h, if_neg h]
theorem mT_61 (σ : MS) (n : Int32) (tk it lt : Nat → Int32) (i : Nat) (v : Int32) : up2 (mT σ n tk it lt) 61 i v = mT σ n (upd tk i v) it lt := by
  funext j
  show (if j = 61 then upd tk i v else mT σ n tk it lt j) = _
  rw [mT_is, mT_is]
  by_cases h : j = 61
  · subst h; rfl
  · rw [if_neg h, if_neg h, if_neg h]
theorem mT_62 (σ : MS) (n : Int32) (tk it lt : Nat → Int32) (i : Nat) (v : Int32) : up2 (mT σ n tk it lt) 62 i v = mT σ n tk (upd it i v) lt := by
  funext j
  show (if j = 62 then upd it i v else mT σ n tk it lt j) = _
  rw [mT_is, mT_is]
  by_cases h : j = 62
  · subst h; rfl
  · rw [if_neg h, if_neg h, if_neg h]
theorem mT_23 (σ : MS) (n : Int32) (tk it lt : Nat → Int32) (i : Nat) (v : Int32) : up2 (mT σ n tk it lt) 23 i v = mT σ n tk it (upd lt i v) := by
  funext j
  show (if j = 23 then upd lt i v else mT σ n tk it lt j) = _
  rw [mT_is, mT_is]
  by_cases h : j = 23
  · subst h; rfl
  · rw [if_neg h, if_neg h, if_neg h]
theorem mT_same (σ : MS) : mT σ (σ 60 0) (σ 61) (σ 62) (σ 23) = σ := by
  funext j
  rw [mT_is]
  by_cases h : j = 23
  · subst h; rfl
  rw [if_neg h]
  by_cases h : j = 62
  · subst h; rfl
  rw [if_neg h]
  by_cases h : j = 61
  · subst h; rfl
  rw [if_neg h]
  by_cases h : j = 60
  · subst h; rw [if_pos rfl]; exact fa_upd_same rfl
  rw [if_neg h]
def pwr (str : Nat → Int32) (ch : List Nat) : Int32 := ch.foldl (fun a m => a + str m) 0
theorem pwr_add (str : Nat → Int32) (ch : List Nat) (x : Nat) : pwr str (ch ++ [x]) = pwr str ch + str x := by
  unfold pwr
  rw [List.foldl_append]; rfl
def tkR (tk : Nat → Int32) (ch : List Nat) : Prop := ∀ k, k < ch.length → tk k = nI (ch.getD k 0)
def itR (it : Nat → Int32) (ch : List Nat) (n : Nat) : Prop := ∀ m, m < n → it m = if m ∈ ch then 1 else 0
theorem take_getD_snoc {ch : List Nat} {i : Nat} (hi : i < ch.length) : ch.take (i + 1) = ch.take i ++ [ch.getD i 0] := by
  have e : ch.getD i 0 = ch[i] := by rw [List.getD_eq_getElem?_getD, List.getElem?_eq_getElem hi]; rfl
  rw [List.take_succ, List.getElem?_eq_getElem hi, e]; rfl
section Gang3
variable {t : CS} {σ : MS}
theorem M_enough (hz : IZ t σ) (hp : IPl t σ) (hld : ILd t σ) {l : Nat} (hl : l < tN t 2) {need : Int32} {ch : List Nat} (h8 : ch.length ≤ 8) (hch : ∀ x ∈ ch, x < 60) {tk it lt : Nat → Int32} (htk : tkR tk ch) {post : Int32 → MS → Prop} (k : post (if ¬ nI ch.length < need ∧ ¬ 4 * pwr (σ 12) ch < gwt t σ l then 1 else 0) (mT σ (nI ch.length) tk it lt)) : wp_M_isEnough (mT σ (nI ch.length) tk it lt) (nI l) need post := by
  have hb := hz.b2
  have hc : (nI l).toNatClampNeg = l := nI_clamp (by omega)
  have hv : vp_in (nI l) 200 := vp_in_nI (by omega) (by omega)
  obtain ⟨l1, l2, l3, l4, l5, l6, -⟩ := hld.1 l hl
  have main : ∀ d i, i + d = ch.length → wp_M_isEnough_5 post (d + 1) (mT σ (nI ch.length) tk it lt) (nI l) need (pwr (σ 12) (ch.take i)) (nI i) := by
    intro d
    induction d with
    | zero =>
      intro i hi
      have e : i = ch.length := by omega
      subst e
      rw [List.take_length]
      refine itT (show nI ch.length ≤ nI ch.length from nI_le (Nat.le_refl _) (by omega)) ?_
      show (if nI ch.length < need then _ else _)
      refine itE (fun q => ?_) (fun q => ⟨hv, hv, hv, ?_⟩)
      · rw [if_neg (fun a => a.1 q)] at k; exact k
      · rw [hc]
        show wp_M_up _ (σ 46 l) (σ 47 l) _
        rw [l3, l4]
        refine M_up (t := t) (σ := mT σ (nI ch.length) tk it lt) hz hp l5 l6 ?_
        show (if 4 * pwr (σ 12) ch < gwt t σ l then _ else _)
        refine itE (fun q2 => ?_) (fun q2 => ?_)
        · rw [if_neg (fun a => a.2 q2)] at k; exact k
        · rw [if_pos ⟨q, q2⟩] at k; exact k
    | succ d ih =>
      intro i hi
      refine itF (show ¬ nI ch.length ≤ nI i from nI_ge (by omega) (by omega)) ⟨vp_in_nI (by omega) (by omega), ?_⟩
      have e1 : (mT σ (nI ch.length) tk it lt) 61 (nI i).toNatClampNeg = nI (ch.getD i 0) := by
        show tk (nI i).toNatClampNeg = _
        rw [nI_clamp (by omega)]; exact htk i (by omega)
      have hx := hch _ (getD_mem (row := ch) (k := i) (by omega))
      rw [e1]
      refine ⟨vp_in_nI hx (by omega), ?_⟩
      rw [nI_clamp (n := ch.getD i 0) (by omega)]
      refine nm_r (e' := pwr (σ 12) (ch.take (i + 1))) (by rw [take_getD_snoc (by omega), pwr_add]; rfl) ?_
      rintro x12 rfl
      rw [nI_1]; exact ih (i + 1) (by omega)
  have := main ch.length 0 (by omega)
  exact ⟨ch.length + 1, this⟩
theorem M_mayGo {w : Int32} {ch : List Nat} {n : Nat} (hn : n ≤ 60) {N : Int32} {tk it lt : Nat → Int32} (hit : itR it ch n) {m : Nat} (hm : m < n) {post : Int32 → MS → Prop} (k1 : elg σ w ch m = true → post 1 (mT σ N tk it lt)) (k0 : elg σ w ch m = false → post 0 (mT σ N tk it lt)) : wp_M_mayGo (mT σ N tk it lt) (nI m) w post := by
  have hc : (nI m).toNatClampNeg = m := nI_clamp (by omega)
  have hv : vp_in (nI m) 60 := vp_in_nI (by omega) (by omega)
  refine ⟨hv, ?_⟩
  rw [hc]
  show (if it m = 0 then vp_in (nI m) 60 ∧ (if σ 1 0 < σ 16 m then _ else vp_in (nI m) 60 ∧ (if σ 1 0 < σ 17 m then _ else vp_in (nI m) 60 ∧ vp_in (nI m) 60 ∧ (if σ 13 m < 60 then wp_M_mayGo_63 post _ (σ 15 m + w) 480 else wp_M_mayGo_63 post _ (σ 15 m + w) 240))) else _)
  rw [hit m hm]
  have no : ¬ (¬ σ 1 0 < σ 16 m ∧ ¬ σ 1 0 < σ 17 m ∧ ¬ (if σ 13 m < 60 then (480 : Int32) else 240) < σ 15 m + w) → post 0 (mT σ N tk it lt) := fun q => k0 (by unfold elg; rw [mg_f q]; rfl)
  by_cases hmc : m ∈ ch
  · rw [if_pos hmc]
    exact itF (by decide) (k0 (by unfold elg; simp [hmc]))
  · rw [if_neg hmc]
    refine itT rfl ⟨hv, itE (fun q => no (fun a => a.1 q)) (fun q => ⟨hv, itE (fun q2 => no (fun a => a.2.1 q2)) (fun q2 => ⟨hv, hv, ?_⟩)⟩)⟩
    have yes : ¬ (if σ 13 m < 60 then (480 : Int32) else 240) < σ 15 m + w → post 1 (mT σ N tk it lt) := fun q3 => k1 (by unfold elg; rw [mg_t q q2 q3]; simp [hmc])
    refine itE (fun qa => itE (fun q3 => no (fun a => a.2.2 (by rw [if_pos qa]; exact q3))) (fun q3 => yes (by rw [if_pos qa]; exact q3))) (fun qa => itE (fun q3 => no (fun a => a.2.2 (by rw [if_neg qa]; exact q3))) (fun q3 => yes (by rw [if_neg qa]; exact q3)))
theorem M_find {f : Nat} (hf : f < 4) {w need dcI : Int32} {l : Nat} {row ch : List Nat} {n : Nat} (hn : n ≤ 60) (hrl : row.length ≤ 60) (hrow : ∀ x ∈ row, x < n) {N : Nat} (hN : N < 8) {tk it lt : Nat → Int32} (h21 : ∀ k, k < row.length → σ 21 (60 * f + k) = nI (row.getD k 0)) (hit : itR it ch n) {k85 : MS → Int32 → Int32 → Int32 → Int32 → Int32 → Prop} {post : Int32 → MS → Prop} : ∀ d i s, i + d = row.length → s < ((row.drop i).filter (elg σ w ch)).length → k85 (mT σ (nI (N + 1)) (upd tk N (nI (((row.drop i).filter (elg σ w ch)).getD s 0))) (upd it (((row.drop i).filter (elg σ w ch)).getD s 0) 1) lt) (nI f) (nI l) dcI w need → wp_M_take_209 k85 post (d + 1) (mT σ (nI N) tk it lt) (nI f) (nI l) dcI w need (nI s) (nI i) := by
  intro d
  induction d with
  | zero =>
    intro i s hi hs
    rw [List.drop_eq_nil_of_le (by omega)] at hs
    exact absurd hs (Nat.not_lt_zero s)
  | succ d ih =>
    intro i s hi hs k
    have hil : i < row.length := by omega
    have hx := hrow _ (getD_mem hil)
    have hd : row.drop i = row.getD i 0 :: row.drop (i + 1) := by
      have e : row.getD i 0 = row[i] := by rw [List.getD_eq_getElem?_getD, List.getElem?_eq_getElem hil]; rfl
      rw [e]; exact List.drop_eq_getElem_cons hil
    have hv : vp_in (nI (60 * f + i)) 240 := vp_in_nI (by omega) (by omega)
    have hc : (nI (60 * f + i)).toNatClampNeg = 60 * f + i := nI_clamp (by omega)
    have e21 : (mT σ (nI N) tk it lt) 21 (nI (60 * f + i)).toNatClampNeg = nI (row.getD i 0) := by
      show σ 21 (nI (60 * f + i)).toNatClampNeg = _
      rw [hc]; exact h21 i hil
    have slen : s < 2 ^ 30 := by
      have : ((row.drop i).filter (elg σ w ch)).length ≤ row.length := Nat.le_trans (List.length_filter_le _ _) (by rw [List.length_drop]; omega)
      omega
    rw [hd] at hs k
    unfold wp_M_take_209
    rw [i60, e21]
    refine ⟨hv, M_mayGo hn hit hx (fun q => itF (by decide) ?_) (fun q => itT rfl ?_)⟩
    · rw [List.filter_cons_of_pos q] at hs k
      cases s with
      | zero =>
        have k : k85 (mT σ (nI (N + 1)) (upd tk N (nI (row.getD i 0))) (upd it (row.getD i 0) 1) lt) (nI f) (nI l) dcI w need := k
        refine itT (show nI 0 ≤ 0 by decide) ⟨hv, (show vp_in (nI N) 8 from vp_in_nI hN (by omega)), ?_⟩
        refine nm_r (e' := mT σ (nI N) (upd tk N (nI (row.getD i 0))) it lt) ?_ ⟨(show vp_in (nI N) 8 from vp_in_nI hN (by omega)), ?_⟩
        · show up2 _ 61 (nI N).toNatClampNeg _ = _
          rw [nI_clamp (n := N) (by omega), e21, mT_61]
        have e61 : (mT σ (nI N) (upd tk N (nI (row.getD i 0))) it lt) 61 (mT σ (nI N) (upd tk N (nI (row.getD i 0))) it lt 60 0).toNatClampNeg = nI (row.getD i 0) := by
          show upd tk N (nI (row.getD i 0)) (nI N).toNatClampNeg = _
          rw [nI_clamp (n := N) (by omega), pk_us]
        rw [e61, nI_clamp (n := row.getD i 0) (by omega), nb1]
        refine ⟨vp_in_nI (by omega) (by omega), ?_⟩
        refine nm_r (e' := mT σ (nI N) (upd tk N (nI (row.getD i 0))) (upd it (row.getD i 0) 1) lt) (mT_62 _ _ _ _ _ _ _) ?_
        refine nm_r (e' := mT σ (nI (N + 1)) (upd tk N (nI (row.getD i 0))) (upd it (row.getD i 0) 1) lt) ?_ k
        show up2 _ 60 0 (nI N + 1) = _
        rw [mT_60, nI_1]
      | succ s =>
        refine itF (nI_nle (n := s + 1) (by omega) (by omega)) ?_
        unfold wp_M_take_235
        rw [i60, e21]
        refine ⟨hv, M_mayGo hn hit hx (fun _ => itF (by decide) ?_) (fun q2 => by rw [q] at q2; cases q2)⟩
        refine nm_r (e' := nI s) (nI_pred s) ?_
        rintro x4 rfl
        rw [nI_1]
        exact ih (i + 1) s (by omega) (Nat.lt_of_succ_lt_succ hs) k
    · have qn : ¬ elg σ w ch (row.getD i 0) = true := by rw [q]; decide
      rw [List.filter_cons_of_neg qn] at hs k
      unfold wp_M_take_235
      rw [i60, e21]
      refine ⟨hv, M_mayGo hn hit hx (fun q2 => by rw [q] at q2; cases q2) (fun _ => itT rfl ?_)⟩
      refine nm_r (e' := nI s) (Int32.sub_zero _) ?_
      rintro x4 rfl
      rw [nI_1]
      exact ih (i + 1) s (by omega) hs k
theorem itR_add {it : Nat → Int32} {ch : List Nat} {n x : Nat} (h : itR it ch n) : itR (upd it x 1) (ch ++ [x]) n := fun m hm => by
  by_cases e : m = x
  · subst e
    rw [pk_us, if_pos (List.mem_append_right _ (List.mem_singleton.mpr rfl))]
  · rw [pk_un e, h m hm]
    by_cases q : m ∈ ch
    · rw [if_pos q, if_pos (List.mem_append_left _ q)]
    · rw [if_neg q, if_neg (fun a => (List.mem_append.mp a).elim q (fun b => e (List.mem_singleton.mp b)))]
theorem tkR_add {tk : Nat → Int32} {ch : List Nat} {x : Nat} (h : tkR tk ch) : tkR (upd tk ch.length (nI x)) (ch ++ [x]) := fun k hk => by
  rw [List.length_append] at hk
  have hk : k < ch.length + 1 := hk
  by_cases e : k = ch.length
  · subst e
    rw [pk_us, List.getD_eq_getElem?_getD, List.getElem?_append_right (Nat.le_refl _), Nat.sub_self]; rfl
  · rw [pk_un e, h k (by omega), List.getD_eq_getElem?_getD, List.getD_eq_getElem?_getD, List.getElem?_append_left (by omega)]
theorem M_pick (hz : IZ t σ) (hp : IPl t σ) (hld : ILd t σ) (hw : IRw t σ) {f l : Nat} (hf : f < 4) (hl : l < tN t 2) {w dcI least : Int32} {dc : Bool} (hdc : dcI = 0 ↔ dc = false) {lt0 : Nat → Int32} {post : Int32 → MS → Prop} : ∀ n ch z tk it, n + ch.length = 8 → (∀ x ∈ ch, x < tN t 3) → ¬ (¬ nI ch.length < least ∧ ¬ 4 * pwr (σ 12) ch < gwt t σ l) → tkR tk ch → itR it ch (tN t 3) → (∀ tk' it', tkR tk' (pick dc least (gwt t σ l) (σ 12) n ((tT t (f + 7)).filter (elg σ w ch)) ch z (pwr (σ 12) ch)).2.1 → (pick dc least (gwt t σ l) (σ 12) n ((tT t (f + 7)).filter (elg σ w ch)) ch z (pwr (σ 12) ch)).2.1.length ≤ 8 → post (if (pick dc least (gwt t σ l) (σ 12) n ((tT t (f + 7)).filter (elg σ w ch)) ch z (pwr (σ 12) ch)).1 then 1 else 0) (mT σ (nI (pick dc least (gwt t σ l) (σ 12) n ((tT t (f + 7)).filter (elg σ w ch)) ch z (pwr (σ 12) ch)).2.1.length) tk' it' (upd lt0 f (pick dc least (gwt t σ l) (σ 12) n ((tT t (f + 7)).filter (elg σ w ch)) ch z (pwr (σ 12) ch)).2.2.2))) → wp_M_take_85 post (n + 1) (mT σ (nI ch.length) tk it (upd lt0 f z)) (nI f) (nI l) dcI w least := by
  have hb3 := hz.b3
  have hrow := IRw.row hz hw hf
  have hmem := (hw f hf).2.2.2
  have hnd := (hw f hf).2.2.1
  have hcf : (nI f).toNatClampNeg = f := nI_clamp (by omega)
  have hvf : vp_in (nI f) 4 := vp_in_nI hf (by omega)
  intro n
  induction n with
  | zero =>
    intro ch z tk it hn8 hch hno htk hit k
    have e8 : ch.length = 8 := by omega
    have hno2 := k tk it htk (by show ch.length ≤ 8; omega)
    refine itT (show (8 : Int32) ≤ nI ch.length by rw [e8]; decide) (M_enough hz hp hld hl (by omega) (fun x hx => by have := hch x hx; omega) htk ?_)
    rw [if_neg hno]
    exact ⟨Or.inl rfl, hno2⟩
  | succ n ih =>
    intro ch z tk it hn8 hch hno htk hit k
    refine itF (show ¬ (8 : Int32) ≤ nI ch.length from nI_ge (b := 8) (by omega) (by omega)) (M_enough hz hp hld hl (by omega) (fun x hx => by have := hch x hx; omega) htk ?_)
    rw [if_neg hno]
    refine itT rfl ?_
    generalize hE : (tT t (f + 7)).filter (elg σ w ch) = E at k
    have hEl : E.length ≤ 60 := by rw [← hE]; exact Nat.le_trans (List.length_filter_le _ _) hrow.2.2.1
    have hEm : ∀ x ∈ E, x < tN t 3 := fun x hx => by rw [← hE] at hx; exact (hmem x (List.mem_filter.mp hx).1).1
    have hl2 : ∀ x, (ch ++ [x]).length = ch.length + 1 := fun x => by rw [List.length_append]; rfl
    -- behind the choice
    have aft : ∀ i, i = pki dc z E.length → i < E.length → wp_M_take_85 post (n + 1) (mT σ (nI (ch.length + 1)) (upd tk ch.length (nI (E.getD i 0))) (upd it (E.getD i 0) 1) (upd lt0 f (nzv dc z))) (nI f) (nI l) dcI w least := fun i hi' hi => by
      have hne : E ≠ [] := fun q => by rw [q] at hi; exact Nat.not_lt_zero _ hi
      unfold pick at k
      rw [if_neg hne, ← hi'] at k
      have hx := hEm _ (getD_mem hi)
      have htk2 := tkR_add (x := E.getD i 0) htk
      have hit2 := itR_add (x := E.getD i 0) hit
      have hch2 : ∀ x ∈ ch ++ [E.getD i 0], x < tN t 3 := fun x hxx => by
        rcases List.mem_append.mp hxx with q | q
        · exact hch x q
        · rw [List.mem_singleton] at q; rw [q]; exact hx
      have hE2 : E.eraseIdx i = (tT t (f + 7)).filter (elg σ w (ch ++ [E.getD i 0])) := by
        have hi2 : i < ((tT t (f + 7)).filter (elg σ w ch)).length := by rw [hE]; exact hi
        have := elg_add hnd hi2
        rw [hE] at this; exact this
      rw [← hl2 (E.getD i 0)]
      by_cases hen : ¬ nI (ch.length + 1) < least ∧ ¬ 4 * (pwr (σ 12) ch + σ 12 (E.getD i 0)) < gwt t σ l
      · rw [if_pos hen] at k
        have hen2 : ¬ nI (ch ++ [E.getD i 0]).length < least ∧ ¬ 4 * pwr (σ 12) (ch ++ [E.getD i 0]) < gwt t σ l := by rw [hl2, pwr_add]; exact hen
        have fin : wp_M_take_321 post (mT σ (nI (ch ++ [E.getD i 0]).length) (upd tk ch.length (nI (E.getD i 0))) (upd it (E.getD i 0) 1) (upd lt0 f (nzv dc z))) (nI l) least := by
          refine M_enough hz hp hld hl (by rw [hl2]; omega) (fun x hxx => by have := hch2 x hxx; omega) htk2 ?_
          rw [if_pos hen2]
          exact ⟨Or.inr rfl, k _ _ htk2 (by rw [hl2]; omega)⟩
        refine itE (fun _ => fin) (fun _ => M_enough hz hp hld hl (by rw [hl2]; omega) (fun x hxx => by have := hch2 x hxx; omega) htk2 ?_)
        rw [if_pos hen2]
        exact itF (by decide) fin
      · rw [if_neg hen, hE2, ← pwr_add] at k
        refine ih (ch ++ [E.getD i 0]) (nzv dc z) _ _ (by rw [hl2]; omega) hch2 ?_ htk2 hit2 k
        rw [hl2, pwr_add]; exact hen
    -- the count
    have hr21 := hrow.2.1
    have cnt : ∀ d i, i + d = (tT t (f + 7)).length → wp_M_take_110 (wp_M_take_85 post (n + 1)) post (d + 1) (mT σ (nI ch.length) tk it (upd lt0 f z)) (nI f) (nI l) dcI w least (nI (((tT t (f + 7)).take i).filter (elg σ w ch)).length) (nI i) := by
      intro d
      induction d with
      | zero =>
        intro i hi
        have e : i = (tT t (f + 7)).length := by omega
        refine ⟨hvf, itT ?_ ?_⟩
        · show σ 20 (nI f).toNatClampNeg ≤ nI i
          rw [hcf, hrow.1, e]; exact nI_le (Nat.le_refl _) (by have := hrow.2.2.1; omega)
        rw [e, List.take_length, hE]
        by_cases hne : E = []
        · rw [hne]
          refine itT rfl ?_
          have k2 := k tk it
          unfold pick at k2
          rw [if_pos hne] at k2
          exact k2 htk (by show ch.length ≤ 8; omega)
        have hpos : 0 < E.length := List.length_pos_iff.mpr hne
        refine itF (nI_ne0 hpos (by omega)) ?_
        have find : ∀ i, i = pki dc z E.length → i < E.length → wp_M_take_206 (wp_M_take_85 post (n + 1)) post (mT σ (nI ch.length) tk it (upd lt0 f (nzv dc z))) (nI f) (nI l) dcI w least (nI i) := fun i hi' hi => by
          refine ⟨(tT t (f + 7)).length + 1, M_find (n := tN t 3) hf hb3 hrow.2.2.1 (fun x hx => (hmem x hx).1) (by omega) hr21 hit (tT t (f + 7)).length 0 i (by omega) (by rw [List.drop_zero, hE]; exact hi) ?_⟩
          rw [List.drop_zero, hE]
          exact aft i hi' hi
        cases hd : dc with
        | false =>
          refine itT (hdc.mpr hd) ?_
          have := find 0 (by rw [hd]; rfl) hpos
          have ez : nzv dc z = z := by rw [hd]; rfl
          rw [ez] at this
          exact this
        | true =>
          refine itF (fun q => by rw [hdc.mp q] at hd; cases hd) ⟨hvf, hvf, ?_⟩
          rw [hcf]
          refine nm_r (e' := mT σ (nI ch.length) tk it (upd lt0 f (nzv dc z))) ?_ ⟨hvf, nI_ne0 hpos (by omega), ?_⟩
          · show up2 _ 23 f (upd lt0 f z f * 1103515245 + 12345) = _
            rw [mT_23, fa_upd_twice, pk_us, hd]; rfl
          refine nm_r (e' := nI (pki dc z E.length)) ?_ (find _ rfl ?_)
          · show ((upd lt0 f (nzv dc z) f).toUInt32 >>> ((8 : Int32).toUInt32 &&& Int32.toUInt32 31)).toInt32 - ((upd lt0 f (nzv dc z) f).toUInt32 >>> ((8 : Int32).toUInt32 &&& Int32.toUInt32 31)).toInt32 / nI E.length * nI E.length = _
            rw [pk_us, dix_eq _ hpos (by omega)]
            unfold pki
            rw [if_pos hd]
          · unfold pki
            rw [if_pos hd]
            exact Nat.mod_lt _ hpos
      | succ d ihd =>
        intro i hi
        have hil : i < (tT t (f + 7)).length := by omega
        have hl60 := hrow.2.2.1
        refine ⟨hvf, itF ?_ ?_⟩
        · show ¬ σ 20 (nI f).toNatClampNeg ≤ nI i
          rw [hcf, hrow.1]; exact nI_ge (by omega) (by omega)
        have e21 : (mT σ (nI ch.length) tk it (upd lt0 f z)) 21 (nI (60 * f + i)).toNatClampNeg = nI ((tT t (f + 7)).getD i 0) := by
          show σ 21 (nI (60 * f + i)).toNatClampNeg = _
          rw [nI_clamp (by omega)]; exact hr21 i hil
        rw [i60, e21]
        have hs := filter_snoc (p := elg σ w ch) hil
        refine ⟨vp_in_nI (by omega) (by omega), M_mayGo hb3 hit (hmem _ (getD_mem hil)).1 (fun q => itF (by decide) ?_) (fun q => itT rfl ?_)⟩
        · rw [if_pos q] at hs
          refine nm_r (e' := nI (((tT t (f + 7)).take (i + 1)).filter (elg σ w ch)).length) ?_ ?_
          · rw [hs, List.length_append, nI_1]; rfl
          rintro x22 rfl
          rw [nI_1]; exact ihd (i + 1) (by omega)
        · rw [if_neg (by rw [q]; decide), List.append_nil] at hs
          refine nm_r (e' := nI (((tT t (f + 7)).take (i + 1)).filter (elg σ w ch)).length) ?_ ?_
          · rw [hs, Int32.add_zero]
          rintro x22 rfl
          rw [nI_1]; exact ihd (i + 1) (by omega)
    exact ⟨(tT t (f + 7)).length + 1, cnt (tT t (f + 7)).length 0 (by omega)⟩
end Gang3
