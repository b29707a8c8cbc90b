/-! the class's reader and the model's parser: where they stand -/
def Cx (t0 : CS) (σ0 : MS) (b : Nat → Nat) (n cnt : Nat) (tk : Nat → Nat) (a : Nat) : Prop := Tp t0 σ0 b n ∧ cnt ≤ n ∧ ps b n cnt = n ∧ tF t0 163 3 = nI (cnt + 1) ∧ (∀ i, i < cnt → ps b n i < n ∧ tA t0 3 i = nI (tk i) ∧ okTk (tk i) ∧ ctk b n (ps b n i) = nI (tk i) ∧ tA t0 4 i = nI (ps b n i)) ∧ tk cnt = 0 ∧ tA t0 3 cnt = 0 ∧ tA t0 4 cnt = nI n ∧ a < 40
def AtT (b : Nat → Nat) (n cnt : Nat) (tk : Nat → Nat) (σ : MS) (i : Nat) : Prop := i ≤ cnt ∧ σ 34 0 = nI (if i < cnt then eot b n (ps b n i) else n) ∧ σ 35 0 = nI (mof (tk i)) ∧ σ 36 0 = nI (ps b n i) ∧ (1000 ≤ tk i → σ 37 0 = nI (tk i - 1000))
def stk : List Nat → (Nat → Int32) → Prop
  | [], _ => True
  | m :: K, f => f K.length = nI m ∧ stk K f
def okK (m : Nat) : Prop := m = 5 ∨ (10 ≤ m ∧ m < 70) ∨ (1070 ≤ m ∧ m ≤ 1071) ∨ (2070 ≤ m ∧ m ≤ 2071)
def mofS (c : Nat) : Nat := if c = 1 then 9 else if c = 141 then 8 else mof c
def cdm (a : Nat) (Sm : List Nat) (σ : MS) : Prop := ∀ k, k < Sm.length → σ 32 (220 * a + k) = nI (mofS (Sm.getD k 0)) ∧ (1000 ≤ Sm.getD k 0 → σ 33 (220 * a + k) = nI (Sm.getD k 0 - 1000))
def frm (a : Nat) (σ0 σ : MS) : Prop := (∀ j, j < 32 ∨ 40 < j → σ j = σ0 j) ∧ ∀ k, k < 220 * a ∨ 220 * a + 220 ≤ k → σ 32 k = σ0 32 k ∧ σ 33 k = σ0 33 k
theorem frm_up {a : Nat} {σ0 σ : MS} {k i : Nat} {v : Int32} (hk : 34 ≤ k) (hk2 : k ≤ 40) (h : frm a σ0 σ) : frm a σ0 (up2 σ k i v) := by
  refine ⟨fun j hj => ?_, fun j hj => ?_⟩
  · rw [← h.1 j hj]
    exact if_neg (by omega)
  · have e1 : up2 σ k i v 32 = σ 32 := if_neg (by omega)
    have e2 : up2 σ k i v 33 = σ 33 := if_neg (by omega)
    rw [e1, e2]; exact h.2 j hj
theorem frm_cd {a : Nat} {σ0 σ : MS} {k i : Nat} {v : Int32} (hk : k = 32 ∨ k = 33) (hi : 220 * a ≤ i) (hi2 : i < 220 * a + 220) (h : frm a σ0 σ) : frm a σ0 (up2 σ k i v) := by
  refine ⟨fun j hj => ?_, fun j hj => ?_⟩
  · rw [← h.1 j hj]
    exact if_neg (by omega)
  · rcases hk with e | e
    · subst e
      have e1 : up2 σ 32 i v 32 j = σ 32 j := (show upd (σ 32) i v j = σ 32 j from pk_un (by omega))
      have e2 : up2 σ 32 i v 33 = σ 33 := rfl
      rw [e1, e2]; exact h.2 j hj
    · subst e
      have e1 : up2 σ 33 i v 33 j = σ 33 j := (show upd (σ 33) i v j = σ 33 j from pk_un (by omega))
      have e2 : up2 σ 33 i v 32 = σ 32 := rfl
      rw [e1, e2]; exact h.2 j hj
theorem stk_up {x : Int32} {j : Nat} : ∀ {K : List Nat} {f : Nat → Int32}, K.length ≤ j → stk K f → stk K (upd f j x)
  | [], _, _, _ => trivial
  | m :: K, f, h, hs => by
    have h' : K.length + 1 ≤ j := h
    exact ⟨by rw [pk_un (by omega)]; exact hs.1, stk_up (by omega) hs.2⟩
theorem gd_l {c : Nat} {S : List Nat} {k : Nat} (h : k < S.length) : (S ++ [c]).getD k 0 = S.getD k 0 := by
  rw [List.getD_eq_getElem?_getD, List.getD_eq_getElem?_getD, List.getElem?_append_left h]
theorem gd_r {c : Nat} {S : List Nat} : (S ++ [c]).getD S.length 0 = c := by
  rw [List.getD_eq_getElem?_getD, List.getElem?_append_right (Nat.le_refl _), Nat.sub_self]
  rfl
def tl (m : Nat) : Nat := if m = 5 then 0 else if m < 1000 then m / 10 else 0
def topT : List Nat → Nat
  | [] => 0
  | m :: _ => tl m
def opn : List Nat → Nat
  | [] => 0
  | m :: K => opn K + if m = 5 ∨ m = 30 ∨ 1000 ≤ m then 1 else 0
def may (x : Int32) : List Nat → Int32
  | [] => x
  | m :: K => if m = 5 then 1 else if m < 1000 then may x K else 0
def MSt (σ0 : MS) (b : Nat → Nat) (n cnt : Nat) (tk : Nat → Nat) (a : Nat) (σ : MS) (i : Nat) (K Sm : List Nat) : Prop := frm a σ0 σ ∧ AtT b n cnt tk σ i ∧ σ 39 0 = nI K.length ∧ stk K (σ 38) ∧ (∀ m ∈ K, okK m) ∧ σ 40 0 = nI Sm.length ∧ cdm a Sm σ ∧ K.length + Sm.length ≤ 210
theorem M_tight {σ : MS} {m : Nat} (hm : m < 3000) {post : Int32 → MS → Prop} (k : post (nI (tl m)) σ) : wp_M_tight σ (nI m) post := by
  unfold tl at k
  refine itE (fun q => ?_) (fun q => itE (fun q2 => ?_) (fun q2 => ?_))
  · rw [if_pos ((nI_eq (a := m) (b := 5) (by omega) (by omega)).mp q)] at k
    exact k
  · have h5 : ¬ m = 5 := fun e => q (by rw [e]; rfl)
    have h1 : m < 1000 := Nat.lt_of_not_le (fun e => nI_nlt (a := m) (b := 1000) e (by omega) q2)
    rw [if_neg h5, if_pos h1] at k
    rw [show (10 : Int32) = nI 10 from rfl, pk_div (by omega) (by omega) (by omega)]
    exact k
  · have h5 : ¬ m = 5 := fun e => q (by rw [e]; rfl)
    have h1 : ¬ m < 1000 := fun e => q2 (nI_lt (a := m) (b := 1000) e (by omega))
    rw [if_neg h5, if_neg h1] at k
    exact k
section Pst
variable {t0 : CS} {σ0 : MS} {b : Nat → Nat} {n cnt : Nat} {tk : Nat → Nat} {a : Nat}
theorem MSt_mK {σ : MS} {i j : Nat} {K Sm : List Nat} {p q r v : Int32} (h : MSt σ0 b n cnt tk a σ i K Sm) (hA : AtT b n cnt tk (mK σ p q r v) j) : MSt σ0 b n cnt tk a (mK σ p q r v) j K Sm := by
  obtain ⟨h1, h2, h3, h4, h5, h6, h7, h8⟩ := h
  refine ⟨⟨fun x hx => ?_, fun k hk => h1.2 k hk⟩, hA, h3, h4, h5, h6, h7, h8⟩
  rw [← h1.1 x hx]
  unfold mK
  rw [if_neg (by omega), if_neg (by omega), if_neg (by omega), if_neg (by omega)]
theorem M_next (hC : Cx t0 σ0 b n cnt tk a) {σ : MS} {i : Nat} {K Sm : List Nat} (h : MSt σ0 b n cnt tk a σ i K Sm) (hi : i < cnt) {post : MS → Prop} (k : ∀ σ', MSt σ0 b n cnt tk a σ' (i + 1) K Sm → post σ') : wp_M_advance σ post := by
  obtain ⟨c1, c2, c3, c4, c5, c6, c7, c8, c9⟩ := id hC
  obtain ⟨h1, h2, h3, h4, h5, h6, h7, h8⟩ := id h
  obtain ⟨a1, a2, a3, a4, a5⟩ := id h2
  rw [if_pos hi] at a2
  have hT : Tp t0 σ b n := ⟨c1.1, by rw [h1.1 25 (by omega)]; exact c1.2.1, c1.2.2.1, fun k hk => by rw [h1.1 24 (by omega)]; exact c1.2.2.2 k hk⟩
  have hps := (c5 i hi).1
  have he := eot_b (b := b) hps
  have e1 : sk b n (eot b n (ps b n i)) = ps b n (i + 1) := by
    show _ = (if ps b n i < n then sk b n (eot b n (ps b n i)) else n)
    rw [if_pos hps]
  obtain ⟨e, c, v', d1, d2, d3⟩ := M_adv hT he.2 (σ 37 0)
  rw [e1] at d1 d2 d3
  have d4 := d3 (σ 35 0) (σ 36 0) post
  rw [← a2, mK_id] at d4
  refine d4 (k _ (MSt_mK h ?_))
  refine ⟨hi, ?_, ?_, ?_, ?_⟩
  · show upd (σ 34) 0 (nI e) 0 = _
    rw [pk_us]
    by_cases q : i + 1 < cnt
    · rw [if_pos q, (d1 (c5 _ q).1).2.2.2]
    · rw [if_neg q, (d2 (by rw [show i + 1 = cnt by omega]; exact c3)).2]
  · show upd (σ 35) 0 (nI (mof c)) 0 = _
    rw [pk_us]
    by_cases q : i + 1 < cnt
    · have f1 := d1 (c5 _ q).1
      have f2 := c5 _ q
      rw [f2.2.2.2.1] at f1
      have f3 := f1.2.1
      have f4 := f2.2.2.1
      unfold okTk at f3 f4
      rw [(nI_eq (by omega) (by omega)).mp f1.1]
    · rw [(d2 (by rw [show i + 1 = cnt by omega]; exact c3)).1, show i + 1 = cnt by omega, c6]
  · show upd (σ 36) 0 (nI (ps b n (i + 1))) 0 = _
    rw [pk_us]
  · intro z
    show upd (σ 37) 0 v' 0 = _
    rw [pk_us]
    by_cases q : i + 1 < cnt
    · have f1 := d1 (c5 _ q).1
      have f2 := c5 _ q
      rw [f2.2.2.2.1] at f1
      have f3 := f1.2.1
      have f4 := f2.2.2.1
      unfold okTk at f3 f4
      rw [(nI_eq (by omega) (by omega)).mp f1.1] at z ⊢
      exact f1.2.2.1 z
    · rw [show i + 1 = cnt by omega, c6] at z
      omega
theorem M_lay {σ : MS} {i : Nat} {K Sm : List Nat} (ha : a < 40) (h : MSt σ0 b n cnt tk a σ i K Sm) (hl : K.length + Sm.length < 210) {c : Nat} {w v : Int32} (hw : w = nI (mofS c)) (hv : 1000 ≤ c → v = nI (c - 1000)) {post : MS → Prop} (k : ∀ σ', MSt σ0 b n cnt tk a σ' i K (Sm ++ [c]) → post σ') : wp_M_lay σ (nI a) w v post := by
  obtain ⟨h1, h2, h3, h4, h5, h6, h7, h8⟩ := h
  have e : (220 : Int32) * nI a + σ 40 0 = nI (220 * a + Sm.length) := by
    rw [h6, show (220 : Int32) * nI a = nI (220 * a) from pk_mul 220 a, nI_add]
  unfold wp_M_lay
  rw [e, nI_clamp (by omega)]
  refine ⟨vp_in_nI (by omega) (by omega), nm_e ?_⟩
  have e2 : (220 : Int32) * nI a + (up2 σ 32 (220 * a + Sm.length) w) 40 0 = nI (220 * a + Sm.length) := e
  rw [e2, nI_clamp (by omega)]
  refine ⟨vp_in_nI (by omega) (by omega), nm_e (nm_e ?_)⟩
  have e3 : (up2 (up2 σ 32 (220 * a + Sm.length) w) 33 (220 * a + Sm.length) v) 40 0 + 1 = nI (Sm ++ [c]).length := by
    show σ 40 0 + 1 = _
    rw [h6, nI_1, List.length_append]; rfl
  rw [e3]
  refine k _ ⟨frm_up (by omega) (by omega) (frm_cd (Or.inr rfl) (by omega) (by omega) (frm_cd (Or.inl rfl) (by omega) (by omega) h1)), h2, h3, h4, h5, ?_, fun j hj => ?_, ?_⟩
  · show upd (σ 40) 0 _ 0 = _
    exact pk_us
  · rw [List.length_append] at hj
    have hj : j < Sm.length + 1 := hj
    show upd (σ 32) (220 * a + Sm.length) w (220 * a + j) = _ ∧ (_ → upd (σ 33) (220 * a + Sm.length) v (220 * a + j) = _)
    by_cases q : j = Sm.length
    · rw [q, gd_r, pk_us, pk_us]
      exact ⟨hw, hv⟩
    · rw [gd_l (by omega), pk_un (by omega), pk_un (by omega)]
      exact h7 j (by omega)
  · rw [List.length_append]
    show K.length + (Sm.length + 1) ≤ 210
    omega
end Pst
