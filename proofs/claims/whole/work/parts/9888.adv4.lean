/-! the model's next token -/
theorem M_sign {σ : MS} {x : Nat} (hx : x < 256) {post : Int32 → MS → Prop} (k : ∀ c, (c = 2 ∨ (40 ≤ c ∧ c ≤ 62)) → sgn x = nI c → post (nI (mof c)) σ) : wp_M_signOf σ (sb x) post := by
  by_cases h : x < 128
  · rw [sb_lo h]
    have ne : ∀ y, y < 256 → ¬ x = y → ¬ nI x = nI y := fun y hy e q => e ((nI_eq (by omega) (by omega)).mp q)
    by_cases h40 : 40 ≤ x ∧ x ≤ 62
    · have all : ∀ y, y < 63 → 40 ≤ y → ∃ c, (c = 2 ∨ (40 ≤ c ∧ c ≤ 62)) ∧ sgn y = nI c ∧ ∀ post : Int32 → MS → Prop, post (nI (mof c)) σ → wp_M_signOf σ (nI y) post := by
        intro y hy hy2
        have dis : y = 40 ∨ y = 41 ∨ y = 42 ∨ y = 43 ∨ y = 44 ∨ y = 45 ∨ y = 46 ∨ y = 47 ∨ y = 48 ∨ y = 49 ∨ y = 50 ∨ y = 51 ∨ y = 52 ∨ y = 53 ∨ y = 54 ∨ y = 55 ∨ y = 56 ∨ y = 57 ∨ y = 58 ∨ y = 59 ∨ y = 60 ∨ y = 61 ∨ y = 62 := by omega
        rcases dis with e | e | e | e | e | e | e | e | e | e | e | e | e | e | e | e | e | e | e | e | e | e | e
        all_goals subst e
        · exact ⟨40, by decide, by decide, fun post k => k⟩
        · exact ⟨41, by decide, by decide, fun post k => k⟩
        · exact ⟨42, by decide, by decide, fun post k => k⟩
        · exact ⟨43, by decide, by decide, fun post k => k⟩
        · exact ⟨44, by decide, by decide, fun post k => k⟩
        · exact ⟨45, by decide, by decide, fun post k => k⟩
        · exact ⟨2, by decide, by decide, fun post k => k⟩
        · exact ⟨47, by decide, by decide, fun post k => k⟩
        · exact ⟨2, by decide, by decide, fun post k => k⟩
        · exact ⟨2, by decide, by decide, fun post k => k⟩
        · exact ⟨2, by decide, by decide, fun post k => k⟩
        · exact ⟨2, by decide, by decide, fun post k => k⟩
        · exact ⟨2, by decide, by decide, fun post k => k⟩
        · exact ⟨2, by decide, by decide, fun post k => k⟩
        · exact ⟨2, by decide, by decide, fun post k => k⟩
        · exact ⟨2, by decide, by decide, fun post k => k⟩
        · exact ⟨2, by decide, by decide, fun post k => k⟩
        · exact ⟨2, by decide, by decide, fun post k => k⟩
        · exact ⟨2, by decide, by decide, fun post k => k⟩
        · exact ⟨59, by decide, by decide, fun post k => k⟩
        · exact ⟨60, by decide, by decide, fun post k => k⟩
        · exact ⟨61, by decide, by decide, fun post k => k⟩
        · exact ⟨62, by decide, by decide, fun post k => k⟩
      obtain ⟨c, c1, c2, c3⟩ := all x (by omega) h40.1
      exact c3 post (k c c1 c2)
    · have hk : post 2 σ := k 2 (Or.inl rfl) (if_neg (by omega))
      exact itF (ne 40 (by omega) (by omega)) (itF (ne 41 (by omega) (by omega)) (itF (ne 42 (by omega) (by omega)) (itF (ne 43 (by omega) (by omega)) (itF (ne 44 (by omega) (by omega)) (itF (ne 45 (by omega) (by omega)) (itF (ne 46 (by omega) (by omega)) (itF (ne 47 (by omega) (by omega)) (itF (ne 48 (by omega) (by omega)) (itF (ne 49 (by omega) (by omega)) (itF (ne 50 (by omega) (by omega)) (itF (ne 51 (by omega) (by omega)) (itF (ne 52 (by omega) (by omega)) (itF (ne 53 (by omega) (by omega)) (itF (ne 54 (by omega) (by omega)) (itF (ne 55 (by omega) (by omega)) (itF (ne 56 (by omega) (by omega)) (itF (ne 57 (by omega) (by omega)) (itF (ne 58 (by omega) (by omega)) (itF (ne 59 (by omega) (by omega)) (itF (ne 60 (by omega) (by omega)) (itF (ne 61 (by omega) (by omega)) (itF (ne 62 (by omega) (by omega)) hk))))))))))))))))))))))
  · have hs := sb_hi (by omega) hx
    have ne : ∀ y : Int32, 0 ≤ y → ¬ sb x = y := fun y hy e => by
      rw [e] at hs
      have a1 := (fa_lt _ _).mp hs
      have a2 := (fa_le _ _).mp hy
      omega
    have hk : post 2 σ := k 2 (Or.inl rfl) (if_neg (by omega))
    exact itF (ne 40 (by decide)) (itF (ne 41 (by decide)) (itF (ne 42 (by decide)) (itF (ne 43 (by decide)) (itF (ne 44 (by decide)) (itF (ne 45 (by decide)) (itF (ne 46 (by decide)) (itF (ne 47 (by decide)) (itF (ne 48 (by decide)) (itF (ne 49 (by decide)) (itF (ne 50 (by decide)) (itF (ne 51 (by decide)) (itF (ne 52 (by decide)) (itF (ne 53 (by decide)) (itF (ne 54 (by decide)) (itF (ne 55 (by decide)) (itF (ne 56 (by decide)) (itF (ne 57 (by decide)) (itF (ne 58 (by decide)) (itF (ne 59 (by decide)) (itF (ne 60 (by decide)) (itF (ne 61 (by decide)) (itF (ne 62 (by decide)) hk))))))))))))))))))))))
def okTk (c : Nat) : Prop := c = 2 ∨ (40 ≤ c ∧ c ≤ 62) ∨ (128 ≤ c ∧ c ≤ 146) ∨ (1000 ≤ c ∧ c < 101000)
section Adv4
variable {t : CS} {σ : MS}
theorem M_adv38 {b : Nat → Nat} {n s : Nat} (h : Tp t σ b n) (hs : s < n) (v : Int32) : ∃ c v', ctk b n s = nI c ∧ okTk c ∧ (1000 ≤ c → v' = nI (c - 1000)) ∧ ∀ (q r : Int32) (post : MS → Prop), post (mK σ (nI (eot b n s)) (nI (mof c)) (nI s) v') → wp_M_advance_38 post (mK σ (nI s) q r v) := by
  obtain ⟨h1, h2, h3, h4⟩ := id h
  have hb := h4 s hs
  have e34 : ∀ p q r v, (mK σ p q r v) 34 0 = p := fun p q r v => (show upd (σ 34) 0 p 0 = p from pk_us)
  have head : ∀ (q r : Int32) (post : MS → Prop), (wp_M_isLetter (mK σ (nI s) q (nI s) v) (sb (b s)) (fun r31 σ30 => if r31 = 0 then (wp_M_isDigit σ30 (sb (b s)) (fun r34 σ33 => if r34 = 0 then (∀ σ36 : MS, σ36 = up2 σ33 34 0 ((σ33 34 0) + (1 : Int32)) → (wp_M_signOf σ36 (sb (b s)) (fun r38 σ37 => ∀ σ39 : MS, σ39 = up2 σ37 35 0 r38 → (post σ39)))) else (∀ σ40 : MS, σ40 = up2 σ33 37 0 (0 : Int32) → (∃ nn : Nat, wp_M_advance_193  post nn σ40 (0 : Int32))))) else (∃ nn : Nat, wp_M_advance_85  post nn σ30 (0 : Int64) (0 : Int32)))) → wp_M_advance_38 post (mK σ (nI s) q r v) := fun q r post k => by
    refine nm_e ?_
    rw [e34, mK_36]
    refine itF ?_ ?_
    · rw [e34]
      show ¬ nI s = σ 25 0
      rw [h2]
      exact fun z => Nat.ne_of_lt hs ((nI_eq (by omega) (by omega)).mp z)
    rw [e34]
    refine ⟨vp_in_nI (by omega) (by omega), nm_r (e' := sb (b s)) ?_ k⟩
    rw [nI_clamp (by omega)]
    exact hb.2.2
  by_cases hL : isL (b s) = true
  · have hE : eot b n s = runE (fun x => isL x) b (n - (s + 0)) (s + 0) := by
      unfold eot
      rw [if_pos hL, show n - (s + 0) = (n - (s + 1)) + 1 by omega]
      show _ = if isL (b s) = true then runE (fun x => isL x) b (n - (s + 1)) (s + 1) else s
      rw [if_pos hL]
    have hall : ∀ j, j < eot b n s - s → isL (b (s + j)) = true := fun j hj => by
      rw [hE] at hj
      exact runE_all (fun x => isL x) b (n - (s + 0)) (s + 0) (s + j) (by omega) (by omega)
    obtain ⟨w1, w2⟩ := wmh_mwd (hsh (ltr b s (eot b n s - s)))
    have ec : ctk b n s = nI (wmh (hsh (ltr b s (eot b n s - s))) 19 0) := by
      unfold ctk
      rw [if_pos hL]
      exact wmn_h hall 19 0 rfl
    have key : mwt b s (eot b n s - s) = nI (mof (wmh (hsh (ltr b s (eot b n s - s))) 19 0)) := by
      unfold mwt
      by_cases q8 : eot b n s - s ≤ 8
      · rw [if_pos q8]; exact w1
      · rw [if_neg q8]
        have : ∀ d k, k + d = 19 → wmh (hsh (ltr b s (eot b n s - s))) d k = 2 := by
          intro d
          induction d with
          | zero => intro k hk; rfl
          | succ d ih =>
            intro k hk
            show (if _ = wdh k then 128 + k else wmh _ d (k + 1)) = 2
            rw [if_neg (fun z => ?_)]
            · exact ih (k + 1) (by omega)
            · obtain ⟨y1, y2⟩ := wdh_ok k (by omega)
              rw [← y1] at z
              have z := congrArg List.length (hsh_inj _ _ (ltr_let _ hall) (ltr_let (wln k) (fun j hj => (y2 j hj).1)) z)
              rw [ltr_len, ltr_len] at z
              have := (wfr_ok k (by omega)).2.2.1
              omega
        rw [this 19 0 rfl]
        rfl
    refine ⟨_, v, ec, ?_, ?_, fun q r post k => head q r post (M_isL hb.1 ?_)⟩
    · rcases w2 with e | e
      · exact Or.inl e
      · exact Or.inr (Or.inr (Or.inl e))
    · intro z
      rcases w2 with e | e
      · omega
      · omega
    · rw [if_pos hL]
      refine itF (by decide) ⟨n - (s + 0) + 1, ?_⟩
      refine M_wd h (n - (s + 0)) 0 (by omega) (fun j hj => absurd hj (Nat.not_lt_zero j)) ?_
      rw [← hE, key]; exact k
  · by_cases hD : isD (b s) = true
    · have hE : eot b n s = runE (fun x => isD x) b (n - (s + 0)) (s + 0) := by
        unfold eot
        rw [if_neg hL, if_pos hD, show n - (s + 0) = (n - (s + 1)) + 1 by omega]
        show _ = if isD (b s) = true then runE (fun x => isD x) b (n - (s + 1)) (s + 1) else s
        rw [if_pos hD]
      have hall := eot_D (n := n) hL hD
      have ec : ctk b n s = nI (if eot b n s - s ≤ 5 then 1000 + nv b s (eot b n s - s) else 2) := by
        unfold ctk
        rw [if_neg hL, if_pos hD]
        by_cases q : eot b n s - s ≤ 5
        · rw [if_pos q, if_pos q]
        · rw [if_neg q, if_neg q]; rfl
      refine ⟨_, nI (nv b s (min (eot b n s - s) 5)), ec, ?_, ?_, fun q r post k => head q r post (M_isL hb.1 ?_)⟩
      · by_cases q : eot b n s - s ≤ 5
        · rw [if_pos q]
          have a1 := nv_lt _ hall
          have a2 : 10 ^ (eot b n s - s) ≤ 10 ^ 5 := Nat.pow_le_pow_right (by decide) q
          exact Or.inr (Or.inr (Or.inr (by omega)))
        · rw [if_neg q]; exact Or.inl rfl
      · intro z
        by_cases q : eot b n s - s ≤ 5
        · rw [if_pos q, show min (eot b n s - s) 5 = eot b n s - s by omega, Nat.add_sub_cancel_left]
        · rw [if_neg q] at z; omega
      · rw [if_neg hL]
        refine itT rfl (M_isD hb.1 ?_)
        rw [if_pos hD]
        refine itF (by decide) (nm_e ?_)
        rw [mK_37]
        refine ⟨n - (s + 0) + 1, ?_⟩
        refine M_num h (n - (s + 0)) 0 (by omega) (fun j hj => absurd hj (Nat.not_lt_zero j)) ?_
        rw [← hE]
        have key : (if eot b n s - s ≤ 5 then (1 : Int32) else 2) = nI (mof (if eot b n s - s ≤ 5 then 1000 + nv b s (eot b n s - s) else 2)) := by
          by_cases q : eot b n s - s ≤ 5
          · rw [if_pos q, if_pos q]
            unfold mof
            rw [if_pos (by omega)]; rfl
          · rw [if_neg q, if_neg q]; rfl
        rw [key]; exact k
    · have hE : eot b n s = s + 1 := by
        unfold eot
        rw [if_neg hL, if_neg hD]
      have sg : ∃ c, (c = 2 ∨ (40 ≤ c ∧ c ≤ 62)) ∧ sgn (b s) = nI c := by
        unfold sgn
        by_cases q : (40 ≤ b s ∧ b s ≤ 47 ∧ b s ≠ 46) ∨ (59 ≤ b s ∧ b s ≤ 62)
        · exact ⟨b s, by omega, by rw [if_pos q]⟩
        · exact ⟨2, Or.inl rfl, by rw [if_neg q]; rfl⟩
      obtain ⟨c, c1, c2⟩ := sg
      refine ⟨c, v, ?_, ?_, ?_, fun q r post k => head q r post (M_isL hb.1 ?_)⟩
      · unfold ctk
        rw [if_neg hL, if_neg hD]; exact c2
      · rcases c1 with e | e
        · exact Or.inl e
        · exact Or.inr (Or.inl e)
      · intro z; omega
      · rw [if_neg hL]
        refine itT rfl (M_isD hb.1 ?_)
        rw [if_neg hD]
        refine itT rfl (nm_e ?_)
        rw [e34, mK_34, nI_1, ← hE]
        refine M_sign hb.1 (fun c' d1 d2 => nm_e ?_)
        rw [mK_35]
        have : c' = c := (nI_eq (by omega) (by omega)).mp (by rw [← d2, ← c2])
        rw [this]; exact k
theorem M_adv {b : Nat → Nat} {n p : Nat} (h : Tp t σ b n) (hp : p ≤ n) (v : Int32) : ∃ e c v', (sk b n p < n → ctk b n (sk b n p) = nI c ∧ okTk c ∧ (1000 ≤ c → v' = nI (c - 1000)) ∧ e = eot b n (sk b n p)) ∧ (sk b n p = n → c = 0 ∧ e = n) ∧ ∀ (q r : Int32) (post : MS → Prop), post (mK σ (nI e) (nI (mof c)) (nI (sk b n p)) v') → wp_M_advance (mK σ (nI p) q r v) post := by
  obtain ⟨h1, h2, h3, h4⟩ := id h
  have e34 : ∀ p q r v, (mK σ p q r v) 34 0 = p := fun p q r v => (show upd (σ 34) 0 p 0 = p from pk_us)
  have skip : ∀ d p, p + d = n → ∀ (q r : Int32) (post : MS → Prop), wp_M_advance_38 post (mK σ (nI (sk b n p)) q r v) → wp_M_advance_0 post (d + 1) (mK σ (nI p) q r v) := by
    intro d
    induction d with
    | zero =>
      intro p hp q r post k
      have e : p = n := by omega
      subst e
      rw [sk_n] at k
      refine itT ?_ k
      rw [e34]
      show σ 25 0 ≤ nI p
      rw [h2]; exact nI_le (Nat.le_refl _) (by omega)
    | succ d ih =>
      intro p hp q r post k
      have hb := h4 p (by omega)
      refine itF ?_ ?_
      · rw [e34]
        show ¬ σ 25 0 ≤ nI p
        rw [h2]; exact nI_ge (by omega) (by omega)
      rw [e34]
      refine ⟨vp_in_nI (by omega) (by omega), ?_⟩
      rw [nI_clamp (by omega)]
      show if σ 24 p = 32 then _ else _
      rw [hb.2.2]
      by_cases q : b p = 32
      · rw [sk_blank (by omega) q] at k
        refine itT (by rw [q]; rfl) (nm_e ?_)
        rw [nI_1, mK_34]
        exact ih (p + 1) (by omega) _ _ post k
      · rw [sk_here (by omega) q] at k
        refine itF (fun z => q ?_) k
        by_cases h128 : b p < 128
        · rw [sb_lo h128] at z
          exact (nI_eq (a := b p) (b := 32) (by omega) (by omega)).mp z
        · have hs := sb_hi (by omega) hb.1
          rw [z] at hs
          exact absurd hs (by decide)
  have hb := sk_b (b := b) hp
  by_cases hs : sk b n p < n
  · obtain ⟨c, v', c1, c2, c3, c4⟩ := M_adv38 h hs v
    exact ⟨_, c, v', fun _ => ⟨c1, c2, c3, rfl⟩, fun e => absurd hs (by omega), fun q r post k => ⟨n - p + 1, skip (n - p) p (by omega) q r post (c4 q r post k)⟩⟩
  · have e : sk b n p = n := by omega
    refine ⟨n, 0, v, fun z => absurd z hs, fun _ => ⟨rfl, rfl⟩, fun q r post k => ⟨n - p + 1, skip (n - p) p (by omega) q r post ?_⟩⟩
    rw [e] at k ⊢
    refine nm_e ?_
    rw [e34, mK_36]
    refine itT ?_ (nm_e ?_)
    · rw [e34]
      show nI n = σ 25 0
      rw [h2]
    · rw [mK_35]; exact k
end Adv4
