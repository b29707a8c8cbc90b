/-! the model's next token -/
def mK (σ : MS) (p q r v : Int32) : MS := fun j => if j = 34 then upd (σ 34) 0 p else if j = 35 then upd (σ 35) 0 q else if j = 36 then upd (σ 36) 0 r else if j = 37 then upd (σ 37) 0 v else σ j
theorem mK_34 (σ : MS) (p q r v x : Int32) : up2 (mK σ p q r v) 34 0 x = mK σ x q r v := by
  funext j
  show (if j = 34 then upd (upd (σ 34) 0 p) 0 x else mK σ p q r v j) = _
  rw [fa_upd_twice]
  unfold mK
  by_cases h : j = 34
  · rw [if_pos h, if_pos h]
  · rw [if_neg h, if_neg h, if_neg h]
theorem mK_35 (σ : MS) (p q r v x : Int32) : up2 (mK σ p q r v) 35 0 x = mK σ p x r v := by
  funext j
  show (if j = 35 then upd (upd (σ 35) 0 q) 0 x else mK σ p q r v j) = _
  rw [fa_upd_twice]
  unfold mK
  by_cases h : j = 35
  · subst h; rfl
  · simp only [if_neg h]
theorem mK_36 (σ : MS) (p q r v x : Int32) : up2 (mK σ p q r v) 36 0 x = mK σ p q x v := by
  funext j
  show (if j = 36 then upd (upd (σ 36) 0 r) 0 x else mK σ p q r v j) = _
  rw [fa_upd_twice]
  unfold mK
  by_cases h : j = 36
  · subst h; rfl
  · simp only [if_neg h]
theorem mK_37 (σ : MS) (p q r v x : Int32) : up2 (mK σ p q r v) 37 0 x = mK σ p q r x := by
  funext j
  show (if j = 37 then upd (upd (σ 37) 0 v) 0 x else mK σ p q r v j) = _
  rw [fa_upd_twice]
  unfold mK
  by_cases h : j = 37
  · subst h; rfl
  · simp only [if_neg h]
theorem mK_id (σ : MS) : mK σ (σ 34 0) (σ 35 0) (σ 36 0) (σ 37 0) = σ := by
  funext j
  unfold mK
  rw [fa_upd_same rfl, fa_upd_same rfl, fa_upd_same rfl, fa_upd_same rfl]
  by_cases h : j = 34
  · rw [if_pos h, h]
  rw [if_neg h]
  by_cases h : j = 35
  · rw [if_pos h, h]
  rw [if_neg h]
  by_cases h : j = 36
  · rw [if_pos h, h]
  rw [if_neg h]
  by_cases h : j = 37
  · rw [if_pos h, h]
  rw [if_neg h]
