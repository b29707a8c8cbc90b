/-! the model's words -/
theorem cmp0 {a c : Nat} (ha : a < 2 ^ 62) (hc : c < 2 ^ 62) : lg_cmp (lN a) (lN c) = 0 ↔ a = c := by
  constructor
  · intro h
    unfold lg_cmp at h
    refine (fb_lN_inj (by omega) (by omega)).mp ?_
    by_cases q : lN a = lN c
    · exact q
    · exfalso
      revert h
      split <;> decide
  · intro h
    subst h
    unfold lg_cmp
    simp
theorem wst {h : Nat} (c : Nat) (hh : h < 2 ^ 62) (hc : c < 2 ^ 62) {A B : Prop} (f : h = c → A) (g : ¬ h = c → B) : if lg_cmp (lN h) (lN c) = 0 then A else B := itE (fun q => f ((cmp0 hh hc).mp q)) (fun q => g (fun e => q ((cmp0 hh hc).mpr e)))
def mwd (h : Nat) : Int32 := if h = 249 then 7 else (if h = 423 then 10 else (if h = 1111 then 20 else (if h = 10631 then 30 else (if h = 9734 then 70 else (if h = 9528 then 71 else (if h = 223456 then 100 else (if h = 332864552 then 101 else (if h = 4419 then 102 else (if h = 583 then 103 else (if h = 11720705 then 104 else (if h = 168984 then 105 else (if h = 355280 then 106 else (if h = 237470 then 107 else (if h = 9626 then 108 else (if h = 2968 then 109 else (if h = 923 then 110 else (if h = 206756339381 then 111 else (if h = 338358928 then 112 else 2))))))))))))))))))
theorem M_wordOf {σ : MS} {h : Nat} (hh : h < 2 ^ 62) {post : Int32 → MS → Prop} (k : post (mwd h) σ) : wp_M_wordOf σ (lN h) post := by
  unfold mwd at k
  refine wst 249 hh (by decide) (fun e => by rw [if_pos e] at k; exact k) (fun e => ?_)
  rw [if_neg e] at k
  refine wst 423 hh (by decide) (fun e => by rw [if_pos e] at k; exact k) (fun e => ?_)
  rw [if_neg e] at k
  refine wst 1111 hh (by decide) (fun e => by rw [if_pos e] at k; exact k) (fun e => ?_)
  rw [if_neg e] at k
  refine wst 10631 hh (by decide) (fun e => by rw [if_pos e] at k; exact k) (fun e => ?_)
  rw [if_neg e] at k
  refine wst 9734 hh (by decide) (fun e => by rw [if_pos e] at k; exact k) (fun e => ?_)
  rw [if_neg e] at k
  refine wst 9528 hh (by decide) (fun e => by rw [if_pos e] at k; exact k) (fun e => ?_)
  rw [if_neg e] at k
  refine wst 223456 hh (by decide) (fun e => by rw [if_pos e] at k; exact k) (fun e => ?_)
  rw [if_neg e] at k
  refine wst 332864552 hh (by decide) (fun e => by rw [if_pos e] at k; exact k) (fun e => ?_)
  rw [if_neg e] at k
  refine wst 4419 hh (by decide) (fun e => by rw [if_pos e] at k; exact k) (fun e => ?_)
  rw [if_neg e] at k
  refine wst 583 hh (by decide) (fun e => by rw [if_pos e] at k; exact k) (fun e => ?_)
  rw [if_neg e] at k
  refine wst 11720705 hh (by decide) (fun e => by rw [if_pos e] at k; exact k) (fun e => ?_)
  rw [if_neg e] at k
  refine wst 168984 hh (by decide) (fun e => by rw [if_pos e] at k; exact k) (fun e => ?_)
  rw [if_neg e] at k
  refine wst 355280 hh (by decide) (fun e => by rw [if_pos e] at k; exact k) (fun e => ?_)
  rw [if_neg e] at k
  refine wst 237470 hh (by decide) (fun e => by rw [if_pos e] at k; exact k) (fun e => ?_)
  rw [if_neg e] at k
  refine wst 9626 hh (by decide) (fun e => by rw [if_pos e] at k; exact k) (fun e => ?_)
  rw [if_neg e] at k
  refine wst 2968 hh (by decide) (fun e => by rw [if_pos e] at k; exact k) (fun e => ?_)
  rw [if_neg e] at k
  refine wst 923 hh (by decide) (fun e => by rw [if_pos e] at k; exact k) (fun e => ?_)
  rw [if_neg e] at k
  refine wst 206756339381 hh (by decide) (fun e => by rw [if_pos e] at k; exact k) (fun e => ?_)
  rw [if_neg e] at k
  refine wst 338358928 hh (by decide) (fun e => by rw [if_pos e] at k; exact k) (fun e => ?_)
  rw [if_neg e] at k
  exact k
