/-! the world of a new model (gen/mi.py) -/
def mB (a q1 q4 q7 q10 q13 q16 q19 q22 q25 q28 q31 q34 q37 q40 q43 q46 q49 q52 q55 q58 q61 q64 q67 q70 q73 q76 q79 q82 q85 q88 q91 q94 q97 q100 q103 q106 q109 q112 q115 q118 q121 q124 q127 q130 q133 q136 q139 q142 q145 q148 q151 q154 q157 q160 : Nat) (k : Nat) : Nat := match k with
  | 69 => a
  | 3 => q1
  | 4 => q4
  | 6 => q7
  | 7 => q10
  | 8 => q13
  | 9 => q16
  | 11 => q19
  | 12 => q22
  | 13 => q25
  | 14 => q28
  | 15 => q31
  | 16 => q34
  | 17 => q37
  | 18 => q40
  | 19 => q43
  | 20 => q46
  | 21 => q49
  | 22 => q52
  | 23 => q55
  | 24 => q58
  | 27 => q61
  | 28 => q64
  | 29 => q67
  | 30 => q70
  | 31 => q73
  | 32 => q76
  | 33 => q79
  | 38 => q82
  | 41 => q85
  | 42 => q88
  | 44 => q91
  | 45 => q94
  | 46 => q97
  | 47 => q100
  | 48 => q103
  | 49 => q106
  | 50 => q109
  | 51 => q112
  | 52 => q115
  | 53 => q118
  | 54 => q121
  | 55 => q124
  | 56 => q127
  | 57 => q130
  | 58 => q133
  | 59 => q136
  | 61 => q139
  | 62 => q142
  | 63 => q145
  | 64 => q148
  | 65 => q151
  | 66 => q154
  | 67 => q157
  | 68 => q160
  | _ => 0
theorem FX.world {L0 L : List Nat} {f0 f : Nat → va_E} {a : Nat} {es : List (Nat × va_E)} (h : FX L0 f0 a L f es) {D : va_G} {A : Nat → Prop} {H : Heap} (hP : va_P D vwCl (va_pl L f) H) (hD : va_D A (va_pl L f)) : va_P D vwCl es H ∧ va_D A es ∧ ∀ q ∈ es.map Prod.fst, q ∈ L := by
  refine ⟨fun k q hk => ?_, ⟨fun i j x y hi hj e => ?_, fun k q hk => ?_⟩, fun q hq => ?_⟩
  · obtain ⟨b, e⟩ := q
    obtain ⟨m1, v1⟩ := h.2.2.1 k b e hk
    obtain ⟨i, hi⟩ := va_pl_get (X := []) (f := f) m1
    rw [v1] at hi
    exact hP i _ hi
  · obtain ⟨b, e1⟩ := x
    obtain ⟨c, e2⟩ := y
    have e : b = c := e
    subst e
    exact h.2.2.2.1 i j b e1 e2 hi hj
  · obtain ⟨b, e⟩ := q
    exact pl_D hD (h.2.2.1 k b e hk).1
  · obtain ⟨x, hx, rfl⟩ := List.mem_map.mp hq
    obtain ⟨k, hk⟩ := List.getElem?_of_mem hx
    exact (h.2.2.1 k x.1 x.2 hk).1
def σ0 : MS := fun _ _ => 0
set_option maxHeartbeats 4000000 in
set_option maxRecDepth 100000 in
theorem mi_world {Z : Nat → ClassId} {L0 : List Nat} {f0 : Nat → va_E} {a : Nat} {u : P2} (h : miQ Z L0 f0 a u) {D : va_G} {A : Nat → Prop} {H : Heap} (hP : va_P D vwCl (va_pl u.1 u.2) H) (hD : va_D A (va_pl u.1 u.2)) : ∃ b : Nat → Nat, b 69 = a ∧ va_P D vwCl (mW Z b σ0) H ∧ va_D A (mW Z b σ0) ∧ ∀ q ∈ mAd b, q ∈ u.1 := by
  obtain ⟨q1, q4, q7, q10, q13, q16, q19, q22, q25, q28, q31, q34, q37, q40, q43, q46, q49, q52, q55, q58, q61, q64, q67, q70, q73, q76, q79, q82, q85, q88, q91, q94, q97, q100, q103, q106, q109, q112, q115, q118, q121, q124, q127, q130, q133, q136, q139, q142, q145, q148, q151, q154, q157, q160, hX⟩ := h
  exact ⟨mB a q1 q4 q7 q10 q13 q16 q19 q22 q25 q28 q31 q34 q37 q40 q43 q46 q49 q52 q55 q58 q61 q64 q67 q70 q73 q76 q79 q82 q85 q88 q91 q94 q97 q100 q103 q106 q109 q112 q115 q118 q121 q124 q127 q130 q133 q136 q139 q142 q145 q148 q151 q154 q157 q160, rfl, hX.world hP hD⟩
