/-! reading: all of a piece -/
section
variable {F : Nat} {Z : Zt} {tx : Nat → Int32} {L : Nat}
theorem knot_up {o k : Nat} (hF : 200 ≤ F) (h5 : ∀ d d', 7 * k + 1 ≤ d → 6 * k + 1 ≤ d' → ∀ S p s, RdI tx L S p s → Spec tx L o S p s (R_C_0 F Z d 5 S (nI o) 0) (fun M => R_X11_0 F d' 5 M)) : ∀ t, t ≤ 5 → ∀ d d', 7 * k + 6 - t ≤ d → 6 * k + 6 - t ≤ d' → ∀ S p s, RdI tx L S p s → Spec tx L o S p s (R_C_0 F Z d t S (nI o) 0) (fun M => R_X11_0 F d' t M) := by
  have h4 : ∀ d d', 7 * k + 2 ≤ d → 6 * k + 2 ≤ d' → ∀ S p s, RdI tx L S p s → Spec tx L o S p s (R_C_0 F Z d 4 S (nI o) 0) (fun M => R_X11_0 F d' 4 M) := by
    intro d d' hd hd' S p s hI
    obtain ⟨d, rfl⟩ : ∃ q, d = q + 1 := ⟨d - 1, by omega⟩
    obtain ⟨d', rfl⟩ : ∃ q, d' = q + 1 := ⟨d' - 1, by omega⟩
    exact Spec.loop (lc := fun r1 => f_X5_product_L8 F Z (R_C_0 F Z d) (nI o) F r1.2 r1.1 0) (lm := fun r1 => (f_X11_byteAt r1.2).bind fun r2 => f_X11_product_L10 F (R_X11_0 F d') F r1.2 r1.1 r2) (h5 d d' (by omega) (by omega) S p s hI) (fun r S' p' s' hI' hE => prod_loop (h5 d d' (by omega) (by omega)) _ S' p' s' r 0 F F hI' hE rfl (Nat.zero_le _) (by have := hI'.2.2.1; omega) (by have := hI'.2.2.1; omega))
  have h3 : ∀ d d', 7 * k + 3 ≤ d → 6 * k + 3 ≤ d' → ∀ S p s, RdI tx L S p s → Spec tx L o S p s (R_C_0 F Z d 3 S (nI o) 0) (fun M => R_X11_0 F d' 3 M) := by
    intro d d' hd hd' S p s hI
    obtain ⟨d, rfl⟩ : ∃ q, d = q + 1 := ⟨d - 1, by omega⟩
    obtain ⟨d', rfl⟩ : ∃ q, d' = q + 1 := ⟨d' - 1, by omega⟩
    exact Spec.loop (lc := fun r1 => f_X5_sum_L8 F Z (R_C_0 F Z d) (nI o) F r1.2 r1.1 0) (lm := fun r1 => f_X11_sums_L5 F (R_X11_0 F d') F r1.2 r1.1) (h4 d d' (by omega) (by omega) S p s hI) (fun r S' p' s' hI' hE => sum_loop (h4 d d' (by omega) (by omega)) _ S' p' s' r 0 F F hI' hE rfl (Nat.zero_le _) (by have := hI'.2.2.1; omega) (by have := hI'.2.2.1; omega))
  have h2 : ∀ d d', 7 * k + 4 ≤ d → 6 * k + 4 ≤ d' → ∀ S p s, RdI tx L S p s → Spec tx L o S p s (R_C_0 F Z d 2 S (nI o) 0) (fun M => R_X11_0 F d' 2 M) := by
    intro d d' hd hd' S p s hI
    obtain ⟨d, rfl⟩ : ∃ q, d = q + 1 := ⟨d - 1, by omega⟩
    obtain ⟨d', rfl⟩ : ∃ q, d' = q + 1 := ⟨d' - 1, by omega⟩
    exact Spec.loop (lc := fun r1 => (f_X5_ahead Z r1.2).bind fun r2 => (if r2 = 60 then f_X5_compared_B29 F Z (R_C_0 F Z d) (nI o) r1.2 r1.1 r2 else if r2 = 61 then f_X5_compared_B29 F Z (R_C_0 F Z d) (nI o) r1.2 r1.1 r2 else if r2 = 62 then f_X5_compared_B29 F Z (R_C_0 F Z d) (nI o) r1.2 r1.1 r2 else some (r1.1, r1.2))) (lm := fun r1 => (f_X11_byteAt r1.2).bind fun r2 => (if (0 : Int32) ≤ (r1.2.1 19) then some (r1.1, r1.2) else if r2 = 60 then f_X11_compared_B37 F (R_X11_0 F d') r1.2 r1.1 r2 else if r2 = 61 then f_X11_compared_B37 F (R_X11_0 F d') r1.2 r1.1 r2 else if r2 = 62 then f_X11_compared_B37 F (R_X11_0 F d') r1.2 r1.1 r2 else some (r1.1, r1.2))) (h3 d d' (by omega) (by omega) S p s hI) (fun r S' p' s' hI' hE => cmp_one (h3 d d' (by omega) (by omega)) hI' hE)
  have h1 : ∀ d d', 7 * k + 5 ≤ d → 6 * k + 5 ≤ d' → ∀ S p s, RdI tx L S p s → Spec tx L o S p s (R_C_0 F Z d 1 S (nI o) 0) (fun M => R_X11_0 F d' 1 M) := by
    intro d d' hd hd' S p s hI
    obtain ⟨d, rfl⟩ : ∃ q, d = q + 1 := ⟨d - 1, by omega⟩
    obtain ⟨d', rfl⟩ : ∃ q, d' = q + 1 := ⟨d' - 1, by omega⟩
    exact Spec.loop (lc := fun r1 => f_X5_allOf_L8 F Z (R_C_0 F Z d) (nI o) F r1.2 r1.1 0) (lm := fun r1 => f_X11_both_L5 F (R_X11_0 F d') F r1.2 r1.1) (h2 d d' (by omega) (by omega) S p s hI) (fun r S' p' s' hI' hE => all_loop (h2 d d' (by omega) (by omega)) _ S' p' s' r 0 F F hI' hE rfl (Nat.zero_le _) (by have := hI'.2.2.1; omega) (by have := hI'.2.2.1; omega))
  have h0 : ∀ d d', 7 * k + 6 ≤ d → 6 * k + 6 ≤ d' → ∀ S p s, RdI tx L S p s → Spec tx L o S p s (R_C_0 F Z d 0 S (nI o) 0) (fun M => R_X11_0 F d' 0 M) := by
    intro d d' hd hd' S p s hI
    obtain ⟨d, rfl⟩ : ∃ q, d = q + 1 := ⟨d - 1, by omega⟩
    obtain ⟨d', rfl⟩ : ∃ q, d' = q + 1 := ⟨d' - 1, by omega⟩
    exact Spec.loop (lc := fun r1 => f_X5_anyOf_L8 F Z (R_C_0 F Z d) (nI o) F r1.2 r1.1 0) (lm := fun r1 => f_X11_either_L5 F (R_X11_0 F d') F r1.2 r1.1) (h1 d d' (by omega) (by omega) S p s hI) (fun r S' p' s' hI' hE => any_loop (h1 d d' (by omega) (by omega)) _ S' p' s' r 0 F F hI' hE rfl (Nat.zero_le _) (by have := hI'.2.2.1; omega) (by have := hI'.2.2.1; omega))
  intro t ht d d' hd hd' S p s hI
  match t, ht with
  | 0, _ => exact h0 d d' (by omega) (by omega) S p s hI
  | 1, _ => exact h1 d d' (by omega) (by omega) S p s hI
  | 2, _ => exact h2 d d' (by omega) (by omega) S p s hI
  | 3, _ => exact h3 d d' (by omega) (by omega) S p s hI
  | 4, _ => exact h4 d d' (by omega) (by omega) S p s hI
  | 5, _ => exact h5 d d' (by omega) (by omega) S p s hI
theorem knot (hF : 200 ≤ F) : ∀ k, k ≤ 6 → ∀ t, t ≤ 5 → ∀ d d', 7 * k + 6 - t ≤ d → 6 * k + 6 - t ≤ d' → ∀ S p s, RdI tx L S p s → Spec tx L (6 - k) S p s (R_C_0 F Z d t S (nI (6 - k)) 0) (fun M => R_X11_0 F d' t M) := by
  intro k
  induction k with
  | zero =>
    intro hk
    have h5 : ∀ d d', 1 ≤ d → 1 ≤ d' → ∀ S p s, RdI tx L S p s → Spec tx L 6 S p s (R_C_0 F Z d 5 S (nI 6) 0) (fun M => R_X11_0 F d' 5 M) := by
      intro d d' hd hd' S p s hI
      obtain ⟨d, rfl⟩ : ∃ q, d = q + 1 := ⟨d - 1, by omega⟩
      obtain ⟨d', rfl⟩ : ∃ q, d' = q + 1 := ⟨d' - 1, by omega⟩
      exact op_ok (g := R_C_0 F Z 0) (g6 := R_C_0 F Z d) (gm := R_X11_0 F d') (by omega) (Nat.le_refl 6) (fun z => absurd z (by decide)) (fun z => absurd z (by decide)) hI
    exact knot_up hF h5
  | succ k ih =>
    intro hk
    have ih := ih (by omega)
    have hko : 6 - (k + 1) + 1 = 6 - k := by omega
    have h5 : ∀ d d', 7 * (k + 1) + 1 ≤ d → 6 * (k + 1) + 1 ≤ d' → ∀ S p s, RdI tx L S p s → Spec tx L (6 - (k + 1)) S p s (R_C_0 F Z d 5 S (nI (6 - (k + 1))) 0) (fun M => R_X11_0 F d' 5 M) := by
      intro d d' hd hd' S p s hI
      obtain ⟨d, rfl⟩ : ∃ q, d = q + 2 := ⟨d - 2, by omega⟩
      obtain ⟨d', rfl⟩ : ∃ q, d' = q + 1 := ⟨d' - 1, by omega⟩
      refine op_ok (g := R_C_0 F Z d) (g6 := R_C_0 F Z (d + 1)) (gm := R_X11_0 F d') (by omega) (by omega) (fun _ _ _ _ => rfl) (fun _ => ?_) hI
      rw [hko]
      exact ⟨fun S p s hI => ih 0 (by omega) d d' (by omega) (by omega) S p s hI, fun S p s hI => ih 5 (by omega) d d' (by omega) (by omega) S p s hI⟩
    exact knot_up hF h5
end
