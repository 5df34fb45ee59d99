/-! rows of hours: how many, the longest -/
theorem shl_nm : ∀ n, n < 4 → (1 : Int32) <<< (nI n &&& 31) = nI (2 ^ n) := by decide
section
variable {F : Nat} {Z : Zt} {S M : St} {nm nv : Nat}
theorem hasState_eq {a : Int32} (hK : KSky S M nm nv) : f_X7_isState Z S a = some (hx (2 ^ nm) a) ∧ f_X11_isState M a = some (hx (2 ^ nm) a) := by
  have hnm := hK.1.2.2
  have h8 : 2 ^ nm ≤ 8 := Nat.pow_le_pow_right (by omega) hnm
  constructor
  · unfold f_X7_isState hx
    rw [hK.1.1, shl_nm nm (by omega)]
    by_cases h1 : ∃ j, j < 2 ^ nm ∧ a = nI j
    · rw [if_pos h1]
      obtain ⟨j, hj, rfl⟩ := h1
      rw [if_neg (nI_pos (by omega)), if_neg (nI_ge hj (by omega))]
    · rw [if_neg h1]
      by_cases q1 : a < 0
      · rw [if_pos q1]
      · obtain ⟨j, hj, rfl⟩ := nI_of q1
        rw [if_neg q1, if_pos ((nI_leI (by omega) hj).mpr (Nat.not_lt.mp fun z => h1 ⟨j, z, rfl⟩))]
  · unfold f_X11_isState
    rw [hK.1.2.1, shl_nm nm (by omega)]
    exact cnt_w rfl (by omega)
theorem many_loop (hF : 200 ≤ F) (hK : KSky S M nm nv) {v h N : Nat} {a : Int32} (hv : v < nv) (hh : h + N < 1073740000) : ∀ (j i n n' : Nat) (c : Int32), i + j = N → j < n → j < n' → ∃ r, f_X7_hoursWith_L6 F Z S (nI v) (nI h) (nI N) a n c (nI i) = some r ∧ f_X11_many_L39 F M (nI v) (nI h) (nI N) a n' c (nI (h + i)) = some r := by
  intro j
  induction j with
  | zero =>
    intro i n n' c hij hn hn'
    obtain ⟨n, rfl⟩ : ∃ q, n = q + 1 := ⟨n - 1, by omega⟩
    obtain ⟨n', rfl⟩ : ∃ q, n' = q + 1 := ⟨n' - 1, by omega⟩
    have e : i = N := by omega
    subst e
    simp only [f_X7_hoursWith_L6, f_X11_many_L39]
    rw [if_pos (nI_le (Nat.le_refl _) (by omega)), nI_add, if_pos (nI_le (Nat.le_refl _) (by omega))]
    exact ⟨c, rfl, rfl⟩
  | succ j ih =>
    intro i n n' c hij hn hn'
    obtain ⟨n, rfl⟩ : ∃ q, n = q + 1 := ⟨n - 1, by omega⟩
    obtain ⟨n', rfl⟩ : ∃ q, n' = q + 1 := ⟨n' - 1, by omega⟩
    simp only [f_X7_hoursWith_L6, f_X11_many_L39]
    rw [if_neg (nI_ge (by omega) (by omega)), nI_add, nI_add, if_neg (nI_ge (by omega) (by omega)), upIn_eq hF hK hv (by omega), stateOf_eq hF hK hv (by omega), Option.bind_some, Option.bind_some, nI_1, nI_1, Nat.add_assoc h i 1]
    by_cases hq : nI (stP M v (h + i) nm) = a
    · rw [if_pos hq, if_pos hq]
      exact ih (i + 1) n n' _ (by omega) (by omega) (by omega)
    · rw [if_neg hq, if_neg hq, Int32.add_zero]
      exact ih (i + 1) n n' _ (by omega) (by omega) (by omega)
end
