/-! rows of hours: how many, the longest -/
theorem shl_nm : ∀ n, n < 4 → (1 : Int32) <<< (nI n &&& 31) = nI (2 ^ n) := by decide
section
variable {F : Nat} {Z : Zt} {S M : St} {nm nv : Nat}
theorem hasState_eq {a : Int32} (hK : KSky S M nm nv) : f_X7_isState Z S a = some (hx (2 ^ nm) a) ∧ f_X11_isState M a = some (hx (2 ^ nm) a) := by
  have hnm := hK.1.2.2
  have h8 : 2 ^ nm ≤ 8 := Nat.pow_le_pow_right (by omega) hnm
  constructor
  · unfold f_X7_isState hx
    rw [hK.1.1, shl_nm nm (by omega)]
    by_cases h1 : ∃ j, j < 2 ^ nm ∧ a = nI j
    · rw [if_pos h1]
      obtain ⟨j, hj, rfl⟩ := h1
      rw [if_neg (nI_pos (by omega)), if_neg (nI_ge hj (by omega))]
    · rw [if_neg h1]
      by_cases q1 : a < 0
      · rw [if_pos q1]
      · obtain ⟨j, hj, rfl⟩ := nI_of q1
        rw [if_neg q1, if_pos ((nI_leI (by omega) hj).mpr (Nat.not_lt.mp fun z => h1 ⟨j, z, rfl⟩))]
  · unfold f_X11_isState
    rw [hK.1.2.1, shl_nm nm (by omega)]
    exact cnt_w rfl (by omega)
theorem many_loop (hF : 200 ≤ F) (hK : KSky S M nm nv) {v h N : Nat} {a : Int32} (hv : v < nv) (hh : h + N < 1073740000) : ∀ (j i n n' : Nat) (c : Int32), i + j = N → j < n → j < n' → ∃ r, f_X7_hoursWith_L6 F Z S (nI v) (nI h) (nI N) a n c (nI i) = some r ∧ f_X11_many_L39 F M (nI v) (nI h) (nI N) a n' c (nI (h + i)) = some r := by
  intro j
  induction j with
  | zero =>
    intro i n n' c hij hn hn'
    obtain ⟨n, rfl⟩ : ∃ q, n = q + 1 := ⟨n - 1, by omega⟩
    obtain ⟨n', rfl⟩ : ∃ q, n' = q + 1 := ⟨n' - 1, by omega⟩
    have e : i = N := by omega
    subst e
    simp only [f_X7_hoursWith_L6, f_X11_many_L39]
    rw [if_pos (nI_le (Nat.le_refl _) (by omega)), nI_add, if_pos (nI_le (Nat.le_refl _) (by omega))]
    exact ⟨c, rfl, rfl⟩
  | succ j ih =>
    intro i n n' c hij hn hn'
    obtain ⟨n, rfl⟩ : ∃ q, n = q + 1 := ⟨n - 1, by omega⟩
    obtain ⟨n', rfl⟩ : ∃ q, n' = q + 1 := ⟨n' - 1, by omega⟩
    simp only [f_X7_hoursWith_L6, f_X11_many_L39]
    rw [if_neg (nI_ge (by omega) (by omega)), nI_add, nI_add, if_neg (nI_ge (by omega) (by omega)), upIn_eq hF hK hv (by omega), stateOf_eq hF hK hv (by omega), Option.bind_some, Option.bind_some, nI_1, nI_1, Nat.add_assoc h i 1]
    by_cases hq : nI (stP M v (h + i) nm) = a
    · rw [if_pos hq, if_pos hq]
      exact ih (i + 1) n n' _ (by omega) (by omega) (by omega)
    · rw [if_neg hq, if_neg hq, Int32.add_zero]
      exact ih (i + 1) n n' _ (by omega) (by omega) (by omega)
theorem rng {x : Int32} (lo hi : Nat) (h1 : hi < 2 ^ 31) (h2 : lo ≤ hi) : (x < nI lo ∨ (¬ x < nI lo ∧ nI hi < x)) ∧ f_X11_within x.toInt64 (nI lo).toInt64 (nI hi).toInt64 = some 0 ∨ ∃ N, lo ≤ N ∧ N ≤ hi ∧ x = nI N ∧ ¬ x < nI lo ∧ ¬ nI hi < x ∧ f_X11_within x.toInt64 (nI lo).toInt64 (nI hi).toInt64 = some 1 := by
  rw [wi32]
  by_cases q1 : x < nI lo
  · refine Or.inl ⟨Or.inl q1, ?_⟩
    rw [if_neg]
    rintro ⟨z, -⟩
    rw [lt_i] at q1
    rw [le_i] at z
    omega
  · by_cases q2 : nI hi < x
    · refine Or.inl ⟨Or.inr ⟨q1, q2⟩, ?_⟩
      rw [if_neg]
      rintro ⟨-, z⟩
      rw [lt_i] at q2
      rw [le_i] at z
      omega
    · rw [lt_i, nI_toInt (by omega)] at q1 q2
      obtain ⟨N, hN, rfl⟩ := nI_of (x := x) (by rw [lt_i]; show ¬ x.toInt < 0; omega)
      rw [nI_toInt hN] at q1 q2
      refine Or.inr ⟨N, by omega, by omega, rfl, nI_nlt (by omega) (by omega), nI_nlt (by omega) (by omega), ?_⟩
      rw [if_pos ⟨nI_le (by omega) (by omega), nI_le (by omega) (by omega)⟩]
theorem rngH {x : Int32} : (x < 1 ∨ (¬ x < 1 ∧ 10000 < x)) ∧ f_X11_areHours x = some 0 ∨ ∃ N, 1 ≤ N ∧ N ≤ 10000 ∧ x = nI N ∧ ¬ x < 1 ∧ ¬ 10000 < x ∧ f_X11_areHours x = some 1 := by
  have hh : ∀ r, isb r = true → f_X11_within x.toInt64 (nI 1).toInt64 (nI 10000).toInt64 = some r → f_X11_areHours x = some r := fun r hb hr => by
    unfold f_X11_areHours
    rw [show (1 : Int64) = (nI 1).toInt64 from rfl, show (10000 : Int64) = (nI 10000).toInt64 from rfl, hr, Option.bind_some, hb, chk_true]
  rcases rng (x := x) 1 10000 (by omega) (by omega) with ⟨hq, hw⟩ | ⟨N, n1, n2, e, q1, q2, hw⟩
  · exact Or.inl ⟨hq, hh 0 rfl hw⟩
  · exact Or.inr ⟨N, n1, n2, e, q1, q2, hh 1 rfl hw⟩
theorem st_many (hF : 200000 ≤ F) : ST_many F (RR F) := by
  intro t S Z M a1 a2 a3 a4 ht hR
  have hR' := hR
  obtain ⟨nm, nv, nd, nb, ⟨hK, -⟩, -⟩ := hR
  have hnv := hK.2.1
  unfold f_X10_many f_X11_many
  rw [isPlace_eq hnv.1 hnv.2.2, isValley_eq hnv.2.1 hnv.2.2, Option.bind_some, Option.bind_some, isHour_eq, (hasState_eq (Z := Z) hK).1, (hasState_eq (Z := Z) hK).2]
  rcases hx_01 (n := nv) (a := a1) with h0 | ⟨v, hv, rfl, h1⟩
  · rw [h0]
    exact ⟨_, rfl, rfl, RR_idle hR'⟩
  rw [h1, if_neg one0, if_neg one0, Option.bind_some]
  rcases hx_01 (n := 1000000) (a := a2) with h0 | ⟨h, hh, rfl, h2⟩
  · rw [h0]
    exact ⟨_, rfl, rfl, RR_idle hR'⟩
  rw [h2, if_neg one0, Option.bind_some, if_neg one0]
  rcases rngH (x := a3) with ⟨hq, hw⟩ | ⟨N, n1, n2, rfl, q1, q2, hw⟩
  · rw [hw]
    rcases hq with hq | ⟨hq1, hq2⟩
    · rw [if_pos hq]
      exact ⟨_, rfl, rfl, RR_idle hR'⟩
    · rw [if_neg hq1, if_pos hq2]
      exact ⟨_, rfl, rfl, RR_idle hR'⟩
  rw [hw, if_neg q1, if_neg q2, Option.bind_some, Option.bind_some, if_neg one0]
  rcases hx_01 (n := 2 ^ nm) (a := a4) with h0 | ⟨b, hb, rfl, h3⟩
  · rw [h0]
    exact ⟨_, rfl, rfl, RR_idle hR'⟩
  rw [h3, if_neg one0, if_neg one0, bind_id]
  obtain ⟨r, e1, e2⟩ := many_loop (F := F) (Z := Z) (by omega) hK (N := N) (a := nI b) hv (show h + N < 1073740000 by omega) N 0 F F 0 (by omega) (by omega) (by omega)
  exact ⟨r, e1, e2, RR_idle hR'⟩
end
