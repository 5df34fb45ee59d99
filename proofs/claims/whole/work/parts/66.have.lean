/-! the start; what there is -/
theorem RR_0 {F : Nat} : RR F 0 S0 Z0 M0 := by
  refine ⟨0, 0, 0, 0, ⟨⟨⟨rfl, rfl, by omega⟩, ⟨rfl, rfl, by omega⟩, ⟨rfl, rfl, rfl, rfl⟩, fun k hk => ⟨rfl, rfl⟩, fun k hk => absurd hk (Nat.not_lt_zero _), fun i hi => ⟨0, 0, by omega, by omega, rfl, rfl⟩, fun i hi => ⟨0, by omega, rfl, fun _ => rfl⟩⟩, ⟨⟨rfl, rfl, by omega⟩, ⟨rfl, rfl⟩, fun d hd => ⟨rfl, rfl⟩, fun d hd => absurd hd (Nat.not_lt_zero _)⟩, ⟨rfl, 0, by omega, rfl, rfl⟩, ⟨0, by omega, rfl, rfl, fun p hp => absurd hp (Nat.not_lt_zero _)⟩, ⟨0, 0, by omega, by omega, rfl, rfl, rfl, rfl, fun i hi => absurd hi (Nat.not_lt_zero _)⟩, ⟨⟨rfl, rfl, by omega⟩, ⟨rfl, rfl⟩, fun b hb => absurd hb (Nat.not_lt_zero _), rfl, 0, by omega, rfl⟩, fun d hd => Or.inl ?_, fun k hk => Or.inl ⟨rfl, ?_⟩⟩, ⟨Or.inl rfl, 0, by omega, rfl, fun i hi => ⟨0, by omega, rfl⟩⟩, ⟨Or.inl rfl, 0, by omega, rfl, fun i hi => ⟨0, by omega, rfl⟩⟩, ⟨0, by omega, rfl, fun d hd => ⟨0, by omega, rfl, fun _ => rfl⟩, fun k hk => ⟨0, by omega, rfl⟩, fun d hd => absurd hd (Nat.not_lt_zero _)⟩⟩
  · match d, hd with
    | 0, _ => exact ⟨rfl, rfl⟩
    | 1, _ => exact ⟨rfl, rfl⟩
    | 2, _ => exact ⟨rfl, rfl⟩
    | 3, _ => exact ⟨rfl, rfl⟩
    | 4, _ => exact ⟨rfl, rfl⟩
    | 5, _ => exact ⟨rfl, rfl⟩
  · match k, hk with
    | 0, _ => rfl
    | 1, _ => rfl
    | 2, _ => rfl
def hx (n : Nat) (a : Int32) : Int32 := if ∃ j, j < n ∧ a = nI j then 1 else 0
theorem hx_y {n j : Nat} (hj : j < n) : hx n (nI j) = 1 := if_pos ⟨j, hj, rfl⟩
theorem hx_n {n : Nat} {a : Int32} (ha : ¬ ∃ j, j < n ∧ a = nI j) : hx n a = 0 := if_neg ha
section
variable {Z : Zt} {S M : St} {n : Nat} {a : Int32}
theorem hasMoon_eq (hn : S.1 148 = nI n) (h3 : n ≤ 3) : f_X7_hasMoon Z S a = some (hx n a) := has_w hn (N := 3) (n2 := 3) rfl h3 (by omega)
theorem isMoon_eq (hn : M.1 6 = nI n) (h3 : n ≤ 3) : f_X11_isMoon M a = some (hx n a) := cnt_w hn (by omega)
theorem hasValley_eq (hn : S.1 149 = nI n) (h3 : n ≤ 5) : f_X7_hasValley Z S a = some (hx n a) := has_w hn (N := 5) (n2 := 5) rfl h3 (by omega)
theorem isValley_eq (hn : M.1 8 = nI n) (h3 : n ≤ 5) : f_X11_isValley M a = some (hx n a) := cnt_w hn (by omega)
theorem hasDeed_eq (hn : S.1 24 = nI n) (h3 : n ≤ 12) : f_X1_has Z S a = some (hx n a) := has_w hn (N := 12) (n2 := 12) rfl h3 (by omega)
theorem isDeed_eq (hn : M.1 22 = nI n) (h3 : n ≤ 12) : f_X11_isDeed M a = some (hx n a) := cnt_w hn (by omega)
theorem hasBody_eq (hn : S.1 2 = nI n) (h3 : n ≤ 50) : f_X0_has Z S a = some (hx n a) := has_w hn (N := 50) (n2 := 50) rfl h3 (by omega)
theorem isBody_eq (hn : M.1 34 = nI n) (h3 : n ≤ 50) : f_X11_isBody M a = some (hx n a) := cnt_w hn (by omega)
theorem hasVow_eq (hn : S.1 186 = nI n) (h3 : n ≤ 20) : f_X9_has Z S a = some (hx n a) := has_w hn (N := 20) (n2 := 20) rfl h3 (by omega)
theorem isVow_eq (hn : M.1 31 = nI n) (h3 : n ≤ 20) : f_X11_isPromise M a = some (hx n a) := cnt_w hn (by omega)
theorem hasShelf_eq : f_X6_has a = some (hx 6 a) := by
  unfold f_X6_has hx
  by_cases h1 : ∃ j, j < 6 ∧ a = nI j
  · rw [if_pos h1]
    obtain ⟨j, hj, rfl⟩ := h1
    rw [if_neg (nI_pos (by omega)), show (6 : Int32) = nI 6 from rfl, if_neg (nI_ge hj (by omega))]
  · rw [if_neg h1]
    by_cases q1 : a < 0
    · rw [if_pos q1]
    · obtain ⟨j, hj, rfl⟩ := nI_of q1
      rw [if_neg q1, show (6 : Int32) = nI 6 from rfl, if_pos ((nI_leI (by omega) hj).mpr (Nat.not_lt.mp fun z => h1 ⟨j, z, rfl⟩))]
theorem isShelf_eq : f_X11_isShelf a = some (hx 6 a) := by
  have := cnt_w (x := a) (m := nI 6) (n := 6) rfl (by omega)
  exact this
theorem isHour_eq : f_X11_isHour a = some (hx 1000000 a) := by
  have := cnt_w (x := a) (m := nI 1000000) (n := 1000000) rfl (by omega)
  exact this
theorem isPlace_eq {v : Int32} (hn : S.1 149 = nI n) (h3 : n ≤ 5) : f_X10_isPlace Z S v a = some (if hx n v = 0 then 0 else hx 1000000 a) := by
  unfold f_X10_isPlace
  rw [hasValley_eq hn h3, Option.bind_some]
  by_cases q : hx n v = 0
  · rw [if_pos q, if_pos q]
  · rw [if_neg q, if_neg q]
    unfold hx
    by_cases h1 : ∃ j, j < 1000000 ∧ a = nI j
    · rw [if_pos h1]
      obtain ⟨j, hj, rfl⟩ := h1
      rw [if_neg (nI_pos (by omega)), show (999999 : Int32) = nI 999999 from rfl, if_neg (nI_nlt (by omega) (by omega))]
    · rw [if_neg h1]
      by_cases q1 : a < 0
      · rw [if_pos q1]
      · obtain ⟨j, hj, rfl⟩ := nI_of q1
        rw [if_neg q1, show (999999 : Int32) = nI 999999 from rfl, if_pos ((nI_ltI (by omega) hj).mpr (Nat.not_le.mp fun z => h1 ⟨j, by omega, rfl⟩))]
theorem hx_01 : hx n a = 0 ∨ ∃ j, j < n ∧ a = nI j ∧ hx n a = 1 := by
  by_cases h1 : ∃ j, j < n ∧ a = nI j
  · obtain ⟨j, hj, rfl⟩ := h1
    exact Or.inr ⟨j, hj, rfl, hx_y hj⟩
  · exact Or.inl (hx_n h1)
theorem bind_id {τ : Type} {e : Option τ} : (e.bind fun r => some r) = e := by cases e <;> rfl
theorem bind_id2 {τ σ : Type} {e : Option (τ × σ)} : (e.bind fun r => some (r.1, r.2)) = e := by cases e <;> rfl
theorem bind_id3 {τ σ ρ : Type} {e : Option (τ × σ × ρ)} : (e.bind fun r => some (r.1, r.2.1, r.2.2)) = e := by cases e <;> rfl
end
