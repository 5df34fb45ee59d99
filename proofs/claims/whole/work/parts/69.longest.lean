section
variable {F : Nat} {Z : Zt} {S M : St} {nm nv : Nat}
theorem m2_ne {n : Nat} (hn : n < 2 ^ 31) : ¬ nI n = -2 := fun q => by
  have hh := nI_toInt hn
  rw [q] at hh
  have : (-2 : Int32).toInt = -2 := rfl
  omega
/-- both, behind one hour more -/
theorem long_step {h N i lo wh r : Nat} {v : Int32} {st : Int32} {K1 K2 : Int32 → Int32 → Int32 → Int32 → Int32 → Option Int32} (hh : h + N < 1073740000) (hi : i < N) (hr : 1 ≤ r) (hr2 : r ≤ i + 1) (hlo : lo ≤ i) {a4 : Int32}
    (hK : ∀ lo' wh' : Nat, lo' ≤ i + 1 → ∃ q, K1 (nI lo') (nI wh') (nI r) st (nI (i + 1)) = some q ∧ K2 (nI lo') (nI wh') (nI (h + i + 1 - r)) st (nI (h + (i + 1))) = some q) :
    ∃ q, f_X2_longestRow_B51 F Z S v (nI h) (nI N) a4 K1 (nI lo) (nI wh) (nI i) st (nI r) = some q ∧ f_X11_longest_B86 F M v (nI h) (nI N) a4 K2 (nI lo) (nI wh) (nI (h + i)) st (nI (h + i + 1 - r)) = some q := by
  have e1 : nI (h + i) - nI (h + i + 1 - r) + 1 = nI r := by
    rw [pk_sub (by omega), nI_1]
    congr 1
    omega
  have e2 : nI h + nI i - nI r + 1 = nI (h + i + 1 - r) := by
    rw [nI_add]
    by_cases hrr : r ≤ h + i
    · rw [pk_sub hrr, nI_1]
      congr 1
      omega
    · have e3 : r = h + i + 1 := by omega
      subst e3
      rw [Nat.sub_self, ← nI_1, ← Int32.sub_sub, Int32.sub_self]
      rfl
  unfold f_X2_longestRow_B51 f_X11_longest_B86
  rw [e1, e2, nI_1, nI_1, Nat.add_assoc h i 1]
  by_cases hq : nI r ≤ nI lo
  · rw [if_pos hq, if_pos hq]
    exact hK lo wh (by omega)
  · rw [if_neg hq, if_neg hq]
    exact hK r (h + i + 1 - r) (by omega)
theorem long_loop (hF : 200 ≤ F) (hK : KSky S M nm nv) {v h N : Nat} {a4 : Int32} (hv : v < nv) (hh : h + N < 1073740000) : ∀ (j i n n' lo wh r : Nat) (st : Int32), i + j = N → j < n → j < n' → 1 ≤ r → r ≤ i → lo ≤ i → ∃ q, f_X2_longestRow_L16 F Z S (nI v) (nI h) (nI N) a4 n (nI lo) (nI wh) (nI r) st (nI i) = some q ∧ f_X11_longest_L55 F M (nI v) (nI h) (nI N) a4 n' (nI lo) (nI wh) (nI (h + i - r)) st (nI (h + i)) = some q := by
  intro j
  induction j with
  | zero =>
    intro i n n' lo wh r st hij hn hn' hr hr2 hlo
    obtain ⟨n, rfl⟩ : ∃ q, n = q + 1 := ⟨n - 1, by omega⟩
    obtain ⟨n', rfl⟩ : ∃ q, n' = q + 1 := ⟨n' - 1, by omega⟩
    have e : i = N := by omega
    subst e
    simp only [f_X2_longestRow_L16, f_X11_longest_L55]
    rw [if_pos (nI_le (Nat.le_refl _) (by omega)), nI_add, if_pos (nI_le (Nat.le_refl _) (by omega))]
    by_cases q4 : a4 = 0
    · rw [if_pos q4]; exact ⟨_, rfl, rfl⟩
    · rw [if_neg q4]; exact ⟨_, rfl, rfl⟩
  | succ j ih =>
    intro i n n' lo wh r st hij hn hn' hr hr2 hlo
    obtain ⟨n, rfl⟩ : ∃ q, n = q + 1 := ⟨n - 1, by omega⟩
    obtain ⟨n', rfl⟩ : ∃ q, n' = q + 1 := ⟨n' - 1, by omega⟩
    simp only [f_X2_longestRow_L16, f_X11_longest_L55]
    rw [if_neg (nI_ge (by omega) (by omega)), nI_add, nI_add, if_neg (nI_ge (by omega) (by omega)), upIn_eq hF hK hv (by omega), stateOf_eq hF hK hv (by omega), Option.bind_some, Option.bind_some]
    by_cases hq : nI (stP M v (h + i) nm) = st
    · rw [if_pos hq, if_pos hq, nI_1, show h + i - r = h + i + 1 - (r + 1) by omega]
      refine long_step hh (by omega) (by omega) (by omega) hlo (fun lo' wh' hl' => ?_)
      have := ih (i + 1) n n' lo' wh' (r + 1) (nI (stP M v (h + i) nm)) (by omega) (by omega) (by omega) (by omega) (by omega) hl'
      rw [← Nat.add_assoc h i 1] at this ⊢
      exact this
    · rw [if_neg hq, if_neg hq]
      have hs := long_step (F := F) (Z := Z) (S := S) (M := M) (h := h) (N := N) (i := i) (lo := lo) (wh := wh) (r := 1) (v := nI v) (st := nI (stP M v (h + i) nm)) (K1 := f_X2_longestRow_L16 F Z S (nI v) (nI h) (nI N) a4 n) (K2 := f_X11_longest_L55 F M (nI v) (nI h) (nI N) a4 n') (a4 := a4) hh (by omega) (by omega) (by omega) hlo (fun lo' wh' hl' => by
        have := ih (i + 1) n n' lo' wh' 1 (nI (stP M v (h + i) nm)) (by omega) (by omega) (by omega) (by omega) (by omega) hl'
        rw [← Nat.add_assoc h i 1] at this ⊢
        exact this)
      rw [Nat.add_sub_cancel] at hs
      exact hs
theorem st_longest (hF : 200000 ≤ F) : ST_longest F (RR F) := by
  intro t S Z M a1 a2 a3 a4 ht hR
  have hR' := hR
  obtain ⟨nm, nv, nd, nb, ⟨hK, -⟩, -⟩ := hR
  have hnv := hK.2.1
  unfold f_X10_longest f_X11_longest
  rw [isPlace_eq hnv.1 hnv.2.2, isValley_eq hnv.2.1 hnv.2.2, Option.bind_some, Option.bind_some, isHour_eq]
  rcases hx_01 (n := nv) (a := a1) with h0 | ⟨v, hv, rfl, h1⟩
  · rw [h0]
    exact ⟨_, rfl, rfl, RR_idle hR'⟩
  rw [h1, if_neg one0, if_neg one0, Option.bind_some]
  rcases hx_01 (n := 1000000) (a := a2) with h0 | ⟨h, hh, rfl, h2⟩
  · rw [h0]
    exact ⟨_, rfl, rfl, RR_idle hR'⟩
  rw [h2, if_neg one0, if_neg one0]
  rcases rngH (x := a3) with ⟨hq, hw⟩ | ⟨N, n1, n2, rfl, q1, q2, hw⟩
  · rw [hw]
    rcases hq with hq | ⟨hq1, hq2⟩
    · rw [if_pos hq]
      exact ⟨_, rfl, rfl, RR_idle hR'⟩
    · rw [if_neg hq1, if_pos hq2]
      exact ⟨_, rfl, rfl, RR_idle hR'⟩
  rw [hw, if_neg q1, if_neg q2, Option.bind_some, if_neg one0]
  rcases rng (x := a4) 0 1 (by omega) (by omega) with ⟨hq, hw⟩ | ⟨w, n1', n2', rfl, q1', q2', hw⟩
  · rw [show (0 : Int64) = (nI 0).toInt64 from rfl, show (1 : Int64) = (nI 1).toInt64 from rfl, hw]
    rcases hq with hq | ⟨hq1, hq2⟩
    · rw [if_pos (show a4 < 0 from hq)]
      exact ⟨_, rfl, rfl, RR_idle hR'⟩
    · rw [if_neg (show ¬ a4 < 0 from hq1), if_neg (show ¬ a4 ≤ 1 from fun z => by rw [le_i] at z; have := lt_i.mp hq2; have e : (nI 1).toInt = (1 : Int32).toInt := rfl; omega)]
      exact ⟨_, rfl, rfl, RR_idle hR'⟩
  rw [show (0 : Int64) = (nI 0).toInt64 from rfl, show (1 : Int64) = (nI 1).toInt64 from rfl, hw, if_neg (show ¬ nI w < 0 from q1'), if_pos (show nI w ≤ 1 from nI_le (b := 1) n2' (by omega)), Option.bind_some, if_neg one0, stateOf_eq (by omega) hK hv (by omega), Option.bind_some, bind_id]
  obtain ⟨f, hf⟩ : ∃ f, F = f + 1 := ⟨F - 1, by omega⟩
  have hFF : 200 ≤ F := by omega
  have hs := long_step (F := F) (Z := Z) (S := S) (M := M) (h := h) (N := N) (i := 0) (lo := 0) (wh := h) (r := 1) (v := nI v) (st := nI (stP M v h nm)) (K1 := f_X2_longestRow_L16 F Z S (nI v) (nI h) (nI N) (nI w) f) (K2 := f_X11_longest_L55 F M (nI v) (nI h) (nI N) (nI w) f) (a4 := nI w) (by omega) (by omega) (by omega) (by omega) (by omega) (fun lo' wh' hl' => by
    have := long_loop (F := F) (Z := Z) (a4 := nI w) hFF hK (N := N) hv (show h + N < 1073740000 by omega) (N - 1) 1 f f lo' wh' 1 (nI (stP M v h nm)) (by omega) (by omega) (by omega) (by omega) (by omega) hl'
    exact this)
  obtain ⟨q, e1, e2⟩ := hs
  refine ⟨q, ?_, ?_, RR_idle hR'⟩
  · unfold f_X2_longestRow
    have hun : f_X2_longestRow_L16 F Z S (nI v) (nI h) (nI N) (nI w) F 0 (nI h) 0 (-2) 0 = f_X2_longestRow_L16 F Z S (nI v) (nI h) (nI N) (nI w) (f + 1) 0 (nI h) 0 (-2) 0 := by rw [← hf]
    rw [hun]
    simp only [f_X2_longestRow_L16]
    rw [if_neg (show ¬ nI N ≤ 0 from nI_nle (by omega) (by omega)), Int32.add_zero, upIn_eq hFF hK hv (by omega), Option.bind_some, if_neg (m2_ne (by have := stP_lt M v h nm; have := hK.1.2.2; have h8 : 2 ^ nm ≤ 2 ^ 3 := Nat.pow_le_pow_right (by omega) this; omega))]
    exact e1
  · have hun : f_X11_longest_L55 F M (nI v) (nI h) (nI N) (nI w) F 0 (nI h) (nI h) (nI (stP M v h nm)) (nI h) = f_X11_longest_L55 F M (nI v) (nI h) (nI N) (nI w) (f + 1) 0 (nI h) (nI h) (nI (stP M v h nm)) (nI h) := by rw [← hf]
    rw [hun]
    simp only [f_X11_longest_L55]
    rw [nI_add, if_neg (nI_ge (by omega) (by omega)), stateOf_eq hFF hK hv (by omega), Option.bind_some, if_pos rfl]
    exact e2
end
