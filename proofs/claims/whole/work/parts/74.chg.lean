/-! changes: told, undone, done again -/
def SH (S S' : St) : Prop := (∀ j, (j < 66 ∨ 67 < j) → S'.1 j = S.1 j) ∧ (∀ j, (j < 62 ∨ 65 < j) → S'.2.1 j = S.2.1 j) ∧ S'.2.2 = S.2.2
def MH (M M' : St) : Prop := (∀ j, (j < 4 ∨ 5 < j) → M'.1 j = M.1 j) ∧ (∀ j, (j = 0 ∨ 3 < j) → j ≠ 27 → M'.2.1 j = M.2.1 j) ∧ M'.2.2 = M.2.2
def plS (w : Nat) : Nat := if w = 0 then 141 else if w = 1 then 142 else if w = 2 then 21 else 23
section
variable {F : Nat} {Z : Zt} {S S' M M' : St} {nm nv nd nb n w v : Nat}
theorem forgets_ok (hF : 200 ≤ F) (M : St) : ∃ M1, f_X11_forgets F M = some M1 ∧ M1.1 = M.1 ∧ M1.2.2 = M.2.2 ∧ (∀ j, j ≠ 27 → M1.2.1 j = M.2.1 j) ∧ ∀ d, d < 12 → M1.2.1 27 d = 0 := by
  have hl : ∀ (k i n : Nat) (T : St), i + k = 12 → k < n → T.1 = M.1 → T.2.2 = M.2.2 → (∀ j, j ≠ 27 → T.2.1 j = M.2.1 j) → (∀ d, d < i → T.2.1 27 d = 0) → ∃ M1, f_X11_forgets_L2 F n T (nI i) = some M1 ∧ M1.1 = M.1 ∧ M1.2.2 = M.2.2 ∧ (∀ j, j ≠ 27 → M1.2.1 j = M.2.1 j) ∧ ∀ d, d < 12 → M1.2.1 27 d = 0 := by
    intro k
    induction k with
    | zero =>
      intro i n T hik hn t1 t2 t3 t4
      obtain ⟨n, rfl⟩ : ∃ q, n = q + 1 := ⟨n - 1, by omega⟩
      have e : i = 12 := by omega
      subst e
      simp only [f_X11_forgets_L2]
      rw [if_pos (show (12 : Int32) ≤ nI 12 by decide)]
      exact ⟨T, rfl, t1, t2, t3, t4⟩
    | succ k ih =>
      intro i n T hik hn t1 t2 t3 t4
      obtain ⟨n, rfl⟩ : ∃ q, n = q + 1 := ⟨n - 1, by omega⟩
      simp only [f_X11_forgets_L2]
      rw [if_neg (show ¬ (12 : Int32) ≤ nI i from nI_ge (b := 12) (by omega) (by omega)), inr_nI (by omega) (by omega), chk_true, cl_nI (by omega), nI_1]
      refine ih (i + 1) n _ (by omega) (by omega) t1 t2 (fun j hj => ?_) (fun d hd => ?_)
      · rw [sa21, if_neg hj]; exact t3 j hj
      · rw [sa21, if_pos rfl, updE]
        split
        · rfl
        · exact t4 d (by omega)
  exact hl 12 0 F M rfl (by omega) rfl rfl (fun _ _ => rfl) (fun d hd => absurd hd (Nat.not_lt_zero _))
theorem drop_ok (hF : 200 ≤ F) {p1 : Nat} (hp : lnC Z p1 = 40) (S : St) : ∃ S1, f_X3_dropFirst F p1 Z S = some S1 ∧ S1.1 = S.1 ∧ S1.2.2 = S.2.2 ∧ (∀ j, j ≠ p1 → S1.2.1 j = S.2.1 j) ∧ ∀ i, i < 39 → S1.2.1 p1 i = S.2.1 p1 (i + 1) := by
  have hl : ∀ (k m n : Nat) (T : St), m + k = 39 → k < n → T.1 = S.1 → T.2.2 = S.2.2 → (∀ j, j ≠ p1 → T.2.1 j = S.2.1 j) → (∀ i, i < m → T.2.1 p1 i = S.2.1 p1 (i + 1)) → (∀ i, m ≤ i → T.2.1 p1 i = S.2.1 p1 i) → ∃ S1, f_X3_dropFirst_L2 F p1 Z n T (nI (m + 1)) = some S1 ∧ S1.1 = S.1 ∧ S1.2.2 = S.2.2 ∧ (∀ j, j ≠ p1 → S1.2.1 j = S.2.1 j) ∧ ∀ i, i < 39 → S1.2.1 p1 i = S.2.1 p1 (i + 1) := by
    intro k
    induction k with
    | zero =>
      intro m n T hik hn t1 t2 t3 t4 t5
      obtain ⟨n, rfl⟩ : ∃ q, n = q + 1 := ⟨n - 1, by omega⟩
      have e : m = 39 := by omega
      subst e
      simp only [f_X3_dropFirst_L2]
      rw [hp, if_pos (show Int32.ofNat 40 ≤ nI (39 + 1) by decide)]
      exact ⟨T, rfl, t1, t2, t3, t4⟩
    | succ k ih =>
      intro m n T hik hn t1 t2 t3 t4 t5
      obtain ⟨n, rfl⟩ : ∃ q, n = q + 1 := ⟨n - 1, by omega⟩
      simp only [f_X3_dropFirst_L2]
      rw [hp, if_neg (show ¬ Int32.ofNat 40 ≤ nI (m + 1) from nI_ge (b := 40) (by omega) (by omega)), nI_pred, inr_nI (show m + 1 < 40 by omega) (by omega), inr_nI (show m < 40 by omega) (by omega), chk_true, chk_true, cl_nI (show m < 2 ^ 31 by omega), cl_nI (show m + 1 < 2 ^ 31 by omega), nI_1]
      refine ih (m + 1) n _ (by omega) (by omega) t1 t2 (fun j hj => ?_) (fun i hi => ?_) (fun i hi => ?_)
      · rw [sa21, if_neg hj]; exact t3 j hj
      · rw [sa21, if_pos rfl, updE]
        split
        · rename_i e
          rw [e]
          exact t5 _ (by omega)
        · exact t4 i (by omega)
      · rw [sa21, if_pos rfl, updE, if_neg (by omega)]
        exact t5 i (by omega)
  exact hl 39 0 F S rfl (by omega) rfl rfl (fun _ _ => rfl) (fun d hd => absurd hd (Nat.not_lt_zero _)) (fun _ _ => rfl)
theorem shift_ok (hF : 200 ≤ F) (M : St) (a1 a2 x3 : Int32) : ∃ M1, f_X11_becomes_L30 F a1 a2 F M x3 1 = f_X11_becomes_B101 F a1 a2 (sf M1 5 ((M1.1 5) - 1)) x3 ∧ M1.1 = M.1 ∧ M1.2.2 = M.2.2 ∧ (∀ j, (j = 0 ∨ 3 < j) → M1.2.1 j = M.2.1 j) ∧ ∀ i, i < 39 → M1.2.1 1 i = M.2.1 1 (i + 1) ∧ M1.2.1 2 i = M.2.1 2 (i + 1) ∧ M1.2.1 3 i = M.2.1 3 (i + 1) := by
  have hl : ∀ (k m n : Nat) (T : St), m + k = 39 → k < n → T.1 = M.1 → T.2.2 = M.2.2 → (∀ j, (j = 0 ∨ 3 < j) → T.2.1 j = M.2.1 j) → (∀ i, i < m → T.2.1 1 i = M.2.1 1 (i + 1) ∧ T.2.1 2 i = M.2.1 2 (i + 1) ∧ T.2.1 3 i = M.2.1 3 (i + 1)) → (∀ i, m ≤ i → T.2.1 1 i = M.2.1 1 i ∧ T.2.1 2 i = M.2.1 2 i ∧ T.2.1 3 i = M.2.1 3 i) → ∃ M1, f_X11_becomes_L30 F a1 a2 n T x3 (nI (m + 1)) = f_X11_becomes_B101 F a1 a2 (sf M1 5 ((M1.1 5) - 1)) x3 ∧ M1.1 = M.1 ∧ M1.2.2 = M.2.2 ∧ (∀ j, (j = 0 ∨ 3 < j) → M1.2.1 j = M.2.1 j) ∧ ∀ i, i < 39 → M1.2.1 1 i = M.2.1 1 (i + 1) ∧ M1.2.1 2 i = M.2.1 2 (i + 1) ∧ M1.2.1 3 i = M.2.1 3 (i + 1) := by
    intro k
    induction k with
    | zero =>
      intro m n T hik hn t1 t2 t3 t4 t5
      obtain ⟨n, rfl⟩ : ∃ q, n = q + 1 := ⟨n - 1, by omega⟩
      have e : m = 39 := by omega
      subst e
      simp only [f_X11_becomes_L30]
      rw [if_pos (show (40 : Int32) ≤ nI (39 + 1) by decide)]
      exact ⟨T, rfl, t1, t2, t3, t4⟩
    | succ k ih =>
      intro m n T hik hn t1 t2 t3 t4 t5
      obtain ⟨n, rfl⟩ : ∃ q, n = q + 1 := ⟨n - 1, by omega⟩
      simp only [f_X11_becomes_L30]
      rw [if_neg (show ¬ (40 : Int32) ≤ nI (m + 1) from nI_ge (b := 40) (by omega) (by omega)), nI_pred, inr_nI (show m + 1 < 40 by omega) (by omega), inr_nI (show m < 40 by omega) (by omega), chk_true, chk_true, chk_true, chk_true, chk_true, chk_true, cl_nI (show m < 2 ^ 31 by omega), cl_nI (show m + 1 < 2 ^ 31 by omega), nI_1]
      refine ih (m + 1) n _ (by omega) (by omega) t1 t2 (fun j hj => ?_) (fun i hi => ?_) (fun i hi => ?_)
      · rw [sa21, if_neg (by omega), sa21, if_neg (by omega), sa21, if_neg (by omega)]; exact t3 j hj
      · show upd (T.2.1 1) m (T.2.1 1 (m + 1)) i = _ ∧ upd (T.2.1 2) m (T.2.1 2 (m + 1)) i = _ ∧ upd (T.2.1 3) m (T.2.1 3 (m + 1)) i = _
        by_cases e : i = m
        · rw [e, pk_us, pk_us, pk_us]
          exact t5 _ (by omega)
        · rw [pk_un e, pk_un e, pk_un e]
          exact t4 i (by omega)
      · show upd (T.2.1 1) m (T.2.1 1 (m + 1)) i = _ ∧ upd (T.2.1 2) m (T.2.1 2 (m + 1)) i = _ ∧ upd (T.2.1 3) m (T.2.1 3 (m + 1)) i = _
        rw [pk_un (by omega), pk_un (by omega), pk_un (by omega)]
        exact t5 i (by omega)
  exact hl 39 0 F M rfl (by omega) rfl rfl (fun _ _ => rfl) (fun d hd => absurd hd (Nat.not_lt_zero _)) (fun _ _ => ⟨rfl, rfl, rfl⟩)
theorem chV_le (h : chV M nm nd w n v) : v ≤ 999 ∧ w ≤ 3 := by
  rcases h with ⟨rfl, q2, r, q3, q4, q5⟩ | ⟨rfl, q2, r, q3, q4, q5⟩ | ⟨rfl, q2, q3⟩ | ⟨rfl, q2, q3⟩ <;> omega
/-- the value that stands there -/
theorem pl_old (hK : KSky S M nm nv) (hB : KBook S M nd) (h : chV M nm nd w n v) : ∃ v1, M.2.1 0 (plW w + n) = nI v1 ∧ chV M nm nd w n v1 ∧ f_X3_told Z S (nI n) (nI w) = some (nI v1) ∧ plW w + n < 30 ∧ n < 12 := by
  have h3 := hK.1.2.2
  have h12 := hB.1.2.2
  rcases h with ⟨rfl, q2, r, q3, q4, q5⟩ | ⟨rfl, q2, r, q3, q4, q5⟩ | ⟨rfl, q2, q3⟩ | ⟨rfl, q2, q3⟩
  · obtain ⟨a, b, c, w1, w2, w3, w4, w5, w6, w7⟩ := hK.2.2.2.2.1 n q2
    refine ⟨b, by rw [← w6]; show M.2.1 0 (0 + n) = _; rw [Nat.zero_add], Or.inl ⟨rfl, q2, a, w5, w2, w3⟩, ?_, by show 0 + n < 30; omega, by omega⟩
    unfold f_X3_told f_X7_told
    rw [if_neg (show ¬ nI 0 = 2 by decide), if_neg (show ¬ nI 0 = 3 by decide), hasMoon_eq hK.1.1 h3, hx_y q2, Option.bind_some, if_neg one0, if_pos (show nI 0 = 0 from rfl), inr_nI (show n < 3 by omega) (by omega), chk_true, cl_nI (by omega), (hK.2.2.2.1 n (by omega)).1, w6]
    rfl
  · obtain ⟨a, b, c, w1, w2, w3, w4, w5, w6, w7⟩ := hK.2.2.2.2.1 n q2
    refine ⟨c, w7, Or.inr (Or.inl ⟨rfl, q2, a, w5, w2, w4⟩), ?_, by show 3 + n < 30; omega, by omega⟩
    unfold f_X3_told f_X7_told
    rw [if_neg (show ¬ nI 1 = 2 by decide), if_neg (show ¬ nI 1 = 3 by decide), hasMoon_eq hK.1.1 h3, hx_y q2, Option.bind_some, if_neg one0, if_neg (show ¬ nI 1 = 0 by decide), inr_nI (show n < 3 by omega) (by omega), chk_true, cl_nI (by omega), (hK.2.2.2.1 n (by omega)).2, w7]
    rfl
  · obtain ⟨x, y, z, q, w1, w2, w3, w4, w5, w6, w7, w8, w9⟩ := hB.2.2.2 n q2
    refine ⟨y, w7, Or.inr (Or.inr (Or.inl ⟨rfl, q2, w2, w3⟩)), ?_, by show 6 + n < 30; omega, by omega⟩
    unfold f_X3_told
    rw [if_pos (show nI 2 = 2 from rfl), hoursOf_eq hB q2, w7]
    rfl
  · obtain ⟨x, y, z, q, w1, w2, w3, w4, w5, w6, w7, w8, w9⟩ := hB.2.2.2 n q2
    refine ⟨q, w9, Or.inr (Or.inr (Or.inr ⟨rfl, q2, w5⟩)), ?_, by show 18 + n < 30; omega, by omega⟩
    unfold f_X3_told
    rw [if_neg (show ¬ nI 3 = 2 by decide), if_pos (show nI 3 = 3 from rfl), (told_eq hB q2).2.2.2, w9]
    rfl
theorem set_ok {x : Int32} (hK1 : S.1 148 = nI nm ∧ nm ≤ 3) (hB1 : S.1 24 = nI nd ∧ nd ≤ 12) (h : chV M nm nd w n v) : f_X3_set Z S (nI n) (nI w) x = some (sa S (plS w) n x) := by
  rcases h with ⟨rfl, q2, -⟩ | ⟨rfl, q2, -⟩ | ⟨rfl, q2, -⟩ | ⟨rfl, q2, -⟩
  · unfold f_X3_set f_X7_tell
    rw [if_neg (show ¬ nI 0 = 2 by decide), if_neg (show ¬ nI 0 = 3 by decide), hasMoon_eq hK1.1 hK1.2, hx_y q2, Option.bind_some, if_neg one0, if_pos (show nI 0 = 0 from rfl), inr_nI (show n < 3 by omega) (by omega), chk_true, cl_nI (by omega)]
    rfl
  · unfold f_X3_set f_X7_tell
    rw [if_neg (show ¬ nI 1 = 2 by decide), if_neg (show ¬ nI 1 = 3 by decide), hasMoon_eq hK1.1 hK1.2, hx_y q2, Option.bind_some, if_neg one0, if_neg (show ¬ nI 1 = 0 by decide), inr_nI (show n < 3 by omega) (by omega), chk_true, cl_nI (by omega)]
    rfl
  · unfold f_X3_set f_X1_setHours
    rw [if_pos (show nI 2 = 2 from rfl), hasDeed_eq hB1.1 hB1.2, hx_y q2, Option.bind_some, if_neg one0, inr_nI (show n < 12 by omega) (by omega), chk_true, cl_nI (by omega)]
    rfl
  · unfold f_X3_set f_X1_setOver
    rw [if_neg (show ¬ nI 3 = 2 by decide), if_pos (show nI 3 = 3 from rfl), hasDeed_eq hB1.1 hB1.2, hx_y q2, Option.bind_some, if_neg one0, inr_nI (show n < 12 by omega) (by omega), chk_true, cl_nI (by omega)]
    rfl
/-- a value of the rows of moons and deeds becomes another -/
theorem RV_set (h : RV F S Z M nm nv nd nb) (hc : chV M nm nd w n v) : RV F (sa S (plS w) n (nI v)) Z (sa M 0 (plW w + n) (nI v)) nm nv nd nb := by
  obtain ⟨hK, hB, hT, hV, hC, hA, hS, hL⟩ := h
  have h3 := hK.1.2.2
  have h12 := hB.1.2.2
  have hrow : ∀ k, (sa M 0 (plW w + n) (nI v)).2.1 0 k = if k = plW w + n then nI v else M.2.1 0 k := fun k => rfl
  rcases hc with ⟨rfl, q2, r, q3, q4, q5⟩ | ⟨rfl, q2, r, q3, q4, q5⟩ | ⟨rfl, q2, q3⟩ | ⟨rfl, q2, q3⟩
  · refine ⟨⟨hK.1, hK.2.1, hK.2.2.1, fun k hk => ?_, fun k hk => ?_, hK.2.2.2.2.2⟩, hB.fr ⟨rfl, rfl, rfl, rfl, rfl⟩ ⟨rfl, rfl, rfl⟩ (fun k k1 k2 => by rw [hrow]; exact if_neg (by show k ≠ 0 + n; omega)), hT.fr ⟨rfl, rfl⟩ ⟨rfl, rfl⟩, hV.fr ⟨rfl, rfl, rfl, rfl⟩ ⟨rfl, rfl, rfl⟩ (Nat.le_refl _) (Nat.le_refl _), hC.fr ⟨rfl, rfl, rfl, rfl, rfl, rfl⟩ ⟨rfl, rfl, rfl, rfl, rfl⟩ (fun k hk => rfl) (Nat.le_refl _) (Nat.le_refl _), hA.fr ⟨rfl, rfl, rfl, rfl⟩ ⟨rfl, rfl, rfl, rfl⟩, hS.fr (Nat.le_refl _) ⟨rfl, rfl, rfl, rfl⟩ ⟨rfl, rfl, rfl⟩, hL.fr (Nat.le_refl _) ⟨⟨rfl, rfl, rfl, rfl, rfl, rfl, rfl, rfl⟩, ⟨rfl, rfl, rfl, rfl, rfl, rfl, rfl, rfl⟩, ⟨rfl, rfl, rfl, rfl, rfl, rfl, rfl, rfl⟩⟩ ⟨rfl, rfl⟩⟩
    · show upd (S.2.1 141) n (nI v) k = (if k = 0 + n then nI v else M.2.1 0 k) ∧ S.2.1 142 k = (if 3 + k = 0 + n then nI v else M.2.1 0 (3 + k))
      rw [if_neg (show ¬ 3 + k = 0 + n by omega), updE, (hK.2.2.2.1 k hk).1, Nat.zero_add]
      exact ⟨rfl, (hK.2.2.2.1 k hk).2⟩
    · show mnOK (M.2.1 7 k) (if k = 0 + n then nI v else M.2.1 0 k) (if 3 + k = 0 + n then nI v else M.2.1 0 (3 + k))
      rw [if_neg (show ¬ 3 + k = 0 + n by omega), Nat.zero_add]
      obtain ⟨a, b, c, w1, w2, w3, w4, w5, w6, w7⟩ := hK.2.2.2.2.1 k hk
      by_cases e : k = n
      · subst e
        rw [if_pos rfl]
        have e2 : a = r := by rw [w5] at q3; exact (nI_eq (by omega) (by omega)).mp q3
        exact ⟨a, v, c, w1, w2, by omega, w4, w5, rfl, w7⟩
      · rw [if_neg e]
        exact ⟨a, b, c, w1, w2, w3, w4, w5, w6, w7⟩
  · refine ⟨⟨hK.1, hK.2.1, hK.2.2.1, fun k hk => ?_, fun k hk => ?_, hK.2.2.2.2.2⟩, hB.fr ⟨rfl, rfl, rfl, rfl, rfl⟩ ⟨rfl, rfl, rfl⟩ (fun k k1 k2 => by rw [hrow]; exact if_neg (by show k ≠ 3 + n; omega)), hT.fr ⟨rfl, rfl⟩ ⟨rfl, rfl⟩, hV.fr ⟨rfl, rfl, rfl, rfl⟩ ⟨rfl, rfl, rfl⟩ (Nat.le_refl _) (Nat.le_refl _), hC.fr ⟨rfl, rfl, rfl, rfl, rfl, rfl⟩ ⟨rfl, rfl, rfl, rfl, rfl⟩ (fun k hk => rfl) (Nat.le_refl _) (Nat.le_refl _), hA.fr ⟨rfl, rfl, rfl, rfl⟩ ⟨rfl, rfl, rfl, rfl⟩, hS.fr (Nat.le_refl _) ⟨rfl, rfl, rfl, rfl⟩ ⟨rfl, rfl, rfl⟩, hL.fr (Nat.le_refl _) ⟨⟨rfl, rfl, rfl, rfl, rfl, rfl, rfl, rfl⟩, ⟨rfl, rfl, rfl, rfl, rfl, rfl, rfl, rfl⟩, ⟨rfl, rfl, rfl, rfl, rfl, rfl, rfl, rfl⟩⟩ ⟨rfl, rfl⟩⟩
    · show S.2.1 141 k = (if k = 3 + n then nI v else M.2.1 0 k) ∧ upd (S.2.1 142) n (nI v) k = (if 3 + k = 3 + n then nI v else M.2.1 0 (3 + k))
      rw [if_neg (show ¬ k = 3 + n by omega), updE, (hK.2.2.2.1 k hk).1, (hK.2.2.2.1 k hk).2]
      refine ⟨rfl, ?_⟩
      by_cases e : k = n
      · rw [if_pos e, if_pos (by omega)]
      · rw [if_neg e, if_neg (by omega)]
    · show mnOK (M.2.1 7 k) (if k = 3 + n then nI v else M.2.1 0 k) (if 3 + k = 3 + n then nI v else M.2.1 0 (3 + k))
      rw [if_neg (show ¬ k = 3 + n by omega)]
      obtain ⟨a, b, c, w1, w2, w3, w4, w5, w6, w7⟩ := hK.2.2.2.2.1 k hk
      by_cases e : k = n
      · subst e
        rw [if_pos rfl]
        have e2 : a = r := by rw [w5] at q3; exact (nI_eq (by omega) (by omega)).mp q3
        exact ⟨a, b, v, w1, w2, w3, by omega, w5, w6, rfl⟩
      · rw [if_neg (by omega)]
        exact ⟨a, b, c, w1, w2, w3, w4, w5, w6, w7⟩
  · refine ⟨hK.fr ⟨rfl, rfl, rfl, rfl, rfl, rfl, rfl, rfl⟩ ⟨rfl, rfl, rfl, rfl, rfl, rfl⟩ (fun k k1 => by rw [hrow]; exact if_neg (by show k ≠ 6 + n; omega)), ⟨hB.1, hB.2.1, fun k hk => ?_, fun k hk => ?_⟩, hT.fr ⟨rfl, rfl⟩ ⟨rfl, rfl⟩, hV.fr ⟨rfl, rfl, rfl, rfl⟩ ⟨rfl, rfl, rfl⟩ (Nat.le_refl _) (Nat.le_refl _), hC.fr ⟨rfl, rfl, rfl, rfl, rfl, rfl⟩ ⟨rfl, rfl, rfl, rfl, rfl⟩ (fun k hk => rfl) (Nat.le_refl _) (Nat.le_refl _), hA.fr ⟨rfl, rfl, rfl, rfl⟩ ⟨rfl, rfl, rfl, rfl⟩, hS.fr (Nat.le_refl _) ⟨rfl, rfl, rfl, rfl⟩ ⟨rfl, rfl, rfl⟩, hL.fr (Nat.le_refl _) ⟨⟨rfl, rfl, rfl, rfl, rfl, rfl, rfl, rfl⟩, ⟨rfl, rfl, rfl, rfl, rfl, rfl, rfl, rfl⟩, ⟨rfl, rfl, rfl, rfl, rfl, rfl, rfl, rfl⟩⟩ ⟨rfl, rfl⟩⟩
    · show upd (S.2.1 21) n (nI v) k = (if 6 + k = 6 + n then nI v else M.2.1 0 (6 + k)) ∧ S.2.1 23 k = (if 18 + k = 6 + n then nI v else M.2.1 0 (18 + k))
      rw [if_neg (show ¬ 18 + k = 6 + n by omega), updE, (hB.2.2.1 k hk).1, (hB.2.2.1 k hk).2]
      refine ⟨?_, rfl⟩
      by_cases e : k = n
      · rw [if_pos e, if_pos (by omega)]
      · rw [if_neg e, if_neg (by omega)]
    · show ddOK (M.2.1 23 k) (if 6 + k = 6 + n then nI v else M.2.1 0 (6 + k)) (M.2.1 24 k) (if 18 + k = 6 + n then nI v else M.2.1 0 (18 + k))
      rw [if_neg (show ¬ 18 + k = 6 + n by omega)]
      obtain ⟨x, y, z, q, w1, w2, w3, w4, w5, w6, w7, w8, w9⟩ := hB.2.2.2 k hk
      by_cases e : k = n
      · rw [if_pos (by omega)]
        exact ⟨x, v, z, q, w1, by omega, by omega, w4, w5, w6, rfl, w8, w9⟩
      · rw [if_neg (by omega)]
        exact ⟨x, y, z, q, w1, w2, w3, w4, w5, w6, w7, w8, w9⟩
  · refine ⟨hK.fr ⟨rfl, rfl, rfl, rfl, rfl, rfl, rfl, rfl⟩ ⟨rfl, rfl, rfl, rfl, rfl, rfl⟩ (fun k k1 => by rw [hrow]; exact if_neg (by show k ≠ 18 + n; omega)), ⟨hB.1, hB.2.1, fun k hk => ?_, fun k hk => ?_⟩, hT.fr ⟨rfl, rfl⟩ ⟨rfl, rfl⟩, hV.fr ⟨rfl, rfl, rfl, rfl⟩ ⟨rfl, rfl, rfl⟩ (Nat.le_refl _) (Nat.le_refl _), hC.fr ⟨rfl, rfl, rfl, rfl, rfl, rfl⟩ ⟨rfl, rfl, rfl, rfl, rfl⟩ (fun k hk => rfl) (Nat.le_refl _) (Nat.le_refl _), hA.fr ⟨rfl, rfl, rfl, rfl⟩ ⟨rfl, rfl, rfl, rfl⟩, hS.fr (Nat.le_refl _) ⟨rfl, rfl, rfl, rfl⟩ ⟨rfl, rfl, rfl⟩, hL.fr (Nat.le_refl _) ⟨⟨rfl, rfl, rfl, rfl, rfl, rfl, rfl, rfl⟩, ⟨rfl, rfl, rfl, rfl, rfl, rfl, rfl, rfl⟩, ⟨rfl, rfl, rfl, rfl, rfl, rfl, rfl, rfl⟩⟩ ⟨rfl, rfl⟩⟩
    · show S.2.1 21 k = (if 6 + k = 18 + n then nI v else M.2.1 0 (6 + k)) ∧ upd (S.2.1 23) n (nI v) k = (if 18 + k = 18 + n then nI v else M.2.1 0 (18 + k))
      rw [if_neg (show ¬ 6 + k = 18 + n by omega), updE, (hB.2.2.1 k hk).1, (hB.2.2.1 k hk).2]
      refine ⟨rfl, ?_⟩
      by_cases e : k = n
      · rw [if_pos e, if_pos (by omega)]
      · rw [if_neg e, if_neg (by omega)]
    · show ddOK (M.2.1 23 k) (if 6 + k = 18 + n then nI v else M.2.1 0 (6 + k)) (M.2.1 24 k) (if 18 + k = 18 + n then nI v else M.2.1 0 (18 + k))
      rw [if_neg (show ¬ 6 + k = 18 + n by omega)]
      obtain ⟨x, y, z, q, w1, w2, w3, w4, w5, w6, w7, w8, w9⟩ := hB.2.2.2 k hk
      by_cases e : k = n
      · rw [if_pos (by omega)]
        exact ⟨x, y, z, v, w1, w2, w3, w4, by omega, w6, w7, w8, rfl⟩
      · rw [if_neg (by omega)]
        exact ⟨x, y, z, q, w1, w2, w3, w4, w5, w6, w7, w8, w9⟩
end
