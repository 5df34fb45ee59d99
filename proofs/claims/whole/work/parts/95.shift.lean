/-! shift -/
section
variable {F : Nat} {Z : Zt} {S S' M M' : St} {nm nv nd nb s s' q q' n n' : Nat}
theorem sub_n {n k : Nat} (hn : n ≤ 60) (hk : k < 2 ^ 31) : (nI n - nI k).toInt = (n : Int) - k := by
  rw [Int32.toInt_sub, nI_toInt (by omega), nI_toInt hk]
  exact Int.bmod_eq_of_le_mul_two (by omega) (by omega)
theorem like_R (hs : s < 6) (hs' : s' < 6) (h : shR S M s q n) (h' : shR S M s' q' n') : f_X6_holdsLikeRows Z S (nI s) (nI s') = some (if q = q' then 1 else 0) := by
  unfold f_X6_holdsLikeRows
  rw [row_R hs h, Option.bind_some, if_neg one0, row_R hs' h', Option.bind_some, if_neg one0, inr_nI hs (by omega), inr_nI hs' (by omega), chk_true, chk_true, cl_nI (by omega), cl_nI (by omega), h.2.2.1, h'.2.2.1]
  have h1 := h.1
  have h2 := h'.1
  by_cases e : q = q'
  · rw [if_pos e, if_pos (by rw [e])]
  · rw [if_neg e, if_neg (ne_n e (by omega) (by omega))]
theorem buf_ok (hF : 200 ≤ F) {i k : Nat} {a3 a4 : Int32} (hi : 60 * s + i + k ≤ 360) (hk : k ≤ 60) : ∃ M1, f_X11_shift_L113 F (nI s) (nI i) a3 a4 (nI k) F M 0 = f_X11_shift_L150 F a3 a4 (nI k) F M1 0 ∧ M1.1 = M.1 ∧ M1.2.1 = M.2.1 ∧ (∀ y, y ≠ 43 → M1.2.2 y = M.2.2 y) ∧ ∀ z, z < k → M1.2.2 43 z = M.2.2 42 (60 * s + i + z) := by
  have hl : ∀ (j x m : Nat) (T : St), x + j = k → j < m → T.1 = M.1 → T.2.1 = M.2.1 → (∀ y, y ≠ 43 → T.2.2 y = M.2.2 y) → (∀ z, z < x → T.2.2 43 z = M.2.2 42 (60 * s + i + z)) → ∃ M1, f_X11_shift_L113 F (nI s) (nI i) a3 a4 (nI k) m T (nI x) = f_X11_shift_L150 F a3 a4 (nI k) F M1 0 ∧ M1.1 = M.1 ∧ M1.2.1 = M.2.1 ∧ (∀ y, y ≠ 43 → M1.2.2 y = M.2.2 y) ∧ ∀ z, z < k → M1.2.2 43 z = M.2.2 42 (60 * s + i + z) := by
    intro j
    induction j with
    | zero =>
      intro x m T hx hm t1 t2 t3 t4
      obtain ⟨m, rfl⟩ : ∃ z, m = z + 1 := ⟨m - 1, by omega⟩
      have e : x = k := by omega
      subst e
      simp only [f_X11_shift_L113]
      rw [if_pos (nI_le (Nat.le_refl _) (by omega))]
      exact ⟨T, rfl, t1, t2, t3, t4⟩
    | succ j ih =>
      intro x m T hx hm t1 t2 t3 t4
      obtain ⟨m, rfl⟩ : ∃ z, m = z + 1 := ⟨m - 1, by omega⟩
      simp only [f_X11_shift_L113]
      rw [if_neg (nI_ge (show x < k by omega) (by omega)), show (60 : Int32) * nI s + nI i + nI x = nI (60 * s + i + x) by
        rw [show (60 : Int32) = nI 60 from rfl, pk_mul, nI_add, nI_add], inr_nI (show 60 * s + i + x < 360 by omega) (by omega), inr_nI (show x < 60 by omega) (by omega), chk_true, chk_true, cl_nI (by omega), cl_nI (by omega), nI_1]
      refine ih (x + 1) m _ (by omega) (by omega) t1 t2 (fun y hy => ?_) (fun z hz => ?_)
      · rw [sl22, if_neg hy]; exact t3 y hy
      · rw [sl22, if_pos rfl, updLE, t3 42 (by omega)]
        by_cases e : z = x
        · rw [if_pos e, e]
        · rw [if_neg e]; exact t4 z (by omega)
  exact hl k 0 F M (by omega) (by omega) rfl rfl (fun _ _ => rfl) (fun z hz => absurd hz (Nat.not_lt_zero _))
theorem out_ok (hF : 200 ≤ F) {j k : Nat} {M0 : St} (hj : 60 * s' + j + k ≤ 360) (hk : k ≤ 60) : ∃ M1, f_X11_shift_L150 F (nI s') (nI j) (nI k) F M0 0 = some (nI k, M1) ∧ M1.1 = M0.1 ∧ M1.2.1 = M0.2.1 ∧ ∀ y, M1.2.2 42 y = if 60 * s' + j ≤ y ∧ y < 60 * s' + j + k then M0.2.2 43 (y - (60 * s' + j)) else M0.2.2 42 y := by
  have hl : ∀ (r x m : Nat) (T : St), x + r = k → r < m → T.1 = M0.1 → T.2.1 = M0.2.1 → T.2.2 43 = M0.2.2 43 → (∀ y, T.2.2 42 y = if 60 * s' + j ≤ y ∧ y < 60 * s' + j + x then M0.2.2 43 (y - (60 * s' + j)) else M0.2.2 42 y) → ∃ M1, f_X11_shift_L150 F (nI s') (nI j) (nI k) m T (nI x) = some (nI k, M1) ∧ M1.1 = M0.1 ∧ M1.2.1 = M0.2.1 ∧ ∀ y, M1.2.2 42 y = if 60 * s' + j ≤ y ∧ y < 60 * s' + j + k then M0.2.2 43 (y - (60 * s' + j)) else M0.2.2 42 y := by
    intro r
    induction r with
    | zero =>
      intro x m T hx hm t1 t2 t3 t4
      obtain ⟨m, rfl⟩ : ∃ z, m = z + 1 := ⟨m - 1, by omega⟩
      have e : x = k := by omega
      subst e
      simp only [f_X11_shift_L150]
      rw [if_pos (nI_le (Nat.le_refl _) (by omega))]
      exact ⟨T, rfl, t1, t2, t4⟩
    | succ r ih =>
      intro x m T hx hm t1 t2 t3 t4
      obtain ⟨m, rfl⟩ : ∃ z, m = z + 1 := ⟨m - 1, by omega⟩
      simp only [f_X11_shift_L150]
      rw [if_neg (nI_ge (show x < k by omega) (by omega)), show (60 : Int32) * nI s' + nI j + nI x = nI (60 * s' + j + x) by
        rw [show (60 : Int32) = nI 60 from rfl, pk_mul, nI_add, nI_add], inr_nI (show 60 * s' + j + x < 360 by omega) (by omega), inr_nI (show x < 60 by omega) (by omega), chk_true, chk_true, cl_nI (by omega), cl_nI (by omega), nI_1]
      refine ih (x + 1) m _ (by omega) (by omega) t1 t2 ?_ (fun y => ?_)
      · rw [sl22, if_neg (by omega)]; exact t3
      · rw [sl22, if_pos rfl, updLE, t3, t4]
        by_cases e : y = 60 * s' + j + x
        · rw [if_pos e, if_pos (by omega), e, show 60 * s' + j + x - (60 * s' + j) = x by omega]
        · rw [if_neg e]
          by_cases e2 : 60 * s' + j ≤ y ∧ y < 60 * s' + j + x
          · rw [if_pos e2, if_pos (by omega)]
          · rw [if_neg e2, if_neg (by omega)]
  exact hl k 0 F M0 (by omega) (by omega) rfl rfl rfl (fun y => by rw [if_neg (by omega)])
theorem st_shift (hF : 200000 ≤ F) : ST_shift F (RR F) := by
  intro t S Z M a1 a2 a3 a4 a5 ht hR
  have hR' := hR
  obtain ⟨nm, nv, nd, nb, hV, c1, c2, hm⟩ := hR
  have hS := hV.2.2.2.2.2.2.1
  have hnb := hV.2.2.2.2.2.1.1.2.2
  have idle : ∀ (r : Int32), ∃ (r' : Int32) (S1 M1 : St), (some (r, S) : Option (Int32 × St)) = some (r', S1) ∧ (some (r, M) : Option (Int32 × St)) = some (r', M1) ∧ RR F (t + 1) S1 Z M1 := fun r => ⟨r, S, M, rfl, rfl, RR_idle hR'⟩
  unfold f_X10_shift f_X11_shift
  rw [hasShelf_eq, isShelf_eq, Option.bind_some, Option.bind_some, hasShelf_eq, isShelf_eq]
  rcases hx_01 (n := 6) (a := a1) with h0 | ⟨s, hs, rfl, h1⟩
  · rw [h0]; exact idle _
  rw [h1, if_neg one0, if_neg one0, Option.bind_some, Option.bind_some]
  rcases hx_01 (n := 6) (a := a3) with h0 | ⟨s', hs', rfl, h1'⟩
  · rw [h0]; exact idle _
  rw [h1', if_neg one0, if_neg one0, inr_nI hs (by omega), inr_nI hs' (by omega)]
  simp only [chk_true]
  rw [cl_nI (show s < 2 ^ 31 by omega), cl_nI (show s' < 2 ^ 31 by omega)]
  rcases sh_d hS hs with h | h | ⟨q, n, h⟩
  · rw [empty_E hs h, Option.bind_some, if_neg one0, h.2, if_pos neg1_0]
    exact idle _
  · obtain ⟨b, hb, hb1, hb2⟩ := h.2
    rw [empty_B hs h, Option.bind_some, if_pos rfl, hb2, if_neg (nI_pos (by omega))]
    have hlike : f_X6_holdsLikeRows Z S (nI s) (nI s') = some 0 := by
      unfold f_X6_holdsLikeRows
      rw [row_n hs (by rw [h.1]; decide), Option.bind_some, if_pos rfl]
    rw [hlike, if_pos (show nI b < 50 from nI_lt (b := 50) (by omega) (by omega))]
    rcases sh_d hS hs' with h' | h' | ⟨q', n', h'⟩
    · rw [empty_E hs' h', Option.bind_some, if_neg one0, h'.2, if_neg (show ¬ (0 : Int32) ≤ -1 by decide)]
      exact idle _
    · obtain ⟨b', hb', hb1', hb2'⟩ := h'.2
      rw [empty_B hs' h', Option.bind_some, if_pos rfl, Option.bind_some, if_pos rfl, hb2', if_pos (nI_pos' (by omega))]
      exact idle _
    · have hq' := h'.1
      rw [empty_R hs' h', Option.bind_some, if_pos rfl, Option.bind_some, if_pos rfl, h'.2.2.2.1, if_pos (nI_pos' (by omega))]
      exact idle _
  · have hq := h.1
    have hn := h.2.1
    rw [empty_R hs h, Option.bind_some, if_pos rfl, h.2.2.2.1, if_neg (nI_pos (by omega)), if_neg (show ¬ nI (50 + q) < 50 from nI_nlt (b := 50) (by omega) (by omega))]
    rcases sh_d hS hs' with h' | h' | ⟨q', n', h'⟩
    · rw [empty_E hs' h', Option.bind_some, if_neg one0, h'.2, if_neg (show ¬ (0 : Int32) ≤ -1 by decide)]
      exact idle _
    · obtain ⟨b', hb', hb1', hb2'⟩ := h'.2
      have hlike : f_X6_holdsLikeRows Z S (nI s) (nI s') = some 0 := by
        unfold f_X6_holdsLikeRows
        rw [row_R hs h, Option.bind_some, if_neg one0, row_n hs' (by rw [h'.1]; decide), Option.bind_some, if_pos rfl]
      rw [empty_B hs' h', Option.bind_some, if_pos rfl, hlike, Option.bind_some, if_pos rfl, hb2', if_pos (nI_pos' (by omega)), if_neg (ne_n (show 50 + q ≠ b' by omega) (by omega) (by omega))]
      exact idle _
    · have hq' := h'.1
      have hn' := h'.2.1
      rw [empty_R hs' h', Option.bind_some, if_pos rfl, like_R hs hs' h h', Option.bind_some, h'.2.2.2.1, if_pos (nI_pos' (by omega))]
      by_cases hqq : q = q'
      · subst hqq
        rw [if_pos rfl, if_neg one0, if_pos rfl, h.2.2.2.2.2.1, h'.2.2.2.2.2.1]
        by_cases h5 : a5 < 0
        · rw [places_neg hs h (Or.inr h5), Option.bind_some, if_pos rfl, if_pos h5]
          exact idle _
        rw [if_neg h5]
        obtain ⟨k, hk, rfl⟩ := nI_of h5
        by_cases h2 : a2 < 0
        · rw [places_neg hs h (Or.inl h2), Option.bind_some, if_pos rfl, if_pos h2]
          exact idle _
        rw [if_neg h2]
        obtain ⟨i, hi, rfl⟩ := nI_of h2
        have hc1 : (nI n - nI k) < nI i ↔ ¬ i + k ≤ n := by
          rw [lt_i, sub_n hn hk, nI_toInt hi]
          omega
        rw [places_R hs h hi hk, Option.bind_some]
        by_cases h4 : a4 < 0
        · rw [places_neg hs' h' (Or.inl h4), Option.bind_some, if_pos rfl, if_pos h4]
          by_cases hfit : i + k ≤ n
          · rw [if_pos hfit, if_neg one0]; exact idle _
          · rw [if_neg hfit, if_pos rfl]; exact idle _
        rw [if_neg h4]
        obtain ⟨j, hj, rfl⟩ := nI_of h4
        have hc2 : nI j ≤ (nI n' - nI k) ↔ j + k ≤ n' := by
          rw [le_i, sub_n hn' hk, nI_toInt hj]
          omega
        rw [places_R hs' h' hj hk, Option.bind_some]
        by_cases hfit : i + k ≤ n
        · rw [if_pos hfit, if_neg one0, if_neg (fun z => hc1.mp z hfit)]
          by_cases hfit2 : j + k ≤ n'
          · rw [if_pos hfit2, if_neg one0, if_pos (hc2.mpr hfit2)]
            obtain ⟨M1, e1, f1, f2, f3, f4⟩ := buf_ok (F := F) (M := M) (s := s) (i := i) (k := k) (a3 := nI s') (a4 := nI j) (by omega) (by omega) (by omega)
            obtain ⟨M2, e2, g1, g2, g3⟩ := out_ok (F := F) (M0 := M1) (s' := s') (j := j) (k := k) (by omega) (by omega) (by omega)
            have hcpy : f_X6_copy Z S (nI s) (nI i) (nI s') (nI j) (nI k) = some (cpy S (nI (60 * s + i)) (nI (60 * s' + j)) (nI k)) := by
              unfold f_X6_copy
              rw [places_R hs h hi hk, if_pos hfit, Option.bind_some, if_neg one0, places_R hs' h' hj hk, if_pos hfit2, Option.bind_some, if_neg one0, (idx_eq hs).1, (idx_eq hs').1]
              have hok : cpok (nI (60 * s + i)) (nI (60 * s' + j)) (nI k) = true := by
                unfold cpok
                rw [cl_nI (by omega), cl_nI (by omega), cl_nI (by omega)]
                exact decide_eq_true ⟨nI_pos (by omega), nI_pos (by omega), nI_pos (by omega), by omega, by omega⟩
              rw [hok, chk_true]
            rw [hcpy, Option.bind_some, e1, e2]
            have hrow : (cpy S (nI (60 * s + i)) (nI (60 * s' + j)) (nI k)).2.2 123 = va_cpy (S.2.2 123) (S.2.2 123) (60 * s + i) (60 * s' + j) k := by
              unfold cpy
              rw [cl_nI (by omega), cl_nI (by omega), cl_nI (by omega)]
              rfl
            have hS1 : (cpy S (nI (60 * s + i)) (nI (60 * s' + j)) (nI k)).2.1 = S.2.1 := rfl
            have hM2 : M2.2.1 = M.2.1 := g2.trans f2
            have hel : ∀ y, M2.2.2 42 y = if 60 * s' + j ≤ y ∧ y < 60 * s' + j + k then M.2.2 42 (60 * s + i + (y - (60 * s' + j))) else M.2.2 42 y := by
              intro y
              rw [g3 y]
              by_cases e : 60 * s' + j ≤ y ∧ y < 60 * s' + j + k
              · rw [if_pos e, if_pos e, f4 _ (by omega)]
              · rw [if_neg e, if_neg e, f3 42 (by omega)]
            refine ⟨_, _, _, rfl, rfl, RR_sh hV c1 c2 hm rfl (fun j _ => rfl) (g1.trans f1) (fun j _ => by rw [hM2]) (KShelf_up (s := s') (q' := q) (n' := n') hS hs' (fun d hd => ⟨rfl, rfl, rfl⟩) (fun d hd => by rw [hM2]; exact ⟨rfl, rfl⟩) (fun y hy => ?_) (fun y hy => ?_) ⟨hq, hn', h'.2.2.1, ?_, h'.2.2.2.2.1, ?_, fun x hx => ?_, fun hq0 x hx => ?_⟩)⟩
            · rw [hrow, pk_cpy_out (by omega)]
            · rw [hel, if_neg (by omega)]
            · rw [hM2]; exact h'.2.2.2.1
            · rw [hM2]; exact h'.2.2.2.2.2.1
            · rw [hrow, hel]
              by_cases e : 60 * s' + j ≤ 60 * s' + x ∧ 60 * s' + x < 60 * s' + j + k
              · rw [if_pos e, pk_cpy_in e.1 e.2, show 60 * s + i + (60 * s' + x - (60 * s' + j)) = 60 * s + (i + (x - j)) by omega]
                exact h.2.2.2.2.2.2.1 _ (by omega)
              · rw [if_neg e, pk_cpy_out (by omega)]
                exact h'.2.2.2.2.2.2.1 x hx
            · rw [hel]
              by_cases e : 60 * s' + j ≤ 60 * s' + x ∧ 60 * s' + x < 60 * s' + j + k
              · rw [if_pos e, show 60 * s + i + (60 * s' + x - (60 * s' + j)) = 60 * s + (i + (x - j)) by omega]
                exact h.2.2.2.2.2.2.2 hq0 _ (by omega)
              · rw [if_neg e]
                exact h'.2.2.2.2.2.2.2 hq0 x hx
          · rw [if_neg hfit2, if_pos rfl, if_neg (fun z => hfit2 (hc2.mp z))]
            exact idle _
        · rw [if_neg hfit, if_pos rfl, if_pos (hc1.mpr hfit)]
          exact idle _
      · rw [if_neg hqq, if_pos rfl, if_neg (ne_n (show 50 + q ≠ 50 + q' by omega) (by omega) (by omega))]
        exact idle _
end
