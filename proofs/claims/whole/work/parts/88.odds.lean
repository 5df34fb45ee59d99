/-! odds -/
def fct (set up C k : Nat) : Nat := if up / 2 ^ k % 2 = 0 then 1 else if set / 2 ^ k % 2 = 0 then C else 100 - C
def prd (set up C : Nat) : Nat → Nat
  | 0 => 1
  | k + 1 => prd set up C k * fct set up C k
theorem fct_le {set up C k : Nat} (hC : C ≤ 100) : fct set up C k ≤ 100 := by
  unfold fct
  split
  · omega
  · split <;> omega
theorem prd_le {set up C : Nat} (hC : C ≤ 100) : ∀ k, prd set up C k ≤ 100 ^ k := by
  intro k
  induction k with
  | zero => exact Nat.le_refl _
  | succ k ih =>
    show prd set up C k * fct set up C k ≤ 100 ^ (k + 1)
    rw [Nat.pow_succ]
    exact Nat.mul_le_mul ih (fct_le hC)
theorem prd_top {set up C nm : Nat} (hup : up < 2 ^ nm) : ∀ j, prd set up C (nm + j) = prd set up C nm := by
  intro j
  induction j with
  | zero => rfl
  | succ j ih =>
    show prd set up C (nm + j) * fct set up C (nm + j) = _
    have e : up / 2 ^ (nm + j) = 0 := Nat.div_eq_of_lt (Nat.lt_of_lt_of_le hup (Nat.pow_le_pow_right (by omega) (Nat.le_add_right _ _)))
    have e2 : fct set up C (nm + j) = 1 := by
      unfold fct
      rw [e, if_pos rfl]
    rw [ih, e2, Nat.mul_one]
section
variable {F : Nat} {Z X : Zt} {S T M N : St} {nm nv nd nb d v B t : Nat}
theorem chance_ok (hF : 200 ≤ F) {set up C : Nat} (h1 : set < 8) (h2 : up < 8) (hC : C ≤ 100) : f_X2_chanceOf F (nI set) (nI up) (nI C) = some (lN (prd set up C 3)) := by
  have hl : ∀ (j k q : Nat), k + j = 3 → j < q → f_X2_chanceOf_L6 F (nI set) (nI up) (nI C) q (lN (prd set up C k)) (nI k) = some (lN (prd set up C 3)) := by
    intro j
    induction j with
    | zero =>
      intro k q hk hq
      obtain ⟨q, rfl⟩ : ∃ z, q = z + 1 := ⟨q - 1, by omega⟩
      have e : k = 3 := by omega
      subst e
      simp only [f_X2_chanceOf_L6]
      rw [if_pos (show (3 : Int32) ≤ nI 3 by decide)]
    | succ j ih =>
      intro k q hk hq
      obtain ⟨q, rfl⟩ : ∃ z, q = z + 1 := ⟨q - 1, by omega⟩
      have hih := ih (k + 1) q (by omega) (by omega)
      have hpr : prd set up C (k + 1) = prd set up C k * fct set up C k := rfl
      rw [hpr] at hih
      simp only [f_X2_chanceOf_L6, lti]
      rw [if_neg (show ¬ (3 : Int32) ≤ nI k from nI_ge (b := 3) (by omega) (by omega)), bit_eq up h2 k (by omega), bit_eq set h1 k (by omega), nI_1]
      by_cases q1 : up / 2 ^ k % 2 = 0
      · rw [q1, if_pos (show nI 0 = 0 from rfl)]
        unfold fct at hih
        rw [if_pos q1, Nat.mul_one] at hih
        exact hih
      · rw [show up / 2 ^ k % 2 = 1 by omega, if_neg (show ¬ nI 1 = 0 by decide)]
        unfold fct at hih
        rw [if_neg q1] at hih
        by_cases q2 : set / 2 ^ k % 2 = 0
        · rw [q2, if_pos (show nI 0 = 0 from rfl), nI_l (by omega), lN_mul]
          rw [if_pos q2] at hih
          exact hih
        · rw [show set / 2 ^ k % 2 = 1 by omega, if_neg (show ¬ nI 1 = 0 by decide), show (100 : Int32) - nI C = nI (100 - C) from pk_sub hC, nI_l (by omega), lN_mul]
          rw [if_neg q2] at hih
          exact hih
  exact hl 3 0 F rfl (by omega)
theorem like_ok (hF : 200 ≤ F) {set up C : Nat} {a1 a2 a3 a4 : Int32} (h1 : set < 8) (h2 : up < 8) (hC : C ≤ 100) (hnm : N.1 6 = nI nm) (h3 : nm ≤ 3) {K : St → Int32 → Int32 → Int32 → Option (Int32 × St)} {s : Nat} : f_X11_seenSum_L55 F a1 a2 a3 a4 (nI C) K F N (nI up) (nI s) (nI set) 1 0 = K N (nI up) (nI (s + prd set up C nm)) (nI (set + 1)) := by
  have hl : ∀ (j k q : Nat), k + j = nm → j < q → f_X11_seenSum_L55 F a1 a2 a3 a4 (nI C) K q N (nI up) (nI s) (nI set) (nI (prd set up C k)) (nI k) = K N (nI up) (nI (s + prd set up C nm)) (nI (set + 1)) := by
    intro j
    induction j with
    | zero =>
      intro k q hk hq
      obtain ⟨q, rfl⟩ : ∃ z, q = z + 1 := ⟨q - 1, by omega⟩
      have e : k = nm := by omega
      subst e
      simp only [f_X11_seenSum_L55]
      rw [hnm, if_pos (nI_le (Nat.le_refl _) (by omega)), nI_add, nI_1]
    | succ j ih =>
      intro k q hk hq
      obtain ⟨q, rfl⟩ : ∃ z, q = z + 1 := ⟨q - 1, by omega⟩
      have hih := ih (k + 1) q (by omega) (by omega)
      have hpr : prd set up C (k + 1) = prd set up C k * fct set up C k := rfl
      rw [hpr] at hih
      simp only [f_X11_seenSum_L55]
      rw [hnm, if_neg (nI_ge (show k < nm by omega) (by omega)), bit_eq up h2 k (by omega), bit_eq set h1 k (by omega), nI_1]
      by_cases q1 : up / 2 ^ k % 2 = 0
      · rw [q1, if_pos (show nI 0 = 0 from rfl), Int32.mul_one]
        unfold fct at hih
        rw [if_pos q1, Nat.mul_one] at hih
        exact hih
      · rw [show up / 2 ^ k % 2 = 1 by omega, if_neg (show ¬ nI 1 = 0 by decide)]
        unfold fct at hih
        rw [if_neg q1] at hih
        by_cases q2 : set / 2 ^ k % 2 = 0
        · rw [q2, if_neg (show ¬ nI 0 = 1 by decide), pk_mul]
          rw [if_pos q2] at hih
          exact hih
        · rw [show set / 2 ^ k % 2 = 1 by omega, if_pos (show nI 1 = 1 from rfl), show (100 : Int32) - nI C = nI (100 - C) from pk_sub hC, pk_mul]
          rw [if_neg q2] at hih
          exact hih
  exact hl nm 0 F (by omega) (by omega)
theorem hP.under (hF : 200 ≤ F) (hV : RV F S Z M nm nv nd nb) (h : hP S Z M nm nd d v T X N B) (hd : d < nd) (hv : v < nv) (hB : B + 1 < 1000000000) {n H set : Nat} (hset : set < 8) (hn : n < 48) (hH : H < 2 ^ 31) : ∃ r T' N', f_X4_costUnder F 80 X T (nI n) (nI H) (nI set) = some (r, T') ∧ f_X11_costBy F N (nI set) (nI d) (nI v) (nI n) (nI H) = some (r, N') ∧ hP S Z M nm nd d v T' X N' (B + 1) := by
  obtain ⟨h1, h2, h3⟩ := h
  obtain ⟨T', e1, o1, c1⟩ := costUnder_ok hF (Or.inl rfl) hV h1 (n := n) (H := H) hset hn hH
  have hV1 : RV F S Z N nm nv nd nb := hV.c SC.rf h3.1 rfl
  obtain ⟨N', e2, k1, k2⟩ := costBy_ok hF hV1.2.2.2.2.2.2.2 hV1.1.1.2.1 hV1.1.1.2.2 h3.2 hB hV.2.1.1.2.2 hset hd (show v < 5 by have := hV.1.2.1.2.2; omega) hn hH
  have e0 : N.2.1 0 = M.2.1 0 := h3.1.2.1 0 (by omega) (by omega) (by omega)
  have e23 : N.2.1 23 = M.2.1 23 := h3.1.2.1 23 (by omega) (by omega) (by omega)
  have e24 : N.2.1 24 = M.2.1 24 := h3.1.2.1 24 (by omega) (by omega) (by omega)
  rw [e0, e23, e24] at e2
  exact ⟨_, T', N', e1, e2, o1, h2.ot (Or.inr rfl) (Or.inl rfl) (by omega) c1 rfl, h3.1.tr k2, k1⟩
theorem sights_ok (hF : 200000 ≤ F) (hV : RV F S Z M nm nv nd nb) (hd : d < nd) (hv : v < nv) {up C n H : Nat} (hup : up < 2 ^ nm) (hC : C ≤ 100) (hn : n < 48) (hH : H < 2 ^ 31) : ∀ (j i q q' s : Nat) (T N : St) (B : Nat), i + j = up + 1 → j < q → j < q' → s ≤ 1000000 * i → hP S Z M nm nd d v T X N B → B + j < 1000000000 → ∃ s' T' N', s' ≤ 8000000 ∧ f_X2_lawfulSights_L6 F X (nI n) (nI H) (nI up) (nI C) q T (lN s) (nI i) = some (lN s', T') ∧ f_X11_seenSum_L15 F (nI d) (nI v) (nI n) (nI H) (nI C) q' N (nI up) (nI s) (nI i) = some (nI s', N') ∧ hP S Z M nm nd d v T' X N' (B + j) := by
  have h3 := hV.1.1.2.2
  have hup8 : up < 8 := Nat.lt_of_lt_of_le hup (Nat.pow_le_pow_right (by omega) h3)
  intro j
  induction j with
  | zero =>
    intro i q q' s T N B hij hq hq' hs hO hB
    obtain ⟨q, rfl⟩ : ∃ z, q = z + 1 := ⟨q - 1, by omega⟩
    obtain ⟨q', rfl⟩ : ∃ z, q' = z + 1 := ⟨q' - 1, by omega⟩
    simp only [f_X2_lawfulSights_L6, f_X11_seenSum_L15]
    rw [if_pos (nI_lt (show up < i by omega) (by omega)), if_pos (nI_lt (show up < i by omega) (by omega))]
    exact ⟨s, T, N, by omega, rfl, rfl, hO⟩
  | succ j ih =>
    intro i q q' s T N B hij hq hq' hs hO hB
    obtain ⟨q, rfl⟩ : ∃ z, q = z + 1 := ⟨q - 1, by omega⟩
    obtain ⟨q', rfl⟩ : ∃ z, q' = z + 1 := ⟨q' - 1, by omega⟩
    have hp3 : prd i up C 3 = prd i up C nm := by
      obtain ⟨z, hz⟩ : ∃ z, 3 = nm + z := ⟨3 - nm, by omega⟩
      rw [hz]
      exact prd_top hup z
    have hpl : prd i up C nm ≤ 1000000 := by
      rw [← hp3]
      exact prd_le hC 3
    have hnext : ∀ (s : Nat) (T N : St) (B' : Nat), s ≤ 1000000 * (i + 1) → hP S Z M nm nd d v T X N B' → B' ≤ B + 1 → ∃ s' T' N', s' ≤ 8000000 ∧ f_X2_lawfulSights_L6 F X (nI n) (nI H) (nI up) (nI C) q T (lN s) (nI (i + 1)) = some (lN s', T') ∧ f_X11_seenSum_L15 F (nI d) (nI v) (nI n) (nI H) (nI C) q' N (nI up) (nI s) (nI (i + 1)) = some (nI s', N') ∧ hP S Z M nm nd d v T' X N' (B + (j + 1)) := by
      intro s T N B' hs hO hB'
      obtain ⟨s', T', N', y1, y2, y3, y4⟩ := ih (i + 1) q q' s T N B' (by omega) (by omega) (by omega) hs hO (by omega)
      exact ⟨s', T', N', y1, y2, y3, y4.le (by omega)⟩
    simp only [f_X2_lawfulSights_L6, f_X11_seenSum_L15]
    rw [if_neg (nI_nlt (show i ≤ up by omega) (by omega)), if_neg (nI_nlt (show i ≤ up by omega) (by omega)), nI_1]
    by_cases hc : (nI i &&& (nI up ^^^ (-1))) = 0
    · rw [if_pos hc, if_pos hc]
      obtain ⟨r, T1, N1, e1, e2, o1⟩ := hO.under (by omega) hV hd hv (by omega) (n := n) (H := H) (show i < 8 by omega) hn hH
      have hV1 : RV F S Z N1 nm nv nd nb := hV.c SC.rf o1.2.2.1 rfl
      rw [e1, Option.bind_some, e2, Option.bind_some]
      by_cases hr : r < 0
      · rw [if_pos hr, if_neg (n0_le hr)]
        exact hnext s T1 N1 _ (by omega) o1 (by omega)
      · rw [if_neg hr, if_pos (nlt_le hr), chance_ok (by omega) (show i < 8 by omega) hup8 hC, Option.bind_some, like_ok (by omega) (show i < 8 by omega) hup8 hC hV1.1.1.2.1 h3, lN_add, hp3]
        exact hnext _ T1 N1 _ (by omega) o1 (by omega)
    · rw [if_neg hc, if_neg hc]
      exact hnext s T N _ (by omega) hO (by omega)
theorem pow100 : ∀ m, m ≤ 3 → 100 ^ m ≤ 1000000 ∧ nzl (lN (100 ^ m)) = true := by
  intro m hm
  match m, hm with
  | 0, _ => exact ⟨by decide, by decide⟩
  | 1, _ => exact ⟨by decide, by decide⟩
  | 2, _ => exact ⟨by decide, by decide⟩
  | 3, _ => exact ⟨by decide, by decide⟩
theorem odds_ok (hF : 200000 ≤ F) (hV : RV F S Z M nm nv nd nb) (hd : d < nd) (hv : v < nv) {a1 : Int32} (ed : jrem a1 10 = nI v) {C H : Nat} (hC : C ≤ 100) (hH : H < 1073730000) : ∀ (j i q q' : Nat) (x : Int64) (T N : St) (B : Nat), i + j = hrs M d → j < q → j < q' → hP S Z M nm nd d v T X N B → B + 8 * j < 1000000000 → ∃ r T' N', f_X2_oddsByClouds_L8 F X (nI (hrs M d)) (nI H) (nI C) q T x (nI i) = some (r, T') ∧ f_X11_odds_L60 F a1 (nI H) (nI C) q' N (nI d) x (nI i) = some (r, N') ∧ hP S Z M nm nd d v T' X N' (B + 8 * j) := by
  obtain ⟨g1, g2, g3, g4, g5⟩ := hrs_ok hV hd
  have h12 := hV.2.1.1.2.2
  have h3 := hV.1.1.2.2
  intro j
  induction j with
  | zero =>
    intro i q q' x T N B hij hq hq' hO hB
    obtain ⟨q, rfl⟩ : ∃ z, q = z + 1 := ⟨q - 1, by omega⟩
    obtain ⟨q', rfl⟩ : ∃ z, q' = z + 1 := ⟨q' - 1, by omega⟩
    simp only [f_X2_oddsByClouds_L8, f_X11_odds_L60]
    rw [if_pos (nI_le (show hrs M d ≤ i by omega) (by omega)), show (6 : Int32) + nI d = nI (6 + d) from nI_add 6 d, inr_nI (show 6 + d < 30 by omega) (by omega), chk_true, cl_nI (by omega), hO.2.2.1.2.1 0 (by omega) (by omega) (by omega), g1, if_pos (nI_le (show hrs M d ≤ i by omega) (by omega))]
    exact ⟨_, T, N, rfl, rfl, hO⟩
  | succ j ih =>
    intro i q q' x T N B hij hq hq' hO hB
    obtain ⟨q, rfl⟩ : ∃ z, q = z + 1 := ⟨q - 1, by omega⟩
    obtain ⟨q', rfl⟩ : ∃ z, q' = z + 1 := ⟨q' - 1, by omega⟩
    obtain ⟨T1, e1, o1, c1⟩ := upAt_ok (F := F) (H := H + i) (by omega) (Or.inl rfl) hV hO.1 hv (by omega)
    have oT1 : hP S Z M nm nd d v T1 X N B := ⟨o1, hO.2.1.ot (Or.inr rfl) (Or.inl rfl) (by omega) c1 rfl, hO.2.2⟩
    have hVN : RV F S Z N nm nv nd nb := hV.c SC.rf hO.2.2.1 rfl
    have hst : f_X11_stateOf F N (nI v) (nI (H + i)) = some (nI (stP M v (H + i) nm)) := by
      rw [stateOf_eq (by omega) hVN.1 hv (by omega), stP_c hO.2.2.1]
    have hup := stP_lt M v (H + i) nm
    have hup8 := st8 hV v (H + i)
    simp only [f_X2_oddsByClouds_L8, f_X11_odds_L60]
    rw [if_neg (nI_ge (show i < hrs M d by omega) (by omega)), show (6 : Int32) + nI d = nI (6 + d) from nI_add 6 d, inr_nI (show 6 + d < 30 by omega) (by omega), chk_true, cl_nI (by omega), hO.2.2.1.2.1 0 (by omega) (by omega) (by omega), g1, if_neg (nI_ge (show i < hrs M d by omega) (by omega)), nI_add H i, e1, Option.bind_some, ed, hst, Option.bind_some, bitsOf_eq (by omega) hup8, Option.bind_some]
    generalize hU : stP M v (H + i) nm = U at hup hup8 ⊢
    have hm3 := bts_le U hup8
    obtain ⟨s', T2, N2, w1, w2, w3, w4⟩ := sights_ok (X := X) (n := i) (H := H + i) hF hV hd hv hup hC (by omega) (by omega) (U + 1) 0 F F 0 T1 N B (by omega) (by omega) (by omega) (by omega) oT1 (by omega)
    have w2' : f_X2_lawfulSights F X T1 (nI i) (nI (H + i)) (nI U) (nI C) = some (lN s', T2) := w2
    have w3' : f_X11_seenSum F N (nI d) (nI v) (nI i) (nI (H + i)) (nI C) = some (nI s', N2) := by
      unfold f_X11_seenSum
      rw [hst, Option.bind_some, hU]
      exact w3
    obtain ⟨p1, p2⟩ := pow100 (bts U) hm3
    have hcl : ∀ (k y f : Nat), y + k = bts U → k < f → f_X2_oddsByClouds_L33 F X (nI (hrs M d)) (nI H) (nI C) (f_X2_oddsByClouds_L8 F X (nI (hrs M d)) (nI H) (nI C) q) f T1 x (nI i) (nI U) (lN (100 ^ y)) (nI y) = f_X2_oddsByClouds_L8 F X (nI (hrs M d)) (nI H) (nI C) q T2 ((x * lN s') / lN (100 ^ bts U)) (nI (i + 1)) := by
      intro k
      induction k with
      | zero =>
        intro y f hy hf
        obtain ⟨f, rfl⟩ : ∃ z, f = z + 1 := ⟨f - 1, by omega⟩
        have e : y = bts U := by omega
        simp only [f_X2_oddsByClouds_L33]
        rw [bitCount_eq U hup8, Option.bind_some, if_pos (nI_le (show bts U ≤ y by omega) (by omega)), nI_add H i, w2', Option.bind_some, e, p2, chk_true, nI_1]
      | succ k ihk =>
        intro y f hy hf
        obtain ⟨f, rfl⟩ : ∃ z, f = z + 1 := ⟨f - 1, by omega⟩
        simp only [f_X2_oddsByClouds_L33]
        rw [bitCount_eq U hup8, Option.bind_some, if_neg (nI_ge (show y < bts U by omega) (by omega)), show lN (100 ^ y) * 100 = lN (100 ^ (y + 1)) from lN_mul (100 ^ y) 100, nI_1]
        exact ihk (y + 1) f (by omega) (by omega)
    have hrl : ∀ (k y f : Nat), y + k = bts U → k < f → f_X11_odds_L95 F a1 (nI H) (nI C) (f_X11_odds_L60 F a1 (nI H) (nI C) q') f N (nI d) x (nI i) (nI (100 ^ y)) (nI k) = f_X11_odds_L60 F a1 (nI H) (nI C) q' N2 (nI d) ((x * lN s') / lN (100 ^ bts U)) (nI (i + 1)) := by
      intro k
      induction k with
      | zero =>
        intro y f hy hf
        obtain ⟨f, rfl⟩ : ∃ z, f = z + 1 := ⟨f - 1, by omega⟩
        have e : y = bts U := by omega
        simp only [f_X11_odds_L95, lti]
        rw [if_pos (show nI 0 ≤ 0 by decide), ed, nI_add H i, w3', Option.bind_some, e, nI_l (show 100 ^ bts U < 2 ^ 31 by omega), p2, chk_true, nI_l (show s' < 2 ^ 31 by omega), nI_1]
      | succ k ihk =>
        intro y f hy hf
        obtain ⟨f, rfl⟩ : ∃ z, f = z + 1 := ⟨f - 1, by omega⟩
        simp only [f_X11_odds_L95, lti]
        rw [if_neg (nI_nle (show 0 < k + 1 by omega) (by omega)), show nI (100 ^ y) * 100 = nI (100 ^ (y + 1)) from pk_mul (100 ^ y) 100, pk_m1]
        exact ihk (y + 1) f (by omega) (by omega)
    have y1 := hcl (bts U) 0 F (by omega) (by omega)
    have y2 := hrl (bts U) 0 F (by omega) (by omega)
    obtain ⟨r, T', N', z1, z2, z3⟩ := ih (i + 1) q q' ((x * lN s') / lN (100 ^ bts U)) T2 N2 (B + (U + 1)) (by omega) (by omega) (by omega) w4 (by omega)
    exact ⟨r, T', N', y1.trans z1, y2.trans z2, z3.le (by omega)⟩
theorem st_odds (hF : 200000 ≤ F) : ST_odds F (RR F) := by
  intro t S Z M a1 a2 a3 ht hR
  have hR' := hR
  obtain ⟨nm, nv, nd, nb, hV, c1, c2, hm⟩ := hR
  have h12 := hV.2.1.1.2.2
  have idle : ∀ (r : Int32), ∃ (r' : Int32) (S1 : St) (Z1 : Zt) (M1 : St), (some (r, S, Z) : Option (Int32 × St × Zt)) = some (r', S1, Z1) ∧ (some (r, M) : Option (Int32 × St)) = some (r', M1) ∧ RR F (t + 1) S1 Z1 M1 := fun r => ⟨r, S, Z, M, rfl, rfl, RR_idle hR'⟩
  unfold f_X10_odds f_X11_odds
  rw [isHour_eq]
  rcases case_d (Z := Z) (a1 := a1) (a2 := a2) hV.1 hV.2.1 with ⟨e1, e2 | ⟨e2, e3⟩⟩ | ⟨d, v, h, hd, hv, hh, ea, eb, ec, ed, e1, e2⟩
  · rw [e1, e2]; exact idle _
  · rw [e1, e2, e3]; exact idle _
  rw [e1, e2, Option.bind_some, Option.bind_some, if_neg one0, if_neg one0, eb, hx_y hh, Option.bind_some, if_neg one0, show (0 : Int64) = (nI 0).toInt64 from rfl, show (100 : Int64) = (nI 100).toInt64 from rfl]
  rcases rng (x := a3) 0 100 (by omega) (by omega) with ⟨hq, hw⟩ | ⟨C, n1, n2, rfl, q1, q2, hw⟩
  · rw [hw]
    rcases hq with hq | ⟨hq1, hq2⟩
    · rw [if_pos (show a3 < 0 from hq)]; exact idle _
    · rw [if_neg (show ¬ a3 < 0 from hq1), if_neg (gt_nle (show 100 < a3 from hq2))]; exact idle _
  obtain ⟨g1, g2, g3, g4, g5⟩ := hrs_ok hV hd
  rw [hw, if_neg (show ¬ nI C < 0 from q1), if_pos (show nI C ≤ 100 from nlt_le q2), Option.bind_some, if_neg one0, ec, ed, (told_eq hV.2.1 hd).2.2.2, Option.bind_some, show (18 : Int32) + nI d = nI (18 + d) from nI_add 18 d, inr_nI (show 18 + d < 30 by omega) (by omega), chk_true, cl_nI (show 18 + d < 2 ^ 31 by omega), g4]
  by_cases ho : nI (ovr M d) = 2
  · rw [if_pos ho, if_pos ho]
    obtain ⟨T, X, o1, o2, -⟩ := (RR.g c1 c2 hm).opn hF hV hd hv
    have hV1 := o2.1.rv hV
    obtain ⟨r, T2, N2, e5, e6, o4⟩ := odds_ok (X := X) (a1 := a1) (H := h) hF hV hd hv ed n2 (by omega) (hrs M d) 0 F F 1000000 T M (1000000 * t) (by omega) (by omega) (by omega) o2 (by omega)
    have e7 : f_X2_oddsByClouds F X T (nI (hrs M d)) (nI h) (nI C) = some (r, T2) := e5
    rw [o1, Option.bind_some, hoursOf_eq hV1.2.1 hd, Option.bind_some, g1, e7, Option.bind_some]
    exact ⟨r, T2, X, N2, rfl, e6, o4.g.rr hV (by omega)⟩
  · rw [if_neg ho, if_neg ho]; exact idle _
end
