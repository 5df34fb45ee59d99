/-! elsewhere -/
def RI (p : Nat) (Wr : Nat → Int32) (w n : Nat) (T : St) (D : Nat → Nat) : Prop := T.2.1 w = Wr ∧ ∀ v, v < n → T.2.1 p v = nI (D v) ∧ D v ≤ 1000000
def RFr (p : Nat) (T T' : St) : Prop := T'.1 = T.1 ∧ T'.2.2 = T.2.2 ∧ ∀ j, j ≠ p → T'.2.1 j = T.2.1 j
theorem RFr.rf {p : Nat} {T : St} : RFr p T T := ⟨rfl, rfl, fun _ _ => rfl⟩
theorem RFr.tr {p : Nat} {T T1 T' : St} (a : RFr p T T1) (b : RFr p T1 T') : RFr p T T' := ⟨b.1.trans a.1, b.2.1.trans a.2.1, fun j hj => (b.2.2 j hj).trans (a.2.2 j hj)⟩
theorem RFr.sa {p i : Nat} {T : St} {x : Int32} : RFr p T (sa T p i x) := ⟨rfl, rfl, fun j hj => if_neg hj⟩
section
variable {F : Nat} {Z X : Zt} {S T M N : St} {nm nv nd nb d v B t src : Nat} {W : Nat → Nat} {Wr : Nat → Int32}
theorem edg_skip {D : Nat → Nat} {a b : Nat} (h : ¬ (0 < W (5 * a + b) ∧ D a + W (5 * a + b) < D b)) : edg W D a b = D := by
  funext x
  exact if_neg (fun z => h z.2)
theorem edg_hit {D : Nat → Nat} {a b : Nat} (h1 : 0 < W (5 * a + b)) (h2 : D a + W (5 * a + b) < D b) (x : Nat) : edg W D a b x = if x = b then D a + W (5 * a + b) else D x := by
  unfold edg
  by_cases q : x = b
  · rw [if_pos ⟨q, h1, h2⟩, if_pos q]
  · rw [if_neg (fun z => q z.1), if_neg q]
theorem c39 (hF : 200 ≤ F) (hW : ∀ e, e < 25 → Wr e = nI (W e) ∧ W e ≤ 99 ∧ (nv ≤ e / 5 ∨ nv ≤ e % 5 → W e = 0)) {p : Nat} {x2 : Int32} {K : St → Int32 → Option St} : ∀ (j k q : Nat) (T : St) (D : Nat → Nat), k + j = 25 → j < q → RI 147 Wr 146 5 T D → Ld W nv src D → Ub W nv src p D → (∀ a b, a < nv → b < nv → 5 * a + b < k → b < 5 → Dn W nv src p D a b) → ∃ T' D', f_X7_measureRoads_L39 F X K q T x2 (nI k) = K T' (x2 + 1) ∧ RFr 147 T T' ∧ RI 147 Wr 146 5 T' D' ∧ Ld W nv src D' ∧ Ub W nv src p D' ∧ ∀ a b, a < nv → b < nv → 5 * a + b < 25 → b < 5 → Dn W nv src p D' a b := by
  intro j
  induction j with
  | zero =>
    intro k q T D hk hq hT h1 h2 h3
    obtain ⟨q, rfl⟩ : ∃ z, q = z + 1 := ⟨q - 1, by omega⟩
    have e : k = 25 := by omega
    subst e
    simp only [f_X7_measureRoads_L39]
    rw [if_pos (show (25 : Int32) ≤ nI 25 by decide)]
    exact ⟨T, D, rfl, RFr.rf, hT, h1, h2, h3⟩
  | succ j ih =>
    intro k q T D hk hq hT h1 h2 h3
    obtain ⟨q, rfl⟩ : ∃ z, q = z + 1 := ⟨q - 1, by omega⟩
    have hkk : 5 * (k / 5) + k % 5 = k := by omega
    obtain ⟨w1, w2, w3⟩ := hW k (by omega)
    have ra := hT.2 (k / 5) (by omega)
    have rb := hT.2 (k % 5) (by omega)
    -- behind this way
    have hnext : ∀ T', RFr 147 T T' → RI 147 Wr 146 5 T' (edg W D (k / 5) (k % 5)) → ∃ T2 D', f_X7_measureRoads_L39 F X K q T' x2 (nI (k + 1)) = K T2 (x2 + 1) ∧ RFr 147 T T2 ∧ RI 147 Wr 146 5 T2 D' ∧ Ld W nv src D' ∧ Ub W nv src p D' ∧ ∀ a b, a < nv → b < nv → 5 * a + b < 25 → b < 5 → Dn W nv src p D' a b := by
      intro T' hf hT'
      have hld : Ld W nv src (edg W D (k / 5) (k % 5)) := by
        by_cases q1 : k / 5 < nv
        · by_cases q2 : k % 5 < nv
          · exact edg_ld h1 q1 q2
          · rw [edg_skip (fun z => by rw [hkk, w3 (by omega)] at z; omega)]; exact h1
        · rw [edg_skip (fun z => by rw [hkk, w3 (by omega)] at z; omega)]; exact h1
      obtain ⟨T2, D', g1, g2, g3⟩ := ih (k + 1) q T' _ (by omega) (by omega) hT' hld (h2.dn (edg_le D _ _)) (fun a b ha hb hab hb5 => by
        by_cases e : 5 * a + b = k
        · have ea : a = k / 5 := by omega
          have eb : b = k % 5 := by omega
          rw [ea, eb]
          exact edg_dn h2
        · exact (h3 a b ha hb (by omega) hb5).dn (edg_le D _ _))
      exact ⟨T2, D', g1, hf.tr g2, g3⟩
    simp only [f_X7_measureRoads_L39, lti]
    rw [if_neg (show ¬ (25 : Int32) ≤ nI k from nI_ge (b := 25) (by omega) (by omega)), div_n (show k < 2 ^ 31 by omega) 5 (d := 5) rfl (by omega) (by omega), rem_n (show k < 2 ^ 31 by omega) 5 (d := 5) rfl (by omega) (by omega), inr_nI (show k / 5 < 5 by omega) (by omega), inr_nI (show k < 25 by omega) (by omega), inr_nI (show k % 5 < 5 by omega) (by omega), chk_true, chk_true, chk_true, chk_true, chk_true, cl_nI (show k / 5 < 2 ^ 31 by omega), cl_nI (show k < 2 ^ 31 by omega), cl_nI (show k % 5 < 2 ^ 31 by omega), hT.1, w1, ra.1, rb.1, nI_add, nI_1]
    by_cases q1 : W k = 0
    · rw [q1, if_pos (show nI 0 ≤ 0 by decide)]
      refine hnext T RFr.rf ?_
      rw [edg_skip (fun z => by rw [hkk] at z; omega)]
      exact hT
    · rw [if_neg (nI_nle (by omega) (by omega))]
      by_cases q2 : D (k % 5) ≤ D (k / 5) + W k
      · rw [if_pos (nI_le q2 (by omega))]
        refine hnext T RFr.rf ?_
        rw [edg_skip (fun z => by rw [hkk] at z; omega)]
        exact hT
      · rw [if_neg (nI_ge (by omega) (by omega))]
        refine hnext _ RFr.sa ⟨by rw [sa21, if_neg (by omega)]; exact hT.1, fun x hx => ?_⟩
        rw [edg_hit (by rw [hkk]; omega) (by rw [hkk]; omega), hkk, sa21, if_pos rfl, updE]
        by_cases e : x = k % 5
        · rw [if_pos e, if_pos e]
          exact ⟨rfl, by omega⟩
        · rw [if_neg e, if_neg e]
          exact hT.2 x hx
theorem c32 (hF : 200 ≤ F) (hs : src < nv) (h5 : nv ≤ 5) (hW : ∀ e, e < 25 → Wr e = nI (W e) ∧ W e ≤ 99 ∧ (nv ≤ e / 5 ∨ nv ≤ e % 5 → W e = 0)) : ∀ (j p q : Nat) (T : St) (D : Nat → Nat), p + j = 4 → j < q → RI 147 Wr 146 5 T D → Ld W nv src D → Ub W nv src p D → ∃ T' D', f_X7_measureRoads_L32 F X q T (nI (p + 1)) = some T' ∧ RFr 147 T T' ∧ RI 147 Wr 146 5 T' D' ∧ Ld W nv src D' ∧ Ub W nv src 4 D' := by
  intro j
  induction j with
  | zero =>
    intro p q T D hp hq hT h1 h2
    obtain ⟨q, rfl⟩ : ∃ z, q = z + 1 := ⟨q - 1, by omega⟩
    have e : p = 4 := by omega
    subst e
    simp only [f_X7_measureRoads_L32]
    rw [if_pos (show (5 : Int32) ≤ nI (4 + 1) by decide)]
    exact ⟨T, D, rfl, RFr.rf, hT, h1, h2⟩
  | succ j ih =>
    intro p q T D hp hq hT h1 h2
    obtain ⟨q, rfl⟩ : ∃ z, q = z + 1 := ⟨q - 1, by omega⟩
    simp only [f_X7_measureRoads_L32]
    rw [if_neg (show ¬ (5 : Int32) ≤ nI (p + 1) from nI_ge (b := 5) (by omega) (by omega))]
    obtain ⟨T1, D1, e1, f1, r1, l1, u1, d1⟩ := c39 (X := X) (p := p) (x2 := nI (p + 1)) (K := f_X7_measureRoads_L32 F X q) hF hW 25 0 F T D (by omega) (by omega) hT h1 h2 (fun a b _ _ h _ => absurd h (Nat.not_lt_zero _))
    obtain ⟨T2, D2, e2, f2, g2⟩ := ih (p + 1) q T1 D1 (by omega) (by omega) r1 l1 (u1.up hs (fun a b ha hb => d1 a b ha hb (by omega) (by omega)))
    rw [nI_1] at e1
    exact ⟨T2, D2, e1.trans e2, f1.tr f2, g2⟩
def D00 (src : Nat) : Nat → Nat := fun v => if v = src then 0 else 1000000
theorem D00_ld : Ld W nv src (D00 src) := by
  intro v hv
  unfold D00
  by_cases q : v = src
  · rw [if_pos q]
    exact ⟨by omega, Or.inr ⟨0, q, rfl⟩⟩
  · rw [if_neg q]
    exact ⟨Nat.le_refl _, Or.inl rfl⟩
theorem D00_ub : Ub W nv src 0 (D00 src) := by
  intro n v l hn hr
  have e : n = 0 := by omega
  subst e
  obtain ⟨rfl, rfl⟩ := hr
  unfold D00
  rw [if_pos rfl]
  exact Nat.le_refl _
theorem roads_ok (hF : 200 ≤ F) (hs : src < nv) (h5 : nv ≤ 5) (hW : ∀ e, e < 25 → Wr e = nI (W e) ∧ W e ≤ 99 ∧ (nv ≤ e / 5 ∨ nv ≤ e % 5 → W e = 0)) (hT : T.2.1 146 = Wr) : ∃ T' D', f_X7_measureRoads F X T (nI src) = some T' ∧ RFr 147 T T' ∧ RI 147 Wr 146 5 T' D' ∧ Ld W nv src D' ∧ Ub W nv src 4 D' := by
  have hl : ∀ (j i q : Nat) (T : St), i + j = 5 → j < q → T.2.1 146 = Wr → (∀ v, v < i → T.2.1 147 v = nI (D00 src v)) → ∃ T' D', f_X7_measureRoads_L2 F X (nI src) q T (nI i) = some T' ∧ RFr 147 T T' ∧ RI 147 Wr 146 5 T' D' ∧ Ld W nv src D' ∧ Ub W nv src 4 D' := by
    intro j
    induction j with
    | zero =>
      intro i q T hi hq hT h1
      obtain ⟨q, rfl⟩ : ∃ z, q = z + 1 := ⟨q - 1, by omega⟩
      have e : i = 5 := by omega
      subst e
      simp only [f_X7_measureRoads_L2]
      rw [if_pos (show (5 : Int32) ≤ nI 5 by decide)]
      exact c32 hF hs h5 hW 4 0 F T (D00 src) rfl (by omega) ⟨hT, fun v hv => ⟨h1 v hv, by unfold D00; split <;> omega⟩⟩ D00_ld D00_ub
    | succ j ih =>
      intro i q T hi hq hT h1
      obtain ⟨q, rfl⟩ : ∃ z, q = z + 1 := ⟨q - 1, by omega⟩
      have hnext : ∀ x : Int32, x = nI (D00 src i) → ∃ T' D', f_X7_measureRoads_L2 F X (nI src) q (sa T 147 i x) (nI (i + 1)) = some T' ∧ RFr 147 T T' ∧ RI 147 Wr 146 5 T' D' ∧ Ld W nv src D' ∧ Ub W nv src 4 D' := by
        intro x hx
        obtain ⟨T', D', e1, f1, g1⟩ := ih (i + 1) q (sa T 147 i x) (by omega) (by omega) (by rw [sa21, if_neg (by omega)]; exact hT) (fun v hv => by
          rw [sa21, if_pos rfl, updE]
          by_cases e : v = i
          · rw [if_pos e, e, hx]
          · rw [if_neg e]; exact h1 v (by omega))
        exact ⟨T', D', e1, RFr.sa.tr f1, g1⟩
      simp only [f_X7_measureRoads_L2]
      rw [if_neg (show ¬ (5 : Int32) ≤ nI i from nI_ge (b := 5) (by omega) (by omega)), inr_nI (show i < 5 by omega) (by omega), chk_true, chk_true, cl_nI (by omega), nI_1]
      by_cases e : i = src
      · rw [if_pos (show nI i = nI src by rw [e])]
        exact hnext 0 (by unfold D00; rw [if_pos e]; rfl)
      · rw [if_neg (ne_n e (by omega) (by omega))]
        exact hnext 1000000 (by unfold D00; rw [if_neg e]; rfl)
  exact hl 5 0 F T rfl (by omega) hT (fun v hv => absurd hv (Nat.not_lt_zero _))
theorem r57 (hF : 200 ≤ F) (h5 : nv ≤ 5) (hW : ∀ e, e < 25 → Wr e = nI (W e) ∧ W e ≤ 99 ∧ (nv ≤ e / 5 ∨ nv ≤ e % 5 → W e = 0)) {p a : Nat} (ha : a < nv) {x2 : Int32} {K36 : St → Int32 → Option St} {K46 : St → Int32 → Int32 → Option St} : ∀ (j b q : Nat) (N : St) (D : Nat → Nat), b + j = nv → j < q → N.1 8 = nI nv → RI 30 Wr 11 nv N D → Ld W nv src D → Ub W nv src p D → (∀ a' b', a' < nv → b' < nv → (a' < a ∨ (a' = a ∧ b' < b)) → Dn W nv src p D a' b') → ∃ N' D', f_X11_findFar_L57 F K36 K46 q N x2 (nI a) (nI b) = K46 N' x2 (nI (a + 1)) ∧ RFr 30 N N' ∧ RI 30 Wr 11 nv N' D' ∧ Ld W nv src D' ∧ Ub W nv src p D' ∧ ∀ a' b', a' < nv → b' < nv → a' < a + 1 → Dn W nv src p D' a' b' := by
  intro j
  induction j with
  | zero =>
    intro b q N D hb hq hN hT h1 h2 h3
    obtain ⟨q, rfl⟩ : ∃ z, q = z + 1 := ⟨q - 1, by omega⟩
    simp only [f_X11_findFar_L57]
    rw [hN, if_pos (nI_le (show nv ≤ b by omega) (by omega)), nI_1]
    exact ⟨N, D, rfl, RFr.rf, hT, h1, h2, fun a' b' q1 q2 q3 => h3 a' b' q1 q2 (by omega)⟩
  | succ j ih =>
    intro b q N D hb hq hN hT h1 h2 h3
    obtain ⟨q, rfl⟩ : ∃ z, q = z + 1 := ⟨q - 1, by omega⟩
    obtain ⟨w1, w2, w3⟩ := hW (5 * a + b) (by omega)
    have ra := hT.2 a ha
    have rb := hT.2 b (by omega)
    have hnext : ∀ N', RFr 30 N N' → RI 30 Wr 11 nv N' (edg W D a b) → ∃ N2 D', f_X11_findFar_L57 F K36 K46 q N' x2 (nI a) (nI (b + 1)) = K46 N2 x2 (nI (a + 1)) ∧ RFr 30 N N2 ∧ RI 30 Wr 11 nv N2 D' ∧ Ld W nv src D' ∧ Ub W nv src p D' ∧ ∀ a' b', a' < nv → b' < nv → a' < a + 1 → Dn W nv src p D' a' b' := by
      intro N' hf hN'
      obtain ⟨N2, D', g1, g2, g3⟩ := ih (b + 1) q N' _ (by omega) (by omega) (by rw [hf.1]; exact hN) hN' (edg_ld h1 ha (by omega)) (h2.dn (edg_le D _ _)) (fun a' b' q1 q2 q3 => by
        by_cases e : a' = a ∧ b' = b
        · rw [e.1, e.2]
          exact edg_dn h2
        · exact (h3 a' b' q1 q2 (by omega)).dn (edg_le D _ _))
      exact ⟨N2, D', g1, hf.tr g2, g3⟩
    have hsame : RI 30 Wr 11 nv (sa N 30 b (nI (D b))) D := ⟨by rw [sa21, if_neg (by omega)]; exact hT.1, fun x hx => by
      rw [sa21, if_pos rfl, updE]
      by_cases e : x = b
      · rw [if_pos e, e]; exact ⟨rfl, rb.2⟩
      · rw [if_neg e]; exact hT.2 x hx⟩
    simp only [f_X11_findFar_L57, f_X11_findFar_B121, lti]
    rw [hN, if_neg (nI_ge (show b < nv by omega) (by omega)), show (5 : Int32) * nI a + nI b = nI (5 * a + b) by
      rw [show (5 : Int32) = nI 5 from rfl, pk_mul, nI_add], inr_nI (show 5 * a + b < 25 by omega) (by omega), inr_nI (show a < 5 by omega) (by omega), inr_nI (show b < 5 by omega) (by omega), cl_nI (show 5 * a + b < 2 ^ 31 by omega), cl_nI (show a < 2 ^ 31 by omega), cl_nI (show b < 2 ^ 31 by omega), hT.1, w1, ra.1, rb.1, nI_add, nI_1]
    simp only [chk_true]
    by_cases q1 : W (5 * a + b) = 0
    · rw [q1, if_pos (show nI 0 ≤ 0 by decide)]
      refine hnext _ RFr.sa ?_
      rw [edg_skip (fun z => by omega)]
      exact hsame
    · rw [if_neg (nI_nle (by omega) (by omega))]
      by_cases q2 : D b ≤ D a + W (5 * a + b)
      · rw [if_pos (nI_le q2 (by omega))]
        refine hnext _ RFr.sa ?_
        rw [edg_skip (fun z => by omega)]
        exact hsame
      · rw [if_neg (nI_ge (by omega) (by omega))]
        refine hnext _ RFr.sa ⟨by rw [sa21, if_neg (by omega)]; exact hT.1, fun x hx => ?_⟩
        rw [edg_hit (by omega) (by omega), sa21, if_pos rfl, updE]
        by_cases e : x = b
        · rw [if_pos e, if_pos e]
          exact ⟨rfl, by omega⟩
        · rw [if_neg e, if_neg e]
          exact hT.2 x hx
theorem r46 (hF : 200 ≤ F) (hs : src < nv) (h5 : nv ≤ 5) (hW : ∀ e, e < 25 → Wr e = nI (W e) ∧ W e ≤ 99 ∧ (nv ≤ e / 5 ∨ nv ≤ e % 5 → W e = 0)) {p : Nat} {x2 : Int32} {K36 : St → Int32 → Option St} : ∀ (j a q : Nat) (N : St) (D : Nat → Nat), a + j = nv → j < q → N.1 8 = nI nv → RI 30 Wr 11 nv N D → Ld W nv src D → Ub W nv src p D → (∀ a' b', a' < nv → b' < nv → a' < a → Dn W nv src p D a' b') → ∃ N' D', f_X11_findFar_L46 F K36 q N x2 (nI a) = K36 N' (x2 + 1) ∧ RFr 30 N N' ∧ RI 30 Wr 11 nv N' D' ∧ Ld W nv src D' ∧ Ub W nv src (p + 1) D' := by
  intro j
  induction j with
  | zero =>
    intro a q N D ha hq hN hT h1 h2 h3
    obtain ⟨q, rfl⟩ : ∃ z, q = z + 1 := ⟨q - 1, by omega⟩
    simp only [f_X11_findFar_L46]
    rw [hN, if_pos (nI_le (show nv ≤ a by omega) (by omega))]
    exact ⟨N, D, rfl, RFr.rf, hT, h1, h2.up hs (fun a' b' q1 q2 => h3 a' b' q1 q2 (by omega))⟩
  | succ j ih =>
    intro a q N D ha hq hN hT h1 h2 h3
    obtain ⟨q, rfl⟩ : ∃ z, q = z + 1 := ⟨q - 1, by omega⟩
    simp only [f_X11_findFar_L46]
    rw [hN, if_neg (nI_ge (show a < nv by omega) (by omega))]
    obtain ⟨N1, D1, e1, f1, r1, l1, u1, d1⟩ := r57 (K36 := K36) (K46 := f_X11_findFar_L46 F K36 q) (x2 := x2) hF h5 hW (show a < nv by omega) nv 0 F N D (by omega) (by omega) hN hT h1 h2 (fun a' b' q1 q2 q3 => h3 a' b' q1 q2 (by omega))
    obtain ⟨N2, D2, e2, f2, g2⟩ := ih (a + 1) q N1 D1 (by omega) (by omega) (by rw [f1.1]; exact hN) r1 l1 u1 d1
    exact ⟨N2, D2, e1.trans e2, f1.tr f2, g2⟩
theorem far_ok (hF : 200 ≤ F) (hs : src < nv) (h5 : nv ≤ 5) (hW : ∀ e, e < 25 → Wr e = nI (W e) ∧ W e ≤ 99 ∧ (nv ≤ e / 5 ∨ nv ≤ e % 5 → W e = 0)) (hN : N.1 8 = nI nv) (hT : N.2.1 11 = Wr) : ∃ N' D', f_X11_findFar F N (nI src) = some N' ∧ RFr 30 N N' ∧ RI 30 Wr 11 nv N' D' ∧ Ld W nv src D' ∧ Ub W nv src nv D' := by
  have h36 : ∀ (j p q : Nat) (N : St) (D : Nat → Nat), p + j = nv → j < q → N.1 8 = nI nv → RI 30 Wr 11 nv N D → Ld W nv src D → Ub W nv src p D → ∃ N' D', f_X11_findFar_L36 F q N (nI p) = some N' ∧ RFr 30 N N' ∧ RI 30 Wr 11 nv N' D' ∧ Ld W nv src D' ∧ Ub W nv src nv D' := by
    intro j
    induction j with
    | zero =>
      intro p q N D hp hq hN hT h1 h2
      obtain ⟨q, rfl⟩ : ∃ z, q = z + 1 := ⟨q - 1, by omega⟩
      have e : p = nv := by omega
      subst e
      simp only [f_X11_findFar_L36]
      rw [hN, if_pos (nI_le (Nat.le_refl _) (by omega))]
      exact ⟨N, D, rfl, RFr.rf, hT, h1, h2⟩
    | succ j ih =>
      intro p q N D hp hq hN hT h1 h2
      obtain ⟨q, rfl⟩ : ∃ z, q = z + 1 := ⟨q - 1, by omega⟩
      simp only [f_X11_findFar_L36]
      rw [hN, if_neg (nI_ge (show p < nv by omega) (by omega))]
      obtain ⟨N1, D1, e1, f1, r1, l1, u1⟩ := r46 (K36 := f_X11_findFar_L36 F q) (x2 := nI p) hF hs h5 hW nv 0 F N D (by omega) (by omega) hN hT h1 h2 (fun a' b' _ _ h => absurd h (Nat.not_lt_zero _))
      obtain ⟨N2, D2, e2, f2, g2⟩ := ih (p + 1) q N1 D1 (by omega) (by omega) (by rw [f1.1]; exact hN) r1 l1 u1
      rw [nI_1] at e1
      exact ⟨N2, D2, e1.trans e2, f1.tr f2, g2⟩
  have hl : ∀ (j i q : Nat) (N : St), i + j = nv → j < q → N.1 8 = nI nv → N.2.1 11 = Wr → (∀ v, v < i → N.2.1 30 v = nI (D00 src v)) → ∃ N' D', f_X11_findFar_L2 F (nI src) q N (nI i) = some N' ∧ RFr 30 N N' ∧ RI 30 Wr 11 nv N' D' ∧ Ld W nv src D' ∧ Ub W nv src nv D' := by
    intro j
    induction j with
    | zero =>
      intro i q N hi hq hN hT h1
      obtain ⟨q, rfl⟩ : ∃ z, q = z + 1 := ⟨q - 1, by omega⟩
      have e : i = nv := by omega
      subst e
      simp only [f_X11_findFar_L2]
      rw [hN, if_pos (nI_le (Nat.le_refl _) (by omega))]
      exact h36 i 0 F N (D00 src) (by omega) (by omega) hN ⟨hT, fun v hv => ⟨h1 v hv, by unfold D00; split <;> omega⟩⟩ D00_ld D00_ub
    | succ j ih =>
      intro i q N hi hq hN hT h1
      obtain ⟨q, rfl⟩ : ∃ z, q = z + 1 := ⟨q - 1, by omega⟩
      have hnext : ∀ x : Int32, x = nI (D00 src i) → ∃ N' D', f_X11_findFar_L2 F (nI src) q (sa N 30 i x) (nI (i + 1)) = some N' ∧ RFr 30 N N' ∧ RI 30 Wr 11 nv N' D' ∧ Ld W nv src D' ∧ Ub W nv src nv D' := by
        intro x hx
        obtain ⟨N', D', e1, f1, g1⟩ := ih (i + 1) q (sa N 30 i x) (by omega) (by omega) hN (by rw [sa21, if_neg (by omega)]; exact hT) (fun v hv => by
          rw [sa21, if_pos rfl, updE]
          by_cases e : v = i
          · rw [if_pos e, e, hx]
          · rw [if_neg e]; exact h1 v (by omega))
        exact ⟨N', D', e1, RFr.sa.tr f1, g1⟩
      simp only [f_X11_findFar_L2]
      rw [hN, if_neg (nI_ge (show i < nv by omega) (by omega)), inr_nI (show i < 5 by omega) (by omega), chk_true, chk_true, cl_nI (by omega), nI_1]
      by_cases e : i = src
      · rw [if_pos (show nI i = nI src by rw [e])]
        exact hnext 0 (by unfold D00; rw [if_pos e]; rfl)
      · rw [if_neg (ne_n e (by omega) (by omega))]
        exact hnext 1000000 (by unfold D00; rw [if_neg e]; rfl)
  exact hl nv 0 F N (by omega) (by omega) hN hT (fun v hv => absurd hv (Nat.not_lt_zero _))
end
