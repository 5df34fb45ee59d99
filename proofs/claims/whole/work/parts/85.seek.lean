/-! when, cheapest, broken -/
/-- the first of j hours from h on that may be -/
def ffR (p : Nat → Int32) : Nat → Nat → Int32
  | 0, _ => -2
  | j + 1, h => if p h < 0 then ffR p j (h + 1) else nI h
theorem ffR_cut (p : Nat → Int32) : ∀ (K J h : Nat), K ≤ J → (∃ x, h ≤ x ∧ x < h + K ∧ ffR p K h = nI x ∧ ffR p J h = nI x) ∨ (ffR p K h = -2 ∧ (ffR p J h = -2 ∨ ∃ x, h + K ≤ x ∧ x < h + J ∧ ffR p J h = nI x)) := by
  intro K
  induction K with
  | zero =>
    intro J
    induction J with
    | zero => exact fun h _ => Or.inr ⟨rfl, Or.inl rfl⟩
    | succ J ih =>
      intro h _
      refine Or.inr ⟨rfl, ?_⟩
      show (if p h < 0 then ffR p J (h + 1) else nI h) = -2 ∨ ∃ x, h + 0 ≤ x ∧ x < h + (J + 1) ∧ (if p h < 0 then ffR p J (h + 1) else nI h) = nI x
      by_cases q : p h < 0
      · rw [if_pos q]
        rcases ih (h + 1) (Nat.zero_le _) with ⟨x, x1, x2, -⟩ | ⟨-, y | ⟨x, x1, x2, x3⟩⟩
        · omega
        · exact Or.inl y
        · exact Or.inr ⟨x, by omega, by omega, x3⟩
      · rw [if_neg q]
        exact Or.inr ⟨h, by omega, by omega, rfl⟩
  | succ K ih =>
    intro J h hJ
    obtain ⟨J, rfl⟩ : ∃ z, J = z + 1 := ⟨J - 1, by omega⟩
    show (∃ x, h ≤ x ∧ x < h + (K + 1) ∧ (if p h < 0 then ffR p K (h + 1) else nI h) = nI x ∧ (if p h < 0 then ffR p J (h + 1) else nI h) = nI x) ∨ ((if p h < 0 then ffR p K (h + 1) else nI h) = -2 ∧ ((if p h < 0 then ffR p J (h + 1) else nI h) = -2 ∨ ∃ x, h + (K + 1) ≤ x ∧ x < h + (J + 1) ∧ (if p h < 0 then ffR p J (h + 1) else nI h) = nI x))
    by_cases q : p h < 0
    · rw [if_pos q, if_pos q]
      rcases ih J (h + 1) (by omega) with ⟨x, x1, x2, x3, x4⟩ | ⟨y1, y2 | ⟨x, x1, x2, x3⟩⟩
      · exact Or.inl ⟨x, by omega, by omega, x3, x4⟩
      · exact Or.inr ⟨y1, Or.inl y2⟩
      · exact Or.inr ⟨y1, Or.inr ⟨x, by omega, by omega, x3⟩⟩
    · rw [if_neg q, if_neg q]
      exact Or.inl ⟨h, by omega, by omega, rfl, rfl⟩
theorem ffR_or (p : Nat → Int32) (J h : Nat) : ffR p J h = -2 ∨ ∃ x, h ≤ x ∧ x < h + J ∧ ffR p J h = nI x := by
  rcases ffR_cut p J J h (Nat.le_refl _) with ⟨x, x1, x2, x3, -⟩ | ⟨y, -⟩
  · exact Or.inr ⟨x, x1, x2, x3⟩
  · exact Or.inl y
section
variable {F : Nat} {Z X : Zt} {S T M N : St} {nm nv nd nb d v B t : Nat}
theorem cfrom_ok (hF : 200 ≤ F) (hV : RV F S Z M nm nv nd nb) (hd : d < nd) (hv : v < nv) {H K : Nat} (hH : H + K < 1073730000) : ∀ (j i q : Nat) (T : St), i + j = K → j < q → CO 80 S Z M nm d v T X → ∃ T', f_X2_lawfulFrom_L2 F X (nI H) (nI K) q T (nI i) = some (ffR (mP S Z M nm d v) j (H + i), T') ∧ CO 80 S Z M nm d v T' X ∧ CF 80 T T' := by
  intro j
  induction j with
  | zero =>
    intro i q T hij hq hO
    obtain ⟨q, rfl⟩ : ∃ z, q = z + 1 := ⟨q - 1, by omega⟩
    simp only [f_X2_lawfulFrom_L2]
    rw [if_pos (nI_le (by omega) (by omega))]
    exact ⟨T, rfl, hO, CF.rf⟩
  | succ j ih =>
    intro i q T hij hq hO
    obtain ⟨q, rfl⟩ : ∃ z, q = z + 1 := ⟨q - 1, by omega⟩
    simp only [f_X2_lawfulFrom_L2]
    obtain ⟨T1, e1, o1, c1⟩ := begun_ok hF (Or.inl rfl) hV hO hd hv (show H + i < 1073730000 by omega)
    rw [if_neg (nI_ge (show i < K by omega) (by omega)), nI_add H i, e1, Option.bind_some, nI_1]
    show ∃ T', _ = some (if mP S Z M nm d v (H + i) < 0 then ffR (mP S Z M nm d v) j (H + i + 1) else nI (H + i), T') ∧ _
    by_cases hc : mP S Z M nm d v (H + i) < 0
    · rw [if_pos hc, if_pos hc]
      obtain ⟨T2, e2, o2, c2⟩ := ih (i + 1) q T1 (by omega) (by omega) o1
      exact ⟨T2, e2, o2, c1.tr c2⟩
    · rw [if_neg hc, if_neg hc]
      exact ⟨T1, rfl, o1, c1⟩
theorem rfrom_ok (hF : 200000 ≤ F) (hV : RV F S Z M nm nv nd nb) (hd : d < nd) (hv : v < nv) {H : Nat} (hH : H + 2000 < 1073730000) {N : St} (hN : MO S Z M nd B N) (hB : B + 96000 < 1000000000) : ∃ N', f_X11_fromOf F N (nI d) (nI v) (nI H) = some (ffR (mP S Z M nm d v) 2000 H, N') ∧ MO S Z M nd (B + 96000) N' := by
  have hl : ∀ (j i q : Nat) (N : St) (B : Nat), i + j = 2000 → j < q → MO S Z M nd B N → B + 48 * j < 1000000000 → ∃ N', f_X11_fromOf_L3 F (nI d) (nI v) (nI H) q N (nI (H + i)) = some (ffR (mP S Z M nm d v) j (H + i), N') ∧ MO S Z M nd (B + 48 * j) N' := by
    intro j
    induction j with
    | zero =>
      intro i q N B hij hq hO hB
      obtain ⟨q, rfl⟩ : ∃ z, q = z + 1 := ⟨q - 1, by omega⟩
      simp only [f_X11_fromOf_L3]
      rw [show nI H + 2000 = nI (H + 2000) from nI_add H 2000, if_pos (nI_le (by omega) (by omega))]
      exact ⟨N, rfl, hO⟩
    | succ j ih =>
      intro i q N B hij hq hO hB
      obtain ⟨q, rfl⟩ : ∃ z, q = z + 1 := ⟨q - 1, by omega⟩
      simp only [f_X11_fromOf_L3]
      obtain ⟨N1, e1, o1⟩ := mayOf_ok (by omega) hV hO (by omega) hd hv (show H + i < 1073730000 by omega)
      rw [show nI H + 2000 = nI (H + 2000) from nI_add H 2000, if_neg (nI_ge (show H + i < H + 2000 by omega) (by omega)), e1, Option.bind_some, nI_1]
      show ∃ N', _ = some (if mP S Z M nm d v (H + i) < 0 then ffR (mP S Z M nm d v) j (H + i + 1) else nI (H + i), N') ∧ _
      by_cases hc : mP S Z M nm d v (H + i) < 0
      · rw [if_pos hc, if_pos hc]
        obtain ⟨N2, e2, o2⟩ := ih (i + 1) q N1 (B + 48) (by omega) (by omega) o1 (by omega)
        exact ⟨N2, e2, o2.le (by omega)⟩
      · rw [if_neg hc, if_neg hc]
        exact ⟨N1, rfl, o1.le (by omega)⟩
  exact hl 2000 0 F N B (by omega) (by omega) hN (by omega)
theorem till_ok (hF : 200000 ≤ F) (hV : RV F S Z M nm nv nd nb) (hd : d < nd) (hv : v < nv) {H : Nat} (hH : H + 2000 < 1073730000) : ∀ (j i q q' : Nat) (T N : St) (B : Nat), i + j = 2001 → j < q → j < q' → hP S Z M nm nd d v T X N B → B + 48 * j < 1000000000 → ∃ r T' N', f_X2_lawfulTill_L16 F X (nI H) q T (nI i) = some (r, T') ∧ f_X11_tillOf_L18 F (nI d) (nI v) (nI H) q' N (nI (H + i)) = some (r, N') ∧ hP S Z M nm nd d v T' X N' (B + 48 * j) := by
  intro j
  induction j with
  | zero =>
    intro i q q' T N B hij hq hq' hO hB
    obtain ⟨q, rfl⟩ : ∃ z, q = z + 1 := ⟨q - 1, by omega⟩
    obtain ⟨q', rfl⟩ : ∃ z, q' = z + 1 := ⟨q' - 1, by omega⟩
    simp only [f_X2_lawfulTill_L16, f_X11_tillOf_L18]
    rw [if_pos (show (2000 : Int32) < nI i from nI_lt (a := 2000) (by omega) (by omega)), show nI H + 2000 = nI (H + 2000) from nI_add H 2000, if_pos (nI_lt (show H + 2000 < H + i by omega) (by omega))]
    exact ⟨_, T, N, rfl, rfl, hO⟩
  | succ j ih =>
    intro i q q' T N B hij hq hq' hO hB
    obtain ⟨q, rfl⟩ : ∃ z, q = z + 1 := ⟨q - 1, by omega⟩
    obtain ⟨q', rfl⟩ : ∃ z, q' = z + 1 := ⟨q' - 1, by omega⟩
    simp only [f_X2_lawfulTill_L16, f_X11_tillOf_L18]
    obtain ⟨T1, N1, e1, e2, o1, -⟩ := hO.may (by omega) hV hd hv (by omega) (show H + i < 1073730000 by omega)
    rw [if_neg (show ¬ (2000 : Int32) < nI i from nI_nlt (a := 2000) (by omega) (by omega)), show nI H + 2000 = nI (H + 2000) from nI_add H 2000, if_neg (nI_nlt (show H + i ≤ H + 2000 by omega) (by omega)), nI_add H i, e1, e2, Option.bind_some, Option.bind_some, nI_1, nI_1]
    by_cases hc : (0 : Int32) ≤ mP S Z M nm d v (H + i)
    · rw [if_pos hc, if_pos hc]
      obtain ⟨r, T2, N2, e3, e4, o2⟩ := ih (i + 1) q q' T1 N1 (B + 48) (by omega) (by omega) (by omega) o1 (by omega)
      exact ⟨r, T2, N2, e3, e4, o2.le (by omega)⟩
    · rw [if_neg hc, if_neg hc]
      exact ⟨_, T1, N1, rfl, rfl, o1.le (by omega)⟩
theorem st_when (hF : 200000 ≤ F) : ST_when F (RR F) := by
  intro t S Z M a1 a2 a3 ht hR
  have hR' := hR
  obtain ⟨nm, nv, nd, nb, hV, c1, c2, hm⟩ := hR
  have idle : ∀ (r : Int32), ∃ (r' : Int32) (S1 : St) (Z1 : Zt) (M1 : St), (some (r, S, Z) : Option (Int32 × St × Zt)) = some (r', S1, Z1) ∧ (some (r, M) : Option (Int32 × St)) = some (r', M1) ∧ RR F (t + 1) S1 Z1 M1 := fun r => ⟨r, S, Z, M, rfl, rfl, RR_idle hR'⟩
  unfold f_X10_when f_X11_when
  rw [isHour_eq]
  rcases case_d (Z := Z) (a1 := a1) (a2 := a2) hV.1 hV.2.1 with ⟨e1, e2 | ⟨e2, e3⟩⟩ | ⟨d, v, h, hd, hv, hh, ea, eb, ec, ed, e1, e2⟩
  · rw [e1, e2]; exact idle _
  · rw [e1, e2, e3]; exact idle _
  rw [e1, e2, Option.bind_some, Option.bind_some, if_neg one0, if_neg one0, ec, ed, eb, hx_y hh, Option.bind_some, if_neg one0, show (0 : Int64) = (nI 0).toInt64 from rfl, show (1 : Int64) = (nI 1).toInt64 from rfl]
  rcases rng (x := a3) 0 1 (by omega) (by omega) with ⟨hq, hw⟩ | ⟨w, n1, n2, rfl, q1, q2, hw⟩
  · rw [hw]
    rcases hq with hq | ⟨hq1, hq2⟩
    · rw [if_pos (show a3 < 0 from hq)]; exact idle _
    · rw [if_neg (show ¬ a3 < 0 from hq1), if_neg (gt_nle (show 1 < a3 from hq2))]; exact idle _
  obtain ⟨T, X, o1, o2, -⟩ := (RR.g c1 c2 hm).opn hF hV hd hv
  rw [hw, if_neg (show ¬ nI w < 0 from q1), if_pos (show nI w ≤ 1 from nlt_le q2), Option.bind_some, if_neg one0, o1, Option.bind_some]
  by_cases hw0 : nI w = 0
  · rw [if_pos hw0, if_pos hw0]
    unfold f_X2_lawfulTill f_X11_tillOf
    obtain ⟨T1, N1, e3, e4, o3, -⟩ := o2.may (by omega) hV hd hv (by omega) (show h < 1073730000 by omega)
    rw [e3, e4, Option.bind_some, Option.bind_some]
    by_cases hc : (0 : Int32) ≤ mP S Z M nm d v h
    · rw [if_pos hc, if_pos hc]
      obtain ⟨r, T2, N2, e5, e6, o4⟩ := till_ok hF hV hd hv (show h + 2000 < 1073730000 by omega) 2000 1 F F T1 N1 (1000000 * t + 48) (by omega) (by omega) (by omega) o3 (by omega)
      rw [show nI h + 1 = nI (h + 1) from nI_1 h, e6, show (1 : Int32) = nI 1 from rfl, e5, Option.bind_some, Option.bind_some]
      exact ⟨r, T2, X, N2, rfl, rfl, o4.g.rr hV (by omega)⟩
    · rw [if_neg hc, if_neg hc]
      exact ⟨_, T1, X, N1, rfl, rfl, o3.g.rr hV (by omega)⟩
  · rw [if_neg hw0, if_neg hw0]
    obtain ⟨T1, e3, o3, c3⟩ := cfrom_ok (X := X) (by omega) hV hd hv (show h + 2000 < 1073730000 by omega) 2000 0 F T (by omega) (by omega) o2.1
    obtain ⟨N1, e4, o4⟩ := rfrom_ok hF hV hd hv (show h + 2000 < 1073730000 by omega) o2.2.2 (by omega)
    have e5 : f_X2_lawfulFrom F X T (nI h) 2000 = some (ffR (mP S Z M nm d v) 2000 h, T1) := e3
    rw [e5, e4, Option.bind_some, Option.bind_some]
    have o5 : hP S Z M nm nd d v T1 X N1 (1000000 * t + 96000) := ⟨o3, o2.2.1.ot (Or.inr rfl) (Or.inl rfl) (by omega) c3 rfl, o4⟩
    exact ⟨_, T1, X, N1, rfl, rfl, o5.g.rr hV (by omega)⟩
theorem m1_lt : (-1 : Int32) < 0 := by decide
theorem cheap_ok (hF : 200000 ≤ F) (hV : RV F S Z M nm nv nd nb) (hd : d < nd) (hv : v < nv) {H K : Nat} {a1 a4 : Int32} (ec : a1 / 10 = nI d) (ed : jrem a1 10 = nI v) (hK : K ≤ 500) (hH : H + 2000 < 1073730000) : ∀ (j i q q' : Nat) (x y : Int32) (T N : St) (B : Nat), i + j = K → j < q → j < q' → ((x = -1 ∧ y = -1) ∨ (¬ x < 0 ∧ ¬ y < 0)) → hP S Z M nm nd d v T X N B → B + 48 * j < 1000000000 → ∃ r T' N', f_X2_leastCosts_L9 F X (nI H) (nI K) a4 q T x y (nI i) = some (r, T') ∧ f_X11_cheapest_L50 F a1 (nI H) (nI K) a4 q' N x y (nI (H + i)) = some (r, N') ∧ hP S Z M nm nd d v T' X N' (B + 48 * j) := by
  intro j
  induction j with
  | zero =>
    intro i q q' x y T N B hij hq hq' hxy hO hB
    obtain ⟨q, rfl⟩ : ∃ z, q = z + 1 := ⟨q - 1, by omega⟩
    obtain ⟨q', rfl⟩ : ∃ z, q' = z + 1 := ⟨q' - 1, by omega⟩
    simp only [f_X2_leastCosts_L9, f_X11_cheapest_L50]
    rw [if_pos (nI_le (show K ≤ i by omega) (by omega)), nI_add H K, if_pos (nI_le (show H + K ≤ H + i by omega) (by omega))]
    by_cases h4 : a4 = 0
    · rw [if_pos h4, if_pos h4]; exact ⟨_, T, N, rfl, rfl, hO⟩
    · rw [if_neg h4, if_neg h4]; exact ⟨_, T, N, rfl, rfl, hO⟩
  | succ j ih =>
    intro i q q' x y T N B hij hq hq' hxy hO hB
    obtain ⟨q, rfl⟩ : ∃ z, q = z + 1 := ⟨q - 1, by omega⟩
    obtain ⟨q', rfl⟩ : ∃ z, q' = z + 1 := ⟨q' - 1, by omega⟩
    simp only [f_X2_leastCosts_L9, f_X11_cheapest_L50, f_X2_leastCosts_B45]
    obtain ⟨T1, N1, e1, e2, o1, -⟩ := hO.may (by omega) hV hd hv (by omega) (show H + i < 1073730000 by omega)
    rw [if_neg (nI_ge (show i < K by omega) (by omega)), nI_add H K, if_neg (nI_ge (show H + i < H + K by omega) (by omega)), nI_add H i, ec, ed, e1, e2, Option.bind_some, Option.bind_some, nI_1, nI_1]
    have hfin : ∀ x y : Int32, ((x = -1 ∧ y = -1) ∨ (¬ x < 0 ∧ ¬ y < 0)) → ∃ r T' N', f_X2_leastCosts_L9 F X (nI H) (nI K) a4 q T1 x y (nI (i + 1)) = some (r, T') ∧ f_X11_cheapest_L50 F a1 (nI H) (nI K) a4 q' N1 x y (nI (H + i + 1)) = some (r, N') ∧ hP S Z M nm nd d v T' X N' (B + 48 * (j + 1)) := fun x y hxy => by
      obtain ⟨r, T2, N2, e3, e4, o2⟩ := ih (i + 1) q q' x y T1 N1 (B + 48) (by omega) (by omega) (by omega) hxy o1 (by omega)
      exact ⟨r, T2, N2, e3, e4, o2.le (by omega)⟩
    by_cases hc : mP S Z M nm d v (H + i) < 0
    · rw [if_pos hc, if_pos hc]; exact hfin x y hxy
    rw [if_neg hc, if_neg hc]
    rcases hxy with ⟨rfl, rfl⟩ | ⟨h1, h2⟩
    · rw [if_pos m1_lt, if_pos m1_lt]
      exact hfin _ _ (Or.inr ⟨nI_pos (by omega), hc⟩)
    · rw [if_neg h1, if_neg h2]
      by_cases hl : y ≤ mP S Z M nm d v (H + i)
      · rw [if_pos hl, if_pos hl]; exact hfin x y (Or.inr ⟨h1, h2⟩)
      · rw [if_neg hl, if_neg hl]
        exact hfin _ _ (Or.inr ⟨nI_pos (by omega), hc⟩)
theorem st_cheapest (hF : 200000 ≤ F) : ST_cheapest F (RR F) := by
  intro t S Z M a1 a2 a3 a4 ht hR
  have hR' := hR
  obtain ⟨nm, nv, nd, nb, hV, c1, c2, hm⟩ := hR
  have idle : ∀ (r : Int32), ∃ (r' : Int32) (S1 : St) (Z1 : Zt) (M1 : St), (some (r, S, Z) : Option (Int32 × St × Zt)) = some (r', S1, Z1) ∧ (some (r, M) : Option (Int32 × St)) = some (r', M1) ∧ RR F (t + 1) S1 Z1 M1 := fun r => ⟨r, S, Z, M, rfl, rfl, RR_idle hR'⟩
  unfold f_X10_cheapest f_X11_cheapest
  rw [isHour_eq]
  rcases case_d (Z := Z) (a1 := a1) (a2 := a2) hV.1 hV.2.1 with ⟨e1, e2 | ⟨e2, e3⟩⟩ | ⟨d, v, h, hd, hv, hh, ea, eb, ec, ed, e1, e2⟩
  · rw [e1, e2]; exact idle _
  · rw [e1, e2, e3]; exact idle _
  rw [e1, e2, Option.bind_some, Option.bind_some, if_neg one0, if_neg one0, eb, hx_y hh, Option.bind_some, if_neg one0, show (0 : Int64) = (nI 0).toInt64 from rfl, show (1 : Int64) = (nI 1).toInt64 from rfl, show (500 : Int64) = (nI 500).toInt64 from rfl]
  rcases rng (x := a3) 1 500 (by omega) (by omega) with ⟨hq, hw⟩ | ⟨K, n1, n2, rfl, q1, q2, hw⟩
  · rw [hw]
    rcases hq with hq | ⟨hq1, hq2⟩
    · rw [if_pos (show a3 < 1 from hq)]; exact idle _
    · rw [if_neg (show ¬ a3 < 1 from hq1), if_pos (show 500 < a3 from hq2)]; exact idle _
  rw [hw, if_neg (show ¬ nI K < 1 from q1), if_neg (show ¬ 500 < nI K from q2), Option.bind_some, if_neg one0]
  rcases rng (x := a4) 0 1 (by omega) (by omega) with ⟨hq, hw⟩ | ⟨w, n1', n2', ew, q1', q2', hw⟩
  · rw [hw]
    rcases hq with hq | ⟨hq1, hq2⟩
    · rw [if_pos (show a4 < 0 from hq)]; exact idle _
    · rw [if_neg (show ¬ a4 < 0 from hq1), if_neg (gt_nle (show 1 < a4 from hq2))]; exact idle _
  obtain ⟨T, X, o1, o2, -⟩ := (RR.g c1 c2 hm).opn hF hV hd hv
  obtain ⟨r, T2, N2, e5, e6, o4⟩ := cheap_ok (a4 := a4) hF hV hd hv ec ed n2 (show h + 2000 < 1073730000 by omega) K 0 F F (-1) (-1) T M (1000000 * t) (by omega) (by omega) (by omega) (Or.inl ⟨rfl, rfl⟩) o2 (by omega)
  have e7 : f_X2_leastCosts F X T (nI h) (nI K) a4 = some (r, T2) := e5
  rw [hw, if_neg (show ¬ a4 < 0 from q1'), if_pos (show a4 ≤ 1 from nlt_le q2'), Option.bind_some, if_neg one0, ec, ed, o1, Option.bind_some, e7, Option.bind_some]
  exact ⟨r, T2, X, N2, rfl, e6, o4.g.rr hV (by omega)⟩
end
