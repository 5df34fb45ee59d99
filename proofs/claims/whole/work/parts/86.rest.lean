/-! broken, year, judge, dated, claims, harm -/
section
variable {F : Nat} {Z X : Zt} {S T M N : St} {nm nv nd nb d v B t : Nat}
theorem cfirst_ok (hF : 200 ≤ F) (hV : RV F S Z M nm nv nd nb) (hv : v < nv) {H n : Nat} (hn : n < 48) (hH : H + 2000 < 1073730000) : ∀ (j i q : Nat) (T : St), i + j = 2000 → j < q → CO 80 S Z M nm d v T X → ∃ T', f_X2_firstFor_L2 F X (nI n) (nI H) q T (nI i) = some (ffR (cP S Z M nm d v n) j (H + i), T') ∧ CO 80 S Z M nm d v T' X ∧ CF 80 T T' := by
  intro j
  induction j with
  | zero =>
    intro i q T hij hq hO
    obtain ⟨q, rfl⟩ : ∃ z, q = z + 1 := ⟨q - 1, by omega⟩
    simp only [f_X2_firstFor_L2]
    rw [if_pos (show (2000 : Int32) ≤ nI i from nI_le (a := 2000) (by omega) (by omega))]
    exact ⟨T, rfl, hO, CF.rf⟩
  | succ j ih =>
    intro i q T hij hq hO
    obtain ⟨q, rfl⟩ : ∃ z, q = z + 1 := ⟨q - 1, by omega⟩
    simp only [f_X2_firstFor_L2]
    obtain ⟨T1, e1, o1, c1⟩ := ccostOf_ok hF (Or.inl rfl) hV hO hv hn (show H + i < 1073740000 by omega)
    rw [if_neg (show ¬ (2000 : Int32) ≤ nI i from nI_ge (b := 2000) (by omega) (by omega)), nI_add H i, e1, Option.bind_some, nI_1]
    show ∃ T', _ = some (if cP S Z M nm d v n (H + i) < 0 then ffR (cP S Z M nm d v n) j (H + i + 1) else nI (H + i), T') ∧ _
    by_cases hc : cP S Z M nm d v n (H + i) < 0
    · rw [if_pos hc, if_pos hc]
      obtain ⟨T2, e2, o2, c2⟩ := ih (i + 1) q T1 (by omega) (by omega) o1
      exact ⟨T2, e2, o2, c1.tr c2⟩
    · rw [if_neg hc, if_neg hc]
      exact ⟨T1, rfl, o1, c1⟩
theorem rfirst_ok (hF : 200000 ≤ F) (hV : RV F S Z M nm nv nd nb) (hd : d < nd) (hv : v < nv) {a1 a2 a3 : Int32} (ed : jrem a1 10 = nI v) {H n : Nat} (hn : n < 48) (hH : H + 2000 < 1073730000) {K : St → Int32 → Int32 → Int32 → Int32 → Option (Int32 × St)} {s : Int32} : ∀ (j i q : Nat) (N : St) (B : Nat), i + j = 2000 → j < q → MO S Z M nd B N → B + j + 1 < 1000000000 → ∃ N', ((ffR (cP S Z M nm d v n) j (H + i) = -2 ∧ f_X11_broken_L68 F a1 a2 a3 K q N (nI d) (nI (H + i)) s (nI n) (nI (H + 2000)) = some (-1, N')) ∨ ∃ x, H ≤ x ∧ x < H + 2000 ∧ ffR (cP S Z M nm d v n) j (H + i) = nI x ∧ f_X11_broken_L68 F a1 a2 a3 K q N (nI d) (nI (H + i)) s (nI n) (nI (H + 2000)) = K N' (nI d) (nI (x + 1)) (s + cP S Z M nm d v n x) (nI (n + 1))) ∧ MO S Z M nd (B + j + 1) N' := by
  intro j
  induction j with
  | zero =>
    intro i q N B hij hq hO hB
    obtain ⟨q, rfl⟩ : ∃ z, q = z + 1 := ⟨q - 1, by omega⟩
    refine ⟨N, Or.inl ⟨rfl, ?_⟩, hO.le (by omega)⟩
    simp only [f_X11_broken_L68, f_X11_broken_B98]
    have e : i = 2000 := by omega
    subst e
    rw [if_pos (nI_le (Nat.le_refl _) (by omega)), if_pos rfl]
  | succ j ih =>
    intro i q N B hij hq hO hB
    obtain ⟨q, rfl⟩ : ∃ z, q = z + 1 := ⟨q - 1, by omega⟩
    simp only [f_X11_broken_L68, f_X11_broken_B98]
    obtain ⟨N1, e1, o1⟩ := costOf_ok (by omega) hV hO (by omega) hd hv hn (show H + i < 1073740000 by omega)
    have hff : ffR (cP S Z M nm d v n) (j + 1) (H + i) = if cP S Z M nm d v n (H + i) < 0 then ffR (cP S Z M nm d v n) j (H + i + 1) else nI (H + i) := rfl
    rw [if_neg (nI_ge (show H + i < H + 2000 by omega) (by omega)), ed, e1, Option.bind_some, nI_1, hff]
    by_cases hc : cP S Z M nm d v n (H + i) < 0
    · rw [if_pos hc, if_neg (n0_le hc)]
      obtain ⟨N2, e2, o2⟩ := ih (i + 1) q N1 (B + 1) (by omega) (by omega) o1 (by omega)
      exact ⟨N2, e2, o2.le (by omega)⟩
    · obtain ⟨N2, e2, o2⟩ := costOf_ok (by omega) hV o1 (by omega) hd hv hn (show H + i < 1073740000 by omega)
      rw [if_neg hc, if_pos (nlt_le hc), if_neg (ne_n (show H + i ≠ H + 2000 by omega) (by omega) (by omega)), e2, Option.bind_some, nI_1]
      exact ⟨N2, Or.inr ⟨H + i, by omega, by omega, rfl, rfl⟩, o2.le (by omega)⟩
set_option maxRecDepth 20000 in
theorem rests_ok (hF : 200000 ≤ F) (hV : RV F S Z M nm nv nd nb) (hd : d < nd) (hv : v < nv) {a1 a3 : Int32} (ed : jrem a1 10 = nI v) {H : Nat} : ∀ (j i q q' A : Nat) (s : Int32) (T N : St) (B : Nat), i + j = hrs M d → j < q → j < q' → A + 2001 * j ≤ 2000000 → hP S Z M nm nd d v T X N B → B + 2001 * j < 1000000000 → ∃ r T' N', f_X2_doneWithRests_L9 F X (nI (hrs M d)) (nI H) a3 q T (nI A) s (nI i) = some (r, T') ∧ f_X11_broken_L45 F a1 (nI H) a3 q' N (nI d) (nI A) s (nI i) = some (r, N') ∧ hP S Z M nm nd d v T' X N' (B + 2001 * j) := by
  obtain ⟨g1, g2, g3, g4, g5⟩ := hrs_ok hV hd
  have h12 := hV.2.1.1.2.2
  intro j
  induction j with
  | zero =>
    intro i q q' A s T N B hij hq hq' hA hO hB
    obtain ⟨q, rfl⟩ : ∃ z, q = z + 1 := ⟨q - 1, by omega⟩
    obtain ⟨q', rfl⟩ : ∃ z, q' = z + 1 := ⟨q' - 1, by omega⟩
    simp only [f_X2_doneWithRests_L9, f_X11_broken_L45]
    rw [if_pos (nI_le (show hrs M d ≤ i by omega) (by omega)), show (6 : Int32) + nI d = nI (6 + d) from nI_add 6 d, inr_nI (show 6 + d < 30 by omega) (by omega), chk_true, chk_true, cl_nI (by omega), hO.2.2.1.2.1 0 (by omega) (by omega) (by omega), g1, if_pos (nI_le (show hrs M d ≤ i by omega) (by omega))]
    by_cases h0 : a3 = 0
    · rw [if_pos h0, if_pos h0]; exact ⟨_, T, N, rfl, rfl, hO⟩
    rw [if_neg h0, if_neg h0]
    by_cases h1 : a3 = 1
    · rw [if_pos h1, if_pos h1]; exact ⟨_, T, N, rfl, rfl, hO⟩
    · rw [if_neg h1, if_neg h1]; exact ⟨_, T, N, rfl, rfl, hO⟩
  | succ j ih =>
    intro i q q' A s T N B hij hq hq' hA hO hB
    rw [Nat.mul_add_one] at hA hB
    rw [Nat.mul_add_one]
    generalize 2001 * j = p at ih hA hB ⊢
    obtain ⟨q, rfl⟩ : ∃ z, q = z + 1 := ⟨q - 1, by omega⟩
    obtain ⟨q', rfl⟩ : ∃ z, q' = z + 1 := ⟨q' - 1, by omega⟩
    simp only [f_X2_doneWithRests_L9, f_X11_broken_L45]
    obtain ⟨T1, e1, o1, c1⟩ := cfirst_ok (X := X) (d := d) (n := i) (H := A) (by omega) hV hv (by omega) (by omega) 2000 0 F T (by omega) (by omega) hO.1
    obtain ⟨N1, e2, o2⟩ := rfirst_ok (a1 := a1) (a2 := nI H) (a3 := a3) (K := f_X11_broken_L45 F a1 (nI H) a3 q') (s := s) (n := i) (H := A) hF hV hd hv ed (by omega) (by omega) 2000 0 F N B (by omega) (by omega) hO.2.2 (by omega)
    have e3 : f_X2_firstFor F X T (nI i) (nI A) = some (ffR (cP S Z M nm d v i) 2000 A, T1) := e1
    have oT1 : hP S Z M nm nd d v T1 X N1 (B + 2001) := ⟨o1, hO.2.1.ot (Or.inr rfl) (Or.inl rfl) (by omega) c1 rfl, o2⟩
    rw [if_neg (nI_ge (show i < hrs M d by omega) (by omega)), show (6 : Int32) + nI d = nI (6 + d) from nI_add 6 d, inr_nI (show 6 + d < 30 by omega) (by omega), chk_true, cl_nI (by omega), hO.2.2.1.2.1 0 (by omega) (by omega) (by omega), g1, if_neg (nI_ge (show i < hrs M d by omega) (by omega)), show nI A + 2000 = nI (A + 2000) from nI_add A 2000, e3, Option.bind_some]
    rcases e2 with ⟨f1, f2⟩ | ⟨x, x1, x2, f1, f2⟩
    · have f1' : ffR (cP S Z M nm d v i) 2000 A = -2 := f1
      have f2' : f_X11_broken_L68 F a1 (nI H) a3 (f_X11_broken_L45 F a1 (nI H) a3 q') F N (nI d) (nI A) s (nI i) (nI (A + 2000)) = some (-1, N1) := f2
      rw [f1', f2', if_neg (show ¬ (0 : Int32) ≤ -2 by decide)]
      exact ⟨_, T1, N1, rfl, rfl, oT1.le (by omega)⟩
    · have f1' : ffR (cP S Z M nm d v i) 2000 A = nI x := f1
      have f2' : f_X11_broken_L68 F a1 (nI H) a3 (f_X11_broken_L45 F a1 (nI H) a3 q') F N (nI d) (nI A) s (nI i) (nI (A + 2000)) = f_X11_broken_L45 F a1 (nI H) a3 q' N1 (nI d) (nI (x + 1)) (s + cP S Z M nm d v i x) (nI (i + 1)) := f2
      obtain ⟨T2, e4, o4, c4⟩ := ccostOf_ok (n := i) (H := x) (by omega) (Or.inl rfl) hV oT1.1 hv (by omega) (by omega)
      rw [f1', f2', if_pos (nI_pos' (by omega)), e4, Option.bind_some, nI_1, nI_1]
      obtain ⟨r, T3, N3, e5, e6, o5⟩ := ih (i + 1) q q' (x + 1) (s + cP S Z M nm d v i x) T2 N1 (B + 2001) (by omega) (by omega) (by omega) (by omega) ⟨o4, oT1.2.1.ot (Or.inr rfl) (Or.inl rfl) (by omega) c4 rfl, oT1.2.2⟩ (by omega)
      exact ⟨r, T3, N3, e5, e6, o5.le (by omega)⟩
theorem st_broken (hF : 200000 ≤ F) : ST_broken F (RR F) := by
  intro t S Z M a1 a2 a3 ht hR
  have hR' := hR
  obtain ⟨nm, nv, nd, nb, hV, c1, c2, hm⟩ := hR
  have idle : ∀ (r : Int32), ∃ (r' : Int32) (S1 : St) (Z1 : Zt) (M1 : St), (some (r, S, Z) : Option (Int32 × St × Zt)) = some (r', S1, Z1) ∧ (some (r, M) : Option (Int32 × St)) = some (r', M1) ∧ RR F (t + 1) S1 Z1 M1 := fun r => ⟨r, S, Z, M, rfl, rfl, RR_idle hR'⟩
  unfold f_X10_broken f_X11_broken
  rw [isHour_eq]
  rcases case_d (Z := Z) (a1 := a1) (a2 := a2) hV.1 hV.2.1 with ⟨e1, e2 | ⟨e2, e3⟩⟩ | ⟨d, v, h, hd, hv, hh, ea, eb, ec, ed, e1, e2⟩
  · rw [e1, e2]; exact idle _
  · rw [e1, e2, e3]; exact idle _
  rw [e1, e2, Option.bind_some, Option.bind_some, if_neg one0, if_neg one0, eb, hx_y hh, Option.bind_some, if_neg one0, show (0 : Int64) = (nI 0).toInt64 from rfl, show (2 : Int64) = (nI 2).toInt64 from rfl]
  rcases rng (x := a3) 0 2 (by omega) (by omega) with ⟨hq, hw⟩ | ⟨w, n1, n2, ew, q1, q2, hw⟩
  · rw [hw]
    rcases hq with hq | ⟨hq1, hq2⟩
    · rw [if_pos (show a3 < 0 from hq)]; exact idle _
    · rw [if_neg (show ¬ a3 < 0 from hq1), if_neg (gt_nle (show 2 < a3 from hq2))]; exact idle _
  obtain ⟨g1, g2, g3, g4, g5⟩ := hrs_ok hV hd
  obtain ⟨T, X, o1, o2, -⟩ := (RR.g c1 c2 hm).opn hF hV hd hv
  have hV1 := o2.1.rv hV
  have hp := Nat.mul_le_mul_left 2001 g3
  rw [show 2001 * 48 = 96048 from rfl] at hp
  have hrr := rests_ok (X := X) (a1 := a1) (a3 := a3) (H := h) hF hV hd hv ed (hrs M d) 0 F F h 0 T M (1000000 * t) (by omega) (by omega) (by omega)
  generalize 2001 * hrs M d = p at hp hrr
  obtain ⟨r, T2, N2, e5, e6, o4⟩ := hrr (by omega) o2 (by omega)
  have e7 : f_X2_doneWithRests F X T (nI (hrs M d)) (nI h) a3 = some (r, T2) := e5
  rw [hw, if_neg (show ¬ a3 < 0 from q1), if_pos (show a3 ≤ 2 from nlt_le q2), Option.bind_some, if_neg one0, ec, ed, o1, Option.bind_some, hoursOf_eq hV1.2.1 hd, Option.bind_some, g1, e7, Option.bind_some]
  exact ⟨r, T2, X, N2, rfl, e6, o4.g.rr hV (by omega)⟩
/-- of a year -/
theorem yhours_ok (hF : 200000 ≤ F) (hV : RV F S Z M nm nv nd nb) (hd : d < nd) (hv : v < nv) {H K : Nat} (hK : K ≤ 600) (hH : H + 2000 < 1073730000) : ∀ (j i q q' : Nat) (x : Int32) (T N : St) (B : Nat), i + j = K → j < q → j < q' → hP S Z M nm nd d v T X N B → B + 48 * j < 1000000000 → ∃ r T' N', f_X2_lawfulHours_L15 F (nI H) (nI K) q T X x (nI i) = some (r, T', X) ∧ f_X11_yearOf_L6 F (nI d) (nI v) (nI H) (nI K) q' N x (nI (H + i)) = some (r, N') ∧ hP S Z M nm nd d v T' X N' (B + 48 * j) := by
  intro j
  induction j with
  | zero =>
    intro i q q' x T N B hij hq hq' hO hB
    obtain ⟨q, rfl⟩ : ∃ z, q = z + 1 := ⟨q - 1, by omega⟩
    obtain ⟨q', rfl⟩ : ∃ z, q' = z + 1 := ⟨q' - 1, by omega⟩
    simp only [f_X2_lawfulHours_L15, f_X11_yearOf_L6]
    rw [if_pos (nI_le (show K ≤ i by omega) (by omega)), nI_add H K, if_pos (nI_le (show H + K ≤ H + i by omega) (by omega))]
    exact ⟨_, T, N, rfl, rfl, hO⟩
  | succ j ih =>
    intro i q q' x T N B hij hq hq' hO hB
    obtain ⟨q, rfl⟩ : ∃ z, q = z + 1 := ⟨q - 1, by omega⟩
    obtain ⟨q', rfl⟩ : ∃ z, q' = z + 1 := ⟨q' - 1, by omega⟩
    simp only [f_X2_lawfulHours_L15, f_X11_yearOf_L6]
    obtain ⟨T1, N1, e1, e2, o1, -⟩ := hO.may (by omega) hV hd hv (by omega) (show H + i < 1073730000 by omega)
    rw [if_neg (nI_ge (show i < K by omega) (by omega)), nI_add H K, if_neg (nI_ge (show H + i < H + K by omega) (by omega)), nI_add H i, e1, e2, Option.bind_some, Option.bind_some, nI_1, nI_1, Int32.add_zero]
    have hfin : ∀ x : Int32, ∃ r T' N', f_X2_lawfulHours_L15 F (nI H) (nI K) q T1 X x (nI (i + 1)) = some (r, T', X) ∧ f_X11_yearOf_L6 F (nI d) (nI v) (nI H) (nI K) q' N1 x (nI (H + i + 1)) = some (r, N') ∧ hP S Z M nm nd d v T' X N' (B + 48 * (j + 1)) := fun x => by
      obtain ⟨r, T2, N2, e3, e4, o2⟩ := ih (i + 1) q q' x T1 N1 (B + 48) (by omega) (by omega) (by omega) o1 (by omega)
      exact ⟨r, T2, N2, e3, e4, o2.le (by omega)⟩
    by_cases hc : mP S Z M nm d v (H + i) < 0
    · rw [if_pos hc, if_pos hc]; exact hfin x
    · rw [if_neg hc, if_neg hc]; exact hfin _
theorem year1_ok (hF : 200000 ≤ F) (hV : RV F S Z M nm nv nd nb) (hd : d < nd) (hv : v < nv) {H K : Nat} (hK : K ≤ 600) (hH : H + 2000 < 1073730000) (hg : gP S Z M nd T X N B) (hB : B + 28800 < 1000000000) : ∃ r T' X' N', f_X2_lawfulHours F T X (nI d) (nI v) (nI H) (nI K) = some (r, T', X') ∧ f_X11_yearOf F N (nI d) (nI v) (nI H) (nI K) = some (r, N') ∧ gP S Z M nd T' X' N' (B + 28800) := by
  obtain ⟨T1, X1, o1, o2, -⟩ := hg.opn hF hV hd hv
  obtain ⟨r, T2, N2, e1, e2, o3⟩ := yhours_ok hF hV hd hv hK hH K 0 F F 0 T1 N B (by omega) (by omega) (by omega) o2 (by omega)
  unfold f_X2_lawfulHours f_X11_yearOf
  rw [o1, Option.bind_some]
  exact ⟨r, T2, X1, N2, e1, e2, o3.g.le (by omega)⟩
set_option maxRecDepth 100000 in
theorem st_year (hF : 200000 ≤ F) : ST_year F (RR F) := by
  intro t S Z M a1 a2 a3 a4 ht hR
  have hR' := hR
  obtain ⟨nm, nv, nd, nb, hV, c1, c2, hm⟩ := hR
  have h12 := hV.2.1.1.2.2
  have hB := hV.2.1
  have hnv := hV.1.2.1
  have idle : ∀ (r : Int32), ∃ (r' : Int32) (S1 : St) (Z1 : Zt) (M1 : St), (some (r, S, Z) : Option (Int32 × St × Zt)) = some (r', S1, Z1) ∧ (some (r, M) : Option (Int32 × St)) = some (r', M1) ∧ RR F (t + 1) S1 Z1 M1 := fun r => ⟨r, S, Z, M, rfl, rfl, RR_idle hR'⟩
  have hmain : (a1 = -1 ∨ ∃ d, d < nd ∧ a1 = nI d) → ∀ v h K, v < nv → h < 1000000 → 1 ≤ K → K ≤ 600 → ∃ (r' : Int32) (S1 : St) (Z1 : Zt) (M1 : St), f_X10_year_B41 F a1 (nI v) (nI h) (nI K) S Z = some (r', S1, Z1) ∧ (if (M.1 22) = 0 then some ((-5 : Int32), M) else if a1 < 0 then f_X11_year_L76 F (nI v) (nI h) (nI K) F M 0 (-1) 0 else (f_X11_yearOf F M a1 (nI v) (nI h) (nI K)).bind fun r5 => some (r5.1, r5.2)) = some (r', M1) ∧ RR F (t + 1) S1 Z1 M1 := by
    intro ha v h K hv hh hK1 hK
    unfold f_X10_year_B41 f_X1_size
    rw [Option.bind_some, hB.1.1, hB.1.2.1]
    rcases ha with rfl | ⟨d, hd, rfl⟩
    · rw [if_pos rfl, if_pos m1_lt]
      rcases nd with _ | nd
      · rw [if_pos (show nI 0 = 0 from rfl), if_pos (show nI 0 = 0 from rfl)]
        exact idle _
      rw [if_neg (nI_ne0 (by omega) (by omega)), if_neg (nI_ne0 (by omega) (by omega)), bind_id3]
      have hloop : ∀ (j i q q' : Nat) (x y : Int32) (T : St) (X : Zt) (N : St) (B : Nat), i + j = nd + 1 → j < q → j < q' → gP S Z M (nd + 1) T X N B → B + 28800 * j < 1000000000 → ∃ r T' X' N', f_X2_deedOfYear_L9 F (nI v) (nI h) (nI K) q T X x y (nI i) = some (r, T', X') ∧ f_X11_year_L76 F (nI v) (nI h) (nI K) q' N x y (nI i) = some (r, N') ∧ gP S Z M (nd + 1) T' X' N' (B + 28800 * j) := by
        intro j
        induction j with
        | zero =>
          intro i q q' x y T X N B hij hq hq' hg hB
          obtain ⟨q, rfl⟩ : ∃ z, q = z + 1 := ⟨q - 1, by omega⟩
          obtain ⟨q', rfl⟩ : ∃ z, q' = z + 1 := ⟨q' - 1, by omega⟩
          have hV1 := hV.c hg.1 hg.2.2.2.2.1 hg.2.1
          simp only [f_X2_deedOfYear_L9, f_X11_year_L76, f_X1_size]
          rw [Option.bind_some, hV1.2.1.1.1, hV1.2.1.1.2.1, if_pos (nI_le (show nd + 1 ≤ i by omega) (by omega)), if_pos (nI_le (show nd + 1 ≤ i by omega) (by omega))]
          exact ⟨x, T, X, N, rfl, rfl, hg⟩
        | succ j ih =>
          intro i q q' x y T X N B hij hq hq' hg hB
          rw [Nat.mul_add_one] at hB
          rw [Nat.mul_add_one]
          generalize 28800 * j = p at ih hB ⊢
          obtain ⟨q, rfl⟩ : ∃ z, q = z + 1 := ⟨q - 1, by omega⟩
          obtain ⟨q', rfl⟩ : ∃ z, q' = z + 1 := ⟨q' - 1, by omega⟩
          have hV1 := hV.c hg.1 hg.2.2.2.2.1 hg.2.1
          obtain ⟨r, T1, X1, N1, e1, e2, o1⟩ := year1_ok hF hV (show i < nd + 1 by omega) hv hK (show h + 2000 < 1073730000 by omega) hg (Nat.lt_of_le_of_lt (Nat.add_le_add_left (Nat.le_add_left 28800 p) B) hB)
          simp only [f_X2_deedOfYear_L9, f_X11_year_L76, f_X1_size]
          rw [Option.bind_some, hV1.2.1.1.1, hV1.2.1.1.2.1, if_neg (nI_ge (show i < nd + 1 by omega) (by omega)), if_neg (nI_ge (show i < nd + 1 by omega) (by omega)), e1, Option.bind_some, e2, Option.bind_some, nI_1]
          have hfin : ∀ x y : Int32, ∃ r T' X' N', f_X2_deedOfYear_L9 F (nI v) (nI h) (nI K) q T1 X1 x y (nI (i + 1)) = some (r, T', X') ∧ f_X11_year_L76 F (nI v) (nI h) (nI K) q' N1 x y (nI (i + 1)) = some (r, N') ∧ gP S Z M (nd + 1) T' X' N' (B + (p + 28800)) := fun x y => by
            obtain ⟨r, T', X', N', y1, y2, y3⟩ := ih (i + 1) q q' x y T1 X1 N1 (B + 28800) (by omega) (by omega) (by omega) o1 (by omega)
            exact ⟨r, T', X', N', y1, y2, y3.le (by omega)⟩
          by_cases hc : r ≤ y
          · rw [if_pos hc, if_pos hc]; exact hfin x y
          · rw [if_neg hc, if_neg hc]; exact hfin _ _
      have hp := Nat.mul_le_mul_left 28800 h12
      rw [show 28800 * 12 = 345600 from rfl] at hp
      have hrr := hloop (nd + 1) 0 F F 0 (-1) S Z M (1000000 * t) (by omega) (by omega) (by omega) (RR.g c1 c2 hm)
      generalize 28800 * (nd + 1) = p at hp hrr
      obtain ⟨r, T', X', N', y1, y2, y3⟩ := hrr (by omega)
      exact ⟨r, T', X', N', y1, y2, y3.rr hV (by omega)⟩
    · rw [if_neg (show ¬ nI d = -1 from fun z => by
        have e := nI_toInt (show d < 2 ^ 31 by omega)
        rw [z] at e
        have : (-1 : Int32).toInt = -1 := rfl
        omega), if_neg (nI_ne0 (by omega) (by omega)), if_neg (nI_pos (by omega)), bind_id2, bind_id3]
      obtain ⟨r, T', X', N', y1, y2, y3⟩ := year1_ok hF hV hd hv hK (show h + 2000 < 1073730000 by omega) (RR.g c1 c2 hm) (by omega)
      exact ⟨r, T', X', N', y1, y2, y3.rr hV (by omega)⟩
  have hB13 : (a1 = -1 ∨ ∃ d, d < nd ∧ a1 = nI d) → ∃ (r' : Int32) (S1 : St) (Z1 : Zt) (M1 : St), f_X10_year F S Z a1 a2 a3 a4 = some (r', S1, Z1) ∧ f_X11_year_B13 F a1 a2 a3 a4 M = some (r', M1) ∧ RR F (t + 1) S1 Z1 M1 := by
    intro ha
    unfold f_X10_year f_X11_year_B13
    rw [isPlace_eq hnv.1 hnv.2.2, isValley_eq hnv.2.1 hnv.2.2, Option.bind_some, Option.bind_some, isHour_eq]
    rcases hx_01 (n := nv) (a := a2) with h0 | ⟨v, hv, rfl, h1⟩
    · rw [h0]; exact idle _
    rw [h1, if_neg one0, if_neg one0, Option.bind_some]
    rcases hx_01 (n := 1000000) (a := a3) with h0 | ⟨h, hh, rfl, h2⟩
    · rw [h0]; exact idle _
    rw [h2, if_neg one0, if_neg one0, show (1 : Int64) = (nI 1).toInt64 from rfl, show (600 : Int64) = (nI 600).toInt64 from rfl]
    rcases rng (x := a4) 1 600 (by omega) (by omega) with ⟨hq, hw⟩ | ⟨K, n1, n2, rfl, q1, q2, hw⟩
    · rw [hw]
      rcases hq with hq | ⟨hq1, hq2⟩
      · rw [if_pos (show a4 < 1 from hq)]; exact idle _
      · rw [if_neg (show ¬ a4 < 1 from hq1), if_pos (show 600 < a4 from hq2)]; exact idle _
    rw [hw, if_neg (show ¬ nI K < 1 from q1), if_neg (show ¬ 600 < nI K from q2), Option.bind_some, if_neg one0]
    have hb41 : (if a1 = -1 then f_X10_year_B41 F a1 (nI v) (nI h) (nI K) S Z else (f_X1_has Z S a1).bind fun r2 => (if r2 = 0 then some ((-1 : Int32), S, Z) else f_X10_year_B41 F a1 (nI v) (nI h) (nI K) S Z)) = f_X10_year_B41 F a1 (nI v) (nI h) (nI K) S Z := by
      rcases ha with ha | ⟨d, hd, ha⟩
      · rw [if_pos ha]
      · split
        · rfl
        · rw [hasDeed_eq hB.1.1 h12, ha, hx_y hd, Option.bind_some, if_neg one0]
    rw [hb41]
    exact hmain ha v h K hv hh n1 n2
  by_cases hm1 : a1 = -1
  · have := hB13 (Or.inl hm1)
    unfold f_X11_year
    rw [if_pos hm1]
    exact this
  · unfold f_X11_year
    rw [if_neg hm1, isDeed_eq hB.1.2.1 h12, Option.bind_some]
    rcases hx_01 (n := nd) (a := a1) with h0 | ⟨d, hd, ed, h1⟩
    · rw [h0, if_pos rfl]
      unfold f_X10_year
      rw [hasDeed_eq hB.1.1 h12, h0, if_neg hm1, Option.bind_some, if_pos rfl, isPlace_eq hnv.1 hnv.2.2, Option.bind_some]
      refine ⟨-1, S, Z, M, ?_, rfl, RR_idle hR'⟩
      (repeat' split) <;> rfl
    · rw [h1, if_neg one0]
      exact hB13 (Or.inr ⟨d, hd, ed⟩)
end
