/-! judge, dated, claims, harm -/
section
variable {F : Nat} {Z X : Zt} {S T M N : St} {nm nv nd nb d v B t : Nat}
theorem vow_at (hV : KVows S M nd nv) : ∃ n, n ≤ 20 ∧ S.1 186 = nI n ∧ M.1 31 = nI n ∧ ∀ p, p < n → ∃ d v h, d < nd ∧ v < nv ∧ h ≤ 999999 ∧ S.2.1 183 p = nI d ∧ S.2.1 184 p = nI v ∧ S.2.1 185 p = nI h ∧ M.2.1 32 p = nI (10 * d + v) ∧ M.2.1 33 p = nI h := by
  obtain ⟨n, h1, h2, h3, h4⟩ := hV
  refine ⟨n, h1, h2, h3, fun p hp => ?_⟩
  obtain ⟨d, v, h, q1, q2, q3, q4, q5, q6, q7, q8⟩ := h4 p hp
  exact ⟨d, v, h, q1, q2, q3, q4, q5, q6, q7, q8⟩
theorem mayAt_eq {p H : Nat} (hp : p < 20) (hd : d < 12) (hv : v < 5) (e : N.2.1 32 p = nI (10 * d + v)) : f_X11_mayAt F N (nI p) (nI H) = (f_X11_mayOf F N (nI d) (nI v) (nI H)).bind fun r1 => (if r1.1 < 0 then some ((0 : Int32), r1.2) else some ((1 : Int32), r1.2)) := by
  unfold f_X11_mayAt
  rw [inr_nI hp (by omega), chk_true, chk_true, cl_nI (by omega), e, div_n (show 10 * d + v < 2 ^ 31 by omega) 10 (d := 10) rfl (by omega) (by omega), rem_n (show 10 * d + v < 2 ^ 31 by omega) 10 (d := 10) rfl (by omega) (by omega), show (10 * d + v) / 10 = d by omega, show (10 * d + v) % 10 = v by omega]
theorem st_judge (hF : 200000 ≤ F) : ST_judge F (RR F) := by
  intro t S Z M ht hR
  have hR' := hR
  obtain ⟨nm, nv, nd, nb, hV, c1, c2, hm⟩ := hR
  have h12 := hV.2.1.1.2.2
  have h5 := hV.1.2.1.2.2
  obtain ⟨n, hn, v1, v2, v3⟩ := vow_at hV.2.2.2.1
  have hloop : ∀ (j i q q' : Nat) (T : St) (X : Zt) (N : St) (B : Nat), i + j = n → j < q → j < q' → gP S Z M nd T X N B → B + 48 * j < 1000000000 → ∃ r T' X' N', f_X9_firstBroken_L2 F q T X (nI i) = some (r, T', X') ∧ f_X11_judge_L2 F q' N (nI i) = some (r, N') ∧ gP S Z M nd T' X' N' (B + 48 * j) := by
    intro j
    induction j with
    | zero =>
      intro i q q' T X N B hij hq hq' hg hB
      obtain ⟨q, rfl⟩ : ∃ z, q = z + 1 := ⟨q - 1, by omega⟩
      obtain ⟨q', rfl⟩ : ∃ z, q' = z + 1 := ⟨q' - 1, by omega⟩
      simp only [f_X9_firstBroken_L2, f_X11_judge_L2]
      rw [hg.1.1 186 (by omega) (by omega), hg.2.2.2.2.1.1 31 (by omega) (by omega), v1, v2, if_pos (nI_le (show n ≤ i by omega) (by omega)), if_pos (nI_le (show n ≤ i by omega) (by omega))]
      exact ⟨_, T, X, N, rfl, rfl, hg⟩
    | succ j ih =>
      intro i q q' T X N B hij hq hq' hg hB
      obtain ⟨q, rfl⟩ : ∃ z, q = z + 1 := ⟨q - 1, by omega⟩
      obtain ⟨q', rfl⟩ : ∃ z, q' = z + 1 := ⟨q' - 1, by omega⟩
      obtain ⟨d, v, h, hd, hv, hh, w1, w2, w3, w4, w5⟩ := v3 i (by omega)
      obtain ⟨T1, X1, o1, o2, cf⟩ := hg.opn hF hV hd hv
      obtain ⟨T2, N2, o3, o4, o5, -⟩ := o2.may (by omega) hV hd hv (by omega) (show h < 1073730000 by omega)
      have r183 : T.2.1 183 = S.2.1 183 := hg.1.2.1 183 (by omega) (by omega) (by omega)
      have r184 : T.2.1 184 = S.2.1 184 := hg.1.2.1 184 (by omega) (by omega) (by omega)
      have r185 : T1.2.1 185 = S.2.1 185 := (cf.2.1 185 (by omega)).trans (hg.1.2.1 185 (by omega) (by omega) (by omega))
      have r32 : N.2.1 32 = M.2.1 32 := hg.2.2.2.2.1.2.1 32 (by omega) (by omega) (by omega)
      have r33 : N.2.1 33 = M.2.1 33 := hg.2.2.2.2.1.2.1 33 (by omega) (by omega) (by omega)
      simp only [f_X9_firstBroken_L2, f_X11_judge_L2]
      rw [hg.1.1 186 (by omega) (by omega), hg.2.2.2.2.1.1 31 (by omega) (by omega), v1, v2, if_neg (nI_ge (show i < n by omega) (by omega)), if_neg (nI_ge (show i < n by omega) (by omega)), if_neg (show ¬ (20 : Int32) ≤ nI i from nI_ge (b := 20) (by omega) (by omega)), inr_nI (show i < 20 by omega) (by omega), chk_true, chk_true, chk_true, cl_nI (show i < 2 ^ 31 by omega), r183, r184, w1, w2, o1, Option.bind_some, chk_true, r185, w3, o3, Option.bind_some, r33, w5, mayAt_eq (d := d) (v := v) (by omega) (by omega) (by omega) (by rw [r32]; exact w4), o4, Option.bind_some, nI_1]
      by_cases hc : mP S Z M nm d v h < 0
      · rw [if_pos hc, if_neg (n0_le hc), Option.bind_some, if_pos rfl]
        exact ⟨_, T2, X1, N2, rfl, rfl, o5.g.le (by omega)⟩
      · rw [if_neg hc, if_pos (nlt_le hc), Option.bind_some, if_neg one0]
        obtain ⟨r, T', X', N', y1, y2, y3⟩ := ih (i + 1) q q' T2 X1 N2 (B + 48) (by omega) (by omega) (by omega) o5.g (by omega)
        exact ⟨r, T', X', N', y1, y2, y3.le (by omega)⟩
  obtain ⟨r, T', X', N', y1, y2, y3⟩ := hloop n 0 F F S Z M (1000000 * t) (by omega) (by omega) (by omega) (RR.g c1 c2 hm) (by omega)
  unfold f_X10_judge
  rw [bind_id3]
  exact ⟨r, T', X', N', y1, y2, y3.rr hV (by omega)⟩
theorem st_dated (hF : 200000 ≤ F) : ST_dated F (RR F) := by
  intro t S Z M a1 ht hR
  have hR' := hR
  obtain ⟨nm, nv, nd, nb, hV, c1, c2, hm⟩ := hR
  have h12 := hV.2.1.1.2.2
  have h5 := hV.1.2.1.2.2
  obtain ⟨n, hn, v1, v2, v3⟩ := vow_at hV.2.2.2.1
  have idle : ∀ (r : Int32), ∃ (r' : Int32) (S1 : St) (Z1 : Zt) (M1 : St), (some (r, S, Z) : Option (Int32 × St × Zt)) = some (r', S1, Z1) ∧ (some (r, M) : Option (Int32 × St)) = some (r', M1) ∧ RR F (t + 1) S1 Z1 M1 := fun r => ⟨r, S, Z, M, rfl, rfl, RR_idle hR'⟩
  unfold f_X10_dated f_X11_dated f_X9_nearestLawful
  rw [hasVow_eq v1 hn, isVow_eq v2 hn, Option.bind_some, Option.bind_some]
  rcases hx_01 (n := n) (a := a1) with h0 | ⟨p, hp, rfl, h1⟩
  · rw [h0]; exact idle _
  obtain ⟨d, v, h, hd, hv, hh, w1, w2, w3, w4, w5⟩ := v3 p hp
  obtain ⟨T1, X1, o1, o2, -⟩ := (RR.g c1 c2 hm).opn hF hV hd hv
  rw [h1, if_neg one0, if_neg one0, Option.bind_some, if_neg one0, inr_nI (show p < 20 by omega) (by omega), chk_true, chk_true, chk_true, cl_nI (show p < 2 ^ 31 by omega), w1, w2, o1, Option.bind_some, bind_id3, w5]
  simp only [lti]
  have hloop : ∀ (j i q q' : Nat) (T N : St) (B : Nat), i + j = 501 → j < q → j < q' → hP S Z M nm nd d v T X1 N B → B + 96 * j < 1000000000 → ∃ r T' N', f_X9_nearestLawful_L31 F (nI p) q T X1 (nI i) = some (r, T', X1) ∧ f_X11_dated_L19 F (nI p) q' N (nI h) (nI i) = some (r, N') ∧ hP S Z M nm nd d v T' X1 N' (B + 96 * j) := by
    intro j
    induction j with
    | zero =>
      intro i q q' T N B hij hq hq' hO hB
      obtain ⟨q, rfl⟩ : ∃ z, q = z + 1 := ⟨q - 1, by omega⟩
      obtain ⟨q', rfl⟩ : ∃ z, q' = z + 1 := ⟨q' - 1, by omega⟩
      simp only [f_X9_nearestLawful_L31, f_X11_dated_L19]
      rw [if_pos (show (500 : Int32) < nI i from nI_lt (a := 500) (by omega) (by omega)), if_pos (show (500 : Int32) < nI i from nI_lt (a := 500) (by omega) (by omega))]
      exact ⟨_, T, N, rfl, rfl, hO⟩
    | succ j ih =>
      intro i q q' T N B hij hq hq' hO hB
      obtain ⟨q, rfl⟩ : ∃ z, q = z + 1 := ⟨q - 1, by omega⟩
      obtain ⟨q', rfl⟩ : ∃ z, q' = z + 1 := ⟨q' - 1, by omega⟩
      have hnext : ∀ (T N : St) (B' : Nat), hP S Z M nm nd d v T X1 N B' → B' ≤ B + 96 → ∃ r T' N', f_X9_nearestLawful_L31 F (nI p) q T X1 (nI (i + 1)) = some (r, T', X1) ∧ f_X11_dated_L19 F (nI p) q' N (nI h) (nI (i + 1)) = some (r, N') ∧ hP S Z M nm nd d v T' X1 N' (B + 96 * (j + 1)) := by
        intro T N B' hO hB'
        obtain ⟨r, T', N', y1, y2, y3⟩ := ih (i + 1) q q' T N B' (by omega) (by omega) (by omega) hO (by omega)
        exact ⟨r, T', N', y1, y2, y3.le (by omega)⟩
      -- the later one
      have hlate : ∀ (T N : St) (B' : Nat), hP S Z M nm nd d v T X1 N B' → B' ≤ B + 48 → ∃ r T' N', f_X9_nearestLawful_B74 F (nI p) (f_X9_nearestLawful_L31 F (nI p) q) T X1 (nI i) (nI (h + i)) = some (r, T', X1) ∧ f_X11_dated_B50 F (nI p) (f_X11_dated_L19 F (nI p) q') N (nI h) (nI i) = some (r, N') ∧ hP S Z M nm nd d v T' X1 N' (B + 96 * (j + 1)) := by
        intro T N B' hO hB'
        unfold f_X9_nearestLawful_B74 f_X11_dated_B50
        rw [nI_add h i, isHour_eq, Option.bind_some, nI_1]
        by_cases hq : h + i < 1000000
        · have r32 : N.2.1 32 = M.2.1 32 := hO.2.2.1.2.1 32 (by omega) (by omega) (by omega)
          obtain ⟨T2, N2, o3, o4, o5, -⟩ := hO.may (by omega) hV hd hv (by omega) (show h + i < 1073730000 by omega)
          rw [hx_y hq, if_neg one0, if_neg (show ¬ (999999 : Int32) < nI (h + i) from nI_nlt (a := 999999) (by omega) (by omega)), o3, Option.bind_some, mayAt_eq (d := d) (v := v) (by omega) (by omega) (by omega) (by rw [r32]; exact w4), o4, Option.bind_some]
          by_cases hc : mP S Z M nm d v (h + i) < 0
          · rw [if_pos hc, if_pos hc, Option.bind_some, if_pos rfl]
            exact hnext T2 N2 _ o5 (by omega)
          · rw [if_neg hc, if_neg hc, Option.bind_some, if_neg one0]
            exact ⟨_, T2, N2, rfl, rfl, o5.le (by omega)⟩
        · rw [hx_n (fun ⟨z, hz, e⟩ => by rw [nI_eq (by omega) (by omega)] at e; omega), if_pos rfl, if_pos (show (999999 : Int32) < nI (h + i) from nI_lt (a := 999999) (by omega) (by omega))]
          exact hnext T N _ hO (by omega)
      have r185 : T.2.1 185 = S.2.1 185 := hO.1.1.2.1 185 (by omega) (by omega) (by omega)
      simp only [f_X9_nearestLawful_L31, f_X11_dated_L19, lti]
      rw [if_neg (show ¬ (500 : Int32) < nI i from nI_nlt (a := 500) (by omega) (by omega)), if_neg (show ¬ (500 : Int32) < nI i from nI_nlt (a := 500) (by omega) (by omega)), inr_nI (show p < 20 by omega) (by omega), chk_true, chk_true, cl_nI (show p < 2 ^ 31 by omega), r185, w3, nI_add h i, isHour_eq, Option.bind_some]
      by_cases hq : i ≤ h
      · have r32 : N.2.1 32 = M.2.1 32 := hO.2.2.1.2.1 32 (by omega) (by omega) (by omega)
        obtain ⟨T2, N2, o3, o4, o5, -⟩ := hO.may (by omega) hV hd hv (by omega) (show h - i < 1073730000 by omega)
        rw [pk_sub hq, hx_y (show h - i < 1000000 by omega), if_neg one0, if_neg (nI_pos (by omega)), o3, Option.bind_some, mayAt_eq (d := d) (v := v) (by omega) (by omega) (by omega) (by rw [r32]; exact w4), o4, Option.bind_some]
        by_cases hc : mP S Z M nm d v (h - i) < 0
        · rw [if_pos hc, if_pos hc, Option.bind_some, if_pos rfl]
          exact hlate T2 N2 _ o5 (by omega)
        · rw [if_neg hc, if_neg hc, Option.bind_some, if_neg one0]
          exact ⟨_, T2, N2, rfl, rfl, o5.le (by omega)⟩
      · have hs : nI h - nI i < 0 := pk_sneg (by omega) (by omega)
        rw [hx_n (fun ⟨z, hz, e⟩ => by rw [e] at hs; exact nI_pos (by omega) hs), if_pos rfl, if_pos hs]
        exact hlate T N _ hO (by omega)
  obtain ⟨r, T', N', y1, y2, y3⟩ := hloop 501 0 F F T1 M (1000000 * t) (by omega) (by omega) (by omega) o2 (by omega)
  exact ⟨r, T', X1, N', y1, y2, y3.g.rr hV (by omega)⟩
theorem st_claims (hF : 200000 ≤ F) : ST_claims F (RR F) := by
  intro t S Z M a1 a2 ht hR
  have hR' := hR
  obtain ⟨nm, nv, nd, nb, hV, c1, c2, hm⟩ := hR
  have h12 := hV.2.1.1.2.2
  have h5 := hV.1.2.1.2.2
  obtain ⟨n, hn, v1, v2, v3⟩ := vow_at hV.2.2.2.1
  have idle : ∀ (r : Int32), ∃ (r' : Int32) (S1 : St) (Z1 : Zt) (M1 : St), (some (r, S, Z) : Option (Int32 × St × Zt)) = some (r', S1, Z1) ∧ (some (r, M) : Option (Int32 × St)) = some (r', M1) ∧ RR F (t + 1) S1 Z1 M1 := fun r => ⟨r, S, Z, M, rfl, rfl, RR_idle hR'⟩
  unfold f_X10_claims f_X11_claims
  rw [hasVow_eq v1 hn, isVow_eq v2 hn, Option.bind_some, Option.bind_some]
  rcases hx_01 (n := n) (a := a1) with h0 | ⟨p, hp, rfl, h1⟩
  · rw [h0]; exact idle _
  rw [h1, if_neg one0, if_neg one0, show (1 : Int64) = (nI 1).toInt64 from rfl, show (2000 : Int64) = (nI 2000).toInt64 from rfl]
  rcases rng (x := a2) 1 2000 (by omega) (by omega) with ⟨hq, hw⟩ | ⟨K, n1, n2, rfl, q1, q2, hw⟩
  · rw [hw]
    rcases hq with hq | ⟨hq1, hq2⟩
    · rw [if_pos (show a2 < 1 from hq)]; exact idle _
    · rw [if_neg (show ¬ a2 < 1 from hq1), if_pos (show 2000 < a2 from hq2)]; exact idle _
  obtain ⟨d, v, h, hd, hv, hh, w1, w2, w3, w4, w5⟩ := v3 p hp
  obtain ⟨g1, g2, g3, g4, g5⟩ := hrs_ok hV hd
  obtain ⟨T1, X1, o1, o2, cf⟩ := (RR.g c1 c2 hm).opn hF hV hd hv
  obtain ⟨T2, N2, o3, o4, o5, cf2⟩ := o2.may (by omega) hV hd hv (by omega) (show h < 1073730000 by omega)
  have r185 : T1.2.1 185 = S.2.1 185 := cf.2.1 185 (by omega)
  have s183 : T2.2.1 183 = S.2.1 183 := (cf2.2.1 183 (by omega)).trans (cf.2.1 183 (by omega))
  have s184 : T2.2.1 184 = S.2.1 184 := (cf2.2.1 184 (by omega)).trans (cf.2.1 184 (by omega))
  have s185 : T2.2.1 185 = S.2.1 185 := (cf2.2.1 185 (by omega)).trans r185
  have u32 : N2.2.1 32 = M.2.1 32 := o5.2.2.1.2.1 32 (by omega) (by omega) (by omega)
  have u0 : N2.2.1 0 = M.2.1 0 := o5.2.2.1.2.1 0 (by omega) (by omega) (by omega)
  unfold f_X9_claimHours
  rw [hw, if_neg (show ¬ nI K < 1 from q1), if_neg (show ¬ 2000 < nI K from q2), Option.bind_some, if_neg one0, hasVow_eq v1 hn, h1, Option.bind_some, if_neg one0, inr_nI (show p < 20 by omega) (by omega), chk_true, chk_true, chk_true, cl_nI (show p < 2 ^ 31 by omega), w1, w2, o1, Option.bind_some, chk_true, r185, w3, o3, Option.bind_some, w5]
  simp only [lti]
  rw [mayAt_eq (d := d) (v := v) (by omega) (by omega) (by omega) w4, o4, Option.bind_some]
  by_cases hc : mP S Z M nm d v h < 0
  · rw [if_pos hc, if_neg (n0_le hc), Option.bind_some, Option.bind_some, if_pos rfl]
    exact ⟨_, T2, X1, N2, rfl, rfl, o5.g.rr hV (by omega)⟩
  · rw [if_neg hc, if_pos (nlt_le hc), Option.bind_some, if_neg one0]
    have hV2 : RV F T2 X1 N2 nm nv nd nb := hV.c o5.1.1 o5.2.2.1 o5.1.2.1
    obtain ⟨T3, e3, o6, cf3⟩ := upAt_ok (F := F) (H := h) (by omega) (Or.inl rfl) hV o5.1 hv (by omega)
    have hV3 : RV F T3 X1 N2 nm nv nd nb := hV.c o6.1 o5.2.2.1 o6.2.1
    have hP3 : hP S Z M nm nd d v T3 X1 N2 (1000000 * t + 48) := ⟨o6, o5.2.1.ot (Or.inr rfl) (Or.inl rfl) (by omega) cf3 rfl, o5.2.2⟩
    rw [chk_true, chk_true, s183, s184, s185, w1, w2, w3, hoursOf_eq hV2.2.1 hd, Option.bind_some, u0, g1, nI_add, chk_true, chk_true, e3, Option.bind_some, chk_true, chk_true, u32, w4, div_n (show 10 * d + v < 2 ^ 31 by omega) 10 (d := 10) rfl (by omega) (by omega), rem_n (show 10 * d + v < 2 ^ 31 by omega) 10 (d := 10) rfl (by omega) (by omega), show (10 * d + v) / 10 = d by omega, show (10 * d + v) % 10 = v by omega, show (6 : Int32) + nI d = nI (6 + d) from nI_add 6 d, inr_nI (show 6 + d < 30 by omega) (by omega), chk_true, cl_nI (show 6 + d < 2 ^ 31 by omega), g1, nI_add]
    generalize hA : h + hrs M d = A
    have hst : stP M v h nm = stP N2 v h nm := (stP_c o5.2.2.1 v h nm).symm
    have hloop : ∀ (j i q q' : Nat) (x : Int32), i + j = K → j < q → j < q' → ∃ r, f_X7_hoursWith_L6 F X1 T3 (nI v) (nI A) (nI K) (nI (stP M v h nm)) q x (nI i) = some r ∧ f_X11_claims_L80 F (nI K) q' N2 (nI h) (nI v) (nI A) x (nI (A + i)) = some (r, N2) := by
      intro j
      induction j with
      | zero =>
        intro i q q' x hij hq hq'
        obtain ⟨q, rfl⟩ : ∃ z, q = z + 1 := ⟨q - 1, by omega⟩
        obtain ⟨q', rfl⟩ : ∃ z, q' = z + 1 := ⟨q' - 1, by omega⟩
        simp only [f_X7_hoursWith_L6, f_X11_claims_L80]
        rw [if_pos (nI_le (show K ≤ i by omega) (by omega)), nI_add A K, if_pos (nI_le (show A + K ≤ A + i by omega) (by omega))]
        exact ⟨x, rfl, rfl⟩
      | succ j ih =>
        intro i q q' x hij hq hq'
        obtain ⟨q, rfl⟩ : ∃ z, q = z + 1 := ⟨q - 1, by omega⟩
        obtain ⟨q', rfl⟩ : ∃ z, q' = z + 1 := ⟨q' - 1, by omega⟩
        simp only [f_X7_hoursWith_L6, f_X11_claims_L80]
        rw [if_neg (nI_ge (show i < K by omega) (by omega)), nI_add A K, if_neg (nI_ge (show A + i < A + K by omega) (by omega)), nI_add A i, upIn_eq (by omega) hV3.1 hv (by omega), stateOf_eq (by omega) hV3.1 hv (show A + i < 1073740000 by omega), stateOf_eq (by omega) hV3.1 hv (show h < 1073740000 by omega), Option.bind_some, Option.bind_some, Option.bind_some, nI_1, nI_1, hst, Int32.add_zero]
        rw [hst] at ih
        by_cases hc : nI (stP N2 v (A + i) nm) = nI (stP N2 v h nm)
        · rw [if_pos hc, if_pos hc]
          exact ih (i + 1) q q' _ (by omega) (by omega) (by omega)
        · rw [if_neg hc, if_neg hc]
          exact ih (i + 1) q q' _ (by omega) (by omega) (by omega)
    obtain ⟨r, y1, y2⟩ := hloop K 0 F F 0 (by omega) (by omega) (by omega)
    have y3 : f_X7_hoursWith F X1 T3 (nI v) (nI A) (nI K) (nI (stP M v h nm)) = some r := y1
    rw [y3, Option.bind_some, Option.bind_some]
    exact ⟨r, T3, X1, N2, rfl, y2, hP3.g.rr hV (by omega)⟩
/-- two courts -/
def kP (S : St) (Z : Zt) (M : St) (nm nd d e v : Nat) (T : St) (X : Zt) (N : St) (B : Nat) : Prop := CO 80 S Z M nm d v T X ∧ CO 300 S Z M nm e v T X ∧ MO S Z M nd B N
theorem st_harm (hF : 200000 ≤ F) : ST_harm F (RR F) := by
  intro t S Z M a1 a2 a3 ht hR
  have hR' := hR
  obtain ⟨nm, nv, nd, nb, hV, c1, c2, hm⟩ := hR
  have h12 := hV.2.1.1.2.2
  have hB0 := hV.2.1
  have hnv := hV.1.2.1
  have idle : ∀ (r : Int32), ∃ (r' : Int32) (S1 : St) (Z1 : Zt) (M1 : St), (some (r, S, Z) : Option (Int32 × St × Zt)) = some (r', S1, Z1) ∧ (some (r, M) : Option (Int32 × St)) = some (r', M1) ∧ RR F (t + 1) S1 Z1 M1 := fun r => ⟨r, S, Z, M, rfl, rfl, RR_idle hR'⟩
  unfold f_X10_harm f_X11_harm
  by_cases h1 : a1 < 0
  · rw [if_pos h1, if_pos h1]; exact idle _
  obtain ⟨w, hw, rfl⟩ := nI_of h1
  rw [if_neg h1, if_neg h1, div_n hw 100 (d := 100) rfl (by omega) (by omega), rem_n hw 100 (d := 100) rfl (by omega) (by omega), hasDeed_eq hB0.1.1 h12, isDeed_eq hB0.1.2.1 h12, Option.bind_some, Option.bind_some, hasDeed_eq hB0.1.1 h12, isDeed_eq hB0.1.2.1 h12]
  by_cases g1 : w / 100 < nd
  · rw [hx_y g1, if_neg one0, if_neg one0, Option.bind_some, Option.bind_some]
    by_cases g2 : w % 100 < nd
    · rw [hx_y g2, if_neg one0, if_neg one0]
      by_cases g3 : w / 100 = w % 100
      · rw [g3, if_pos rfl, if_pos rfl]; exact idle _
      rw [if_neg (ne_n g3 (by omega) (by omega)), if_neg (ne_n g3 (by omega) (by omega)), isPlace_eq hnv.1 hnv.2.2, isValley_eq hnv.2.1 hnv.2.2, Option.bind_some, Option.bind_some, isHour_eq]
      rcases hx_01 (n := nv) (a := a2) with h0 | ⟨v, hv, rfl, h1⟩
      · rw [h0]; exact idle _
      rw [h1, if_neg one0, if_neg one0, Option.bind_some]
      rcases hx_01 (n := 1000000) (a := a3) with h0 | ⟨h, hh, rfl, h2⟩
      · rw [h0]; exact idle _
      rw [h2, if_neg one0, if_neg one0, bind_id3]
      generalize hd1 : w / 100 = d at g1 g3 ⊢
      generalize hd2 : w % 100 = e at g2 g3 ⊢
      unfold f_X2_firstHarm
      obtain ⟨T1, X1, e1, o1, f1, z1, z2⟩ := open_ok hF (Or.inl rfl) hV SC.rf rfl c1 g1 hv
      obtain ⟨T2, X2, e2, o2, f2, z3, z4⟩ := open_ok hF (Or.inr rfl) hV o1.1 o1.2.1 (c2.ot (Or.inr rfl) (Or.inl rfl) (by omega) f1 (z2 _ (by omega))) g2 hv
      have o3 : CO 80 S Z M nm d v T2 X2 := o1.ot (Or.inl rfl) (Or.inr rfl) (by omega) f2 z3 (z4 _ (by omega))
      have hloop : ∀ (j i q q' : Nat) (T N : St) (B : Nat), i + j = 2000 → j < q → j < q' → kP S Z M nm nd d e v T X2 N B → B + 96 * j < 1000000000 → ∃ r T' N', f_X2_firstHarm_L21 F (nI h) q T X2 (nI i) = some (r, T', X2) ∧ f_X11_harm_L57 F (nI w) (nI v) (nI h) q' N (nI (h + i)) = some (r, N') ∧ kP S Z M nm nd d e v T' X2 N' (B + 96 * j) := by
        intro j
        induction j with
        | zero =>
          intro i q q' T N B hij hq hq' hO hB
          obtain ⟨q, rfl⟩ : ∃ z, q = z + 1 := ⟨q - 1, by omega⟩
          obtain ⟨q', rfl⟩ : ∃ z, q' = z + 1 := ⟨q' - 1, by omega⟩
          simp only [f_X2_firstHarm_L21, f_X11_harm_L57]
          rw [if_pos (show (2000 : Int32) ≤ nI i from nI_le (a := 2000) (by omega) (by omega)), show nI h + 2000 = nI (h + 2000) from nI_add h 2000, if_pos (nI_le (show h + 2000 ≤ h + i by omega) (by omega))]
          exact ⟨_, T, N, rfl, rfl, hO⟩
        | succ j ih =>
          intro i q q' T N B hij hq hq' hO hB
          obtain ⟨q, rfl⟩ : ∃ z, q = z + 1 := ⟨q - 1, by omega⟩
          obtain ⟨q', rfl⟩ : ∃ z, q' = z + 1 := ⟨q' - 1, by omega⟩
          obtain ⟨k1, k2, k3⟩ := hO
          obtain ⟨Ta, ea, oa, ca⟩ := begun_ok (H := h + i) (by omega) (Or.inl rfl) hV k1 g1 hv (by omega)
          obtain ⟨Na, na, ma⟩ := mayOf_ok (H := h + i) (by omega) hV k3 (by omega) g1 hv (by omega)
          have k2' : CO 300 S Z M nm e v Ta X2 := k2.ot (Or.inr rfl) (Or.inl rfl) (by omega) ca rfl rfl
          have hnext : ∀ (T N : St) (B' : Nat), kP S Z M nm nd d e v T X2 N B' → B' ≤ B + 96 → ∃ r T' N', f_X2_firstHarm_L21 F (nI h) q T X2 (nI (i + 1)) = some (r, T', X2) ∧ f_X11_harm_L57 F (nI w) (nI v) (nI h) q' N (nI (h + i + 1)) = some (r, N') ∧ kP S Z M nm nd d e v T' X2 N' (B + 96 * (j + 1)) := by
            intro T N B' hO hB'
            obtain ⟨r, T', N', y1, y2, y3, y4, y5⟩ := ih (i + 1) q q' T N B' (by omega) (by omega) (by omega) hO (by omega)
            exact ⟨r, T', N', y1, y2, y3, y4, y5.le (by omega)⟩
          simp only [f_X2_firstHarm_L21, f_X11_harm_L57]
          rw [if_neg (show ¬ (2000 : Int32) ≤ nI i from nI_ge (b := 2000) (by omega) (by omega)), show nI h + 2000 = nI (h + 2000) from nI_add h 2000, if_neg (nI_ge (show h + i < h + 2000 by omega) (by omega)), nI_add h i, ea, Option.bind_some, div_n hw 100 (d := 100) rfl (by omega) (by omega), rem_n hw 100 (d := 100) rfl (by omega) (by omega), hd1, hd2, na, Option.bind_some, nI_1, nI_1]
          by_cases hc : mP S Z M nm d v (h + i) < 0
          · rw [if_pos hc, if_pos hc]
            exact hnext Ta Na _ ⟨oa, k2', ma⟩ (by omega)
          rw [if_neg hc, if_neg hc]
          obtain ⟨Tb, eb, ob, cb⟩ := begun_ok (H := h + i) (by omega) (Or.inr rfl) hV k2' g2 hv (by omega)
          obtain ⟨Nb, nb', mb⟩ := mayOf_ok (H := h + i) (by omega) hV ma (by omega) g2 hv (by omega)
          have oa' : CO 80 S Z M nm d v Tb X2 := oa.ot (Or.inl rfl) (Or.inr rfl) (by omega) cb rfl rfl
          rw [eb, Option.bind_some, nb', Option.bind_some]
          by_cases hc2 : (0 : Int32) ≤ mP S Z M nm e v (h + i)
          · rw [if_pos hc2, if_pos hc2]
            exact hnext Tb Nb _ ⟨oa', ob, mb⟩ (by omega)
          · rw [if_neg hc2, if_neg hc2]
            exact ⟨_, Tb, Nb, rfl, rfl, oa', ob, mb.le (by omega)⟩
      obtain ⟨r, T', N', y1, y2, y3, y4, y5⟩ := hloop 2000 0 F F T2 M (1000000 * t) (by omega) (by omega) (by omega) ⟨o3, o2, MC.rf, hm⟩ (by omega)
      rw [e1, Option.bind_some, e2, Option.bind_some]
      have hg : gP S Z M nd T' X2 N' (1000000 * t + 96 * 2000) := ⟨y3.1, y3.2.1, y3.kct, y4.kct, y5⟩
      exact ⟨r, T', X2, N', y1, y2, hg.rr hV (by omega)⟩
    · rw [hx_n (fun ⟨j, hj, e⟩ => g2 (by rw [nI_eq (by omega) (by omega)] at e; omega)), if_pos rfl, if_pos rfl]; exact idle _
  · rw [hx_n (fun ⟨j, hj, e⟩ => g1 (by rw [nI_eq (by omega) (by omega)] at e; omega)), if_pos rfl, if_pos rfl]; exact idle _
end
