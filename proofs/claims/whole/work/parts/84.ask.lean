/-! calls by a court: costs, may, now -/
/-- both sides, from a state (S, Z, M) on -/
def gP (S : St) (Z : Zt) (M : St) (nd : Nat) (T : St) (X : Zt) (N : St) (B : Nat) : Prop := SC S T ∧ X.2 = Z.2 ∧ KCt T X 80 ∧ KCt T X 300 ∧ MO S Z M nd B N
def hP (S : St) (Z : Zt) (M : St) (nm nd d v : Nat) (T : St) (X : Zt) (N : St) (B : Nat) : Prop := CO 80 S Z M nm d v T X ∧ KCt T X 300 ∧ MO S Z M nd B N
section
variable {F : Nat} {Z X : Zt} {S T M N : St} {nm nv nd nb d v B t : Nat}
theorem hP.g (h : hP S Z M nm nd d v T X N B) : gP S Z M nd T X N B := ⟨h.1.1, h.1.2.1, h.1.kct, h.2.1, h.2.2⟩
theorem hP.le {B' : Nat} (h : hP S Z M nm nd d v T X N B) (hB : B ≤ B') : hP S Z M nm nd d v T X N B' := ⟨h.1, h.2.1, h.2.2.le hB⟩
theorem gP.le {B' : Nat} (h : gP S Z M nd T X N B) (hB : B ≤ B') : gP S Z M nd T X N B' := ⟨h.1, h.2.1, h.2.2.1, h.2.2.2.1, h.2.2.2.2.le hB⟩
theorem gP.rr (hV : RV F S Z M nm nv nd nb) (h : gP S Z M nd T X N B) (hB : B ≤ 1000000 * (t + 1)) : RR F (t + 1) T X N := by
  obtain ⟨h1, h2, h3, h4, h5⟩ := h
  exact RR_mk (hV.c h1 h5.1 h2) h3 h4 (h5.2.fr (Nat.le_refl _) hV.2.1.1.2.2 ⟨h1.lw h2 0, h1.lw h2 1, h1.lw h2 2⟩ ⟨rfl, rfl, rfl, rfl, rfl⟩ (fun _ _ => ⟨rfl, rfl, rfl⟩)) hB
theorem RR.g (c1 : KCt S Z 80) (c2 : KCt S Z 300) (hm : KMemo S Z M nd B) : gP S Z M nd S Z M B := ⟨SC.rf, rfl, c1, c2, MC.rf, hm⟩
theorem gP.opn (hF : 200000 ≤ F) (hV : RV F S Z M nm nv nd nb) (h : gP S Z M nd T X N B) (hd : d < nd) (hv : v < nv) : ∃ T' X', f_X4_open F 80 T X (nI d) (nI v) = some (T', X') ∧ hP S Z M nm nd d v T' X' N B ∧ CF 80 T T' := by
  obtain ⟨h1, h2, h3, h4, h5⟩ := h
  obtain ⟨T', X', e, o, c, z1, z2⟩ := open_ok hF (Or.inl rfl) hV h1 h2 h3 hd hv
  exact ⟨T', X', e, ⟨o, h4.ot (Or.inr rfl) (Or.inl rfl) (by omega) c (z2 _ (by omega)), h5⟩, c⟩
theorem hP.may (hF : 200 ≤ F) (hV : RV F S Z M nm nv nd nb) (h : hP S Z M nm nd d v T X N B) (hd : d < nd) (hv : v < nv) (hB : B + 48 < 1000000000) {H : Nat} (hH : H < 1073730000) : ∃ T' N', f_X4_costBegun F 80 X T (nI H) = some (mP S Z M nm d v H, T') ∧ f_X11_mayOf F N (nI d) (nI v) (nI H) = some (mP S Z M nm d v H, N') ∧ hP S Z M nm nd d v T' X N' (B + 48) ∧ CF 80 T T' := by
  obtain ⟨h1, h2, h3⟩ := h
  obtain ⟨T', e1, o1, c1⟩ := begun_ok hF (Or.inl rfl) hV h1 hd hv hH
  obtain ⟨N', e2, o2⟩ := mayOf_ok hF hV h3 hB hd hv hH
  exact ⟨T', N', e1, e2, ⟨o1, h2.ot (Or.inr rfl) (Or.inl rfl) (by omega) c1 rfl, o2⟩, c1⟩
theorem hP.cost (hF : 200 ≤ F) (hV : RV F S Z M nm nv nd nb) (h : hP S Z M nm nd d v T X N B) (hd : d < nd) (hv : v < nv) (hB : B + 1 < 1000000000) {n H : Nat} (hn : n < 48) (hH : H < 1073740000) : ∃ T' N', f_X4_costOf F 80 X T (nI n) (nI H) = some (cP S Z M nm d v n H, T') ∧ f_X11_costOf F N (nI d) (nI v) (nI n) (nI H) = some (cP S Z M nm d v n H, N') ∧ hP S Z M nm nd d v T' X N' (B + 1) := by
  obtain ⟨h1, h2, h3⟩ := h
  obtain ⟨T', e1, o1, c1⟩ := ccostOf_ok hF (Or.inl rfl) hV h1 hv hn hH
  obtain ⟨N', e2, o2⟩ := costOf_ok hF hV h3 hB hd hv hn hH
  exact ⟨T', N', e1, e2, o1, h2.ot (Or.inr rfl) (Or.inl rfl) (by omega) c1 rfl, o2⟩
theorem isDv1 {a1 : Int32} (hB : KBook S M nd) (h : f_X11_isDv M a1 = some 1) : ∃ d, d < nd ∧ a1 / 10 = nI d := by
  unfold f_X11_isDv at h
  by_cases h1 : a1 < 0
  · rw [if_pos h1] at h
    exact absurd (Option.some.inj h) (by decide)
  · rw [if_neg h1, isDeed_eq hB.1.2.1 hB.1.2.2, Option.bind_some] at h
    rcases hx_01 (n := nd) (a := a1 / 10) with h0 | ⟨d, hd, e, -⟩
    · rw [h0, if_pos rfl] at h
      exact absurd (Option.some.inj h) (by decide)
    · exact ⟨d, hd, e⟩
theorem st_costs (hF : 200000 ≤ F) : ST_costs F (RR F) := by
  intro t S Z M a1 a2 a3 ht hR
  have hR' := hR
  obtain ⟨nm, nv, nd, nb, hV, c1, c2, hm⟩ := hR
  have h12 := hV.2.1.1.2.2
  have idle : ∀ (r : Int32), ∃ (r' : Int32) (S1 : St) (Z1 : Zt) (M1 : St), (some (r, S, Z) : Option (Int32 × St × Zt)) = some (r', S1, Z1) ∧ (some (r, M) : Option (Int32 × St)) = some (r', M1) ∧ RR F (t + 1) S1 Z1 M1 := fun r => ⟨r, S, Z, M, rfl, rfl, RR_idle hR'⟩
  unfold f_X10_costs f_X11_costs
  rw [isHour_eq]
  rcases case_d (Z := Z) (a1 := a1) (a2 := a3) hV.1 hV.2.1 with ⟨e1, e2 | ⟨e2, e3⟩⟩ | ⟨d, v, h, hd, hv, hh, ea, eb, ec, ed, e1, e2⟩
  · rw [e1, e2]; exact idle _
  · obtain ⟨d, hd, e4⟩ := isDv1 hV.2.1 e2
    obtain ⟨g1, g2, g3, g4, g5⟩ := hrs_ok hV hd
    obtain ⟨L, hL⟩ : ∃ L, hrs M d = L + 1 := ⟨hrs M d - 1, by omega⟩
    rw [e1, e2, e3, e4, Option.bind_some, Option.bind_some, if_pos rfl, if_neg one0, show (6 : Int32) + nI d = nI (6 + d) from nI_add 6 d, inr_nI (show 6 + d < 30 by omega) (by omega), chk_true, cl_nI (by omega), g1, hL, nI_pred, show (0 : Int64) = (nI 0).toInt64 from rfl]
    rcases rng (x := a2) 0 L (by omega) (by omega) with ⟨hq, hw⟩ | ⟨n, n1, n2, rfl, q1, q2, hw⟩
    · rw [hw]; exact idle _
    · rw [hw]; exact idle _
  obtain ⟨g1, g2, g3, g4, g5⟩ := hrs_ok hV hd
  obtain ⟨L, hL⟩ : ∃ L, hrs M d = L + 1 := ⟨hrs M d - 1, by omega⟩
  rw [e1, e2, Option.bind_some, Option.bind_some, if_neg one0, if_neg one0, ec, ed, eb, hx_y hh, hoursOf_eq hV.2.1 hd, show (6 : Int32) + nI d = nI (6 + d) from nI_add 6 d, inr_nI (show 6 + d < 30 by omega) (by omega), chk_true, cl_nI (by omega), g1, hL, nI_pred, show (0 : Int64) = (nI 0).toInt64 from rfl]
  rcases rng (x := a2) 0 L (by omega) (by omega) with ⟨hq, hw⟩ | ⟨n, n1, n2, rfl, q1, q2, hw⟩
  · rw [hw]
    rcases hq with hq | ⟨hq1, hq2⟩
    · rw [if_pos (show a2 < 0 from hq)]; exact idle _
    · rw [if_neg (show ¬ a2 < 0 from hq1), Option.bind_some, if_neg (show ¬ a2 < nI (L + 1) from fun z => by
        rw [lt_i, nI_toInt (by omega)] at z hq2
        omega)]
      exact idle _
  · obtain ⟨T, X, o1, o2, -⟩ := (RR.g c1 c2 hm).opn hF hV hd hv
    obtain ⟨T', N', o3, o4, o5⟩ := o2.cost (by omega) hV hd hv (by omega) (show n < 48 by omega) (show h < 1073740000 by omega)
    rw [hw, if_neg (show ¬ nI n < 0 from q1), Option.bind_some, if_pos (nI_lt (show n < L + 1 by omega) (by omega)), Option.bind_some, if_neg one0, Option.bind_some, if_neg one0, o1, Option.bind_some, o3, Option.bind_some, o4, Option.bind_some]
    exact ⟨_, T', X, N', rfl, rfl, o5.g.rr hV (by omega)⟩
theorem st_may (hF : 200000 ≤ F) : ST_may F (RR F) := by
  intro t S Z M a1 a2 ht hR
  have hR' := hR
  obtain ⟨nm, nv, nd, nb, hV, c1, c2, hm⟩ := hR
  have idle : ∀ (r : Int32), ∃ (r' : Int32) (S1 : St) (Z1 : Zt) (M1 : St), (some (r, S, Z) : Option (Int32 × St × Zt)) = some (r', S1, Z1) ∧ (some (r, M) : Option (Int32 × St)) = some (r', M1) ∧ RR F (t + 1) S1 Z1 M1 := fun r => ⟨r, S, Z, M, rfl, rfl, RR_idle hR'⟩
  unfold f_X10_may f_X11_may
  rw [isHour_eq]
  rcases case_d (Z := Z) (a1 := a1) (a2 := a2) hV.1 hV.2.1 with ⟨e1, e2 | ⟨e2, e3⟩⟩ | ⟨d, v, h, hd, hv, hh, ea, eb, ec, ed, e1, e2⟩
  · rw [e1, e2]; exact idle _
  · rw [e1, e2, e3]; exact idle _
  obtain ⟨T, X, o1, o2, -⟩ := (RR.g c1 c2 hm).opn hF hV hd hv
  obtain ⟨T', N', o3, o4, o5, -⟩ := o2.may (by omega) hV hd hv (by omega) (show h < 1073730000 by omega)
  rw [e1, e2, Option.bind_some, Option.bind_some, if_neg one0, if_neg one0, ec, ed, eb, hx_y hh, Option.bind_some, if_neg one0, o1, Option.bind_some, o3, Option.bind_some, o4, Option.bind_some]
  exact ⟨_, T', X, N', rfl, rfl, o5.g.rr hV (by omega)⟩
theorem or0 (x : Int32) : x ||| 0 = x := by simp
theorem st_now (hF : 200000 ≤ F) : ST_now F (RR F) := by
  intro t S Z M a1 a2 ht hR
  have hR' := hR
  obtain ⟨nm, nv, nd, nb, hV, c1, c2, hm⟩ := hR
  have h12 := hV.2.1.1.2.2
  have hnv := hV.1.2.1
  have idle : ∀ (r : Int32), ∃ (r' : Int32) (S1 : St) (Z1 : Zt) (M1 : St), (some (r, S, Z) : Option (Int32 × St × Zt)) = some (r', S1, Z1) ∧ (some (r, M) : Option (Int32 × St)) = some (r', M1) ∧ RR F (t + 1) S1 Z1 M1 := fun r => ⟨r, S, Z, M, rfl, rfl, RR_idle hR'⟩
  unfold f_X10_now f_X11_now
  rw [isPlace_eq hnv.1 hnv.2.2, isValley_eq hnv.2.1 hnv.2.2, Option.bind_some, Option.bind_some, isHour_eq]
  rcases hx_01 (n := nv) (a := a1) with h0 | ⟨v, hv, rfl, h1⟩
  · rw [h0]; exact idle _
  rw [h1, if_neg one0, if_neg one0, Option.bind_some]
  rcases hx_01 (n := 1000000) (a := a2) with h0 | ⟨h, hh, rfl, h2⟩
  · rw [h0]; exact idle _
  rw [h2, if_neg one0, if_neg one0]
  have hloop : ∀ (j i q q' : Nat) (x : Int32) (T : St) (X : Zt) (N : St) (B : Nat), i + j = nd → j < q → j < q' → gP S Z M nd T X N B → B + 48 * j < 1000000000 → ∃ r T' X' N', f_X2_lawfulDeeds_L5 F (nI v) (nI h) q T X x (nI i) = some (r, T', X') ∧ f_X11_now_L22 F (nI v) (nI h) q' N x (nI i) = some (r, N') ∧ gP S Z M nd T' X' N' (B + 48 * j) := by
    intro j
    induction j with
    | zero =>
      intro i q q' x T X N B hij hq hq' hg hB
      obtain ⟨q, rfl⟩ : ∃ z, q = z + 1 := ⟨q - 1, by omega⟩
      obtain ⟨q', rfl⟩ : ∃ z, q' = z + 1 := ⟨q' - 1, by omega⟩
      have hV1 := hV.c hg.1 hg.2.2.2.2.1 hg.2.1
      have e : i = nd := by omega
      subst e
      simp only [f_X2_lawfulDeeds_L5, f_X11_now_L22, f_X1_size]
      rw [Option.bind_some, hV1.2.1.1.1, hV1.2.1.1.2.1, if_pos (nI_le (Nat.le_refl _) (by omega)), if_pos (nI_le (Nat.le_refl _) (by omega))]
      exact ⟨x, T, X, N, rfl, rfl, hg⟩
    | succ j ih =>
      intro i q q' x T X N B hij hq hq' hg hB
      obtain ⟨q, rfl⟩ : ∃ z, q = z + 1 := ⟨q - 1, by omega⟩
      obtain ⟨q', rfl⟩ : ∃ z, q' = z + 1 := ⟨q' - 1, by omega⟩
      have hV1 := hV.c hg.1 hg.2.2.2.2.1 hg.2.1
      obtain ⟨T1, X1, o1, o2, -⟩ := hg.opn hF hV (show i < nd by omega) hv
      obtain ⟨T2, N2, o3, o4, o5, -⟩ := o2.may (by omega) hV (show i < nd by omega) hv (by omega) (show h < 1073730000 by omega)
      simp only [f_X2_lawfulDeeds_L5, f_X11_now_L22, f_X1_size]
      rw [Option.bind_some, hV1.2.1.1.1, hV1.2.1.1.2.1, if_neg (nI_ge (show i < nd by omega) (by omega)), if_neg (nI_ge (show i < nd by omega) (by omega)), o1, Option.bind_some, o3, Option.bind_some, o4, Option.bind_some, or0, nI_1]
      have hih := fun (x : Int32) => ih (i + 1) q q' x T2 X1 N2 (B + 48) (by omega) (by omega) (by omega) o5.g (by omega)
      have hfin : ∀ x : Int32, ∃ r T' X' N', f_X2_lawfulDeeds_L5 F (nI v) (nI h) q T2 X1 x (nI (i + 1)) = some (r, T', X') ∧ f_X11_now_L22 F (nI v) (nI h) q' N2 x (nI (i + 1)) = some (r, N') ∧ gP S Z M nd T' X' N' (B + 48 * (j + 1)) := fun x => by
        obtain ⟨r, T', X', N', y1, y2, y3⟩ := hih x
        exact ⟨r, T', X', N', y1, y2, y3.le (by omega)⟩
      by_cases hc : mP S Z M nm i v h < 0
      · rw [if_pos hc, if_pos hc]; exact hfin x
      · rw [if_neg hc, if_neg hc]; exact hfin _
  obtain ⟨r, T', X', N', y1, y2, y3⟩ := hloop nd 0 F F 0 S Z M (1000000 * t) (by omega) (by omega) (by omega) (RR.g c1 c2 hm) (by omega)
  have e1 : f_X2_lawfulDeeds F S Z (nI v) (nI h) = some (r, T', X') := y1
  rw [e1, Option.bind_some]
  exact ⟨r, T', X', N', rfl, y2, y3.rr hV (by omega)⟩
end
