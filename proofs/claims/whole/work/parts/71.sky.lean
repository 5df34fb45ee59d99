/-! moons, valleys, hills, ways -/
theorem ne_n {a b : Nat} (h : a ≠ b) (ha : a < 2 ^ 31) (hb : b < 2 ^ 31) : ¬ nI a = nI b := fun z => h ((nI_eq ha hb).mp z)
theorem n0_le {x : Int32} (h : x < 0) : ¬ (0 : Int32) ≤ x := fun z => by
  rw [lt_i] at h
  rw [le_i] at z
  omega
theorem gt_nle {x y : Int32} (h : x < y) : ¬ y ≤ x := fun z => by
  rw [lt_i] at h
  rw [le_i] at z
  omega
theorem nlt_le {x y : Int32} (h : ¬ x < y) : y ≤ x := by
  rw [lt_i] at h
  rw [le_i]
  omega
section
variable {F : Nat} {Z : Zt} {S M : St} {nm nv nd nb : Nat}
theorem st_moon : ST_moon F (RR F) := by
  intro t S Z M a1 a2 ht hR
  have hR' := hR
  obtain ⟨nm, nv, nd, nb, ⟨hK, hB, hT, hV, hC, hA, hS, hL⟩, c1, c2, hm⟩ := hR
  have idle : ∀ (r : Int32), ∃ (r' : Int32) (S1 M1 : St), (some (r, S) : Option (Int32 × St)) = some (r', S1) ∧ (some (r, M) : Option (Int32 × St)) = some (r', M1) ∧ RR F (t + 1) S1 Z M1 := fun r => ⟨r, S, M, rfl, rfl, RR_idle hR'⟩
  unfold f_X10_moon f_X11_moon
  rw [show (2 : Int64) = (nI 2).toInt64 from rfl, show (999 : Int64) = (nI 999).toInt64 from rfl]
  rcases rng (x := a1) 2 999 (by omega) (by omega) with ⟨hq, hw⟩ | ⟨N, n1, n2, rfl, q1, q2, hw⟩
  · rw [hw]
    rcases hq with hq | ⟨hq1, hq2⟩
    · rw [if_pos (show a1 < 2 from hq)]; exact idle _
    · rw [if_neg (show ¬ a1 < 2 from hq1), if_pos (show 999 < a1 from hq2)]; exact idle _
  rw [hw, if_neg (show ¬ nI N < 2 from q1), if_neg (show ¬ 999 < nI N from q2), Option.bind_some, if_neg one0]
  by_cases h2 : a2 < 0
  · rw [if_neg (n0_le h2), if_pos h2]; exact idle _
  obtain ⟨u, hu, rfl⟩ := nI_of h2
  rw [if_pos (nI_pos' hu), if_neg h2, div_n hu 1000 (d := 1000) rfl (by omega) (by omega), rem_n hu 1000 (d := 1000) rfl (by omega) (by omega)]
  by_cases h3 : N < u / 1000
  · rw [if_pos (nI_lt h3 (by omega)), if_pos (nI_lt h3 (by omega))]; exact idle _
  rw [if_neg (show ¬ nI N < nI (u / 1000) from nI_nlt (by omega) (by omega)), if_neg (show ¬ nI N < nI (u / 1000) from nI_nlt (by omega) (by omega))]
  by_cases h4 : u % 1000 < N
  · rw [if_pos (nI_lt h4 (by omega)), if_pos (nI_lt h4 (by omega))]
    unfold f_X7_addMoon
    rw [hK.1.1, hK.1.2.1]
    have hnm := hK.1.2.2
    by_cases h5 : nm < 3
    · rw [if_pos (show nI nm < 3 from nI_lt (b := 3) h5 (by omega)), if_neg (show ¬ nI nm = 3 from ne_n (b := 3) (by omega) (by omega) (by omega)), show (3 : Int32) + nI nm = nI (3 + nm) from nI_add 3 nm]
      simp only [inr_nI (show nm < 3 from h5) (by omega), inr_nI (show nm < 30 by omega) (by omega), inr_nI (show 3 + nm < 30 by omega) (by omega), chk_true, cl_nI (show nm < 2 ^ 31 by omega), cl_nI (show 3 + nm < 2 ^ 31 by omega), Option.bind_some, nI_1, nI_pred]
      have h12 := hB.1.2.2
      obtain ⟨-, k2, k3, k4, k5, k6, k7⟩ := hK
      refine ⟨_, _, _, rfl, rfl, RR_mk (nm := nm + 1) (nv := nv) (nd := nd) (nb := nb) ⟨⟨⟨rfl, rfl, by omega⟩, k2, ⟨?_, k3.2⟩, fun k hk => ?_, fun k hk => ?_, k6, k7⟩, ?_, ?_, ?_, ?_, ?_, ?_, ?_⟩ (c1.fr ⟨rfl, rfl, rfl⟩) (c2.fr ⟨rfl, rfl, rfl⟩) (hm.fr (Nat.le_refl _) h12 ⟨⟨rfl, rfl, rfl, rfl, rfl, rfl, rfl, rfl⟩, ⟨rfl, rfl, rfl, rfl, rfl, rfl, rfl, rfl⟩, ⟨rfl, rfl, rfl, rfl, rfl, rfl, rfl, rfl⟩⟩ ⟨rfl, rfl, rfl, rfl, rfl⟩ (fun d hd => ⟨rfl, ?_, rfl⟩)) (by omega)⟩
      · show upd (S.2.1 140) nm _ = upd (M.2.1 7) nm _
        rw [k3.1]
      · show upd (S.2.1 141) nm (nI (u / 1000)) k = upd (upd (M.2.1 0) nm (nI (u / 1000))) (3 + nm) (nI (u % 1000)) k ∧ upd (S.2.1 142) nm (nI (u % 1000)) k = upd (upd (M.2.1 0) nm (nI (u / 1000))) (3 + nm) (nI (u % 1000)) (3 + k)
        rw [pk_un (show k ≠ 3 + nm by omega)]
        by_cases hk2 : k = nm
        · subst hk2
          rw [pk_us, pk_us, pk_us, pk_us]
          exact ⟨rfl, rfl⟩
        · rw [pk_un hk2, pk_un hk2, pk_un hk2, pk_un (show 3 + k ≠ 3 + nm by omega), pk_un (show 3 + k ≠ nm by omega)]
          exact k4 k hk
      · show mnOK (upd (M.2.1 7) nm (nI N) k) (upd (upd (M.2.1 0) nm (nI (u / 1000))) (3 + nm) (nI (u % 1000)) k) (upd (upd (M.2.1 0) nm (nI (u / 1000))) (3 + nm) (nI (u % 1000)) (3 + k))
        rw [pk_un (show k ≠ 3 + nm by omega)]
        by_cases hk2 : k = nm
        · subst hk2
          rw [pk_us, pk_us, pk_us]
          exact ⟨N, u / 1000, u % 1000, n1, n2, by omega, h4, rfl, rfl, rfl⟩
        · rw [pk_un hk2, pk_un hk2, pk_un (show 3 + k ≠ 3 + nm by omega), pk_un (show 3 + k ≠ nm by omega)]
          exact k5 k (by omega)
      · refine hB.fr ⟨rfl, rfl, rfl, rfl, rfl⟩ ⟨rfl, rfl, rfl⟩ (fun k k1 k2 => ?_)
        show upd (upd (M.2.1 0) nm (nI (u / 1000))) (3 + nm) (nI (u % 1000)) k = _
        rw [pk_un (by omega), pk_un (by omega)]
      · exact hT.fr ⟨rfl, rfl⟩ ⟨rfl, rfl⟩
      · exact hV.fr ⟨rfl, rfl, rfl, rfl⟩ ⟨rfl, rfl, rfl⟩ (Nat.le_refl _) (Nat.le_refl _)
      · refine hC.fr ⟨rfl, rfl, rfl, rfl, rfl, rfl⟩ ⟨rfl, rfl, rfl, rfl, rfl⟩ (fun k hk => ?_) (by omega) (Nat.le_refl _)
        show upd (M.2.1 7) nm _ k = _
        rw [pk_un (by omega)]
      · exact hA.fr ⟨rfl, rfl, rfl, rfl⟩ ⟨rfl, rfl, rfl, rfl⟩
      · exact hS.fr (Nat.le_refl _) ⟨rfl, rfl, rfl, rfl⟩ ⟨rfl, rfl, rfl⟩
      · exact hL.fr (by omega) ⟨⟨rfl, rfl, rfl, rfl, rfl, rfl, rfl, rfl⟩, ⟨rfl, rfl, rfl, rfl, rfl, rfl, rfl, rfl⟩, ⟨rfl, rfl, rfl, rfl, rfl, rfl, rfl, rfl⟩⟩ ⟨rfl, rfl⟩
      · show upd (upd (M.2.1 0) nm (nI (u / 1000))) (3 + nm) (nI (u % 1000)) (6 + d) = _
        rw [pk_un (by omega), pk_un (by omega)]
    · have e : nm = 3 := by omega
      subst e
      rw [if_neg (show ¬ nI 3 < 3 by decide), if_pos (show nI 3 = 3 from rfl)]
      exact idle _
  · rw [if_neg (show ¬ nI (u % 1000) < nI N from nI_nlt (by omega) (by omega)), if_neg (show ¬ nI (u % 1000) < nI N from nI_nlt (by omega) (by omega))]; exact idle _
theorem st_valley : ST_valley F (RR F) := by
  intro t S Z M ht hR
  have hR' := hR
  obtain ⟨nm, nv, nd, nb, ⟨hK, hB, hT, hV, hC, hA, hS, hL⟩, c1, c2, hm⟩ := hR
  unfold f_X10_valley f_X11_valley f_X7_addValley
  rw [hK.2.1.1, hK.2.1.2.1]
  have hnv := hK.2.1.2.2
  by_cases h5 : nv < 5
  · rw [if_pos (show nI nv < 5 from nI_lt (b := 5) h5 (by omega)), if_neg (show ¬ nI nv = 5 from ne_n (b := 5) (by omega) (by omega) (by omega)), Option.bind_some, nI_1, nI_pred]
    have h12 := hB.1.2.2
    obtain ⟨k1, -, k3, k4, k5, k6, k7⟩ := hK
    refine ⟨_, _, _, rfl, rfl, RR_mk (nm := nm) (nv := nv + 1) (nd := nd) (nb := nb) ⟨⟨k1, ⟨rfl, rfl, by omega⟩, k3, k4, k5, k6, fun i hi => ?_⟩, ?_, ?_, ?_, ?_, ?_, ?_, ?_⟩ (c1.fr ⟨rfl, rfl, rfl⟩) (c2.fr ⟨rfl, rfl, rfl⟩) (hm.fr (Nat.le_refl _) h12 ⟨⟨rfl, rfl, rfl, rfl, rfl, rfl, rfl, rfl⟩, ⟨rfl, rfl, rfl, rfl, rfl, rfl, rfl, rfl⟩, ⟨rfl, rfl, rfl, rfl, rfl, rfl, rfl, rfl⟩⟩ ⟨rfl, rfl, rfl, rfl, rfl⟩ (fun d hd => ⟨rfl, rfl, rfl⟩)) (by omega)⟩
    · obtain ⟨a, a1, a2, a3⟩ := k7 i hi
      exact ⟨a, a1, a2, fun q => a3 (by omega)⟩
    · exact hB.fr ⟨rfl, rfl, rfl, rfl, rfl⟩ ⟨rfl, rfl, rfl⟩ (fun k k1 k2 => rfl)
    · exact hT.fr ⟨rfl, rfl⟩ ⟨rfl, rfl⟩
    · exact hV.fr ⟨rfl, rfl, rfl, rfl⟩ ⟨rfl, rfl, rfl⟩ (Nat.le_refl _) (by omega)
    · exact hC.fr ⟨rfl, rfl, rfl, rfl, rfl, rfl⟩ ⟨rfl, rfl, rfl, rfl, rfl⟩ (fun k hk => rfl) (by omega) (Nat.le_refl _)
    · exact hA.fr ⟨rfl, rfl, rfl, rfl⟩ ⟨rfl, rfl, rfl, rfl⟩
    · exact hS.fr (Nat.le_refl _) ⟨rfl, rfl, rfl, rfl⟩ ⟨rfl, rfl, rfl⟩
    · exact hL.fr (by omega) ⟨⟨rfl, rfl, rfl, rfl, rfl, rfl, rfl, rfl⟩, ⟨rfl, rfl, rfl, rfl, rfl, rfl, rfl, rfl⟩, ⟨rfl, rfl, rfl, rfl, rfl, rfl, rfl, rfl⟩⟩ ⟨rfl, rfl⟩
  · have e : nv = 5 := by omega
    subst e
    rw [if_neg (show ¬ nI 5 < 5 by decide), if_pos (show nI 5 = 5 from rfl)]
    exact ⟨_, _, _, rfl, rfl, RR_idle hR'⟩
theorem st_hills : ST_hills F (RR F) := by
  intro t S Z M a1 a2 ht hR
  have hR' := hR
  obtain ⟨nm, nv, nd, nb, ⟨hK, hB, hT, hV, hC, hA, hS, hL⟩, c1, c2, hm⟩ := hR
  have idle : ∀ (r : Int32), ∃ (r' : Int32) (S1 M1 : St), (some (r, S) : Option (Int32 × St)) = some (r', S1) ∧ (some (r, M) : Option (Int32 × St)) = some (r', M1) ∧ RR F (t + 1) S1 Z M1 := fun r => ⟨r, S, M, rfl, rfl, RR_idle hR'⟩
  have hnm := hK.1
  have hnv := hK.2.1
  unfold f_X10_hills f_X11_hills
  by_cases h1 : a1 < 0
  · rw [if_pos h1, if_pos h1]; exact idle _
  obtain ⟨w, hw, rfl⟩ := nI_of h1
  rw [if_neg h1, if_neg h1, div_n hw 10 (d := 10) rfl (by omega) (by omega), rem_n hw 10 (d := 10) rfl (by omega) (by omega), hasValley_eq hnv.1 hnv.2.2, isValley_eq hnv.2.1 hnv.2.2, Option.bind_some, Option.bind_some, hasMoon_eq hnm.1 hnm.2.2, isMoon_eq hnm.2.1 hnm.2.2]
  by_cases g1 : w / 10 < nv
  · rw [hx_y g1, if_neg one0, if_neg one0, Option.bind_some, Option.bind_some]
    by_cases g2 : w % 10 < nm
    · rw [hx_y g2, if_neg one0, if_neg one0]
      rw [show (0 : Int64) = (nI 0).toInt64 from rfl, show (9999 : Int64) = (nI 9999).toInt64 from rfl]
      rcases rng (x := a2) 0 9999 (by omega) (by omega) with ⟨hq, hwi⟩ | ⟨N, n1, n2, rfl, q1, q2, hwi⟩
      · rw [hwi]
        rcases hq with hq | ⟨hq1, hq2⟩
        · rw [if_pos (show a2 < 0 from hq)]; exact idle _
        · rw [if_neg (show ¬ a2 < 0 from hq1), if_neg (gt_nle (show 9999 < a2 from hq2))]; exact idle _
      · have hi3 : w / 10 * 3 + w % 10 = 3 * (w / 10) + w % 10 := by omega
        have hi15 : 3 * (w / 10) + w % 10 < 15 := by omega
        rw [hwi, if_neg (show ¬ nI N < 0 from q1), if_pos (show nI N ≤ 9999 from nlt_le q2), Option.bind_some, if_neg one0]
        unfold f_X7_setHills
        rw [hasValley_eq hnv.1 hnv.2.2, hx_y g1, Option.bind_some, if_neg one0, hasMoon_eq hnm.1 hnm.2.2, hx_y g2, Option.bind_some, if_neg one0]
        rw [show (3 : Int32) = nI 3 from rfl, div_n (show N < 2 ^ 31 by omega) 100 (d := 100) rfl (by omega) (by omega), rem_n (show N < 2 ^ 31 by omega) 100 (d := 100) rfl (by omega) (by omega)]
        simp only [pk_mul, nI_add, hi3, inr_nI hi15 (by omega), chk_true, lti, cl_nI (show 3 * (w / 10) + w % 10 < 2 ^ 31 by omega), Option.bind_some]
        have h12 := hB.1.2.2
        obtain ⟨k1, k2, k3, k4, k5, k6, k7⟩ := hK
        rw [← k3.2.1, ← k3.2.2.1]
        refine ⟨_, _, _, rfl, rfl, RR_mk (nm := nm) (nv := nv) (nd := nd) (nb := nb) ⟨⟨k1, k2, ⟨k3.1, ?_, ?_, k3.2.2.2⟩, k4, k5, fun i hi => ?_, k7⟩, ?_, ?_, ?_, ?_, ?_, ?_, ?_⟩ (c1.fr ⟨rfl, rfl, rfl⟩) (c2.fr ⟨rfl, rfl, rfl⟩) (hm.fr (Nat.le_refl _) h12 ⟨⟨rfl, rfl, rfl, rfl, rfl, rfl, rfl, rfl⟩, ⟨rfl, rfl, rfl, rfl, rfl, rfl, rfl, rfl⟩, ⟨rfl, rfl, rfl, rfl, rfl, rfl, rfl, rfl⟩⟩ ⟨rfl, rfl, rfl, rfl, rfl⟩ (fun d hd => ⟨rfl, rfl, rfl⟩)) (by omega)⟩
        · show upd (S.2.1 144) _ _ = upd (M.2.1 9) _ _
          rw [k3.2.1]
        · show upd (S.2.1 145) _ _ = upd (M.2.1 10) _ _
          rw [k3.2.2.1]
        · show ∃ a b, a ≤ 99 ∧ b ≤ 99 ∧ upd (M.2.1 9) (3 * (w / 10) + w % 10) (nI (N / 100)) i = nI a ∧ upd (M.2.1 10) (3 * (w / 10) + w % 10) (nI (N % 100)) i = nI b
          by_cases hj : i = 3 * (w / 10) + w % 10
          · subst hj
            rw [pk_us, pk_us]
            exact ⟨N / 100, N % 100, by omega, by omega, rfl, rfl⟩
          · rw [pk_un hj, pk_un hj]
            exact k6 i hi
        · exact hB.fr ⟨rfl, rfl, rfl, rfl, rfl⟩ ⟨rfl, rfl, rfl⟩ (fun k k1 k2 => rfl)
        · exact hT.fr ⟨rfl, rfl⟩ ⟨rfl, rfl⟩
        · exact hV.fr ⟨rfl, rfl, rfl, rfl⟩ ⟨rfl, rfl, rfl⟩ (Nat.le_refl _) (Nat.le_refl _)
        · exact hC.fr ⟨rfl, rfl, rfl, rfl, rfl, rfl⟩ ⟨rfl, rfl, rfl, rfl, rfl⟩ (fun k hk => rfl) (Nat.le_refl _) (Nat.le_refl _)
        · exact hA.fr ⟨rfl, rfl, rfl, rfl⟩ ⟨rfl, rfl, rfl, rfl⟩
        · exact hS.fr (Nat.le_refl _) ⟨rfl, rfl, rfl, rfl⟩ ⟨rfl, rfl, rfl⟩
        · exact hL.fr (Nat.le_refl _) ⟨⟨rfl, rfl, rfl, rfl, rfl, rfl, rfl, rfl⟩, ⟨rfl, rfl, rfl, rfl, rfl, rfl, rfl, rfl⟩, ⟨rfl, rfl, rfl, rfl, rfl, rfl, rfl, rfl⟩⟩ ⟨rfl, rfl⟩
    · rw [hx_n (fun ⟨j, hj, e⟩ => g2 (by rw [nI_eq (by omega) (by omega)] at e; omega)), if_pos rfl, if_pos rfl]; exact idle _
  · rw [hx_n (fun ⟨j, hj, e⟩ => g1 (by rw [nI_eq (by omega) (by omega)] at e; omega)), if_pos rfl, if_pos rfl]; exact idle _
theorem st_way : ST_way F (RR F) := by
  intro t S Z M a1 a2 ht hR
  have hR' := hR
  obtain ⟨nm, nv, nd, nb, ⟨hK, hB, hT, hV, hC, hA, hS, hL⟩, c1, c2, hm⟩ := hR
  have idle : ∀ (r : Int32), ∃ (r' : Int32) (S1 M1 : St), (some (r, S) : Option (Int32 × St)) = some (r', S1) ∧ (some (r, M) : Option (Int32 × St)) = some (r', M1) ∧ RR F (t + 1) S1 Z M1 := fun r => ⟨r, S, M, rfl, rfl, RR_idle hR'⟩
  have hnv := hK.2.1
  unfold f_X10_way f_X11_way
  by_cases h1 : a1 < 0
  · rw [if_pos h1, if_pos h1]; exact idle _
  obtain ⟨w, hw, rfl⟩ := nI_of h1
  rw [if_neg h1, if_neg h1, div_n hw 10 (d := 10) rfl (by omega) (by omega), rem_n hw 10 (d := 10) rfl (by omega) (by omega), hasValley_eq hnv.1 hnv.2.2, isValley_eq hnv.2.1 hnv.2.2, Option.bind_some, Option.bind_some, hasValley_eq hnv.1 hnv.2.2, isValley_eq hnv.2.1 hnv.2.2]
  by_cases g1 : w / 10 < nv
  · rw [hx_y g1, if_neg one0, if_neg one0, Option.bind_some, Option.bind_some]
    by_cases g2 : w % 10 < nv
    · rw [hx_y g2, if_neg one0, if_neg one0]
      by_cases g3 : w / 10 = w % 10
      · rw [g3, if_pos rfl, if_pos rfl]; exact idle _
      rw [if_neg (ne_n g3 (by omega) (by omega)), if_neg (ne_n g3 (by omega) (by omega))]
      rw [show (0 : Int64) = (nI 0).toInt64 from rfl, show (99 : Int64) = (nI 99).toInt64 from rfl]
      rcases rng (x := a2) 0 99 (by omega) (by omega) with ⟨hq, hwi⟩ | ⟨N, n1, n2, rfl, q1, q2, hwi⟩
      · rw [hwi]
        rcases hq with hq | ⟨hq1, hq2⟩
        · rw [if_pos (show a2 < 0 from hq)]; exact idle _
        · rw [if_neg (show ¬ a2 < 0 from hq1), if_neg (gt_nle (show 99 < a2 from hq2))]; exact idle _
      · have hi3 : w / 10 * 5 + w % 10 = 5 * (w / 10) + w % 10 := by omega
        have hi4 : w % 10 * 5 + w / 10 = 5 * (w % 10) + w / 10 := by omega
        have hi15 : 5 * (w / 10) + w % 10 < 25 := by omega
        have hi16 : 5 * (w % 10) + w / 10 < 25 := by omega
        rw [hwi, if_neg (show ¬ nI N < 0 from q1), if_pos (show nI N ≤ 99 from nlt_le q2), Option.bind_some, if_neg one0]
        unfold f_X7_setWay
        rw [hasValley_eq hnv.1 hnv.2.2, hx_y g1, Option.bind_some, if_neg one0, hasValley_eq hnv.1 hnv.2.2, hx_y g2, Option.bind_some, if_neg one0]
        rw [show (5 : Int32) = nI 5 from rfl]
        simp only [pk_mul, nI_add, hi3, hi4, inr_nI hi15 (by omega), inr_nI hi16 (by omega), chk_true, lti, cl_nI (show 5 * (w / 10) + w % 10 < 2 ^ 31 by omega), cl_nI (show 5 * (w % 10) + w / 10 < 2 ^ 31 by omega), Option.bind_some]
        have h12 := hB.1.2.2
        obtain ⟨k1, k2, k3, k4, k5, k6, k7⟩ := hK
        rw [← k3.2.2.2]
        refine ⟨_, _, _, rfl, rfl, RR_mk (nm := nm) (nv := nv) (nd := nd) (nb := nb) ⟨⟨k1, k2, ⟨k3.1, k3.2.1, k3.2.2.1, ?_⟩, k4, k5, k6, fun i hi => ?_⟩, ?_, ?_, ?_, ?_, ?_, ?_, ?_⟩ (c1.fr ⟨rfl, rfl, rfl⟩) (c2.fr ⟨rfl, rfl, rfl⟩) (hm.fr (Nat.le_refl _) h12 ⟨⟨rfl, rfl, rfl, rfl, rfl, rfl, rfl, rfl⟩, ⟨rfl, rfl, rfl, rfl, rfl, rfl, rfl, rfl⟩, ⟨rfl, rfl, rfl, rfl, rfl, rfl, rfl, rfl⟩⟩ ⟨rfl, rfl, rfl, rfl, rfl⟩ (fun d hd => ⟨rfl, rfl, rfl⟩)) (by omega)⟩
        · show upd (upd (S.2.1 146) _ _) _ _ = upd (upd (M.2.1 11) _ _) _ _
          rw [k3.2.2.2]
        · show ∃ a, a ≤ 99 ∧ upd (upd (M.2.1 11) (5 * (w / 10) + w % 10) (nI N)) (5 * (w % 10) + w / 10) (nI N) i = nI a ∧ _
          by_cases hj : i = 5 * (w % 10) + w / 10
          · subst hj
            rw [pk_us]
            exact ⟨N, by omega, rfl, fun q => by omega⟩
          · rw [pk_un hj]
            by_cases hj2 : i = 5 * (w / 10) + w % 10
            · subst hj2
              rw [pk_us]
              exact ⟨N, by omega, rfl, fun q => by omega⟩
            · rw [pk_un hj2]
              exact k7 i hi
        · exact hB.fr ⟨rfl, rfl, rfl, rfl, rfl⟩ ⟨rfl, rfl, rfl⟩ (fun k k1 k2 => rfl)
        · exact hT.fr ⟨rfl, rfl⟩ ⟨rfl, rfl⟩
        · exact hV.fr ⟨rfl, rfl, rfl, rfl⟩ ⟨rfl, rfl, rfl⟩ (Nat.le_refl _) (Nat.le_refl _)
        · exact hC.fr ⟨rfl, rfl, rfl, rfl, rfl, rfl⟩ ⟨rfl, rfl, rfl, rfl, rfl⟩ (fun k hk => rfl) (Nat.le_refl _) (Nat.le_refl _)
        · exact hA.fr ⟨rfl, rfl, rfl, rfl⟩ ⟨rfl, rfl, rfl, rfl⟩
        · exact hS.fr (Nat.le_refl _) ⟨rfl, rfl, rfl, rfl⟩ ⟨rfl, rfl, rfl⟩
        · exact hL.fr (Nat.le_refl _) ⟨⟨rfl, rfl, rfl, rfl, rfl, rfl, rfl, rfl⟩, ⟨rfl, rfl, rfl, rfl, rfl, rfl, rfl, rfl⟩, ⟨rfl, rfl, rfl, rfl, rfl, rfl, rfl, rfl⟩⟩ ⟨rfl, rfl⟩
    · rw [hx_n (fun ⟨j, hj, e⟩ => g2 (by rw [nI_eq (by omega) (by omega)] at e; omega)), if_pos rfl, if_pos rfl]; exact idle _
  · rw [hx_n (fun ⟨j, hj, e⟩ => g1 (by rw [nI_eq (by omega) (by omega)] at e; omega)), if_pos rfl, if_pos rfl]; exact idle _
end
