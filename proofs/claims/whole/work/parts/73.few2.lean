/-! promises, bytes, bodies, shelves kept -/
section
variable {F : Nat} {Z : Zt} {S M : St} {nm nv nd nb : Nat}
/-- a deed, a valley, an hour -/
theorem case_d {a1 a2 : Int32} (hK : KSky S M nm nv) (hB : KBook S M nd) : (f_X10_isCase Z S a1 a2 = some 0 ∧ (f_X11_isDv M a1 = some 0 ∨ (f_X11_isDv M a1 = some 1 ∧ hx 1000000 a2 = 0))) ∨ ∃ d v h, d < nd ∧ v < nv ∧ h < 1000000 ∧ a1 = nI (10 * d + v) ∧ a2 = nI h ∧ a1 / 10 = nI d ∧ jrem a1 10 = nI v ∧ f_X10_isCase Z S a1 a2 = some 1 ∧ f_X11_isDv M a1 = some 1 := by
  have hnv := hK.2.1
  have h5 := hnv.2.2
  have h12 := hB.1.2.2
  unfold f_X10_isCase f_X11_isDv
  by_cases h1 : a1 < 0
  · rw [if_pos h1, if_pos h1]; exact Or.inl ⟨rfl, Or.inl rfl⟩
  obtain ⟨w, hw, rfl⟩ := nI_of h1
  rw [if_neg h1, if_neg h1, div_n hw 10 (d := 10) rfl (by omega) (by omega), rem_n hw 10 (d := 10) rfl (by omega) (by omega), hasDeed_eq hB.1.1 h12, isDeed_eq hB.1.2.1 h12, Option.bind_some, Option.bind_some]
  by_cases g1 : w / 10 < nd
  · rw [hx_y g1, if_neg one0, if_neg one0, isPlace_eq hnv.1 h5, isValley_eq hnv.2.1 h5, Option.bind_some, Option.bind_some]
    by_cases g2 : w % 10 < nv
    · rw [hx_y g2, if_neg one0, if_neg one0]
      rcases hx_01 (n := 1000000) (a := a2) with h0 | ⟨h, hh, rfl, h2⟩
      · rw [h0, if_pos rfl]; exact Or.inl ⟨rfl, Or.inr ⟨rfl, rfl⟩⟩
      · rw [h2, if_neg one0]
        exact Or.inr ⟨w / 10, w % 10, h, g1, g2, hh, by rw [show 10 * (w / 10) + w % 10 = w by omega], rfl, rfl, rfl, rfl, rfl⟩
    · have e : hx nv (nI (w % 10)) = 0 := hx_n (fun ⟨j, hj, e⟩ => g2 (by rw [nI_eq (by omega) (by omega)] at e; omega))
      rw [e, if_pos rfl, if_pos rfl]; exact Or.inl ⟨rfl, Or.inl rfl⟩
  · have e : hx nd (nI (w / 10)) = 0 := hx_n (fun ⟨j, hj, e⟩ => g1 (by rw [nI_eq (by omega) (by omega)] at e; omega))
    rw [e, if_pos rfl, if_pos rfl]; exact Or.inl ⟨rfl, Or.inl rfl⟩
theorem st_promise : ST_promise F (RR F) := by
  intro t S Z M a1 a2 ht hR
  have hR' := hR
  obtain ⟨nm, nv, nd, nb, ⟨hK, hB, hT, hV, hC, hA, hS, hL⟩, c1, c2, hm⟩ := hR
  have h12 := hB.1.2.2
  have idle : ∀ (r : Int32), ∃ (r' : Int32) (S1 M1 : St), (some (r, S) : Option (Int32 × St)) = some (r', S1) ∧ (some (r, M) : Option (Int32 × St)) = some (r', M1) ∧ RR F (t + 1) S1 Z M1 := fun r => ⟨r, S, M, rfl, rfl, RR_idle hR'⟩
  unfold f_X10_promise f_X11_promise
  rw [isHour_eq]
  rcases case_d (Z := Z) (a1 := a1) (a2 := a2) hK hB with ⟨e1, e2 | ⟨e2, e3⟩⟩ | ⟨d, v, h, hd, hv, hh, ea, eb, ec, ed, e1, e2⟩
  · rw [e1, e2]; exact idle _
  · rw [e1, e2, e3]; exact idle _
  rw [e1, e2, Option.bind_some, Option.bind_some, if_neg one0, if_neg one0, ec, ed, eb, hx_y hh, Option.bind_some, if_neg one0]
  obtain ⟨n, v1, v2, v3, v4⟩ := hV
  unfold f_X9_add
  rw [v2, v3]
  by_cases h5 : n < 20
  · rw [if_pos (show nI n < 20 from nI_lt (b := 20) h5 (by omega)), if_neg (show ¬ nI n = 20 from ne_n (b := 20) (by omega) (by omega) (by omega))]
    simp only [inr_nI (show n < 20 from h5) (by omega), chk_true, cl_nI (show n < 2 ^ 31 by omega), Option.bind_some, nI_1, nI_pred]
    refine ⟨_, _, _, rfl, rfl, RR_mk (nm := nm) (nv := nv) (nd := nd) (nb := nb) ⟨?_, ?_, ?_, ⟨n + 1, by omega, rfl, rfl, fun p hp => ?_⟩, ?_, ?_, ?_, ?_⟩ (c1.fr ⟨rfl, rfl, rfl⟩) (c2.fr ⟨rfl, rfl, rfl⟩) (hm.fr (Nat.le_refl _) h12 ⟨⟨rfl, rfl, rfl, rfl, rfl, rfl, rfl, rfl⟩, ⟨rfl, rfl, rfl, rfl, rfl, rfl, rfl, rfl⟩, ⟨rfl, rfl, rfl, rfl, rfl, rfl, rfl, rfl⟩⟩ ⟨rfl, rfl, rfl, rfl, rfl⟩ (fun d hd => ⟨rfl, rfl, rfl⟩)) (by omega)⟩
    · exact hK.fr ⟨rfl, rfl, rfl, rfl, rfl, rfl, rfl, rfl⟩ ⟨rfl, rfl, rfl, rfl, rfl, rfl⟩ (fun k hk => rfl)
    · exact hB.fr ⟨rfl, rfl, rfl, rfl, rfl⟩ ⟨rfl, rfl, rfl⟩ (fun k k1 k2 => rfl)
    · exact hT.fr ⟨rfl, rfl⟩ ⟨rfl, rfl⟩
    · show vwOK nd nv (upd (S.2.1 183) n (nI d) p) (upd (S.2.1 184) n (nI v) p) (upd (S.2.1 185) n (nI h) p) (upd (M.2.1 32) n a1 p) (upd (M.2.1 33) n (nI h) p)
      by_cases q : p = n
      · subst q
        rw [pk_us, pk_us, pk_us, pk_us, pk_us]
        exact ⟨d, v, h, hd, hv, by omega, rfl, rfl, rfl, ea, rfl⟩
      · rw [pk_un q, pk_un q, pk_un q, pk_un q, pk_un q]
        exact v4 p (by omega)
    · exact hC.fr ⟨rfl, rfl, rfl, rfl, rfl, rfl⟩ ⟨rfl, rfl, rfl, rfl, rfl⟩ (fun k hk => rfl) (Nat.le_refl _) (Nat.le_refl _)
    · exact hA.fr ⟨rfl, rfl, rfl, rfl⟩ ⟨rfl, rfl, rfl, rfl⟩
    · exact hS.fr (Nat.le_refl _) ⟨rfl, rfl, rfl, rfl⟩ ⟨rfl, rfl, rfl⟩
    · exact hL.fr (Nat.le_refl _) ⟨⟨rfl, rfl, rfl, rfl, rfl, rfl, rfl, rfl⟩, ⟨rfl, rfl, rfl, rfl, rfl, rfl, rfl, rfl⟩, ⟨rfl, rfl, rfl, rfl, rfl, rfl, rfl, rfl⟩⟩ ⟨rfl, rfl⟩
  · have e : n = 20 := by omega
    subst e
    rw [if_neg (show ¬ nI 20 < 20 by decide), if_pos (show nI 20 = 20 from rfl)]
    exact idle _
theorem st_feed : ST_feed F (RR F) := by
  intro t S Z M a1 ht hR
  have hR' := hR
  obtain ⟨nm, nv, nd, nb, ⟨hK, hB, hT, hV, hC, hA, hS, hL⟩, c1, c2, hm⟩ := hR
  have h12 := hB.1.2.2
  have idle : ∀ (r : Int32), ∃ (r' : Int32) (S1 M1 : St), (some (r, S) : Option (Int32 × St)) = some (r', S1) ∧ (some (r, M) : Option (Int32 × St)) = some (r', M1) ∧ RR F (t + 1) S1 Z M1 := fun r => ⟨r, S, M, rfl, rfl, RR_idle hR'⟩
  unfold f_X10_feed f_X11_feed
  rw [show (0 : Int64) = (nI 0).toInt64 from rfl, show (255 : Int64) = (nI 255).toInt64 from rfl]
  rcases rng (x := a1) 0 255 (by omega) (by omega) with ⟨hq, hw⟩ | ⟨N, n1, n2, rfl, q1, q2, hw⟩
  · rw [hw]
    rcases hq with hq | ⟨hq1, hq2⟩
    · rw [if_pos (show a1 < 0 from hq)]; exact idle _
    · rw [if_neg (show ¬ a1 < 0 from hq1), if_neg (gt_nle (show 255 < a1 from hq2))]; exact idle _
  rw [hw, if_neg (show ¬ nI N < 0 from q1), if_pos (show nI N ≤ 255 from nlt_le q2), Option.bind_some, if_neg one0]
  obtain ⟨t0, n, t1, t2, t3⟩ := hT
  unfold f_X5_take
  rw [t2, t3]
  by_cases h5 : n < 120
  · rw [if_pos (show nI n < 120 from nI_lt (b := 120) h5 (by omega)), if_neg (show ¬ nI n = 120 from ne_n (b := 120) (by omega) (by omega) (by omega))]
    simp only [inr_nI (show n < 120 from h5) (by omega), chk_true, cl_nI (show n < 2 ^ 31 by omega), Option.bind_some, nI_1]
    refine ⟨_, _, _, rfl, rfl, RR_mk (nm := nm) (nv := nv) (nd := nd) (nb := nb) ⟨?_, ?_, ⟨?_, n + 1, by omega, rfl, rfl⟩, ?_, ?_, ?_, ?_, ?_⟩ (c1.fr ⟨rfl, rfl, rfl⟩) (c2.fr ⟨rfl, rfl, rfl⟩) (hm.fr (Nat.le_refl _) h12 ⟨⟨rfl, rfl, rfl, rfl, rfl, rfl, rfl, rfl⟩, ⟨rfl, rfl, rfl, rfl, rfl, rfl, rfl, rfl⟩, ⟨rfl, rfl, rfl, rfl, rfl, rfl, rfl, rfl⟩⟩ ⟨rfl, rfl, rfl, rfl, rfl⟩ (fun d hd => ⟨rfl, rfl, rfl⟩)) (by omega)⟩
    · exact hK.fr ⟨rfl, rfl, rfl, rfl, rfl, rfl, rfl, rfl⟩ ⟨rfl, rfl, rfl, rfl, rfl, rfl⟩ (fun k hk => rfl)
    · exact hB.fr ⟨rfl, rfl, rfl, rfl, rfl⟩ ⟨rfl, rfl, rfl⟩ (fun k k1 k2 => rfl)
    · show upd (S.2.1 100) n (nI N) = upd (M.2.1 12) n (nI N)
      rw [t0]
    · exact hV.fr ⟨rfl, rfl, rfl, rfl⟩ ⟨rfl, rfl, rfl⟩ (Nat.le_refl _) (Nat.le_refl _)
    · exact hC.fr ⟨rfl, rfl, rfl, rfl, rfl, rfl⟩ ⟨rfl, rfl, rfl, rfl, rfl⟩ (fun k hk => rfl) (Nat.le_refl _) (Nat.le_refl _)
    · exact hA.fr ⟨rfl, rfl, rfl, rfl⟩ ⟨rfl, rfl, rfl, rfl⟩
    · exact hS.fr (Nat.le_refl _) ⟨rfl, rfl, rfl, rfl⟩ ⟨rfl, rfl, rfl⟩
    · exact hL.fr (Nat.le_refl _) ⟨⟨rfl, rfl, rfl, rfl, rfl, rfl, rfl, rfl⟩, ⟨rfl, rfl, rfl, rfl, rfl, rfl, rfl, rfl⟩, ⟨rfl, rfl, rfl, rfl, rfl, rfl, rfl, rfl⟩⟩ ⟨rfl, rfl⟩
  · have e : n = 120 := by omega
    subst e
    rw [if_neg (show ¬ nI 120 < 120 by decide), if_pos (show nI 120 = 120 from rfl)]
    exact idle _
theorem st_body : ST_body F (RR F) := by
  intro t S Z M a1 ht hR
  have hR' := hR
  obtain ⟨nm, nv, nd, nb, ⟨hK, hB, hT, hV, hC, hA, hS, hL⟩, c1, c2, hm⟩ := hR
  have h12 := hB.1.2.2
  have idle : ∀ (r : Int32), ∃ (r' : Int32) (S1 M1 : St), (some (r, S) : Option (Int32 × St)) = some (r', S1) ∧ (some (r, M) : Option (Int32 × St)) = some (r', M1) ∧ RR F (t + 1) S1 Z M1 := fun r => ⟨r, S, M, rfl, rfl, RR_idle hR'⟩
  unfold f_X10_body f_X11_body
  rw [show (0 : Int64) = (nI 0).toInt64 from rfl, show (7 : Int64) = (nI 7).toInt64 from rfl]
  rcases rng (x := a1) 0 7 (by omega) (by omega) with ⟨hq, hw⟩ | ⟨N, n1, n2, rfl, q1, q2, hw⟩
  · rw [hw]
    rcases hq with hq | ⟨hq1, hq2⟩
    · rw [if_pos (show a1 < 0 from hq)]; exact idle _
    · have q8 : ¬ a1 < 8 := fun z => by
        rw [lt_i] at z hq2
        have e7 : (nI 7).toInt = 7 := rfl
        have e8 : (8 : Int32).toInt = 8 := rfl
        omega
      rw [if_neg (show ¬ a1 < 0 from hq1), if_neg q8]; exact idle _
  rw [hw, if_neg (show ¬ nI N < 0 from q1), if_pos (show nI N < 8 from nI_lt (b := 8) (by omega) (by omega)), Option.bind_some, if_neg one0]
  obtain ⟨⟨b1, b2, b3⟩, ⟨b4, b5⟩, b6, b7⟩ := hA
  unfold f_X0_add
  rw [b1, b2]
  by_cases h5 : nb < 50
  · rw [if_pos (show nI nb < 50 from nI_lt (b := 50) h5 (by omega)), if_neg (show ¬ nI nb = 50 from ne_n (b := 50) (by omega) (by omega) (by omega))]
    simp only [inr_nI (show nb < 50 from h5) (by omega), chk_true, cl_nI (show nb < 2 ^ 31 by omega), Option.bind_some, nI_1, nI_pred]
    refine ⟨_, _, _, rfl, rfl, RR_mk (nm := nm) (nv := nv) (nd := nd) (nb := nb + 1) ⟨?_, ?_, ?_, ?_, ?_, ⟨⟨rfl, rfl, by omega⟩, ⟨?_, b5⟩, fun b hb => ?_, b7⟩, ?_, ?_⟩ (c1.fr ⟨rfl, rfl, rfl⟩) (c2.fr ⟨rfl, rfl, rfl⟩) (hm.fr (Nat.le_refl _) h12 ⟨⟨rfl, rfl, rfl, rfl, rfl, rfl, rfl, rfl⟩, ⟨rfl, rfl, rfl, rfl, rfl, rfl, rfl, rfl⟩, ⟨rfl, rfl, rfl, rfl, rfl, rfl, rfl, rfl⟩⟩ ⟨rfl, rfl, rfl, rfl, rfl⟩ (fun d hd => ⟨rfl, rfl, rfl⟩)) (by omega)⟩
    · exact hK.fr ⟨rfl, rfl, rfl, rfl, rfl, rfl, rfl, rfl⟩ ⟨rfl, rfl, rfl, rfl, rfl, rfl⟩ (fun k hk => rfl)
    · exact hB.fr ⟨rfl, rfl, rfl, rfl, rfl⟩ ⟨rfl, rfl, rfl⟩ (fun k k1 k2 => rfl)
    · exact hT.fr ⟨rfl, rfl⟩ ⟨rfl, rfl⟩
    · exact hV.fr ⟨rfl, rfl, rfl, rfl⟩ ⟨rfl, rfl, rfl⟩ (Nat.le_refl _) (Nat.le_refl _)
    · exact hC.fr ⟨rfl, rfl, rfl, rfl, rfl, rfl⟩ ⟨rfl, rfl, rfl, rfl, rfl⟩ (fun k hk => rfl) (Nat.le_refl _) (Nat.le_refl _)
    · show upd (S.2.1 0) nb (nI N) = upd (M.2.1 35) nb (nI N)
      rw [b4]
    · show ∃ k, k < 8 ∧ upd (M.2.1 35) nb (nI N) b = nI k
      by_cases q : b = nb
      · subst q
        rw [pk_us]
        exact ⟨N, by omega, rfl⟩
      · rw [pk_un q]
        exact b6 b (by omega)
    · exact hS.fr (by omega) ⟨rfl, rfl, rfl, rfl⟩ ⟨rfl, rfl, rfl⟩
    · exact hL.fr (Nat.le_refl _) ⟨⟨rfl, rfl, rfl, rfl, rfl, rfl, rfl, rfl⟩, ⟨rfl, rfl, rfl, rfl, rfl, rfl, rfl, rfl⟩, ⟨rfl, rfl, rfl, rfl, rfl, rfl, rfl, rfl⟩⟩ ⟨rfl, rfl⟩
  · have e : nb = 50 := by omega
    subst e
    rw [if_neg (show ¬ nI 50 < 50 by decide), if_pos (show nI 50 = 50 from rfl)]
    exact idle _
theorem st_trace : ST_trace F (RR F) := by
  intro t S Z M a1 ht hR
  have hR' := hR
  obtain ⟨nm, nv, nd, nb, ⟨hK, hB, hT, hV, hC, hA, hS, hL⟩, c1, c2, hm⟩ := hR
  unfold f_X10_trace f_X11_trace f_X0_traced
  rw [bind_id, hA.2.2.2.1, hA.2.1.2]
  by_cases h1 : a1 < 0
  · rw [if_pos h1]; exact ⟨_, rfl, rfl, RR_idle hR'⟩
  obtain ⟨w, hw, rfl⟩ := nI_of h1
  rw [if_neg h1]
  by_cases h2 : M.1 37 ≤ nI w
  · rw [if_pos h2]; exact ⟨_, rfl, rfl, RR_idle hR'⟩
  rw [if_neg h2]
  by_cases h3 : w < 24
  · rw [if_neg (show ¬ (24 : Int32) ≤ nI w from nI_ge (b := 24) h3 (by omega)), inr_nI h3 (by omega), chk_true]
    exact ⟨_, rfl, rfl, RR_idle hR'⟩
  · rw [if_pos (show (24 : Int32) ≤ nI w from nI_le (a := 24) (by omega) hw)]
    exact ⟨_, rfl, rfl, RR_idle hR'⟩
theorem st_keep : ST_keep F (RR F) := by
  intro t S Z M a1 a2 ht hR
  have hR' := hR
  obtain ⟨nm, nv, nd, nb, ⟨hK, hB, hT, hV, hC, hA, hS, hL⟩, c1, c2, hm⟩ := hR
  have h12 := hB.1.2.2
  have idle : ∀ (r : Int32), ∃ (r' : Int32) (S1 M1 : St), (some (r, S) : Option (Int32 × St)) = some (r', S1) ∧ (some (r, M) : Option (Int32 × St)) = some (r', M1) ∧ RR F (t + 1) S1 Z M1 := fun r => ⟨r, S, M, rfl, rfl, RR_idle hR'⟩
  unfold f_X10_keep f_X11_keep
  rw [hasShelf_eq, isShelf_eq, Option.bind_some, Option.bind_some]
  rcases hx_01 (n := 6) (a := a1) with h0 | ⟨s, hs, rfl, h1⟩
  · rw [h0]; exact idle _
  rw [h1, if_neg one0, if_neg one0]
  have hh : ∀ c : Int32, (c = -1 ∧ a2 = -1) ∨ (c = -2 ∧ ∃ b, b < nb ∧ a2 = nI b) → ∃ (r' : Int32) (S1 M1 : St), f_X10_keep_B29 Z (nI s) a2 S = some (r', S1) ∧ f_X11_keep_B22 (nI s) a2 M = some (r', M1) ∧ RR F (t + 1) S1 Z M1 := by
    intro c hc
    unfold f_X10_keep_B29 f_X11_keep_B22 f_X6_holdBody
    rw [hasShelf_eq, hx_y hs, Option.bind_some, if_neg one0]
    have e : (if (0 : Int32) ≤ a2 then f_X6_holdBody_B23 Z (nI s) a2 S (-2) (nI s) else f_X6_holdBody_B23 Z (nI s) a2 S (-1) (nI s)) = some (sa (sa S 120 s c) 121 s a2) := by
      unfold f_X6_holdBody_B23
      rw [inr_nI hs (by omega), chk_true, chk_true, chk_true, chk_true, cl_nI (by omega)]
      rcases hc with ⟨rfl, rfl⟩ | ⟨rfl, b, hb, rfl⟩
      · rw [if_neg (by decide)]
      · rw [if_pos (nI_pos' (by have := hA.1.2.2; omega))]
    rw [e, inr_nI hs (by omega), chk_true, chk_true, cl_nI (by omega), Option.bind_some]
    refine ⟨_, _, _, rfl, rfl, RR_mk (nm := nm) (nv := nv) (nd := nd) (nb := nb) ⟨?_, ?_, ?_, ?_, ?_, ?_, fun d hd => ?_, ?_⟩ (c1.fr ⟨rfl, rfl, rfl⟩) (c2.fr ⟨rfl, rfl, rfl⟩) (hm.fr (Nat.le_refl _) h12 ⟨⟨rfl, rfl, rfl, rfl, rfl, rfl, rfl, rfl⟩, ⟨rfl, rfl, rfl, rfl, rfl, rfl, rfl, rfl⟩, ⟨rfl, rfl, rfl, rfl, rfl, rfl, rfl, rfl⟩⟩ ⟨rfl, rfl, rfl, rfl, rfl⟩ (fun d hd => ⟨rfl, rfl, rfl⟩)) (by omega)⟩
    · exact hK.fr ⟨rfl, rfl, rfl, rfl, rfl, rfl, rfl, rfl⟩ ⟨rfl, rfl, rfl, rfl, rfl, rfl⟩ (fun k hk => rfl)
    · exact hB.fr ⟨rfl, rfl, rfl, rfl, rfl⟩ ⟨rfl, rfl, rfl⟩ (fun k k1 k2 => rfl)
    · exact hT.fr ⟨rfl, rfl⟩ ⟨rfl, rfl⟩
    · exact hV.fr ⟨rfl, rfl, rfl, rfl⟩ ⟨rfl, rfl, rfl⟩ (Nat.le_refl _) (Nat.le_refl _)
    · exact hC.fr ⟨rfl, rfl, rfl, rfl, rfl, rfl⟩ ⟨rfl, rfl, rfl, rfl, rfl⟩ (fun k hk => rfl) (Nat.le_refl _) (Nat.le_refl _)
    · exact hA.fr ⟨rfl, rfl, rfl, rfl⟩ ⟨rfl, rfl, rfl, rfl⟩
    · by_cases q : d = s
      · subst q
        have w1 : (sa (sa S 120 d c) 121 d a2).2.1 120 d = c := pk_us
        have w2 : (sa (sa S 120 d c) 121 d a2).2.1 121 d = a2 := pk_us
        have w3 : (sa (sa M 40 d a2) 41 d 0).2.1 40 d = a2 := pk_us
        unfold shOK
        rw [w1, w2, w3]
        rcases hc with hc | hc
        · exact Or.inl hc
        · refine Or.inr (Or.inl ⟨hc.1, ?_⟩)
          obtain ⟨b, hb, e⟩ := hc.2
          exact ⟨b, hb, e, e⟩
      · exact (hS d hd).fr (Nat.le_refl _) ⟨pk_un q, pk_un q, rfl, fun i hi => rfl⟩ ⟨pk_un q, pk_un q, fun i hi => rfl⟩
    · exact hL.fr (Nat.le_refl _) ⟨⟨rfl, rfl, rfl, rfl, rfl, rfl, rfl, rfl⟩, ⟨rfl, rfl, rfl, rfl, rfl, rfl, rfl, rfl⟩, ⟨rfl, rfl, rfl, rfl, rfl, rfl, rfl, rfl⟩⟩ ⟨rfl, rfl⟩
  by_cases g : a2 = -1
  · rw [if_pos g, if_pos g]
    exact hh (-1) (Or.inl ⟨rfl, g⟩)
  · rw [if_neg g, if_neg g, hasBody_eq hA.1.1 hA.1.2.2, isBody_eq hA.1.2.1 hA.1.2.2, Option.bind_some, Option.bind_some]
    rcases hx_01 (n := nb) (a := a2) with h0 | ⟨b, hb, eb, h1⟩
    · rw [h0]; exact idle _
    · rw [h1, if_neg one0, if_neg one0]
      exact hh (-2) (Or.inr ⟨rfl, b, hb, eb⟩)
end
