/-! deeds, promises, bytes, bodies, what they are -/
section
variable {F : Nat} {Z : Zt} {S M : St} {nm nv nd nb : Nat}
theorem lws0 {S S' : St} {Z : Zt} (h1 : ∀ j, 1000 ≤ j → S'.1 j = S.1 j) (h2 : ∀ j, 1000 ≤ j → S'.2.1 j = S.2.1 j) (k : Nat) : lwS S Z S' Z k := ⟨rfl, h1 _ (by omega), h1 _ (by omega), h2 _ (by omega), h2 _ (by omega), h2 _ (by omega), h2 _ (by omega), h2 _ (by omega)⟩
/-- may such a deed be -/
theorem isOne_eq (a b c d : Int32) : f_X11_isOne a.toInt64 b.toInt64 c.toInt64 d.toInt64 = f_X1_isSo a b c d := by
  unfold f_X11_isOne f_X1_isSo
  rw [show (0 : Int64) = (nI 0).toInt64 from rfl, show (9 : Int64) = (nI 9).toInt64 from rfl, show (1 : Int64) = (nI 1).toInt64 from rfl, show (48 : Int64) = (nI 48).toInt64 from rfl, show (3 : Int64) = (nI 3).toInt64 from rfl]
  by_cases a0 : a < 0
  · rw [if_pos a0, wi32, if_neg (fun z => gt_nle a0 z.1)]; rfl
  by_cases a9 : 9 < a
  · rw [if_neg a0, if_pos a9, wi32, if_neg (fun z => gt_nle a9 z.2)]; rfl
  rw [if_neg a0, if_neg a9, wi32, if_pos ⟨nlt_le a0, nlt_le a9⟩, Option.bind_some, if_neg one0]
  by_cases c0 : c < 0
  · rw [if_pos c0, wi32, wi32, if_neg (show ¬ (nI 0 ≤ c ∧ c ≤ nI 9) from fun z => gt_nle c0 z.1)]
    split <;> rfl
  by_cases c9 : 9 < c
  · rw [if_neg c0, if_pos c9, wi32, wi32, if_neg (show ¬ (nI 0 ≤ c ∧ c ≤ nI 9) from fun z => gt_nle c9 z.2)]
    split <;> rfl
  rw [if_neg c0, if_neg c9]
  by_cases b0 : b < 1
  · rw [if_pos b0, wi32, if_neg (fun z => gt_nle b0 z.1)]; rfl
  by_cases b9 : 48 < b
  · rw [if_neg b0, if_pos b9, wi32, if_neg (fun z => gt_nle b9 z.2)]; rfl
  rw [if_neg b0, if_neg b9, wi32, if_pos ⟨nlt_le b0, nlt_le b9⟩, Option.bind_some, if_neg one0, wi32, if_pos ⟨nlt_le c0, nlt_le c9⟩, Option.bind_some, if_neg one0]
  by_cases d0 : d < 0
  · rw [if_pos d0, wi32, if_neg (fun z => gt_nle d0 z.1)]; rfl
  by_cases d9 : 3 < d
  · rw [if_neg d0, if_pos d9, wi32, if_neg (fun z => gt_nle d9 z.2)]; rfl
  rw [if_neg d0, if_neg d9, wi32, if_pos ⟨nlt_le d0, nlt_le d9⟩, Option.bind_some, if_neg one0]
theorem rngD {x : Int32} (lo hi : Nat) (h1 : hi < 2 ^ 31) (h0 : lo ≤ hi) (h2 : ¬ x < nI lo) (h3 : ¬ nI hi < x) : ∃ n, lo ≤ n ∧ n ≤ hi ∧ x = nI n := by
  rw [lt_i, nI_toInt (by omega)] at h2 h3
  obtain ⟨N, hN, rfl⟩ := nI_of (x := x) (by rw [lt_i]; show ¬ x.toInt < 0; omega)
  rw [nI_toInt hN] at h2 h3
  exact ⟨N, by omega, by omega, rfl⟩
theorem isSo_01 (a b c d : Int32) : f_X1_isSo a b c d = some 0 ∨ (f_X1_isSo a b c d = some 1 ∧ ddOK a b c d) := by
  unfold f_X1_isSo
  by_cases a0 : a < 0
  · exact Or.inl (if_pos a0)
  by_cases a9 : 9 < a
  · left; rw [if_neg a0, if_pos a9]
  by_cases c0 : c < 0
  · left; rw [if_neg a0, if_neg a9, if_pos c0]
  by_cases c9 : 9 < c
  · left; rw [if_neg a0, if_neg a9, if_neg c0, if_pos c9]
  by_cases b0 : b < 1
  · left; rw [if_neg a0, if_neg a9, if_neg c0, if_neg c9, if_pos b0]
  by_cases b9 : 48 < b
  · left; rw [if_neg a0, if_neg a9, if_neg c0, if_neg c9, if_neg b0, if_pos b9]
  by_cases d0 : d < 0
  · left; rw [if_neg a0, if_neg a9, if_neg c0, if_neg c9, if_neg b0, if_neg b9, if_pos d0]
  by_cases d9 : 3 < d
  · left; rw [if_neg a0, if_neg a9, if_neg c0, if_neg c9, if_neg b0, if_neg b9, if_neg d0, if_pos d9]
  right
  refine ⟨by rw [if_neg a0, if_neg a9, if_neg c0, if_neg c9, if_neg b0, if_neg b9, if_neg d0, if_neg d9], ?_⟩
  obtain ⟨x, -, x1, rfl⟩ := rngD 0 9 (by omega) (by omega) a0 a9
  obtain ⟨y, y0, y1, rfl⟩ := rngD 1 48 (by omega) (by omega) b0 b9
  obtain ⟨z, -, z1, rfl⟩ := rngD 0 9 (by omega) (by omega) c0 c9
  obtain ⟨q, -, q1, rfl⟩ := rngD 0 3 (by omega) (by omega) d0 d9
  exact ⟨x, y, z, q, x1, y0, y1, z1, q1, rfl, rfl, rfl, rfl⟩
/-- a deed more -/
def adS (S : St) (nd : Nat) (a b c d : Int32) : St := sf (sa (sa (sa (sa S 20 nd a) 21 nd b) 22 nd c) 23 nd d) 24 (nI (nd + 1))
def adM (M : St) (nd : Nat) (a b c d : Int32) : St := sf (sa (sa (sa (sa M 23 nd a) 0 (6 + nd) b) 24 nd c) 0 (18 + nd) d) 22 (nI (nd + 1))
theorem add_eqS {a b c d : Int32} (h1 : S.1 24 = nI nd) (h5 : nd < 12) : f_X1_add Z S a b c d = some (nI nd, adS S nd a b c d) := by
  unfold f_X1_add
  rw [h1, if_pos (show nI nd < 12 from nI_lt (b := 12) h5 (by omega))]
  simp only [inr_nI (show nd < 12 from h5) (by omega), chk_true, cl_nI (show nd < 2 ^ 31 by omega), nI_1]
  rfl
theorem add_eqM {a b c d : Int32} (h1 : M.1 22 = nI nd) (h5 : nd < 12) : f_X11_adds M a b c d = some (adM M nd a b c d) := by
  unfold f_X11_adds
  rw [h1, show (6 : Int32) + nI nd = nI (6 + nd) from nI_add 6 nd, show (18 : Int32) + nI nd = nI (18 + nd) from nI_add 18 nd]
  simp only [inr_nI (show nd < 12 from h5) (by omega), inr_nI (show 6 + nd < 30 by omega) (by omega), inr_nI (show 18 + nd < 30 by omega) (by omega), chk_true, cl_nI (show nd < 2 ^ 31 by omega), cl_nI (show 6 + nd < 2 ^ 31 by omega), cl_nI (show 18 + nd < 2 ^ 31 by omega), nI_1]
  rfl
theorem may_ad {a b c d : Int32} {k : Nat} : (adM M nd a b c d).2.1 0 k = if k = 18 + nd then d else if k = 6 + nd then b else M.2.1 0 k := rfl
theorem RV_ad {a b c d : Int32} (h : RV F S Z M nm nv nd nb) (h5 : nd < 12) (hd : ddOK a b c d) : RV F (adS S nd a b c d) Z (adM M nd a b c d) nm nv (nd + 1) nb := by
  obtain ⟨hK, hB, hT, hV, hC, hA, hS, hL⟩ := h
  have hlo : ∀ k, k ≠ 18 + nd → k ≠ 6 + nd → (adM M nd a b c d).2.1 0 k = M.2.1 0 k := fun k q1 q2 => by rw [may_ad, if_neg q1, if_neg q2]
  refine ⟨?_, ⟨⟨rfl, rfl, by omega⟩, ⟨?_, ?_⟩, fun e he => ?_, fun e he => ?_⟩, ?_, ?_, ?_, ?_, ?_, ?_⟩
  · exact hK.fr ⟨rfl, rfl, rfl, rfl, rfl, rfl, rfl, rfl⟩ ⟨rfl, rfl, rfl, rfl, rfl, rfl⟩ (fun k hk => hlo k (by omega) (by omega))
  · show upd (S.2.1 20) nd a = upd (M.2.1 23) nd a
    rw [hB.2.1.1]
  · show upd (S.2.1 22) nd c = upd (M.2.1 24) nd c
    rw [hB.2.1.2]
  · show upd (S.2.1 21) nd b e = (adM M nd a b c d).2.1 0 (6 + e) ∧ upd (S.2.1 23) nd d e = (adM M nd a b c d).2.1 0 (18 + e)
    by_cases q : e = nd
    · subst q
      rw [pk_us, pk_us, may_ad, may_ad, if_neg (show 6 + e ≠ 18 + e by omega), if_pos rfl, if_pos rfl]
      exact ⟨rfl, rfl⟩
    · rw [pk_un q, pk_un q]
      by_cases q6 : 18 + nd = 6 + e
      · omega
      · rw [hlo _ (by omega) (by omega), hlo _ (by omega) (by omega)]
        exact hB.2.2.1 e he
  · show ddOK (upd (M.2.1 23) nd a e) ((adM M nd a b c d).2.1 0 (6 + e)) (upd (M.2.1 24) nd c e) ((adM M nd a b c d).2.1 0 (18 + e))
    by_cases q : e = nd
    · subst q
      rw [pk_us, pk_us, may_ad, may_ad, if_neg (show 6 + e ≠ 18 + e by omega), if_pos rfl, if_pos rfl]
      exact hd
    · rw [pk_un q, pk_un q, hlo _ (by omega) (by omega), hlo _ (by omega) (by omega)]
      exact hB.2.2.2 e (by omega)
  · exact hT.fr ⟨rfl, rfl⟩ ⟨rfl, rfl⟩
  · exact hV.fr ⟨rfl, rfl, rfl, rfl⟩ ⟨rfl, rfl, rfl⟩ (by omega) (Nat.le_refl _)
  · exact hC.fr ⟨rfl, rfl, rfl, rfl, rfl, rfl⟩ ⟨rfl, rfl, rfl, rfl, rfl⟩ (fun k hk => rfl) (Nat.le_refl _) (by omega)
  · exact hA.fr ⟨rfl, rfl, rfl, rfl⟩ ⟨rfl, rfl, rfl, rfl⟩
  · exact hS.fr (Nat.le_refl _) ⟨rfl, rfl, rfl, rfl⟩ ⟨rfl, rfl, rfl⟩
  · exact hL.fr (Nat.le_refl _) ⟨⟨rfl, rfl, rfl, rfl, rfl, rfl, rfl, rfl⟩, ⟨rfl, rfl, rfl, rfl, rfl, rfl, rfl, rfl⟩, ⟨rfl, rfl, rfl, rfl, rfl, rfl, rfl, rfl⟩⟩ ⟨rfl, rfl⟩
theorem KMemo_ad {a b c d : Int32} {B : Nat} (hm : KMemo S Z M nd B) (h5 : nd < 12) : KMemo (adS S nd a b c d) Z (adM M nd a b c d) (nd + 1) B := by
  refine hm.fr (by omega) (by omega) ⟨⟨rfl, rfl, rfl, rfl, rfl, rfl, rfl, rfl⟩, ⟨rfl, rfl, rfl, rfl, rfl, rfl, rfl, rfl⟩, ⟨rfl, rfl, rfl, rfl, rfl, rfl, rfl, rfl⟩⟩ ⟨rfl, rfl, rfl, rfl, rfl⟩ (fun e he => ⟨?_, ?_, ?_⟩)
  · show upd (M.2.1 23) nd a e = _
    rw [pk_un (by omega)]
  · rw [may_ad, if_neg (by omega), if_neg (by omega)]
  · show upd (M.2.1 24) nd c e = _
    rw [pk_un (by omega)]
theorem st_deed : ST_deed F (RR F) := by
  intro t S Z M a1 a2 ht hR
  have hR' := hR
  obtain ⟨nm, nv, nd, nb, hRV, c1, c2, hm⟩ := hR
  have hB := hRV.2.1
  have idle : ∀ (r : Int32), ∃ (r' : Int32) (S1 M1 : St), (some (r, S) : Option (Int32 × St)) = some (r', S1) ∧ (some (r, M) : Option (Int32 × St)) = some (r', M1) ∧ RR F (t + 1) S1 Z M1 := fun r => ⟨r, S, M, rfl, rfl, RR_idle hR'⟩
  unfold f_X10_deed f_X11_deed
  rw [isOne_eq]
  by_cases h1 : a1 < 0
  · rw [if_pos h1, if_pos h1]; exact idle _
  by_cases h2 : a2 < 0
  · rw [if_neg h1, if_neg h1, if_pos h2, if_pos h2]; exact idle _
  rw [if_neg h1, if_neg h1, if_neg h2, if_neg h2]
  rcases isSo_01 (a1 / 100) (jrem a1 100) (a2 / 10) (jrem a2 10) with h0 | ⟨h0, hdd⟩
  · rw [h0]; exact idle _
  rw [h0, Option.bind_some, Option.bind_some, if_neg one0, if_neg one0]
  by_cases h5 : nd < 12
  · rw [hB.1.2.1, if_neg (show ¬ nI nd = 12 from ne_n (b := 12) (by omega) (by omega) (by omega)), add_eqS hB.1.1 h5, add_eqM hB.1.2.1 h5, Option.bind_some, Option.bind_some]
    refine ⟨nI nd, adS S nd (a1 / 100) (jrem a1 100) (a2 / 10) (jrem a2 10), adM M nd (a1 / 100) (jrem a1 100) (a2 / 10) (jrem a2 10), rfl, ?_, RR_mk (RV_ad hRV h5 hdd) (c1.fr ⟨rfl, rfl, rfl⟩) (c2.fr ⟨rfl, rfl, rfl⟩) (KMemo_ad hm h5) (by omega)⟩
    show some (nI (nd + 1) - 1, _) = _
    rw [nI_pred]
  · have e : nd = 12 := by have := hB.1.2.2; omega
    subst e
    unfold f_X1_add
    rw [hB.1.2.1, hB.1.1, if_neg (show ¬ nI 12 < 12 by decide), if_pos (show nI 12 = 12 from rfl)]
    exact idle _
theorem of_cases {a2 : Int32} : (a2 = 0 ∨ a2 = 1 ∨ a2 = 2 ∨ a2 = 3 ∨ (a2 < 0 ∨ 3 < a2) ∧ ¬ a2 = 0 ∧ ¬ a2 = 1 ∧ ¬ a2 = 2 ∧ ¬ a2 = 3) := by
  by_cases e0 : a2 = 0
  · exact Or.inl e0
  by_cases e1 : a2 = 1
  · exact Or.inr (Or.inl e1)
  by_cases e2 : a2 = 2
  · exact Or.inr (Or.inr (Or.inl e2))
  by_cases e3 : a2 = 3
  · exact Or.inr (Or.inr (Or.inr (Or.inl e3)))
  refine Or.inr (Or.inr (Or.inr (Or.inr ⟨?_, e0, e1, e2, e3⟩)))
  by_cases q : a2 < 0
  · exact Or.inl q
  · by_cases q3 : 3 < a2
    · exact Or.inr q3
    · obtain ⟨n, -, n1, rfl⟩ := rngD 0 3 (by omega) (by omega) q q3
      match n, n1 with
      | 0, _ => exact absurd rfl e0
      | 1, _ => exact absurd rfl e1
      | 2, _ => exact absurd rfl e2
      | 3, _ => exact absurd rfl e3
theorem told_eq (hB : KBook S M nd) {d : Nat} (hd : d < nd) : f_X1_told Z S (nI d) 0 = some (M.2.1 23 d) ∧ f_X1_told Z S (nI d) 1 = some (M.2.1 0 (6 + d)) ∧ f_X1_told Z S (nI d) 2 = some (M.2.1 24 d) ∧ f_X1_told Z S (nI d) 3 = some (M.2.1 0 (18 + d)) := by
  have h12 := hB.1.2.2
  have hh := hB.2.2.1 d (by omega)
  unfold f_X1_told
  rw [hasDeed_eq hB.1.1 hB.1.2.2, hx_y hd, Option.bind_some, Option.bind_some, Option.bind_some, Option.bind_some, if_neg one0, if_neg one0, if_neg one0, if_neg one0, inr_nI (show d < 12 by omega) (by omega), cl_nI (by omega), hB.2.1.1, hB.2.1.2, hh.1, hh.2]
  exact ⟨rfl, rfl, rfl, rfl⟩
theorem hoursOf_eq (hB : KBook S M nd) {d : Nat} (hd : d < nd) : f_X1_hoursOf Z S (nI d) = some (M.2.1 0 (6 + d)) := by
  unfold f_X1_hoursOf
  rw [(told_eq hB hd).2.1]
  rfl
theorem st_of : ST_of F (RR F) := by
  intro t S Z M a1 a2 ht hR
  have hR' := hR
  obtain ⟨nm, nv, nd, nb, hRV, c1, c2, hm⟩ := hR
  have hB := hRV.2.1
  have h12 := hB.1.2.2
  unfold f_X10_of f_X11_of
  rw [hasDeed_eq hB.1.1 h12, isDeed_eq hB.1.2.1 h12]
  rcases hx_01 (n := nd) (a := a1) with h0 | ⟨d, hd, rfl, h1⟩
  · rw [h0]; exact ⟨_, rfl, rfl, RR_idle hR'⟩
  obtain ⟨t0, t1, t2, t3⟩ := told_eq (Z := Z) hB hd
  rw [h1, Option.bind_some, Option.bind_some, if_neg one0, if_neg one0, show (6 : Int32) + nI d = nI (6 + d) from nI_add 6 d, show (18 : Int32) + nI d = nI (18 + d) from nI_add 18 d, inr_nI (show d < 12 by omega) (by omega), inr_nI (show 6 + d < 30 by omega) (by omega), inr_nI (show 18 + d < 30 by omega) (by omega), cl_nI (show d < 2 ^ 31 by omega), cl_nI (show 6 + d < 2 ^ 31 by omega), cl_nI (show 18 + d < 2 ^ 31 by omega)]
  rcases of_cases (a2 := a2) with rfl | rfl | rfl | rfl | ⟨hq, q0, q1, q2, q3⟩
  · rw [t0]; exact ⟨_, rfl, rfl, RR_idle hR'⟩
  · rw [t1]; exact ⟨_, rfl, rfl, RR_idle hR'⟩
  · rw [t2]; exact ⟨_, rfl, rfl, RR_idle hR'⟩
  · rw [t3]; exact ⟨_, rfl, rfl, RR_idle hR'⟩
  · rw [if_neg q0, if_neg q1, if_neg q2, if_neg q3]
    rcases hq with hq | hq
    · rw [if_pos hq]; exact ⟨_, rfl, rfl, RR_idle hR'⟩
    · by_cases q : a2 < 0
      · rw [if_pos q]; exact ⟨_, rfl, rfl, RR_idle hR'⟩
      · rw [if_neg q, if_pos hq]; exact ⟨_, rfl, rfl, RR_idle hR'⟩
theorem st_count : ST_count F (RR F) := by
  intro t S Z M a1 ht hR
  have hR' := hR
  obtain ⟨nm, nv, nd, nb, ⟨hK, hB, hT, hV, hC, hA, hS, hL⟩, c1, c2, hm⟩ := hR
  obtain ⟨nt, -, t1, t2⟩ := hT.2
  obtain ⟨np, -, p1, p2, -⟩ := hV
  obtain ⟨dn, kp, -, -, d1, d2, -⟩ := hC
  unfold f_X10_count f_X11_count f_X7_moonCount f_X7_valleyCount f_X1_size f_X9_size f_X5_size f_X3_size f_X0_size f_X0_ran
  rw [hK.1.1, hK.2.1.1, hB.1.1, p1, t1, d1, hA.1.1, hA.2.2.2.1, hK.1.2.1, hK.2.1.2.1, hB.1.2.1, p2, t2, d2, hA.1.2.1]
  by_cases e0 : a1 = 0
  · rw [if_pos e0, if_pos e0]; exact ⟨_, rfl, rfl, RR_idle hR'⟩
  rw [if_neg e0, if_neg e0]
  by_cases e1 : a1 = 1
  · rw [if_pos e1, if_pos e1]; exact ⟨_, rfl, rfl, RR_idle hR'⟩
  rw [if_neg e1, if_neg e1]
  by_cases e2 : a1 = 2
  · rw [if_pos e2, if_pos e2]; exact ⟨_, rfl, rfl, RR_idle hR'⟩
  rw [if_neg e2, if_neg e2]
  by_cases e3 : a1 = 3
  · rw [if_pos e3, if_pos e3]; exact ⟨_, rfl, rfl, RR_idle hR'⟩
  rw [if_neg e3, if_neg e3]
  by_cases e4 : a1 = 4
  · rw [if_pos e4, if_pos e4]; exact ⟨_, rfl, rfl, RR_idle hR'⟩
  rw [if_neg e4, if_neg e4]
  by_cases e5 : a1 = 5
  · rw [if_pos e5, if_pos e5]; exact ⟨_, rfl, rfl, RR_idle hR'⟩
  rw [if_neg e5, if_neg e5]
  by_cases e6 : a1 = 6
  · rw [if_pos e6, if_pos e6]; exact ⟨_, rfl, rfl, RR_idle hR'⟩
  rw [if_neg e6, if_neg e6]
  by_cases e7 : a1 = 7
  · rw [if_pos e7, if_pos e7]; exact ⟨_, rfl, rfl, RR_idle hR'⟩
  rw [if_neg e7, if_neg e7]
  exact ⟨_, rfl, rfl, RR_idle hR'⟩
end
