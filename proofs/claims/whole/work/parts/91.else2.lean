/-! elsewhere: the call -/
section
variable {F : Nat} {Z X : Zt} {S T M N : St} {nm nv nd nb d v B t : Nat}
theorem RFr.sc {T T' : St} (h : RFr 147 T T') : SC T T' := ⟨fun j _ _ => by rw [h.1], fun j _ _ q => h.2.2 j q, h.2.1⟩
theorem RFr.mcw {T T' : St} (h : RFr 30 T T') : MCw T T' := ⟨fun j _ _ => by rw [h.1], fun j _ _ q => h.2.2 j q.1, h.2.1⟩
theorem KMemo.far {T' : St} (h : KMemo S Z N nd B) (h12 : nd ≤ 12) (f : RFr 30 N T') : KMemo S Z T' nd B :=
  h.fr (Nat.le_refl _) h12 ⟨⟨rfl, rfl, rfl, rfl, rfl, rfl, rfl, rfl⟩, ⟨rfl, rfl, rfl, rfl, rfl, rfl, rfl, rfl⟩, ⟨rfl, rfl, rfl, rfl, rfl, rfl, rfl, rfl⟩⟩ ⟨by rw [f.1], f.2.2 _ (by omega), f.2.2 _ (by omega), f.2.2 _ (by omega), f.2.2 _ (by omega)⟩ (fun k _ => ⟨by rw [f.2.2 23 (by omega)], by rw [f.2.2 0 (by omega)], by rw [f.2.2 24 (by omega)]⟩)
theorem KCt.road {b : Nat} (hb : b = 80 ∨ b = 300) (h : KCt S Z b) {S' : St} (f : RFr 147 S S') : KCt S' Z b := h.fr ⟨rfl, by rw [f.1], f.2.2 _ (by omega)⟩
theorem cfrom_neg (hF : 200 ≤ F) {x : Int32} {H : Int32} (hx : x ≤ 0) : f_X2_lawfulFrom F X T H x = some (-2, T) := by
  obtain ⟨f, rfl⟩ : ∃ f, F = f + 1 := ⟨F - 1, by omega⟩
  unfold f_X2_lawfulFrom
  simp only [f_X2_lawfulFrom_L2]
  rw [if_pos hx]
theorem min_eq (x : Int32) : f_J9_min_7cf53 2000 x = some (if x < 2000 then x else 2000) := by
  unfold f_J9_min_7cf53
  split <;> rfl
def xyOK (x y x' y' : Int32) : Prop := (x = -2 ∧ y = 2147483647 ∧ x' = -2 ∧ y' = -2) ∨ ∃ b s, b < 5 ∧ s < 1073730000 ∧ x = nI b ∧ y = nI s ∧ x' = nI b ∧ y' = nI s
/-- the sooner one: asked as far as need be, and all along -/
theorem sooner {p : Nat → Int32} {H h r i : Nat} {x y x' y' : Int32} (hH : H = h + r) (hh : H < 1073700000) (hi : i < 5) (hxy : xyOK x y x' y') : ∃ z, (z = (if (y - nI h) - nI r < 2000 then (y - nI h) - nI r else 2000)) ∧ ((z ≤ 0 ∧ (ffR p 2000 H < 0 ∨ (¬ ffR p 2000 H < 0 ∧ ¬ x' < 0 ∧ y' ≤ ffR p 2000 H))) ∨ ∃ K, K ≤ 2000 ∧ z = nI K ∧ ((ffR p K H = -2 ∧ (ffR p 2000 H < 0 ∨ (¬ ffR p 2000 H < 0 ∧ ¬ x' < 0 ∧ y' ≤ ffR p 2000 H))) ∨ (∃ s, s < 1073730000 ∧ ffR p K H = nI s ∧ ffR p 2000 H = nI s ∧ (x' < 0 ∨ ¬ y' ≤ nI s)))) := by
  subst hH
  refine ⟨_, rfl, ?_⟩
  have hm2 : (-2 : Int32) < 0 := by decide
  rcases hxy with ⟨rfl, rfl, rfl, rfl⟩ | ⟨b, s, hb, hs, rfl, rfl, rfl, rfl⟩
  · have e : (2147483647 : Int32) - nI h - nI r = nI (2147483647 - h - r) := by
      rw [show (2147483647 : Int32) = nI 2147483647 from rfl, pk_sub (by omega), pk_sub (by omega)]
    rw [e, if_neg (show ¬ nI (2147483647 - h - r) < 2000 from nI_nlt (b := 2000) (by omega) (by omega))]
    refine Or.inr ⟨2000, Nat.le_refl _, rfl, ?_⟩
    rcases ffR_or p 2000 (h + r) with q | ⟨x, x1, x2, x3⟩
    · exact Or.inl ⟨q, Or.inl (by rw [q]; exact hm2)⟩
    · exact Or.inr ⟨x, by omega, x3, x3, Or.inl hm2⟩
  · have hfull : ∀ K, K ≤ 2000 → (∀ x, h + r + K ≤ x → x < h + r + 2000 → s ≤ x) → (∀ x, x < h + r + K → x < s) → (ffR p K (h + r) = -2 ∧ (ffR p 2000 (h + r) < 0 ∨ (¬ ffR p 2000 (h + r) < 0 ∧ ¬ nI b < 0 ∧ nI s ≤ ffR p 2000 (h + r)))) ∨ (∃ s', s' < 1073730000 ∧ ffR p K (h + r) = nI s' ∧ ffR p 2000 (h + r) = nI s' ∧ (nI b < 0 ∨ ¬ nI s ≤ nI s')) := by
      intro K hK k1 k2
      rcases ffR_cut p K 2000 (h + r) hK with ⟨x, x1, x2, x3, x4⟩ | ⟨y1, y2 | ⟨x, x1, x2, x3⟩⟩
      · have := k2 x x2
        exact Or.inr ⟨x, by omega, x3, x4, Or.inr (nI_ge this (by omega))⟩
      · exact Or.inl ⟨y1, Or.inl (by rw [y2]; exact hm2)⟩
      · refine Or.inl ⟨y1, Or.inr ⟨?_, nI_pos (by omega), ?_⟩⟩
        · rw [x3]; exact nI_pos (by omega)
        · rw [x3]; exact nI_le (k1 x x1 x2) (by omega)
    by_cases hle : h + r < s
    · have e : nI s - nI h - nI r = nI (s - h - r) := by rw [pk_sub (by omega), pk_sub (by omega)]
      rw [e]
      by_cases h2 : s - h - r < 2000
      · rw [if_pos (show nI (s - h - r) < 2000 from nI_lt (b := 2000) h2 (by omega))]
        exact Or.inr ⟨s - h - r, by omega, rfl, hfull (s - h - r) (by omega) (fun x _ _ => by omega) (fun x _ => by omega)⟩
      · rw [if_neg (show ¬ nI (s - h - r) < 2000 from nI_nlt (b := 2000) (by omega) (by omega))]
        exact Or.inr ⟨2000, Nat.le_refl _, rfl, hfull 2000 (Nat.le_refl _) (fun x _ _ => by omega) (fun x _ => by omega)⟩
    · have e0 : (nI s - nI h - nI r).toInt = (s : Int) - h - r := by
        have e1 : (nI s - nI h).toInt = (s : Int) - h := by
          rw [sub_i (by rw [nI_toInt (by omega), nI_toInt (by omega)]; omega) (by rw [nI_toInt (by omega), nI_toInt (by omega)]; omega), nI_toInt (by omega), nI_toInt (by omega)]
        rw [sub_i (by rw [e1, nI_toInt (by omega)]; omega) (by rw [e1, nI_toInt (by omega)]; omega), e1, nI_toInt (by omega)]
      have e2 : (2000 : Int32).toInt = 2000 := rfl
      have e3 : (0 : Int32).toInt = 0 := rfl
      rw [if_pos (by rw [lt_i, e0, e2]; omega)]
      refine Or.inl ⟨by rw [le_i, e0, e3]; omega, ?_⟩
      rcases ffR_or p 2000 (h + r) with q | ⟨x, x1, x2, x3⟩
      · exact Or.inl (by rw [q]; exact hm2)
      · refine Or.inr ⟨?_, nI_pos (by omega), ?_⟩
        · rw [x3]; exact nI_pos (by omega)
        · rw [x3]; exact nI_le (by omega) (by omega)
set_option maxRecDepth 20000 in
theorem st_elsewhere (hF : 200000 ≤ F) : ST_elsewhere F (RR F) := by
  intro t S Z M a1 a2 a3 ht hR
  have hR' := hR
  obtain ⟨nm, nv, nd, nb, hV, c1, c2, hm⟩ := hR
  have h12 := hV.2.1.1.2.2
  have h5 := hV.1.2.1.2.2
  have idle : ∀ (r : Int32), ∃ (r' : Int32) (S1 : St) (Z1 : Zt) (M1 : St), (some (r, S, Z) : Option (Int32 × St × Zt)) = some (r', S1, Z1) ∧ (some (r, M) : Option (Int32 × St)) = some (r', M1) ∧ RR F (t + 1) S1 Z1 M1 := fun r => ⟨r, S, Z, M, rfl, rfl, RR_idle hR'⟩
  unfold f_X10_elsewhere f_X11_elsewhere
  rw [isHour_eq]
  rcases case_d (Z := Z) (a1 := a1) (a2 := a2) hV.1 hV.2.1 with ⟨e1, e2 | ⟨e2, e3⟩⟩ | ⟨d, v, h, hd, hv, hh, ea, eb, ec, ed, e1, e2⟩
  · rw [e1, e2]; exact idle _
  · rw [e1, e2, e3]; exact idle _
  rw [e1, e2, Option.bind_some, Option.bind_some, if_neg one0, if_neg one0, ec, ed, eb, hx_y hh, Option.bind_some, if_neg one0, show (0 : Int64) = (nI 0).toInt64 from rfl, show (1 : Int64) = (nI 1).toInt64 from rfl]
  rcases rng (x := a3) 0 1 (by omega) (by omega) with ⟨hq, hw⟩ | ⟨w, n1, n2, ew, q1, q2, hw⟩
  · rw [hw]
    rcases hq with hq | ⟨hq1, hq2⟩
    · rw [if_pos (show a3 < 0 from hq)]; exact idle _
    · rw [if_neg (show ¬ a3 < 0 from hq1), if_neg (gt_nle (show 1 < a3 from hq2))]; exact idle _
  rw [hw, if_neg (show ¬ a3 < 0 from q1), if_pos (show a3 ≤ 1 from nlt_le q2), Option.bind_some, if_neg one0, bind_id3]
  have hW : ∀ e, e < 25 → M.2.1 11 e = nI ((fun e => (M.2.1 11 e).toNatClampNeg) e) ∧ (fun e => (M.2.1 11 e).toNatClampNeg) e ≤ 99 ∧ (nv ≤ e / 5 ∨ nv ≤ e % 5 → (fun e => (M.2.1 11 e).toNatClampNeg) e = 0) := by
    intro e he
    obtain ⟨a, b1, b2, b3⟩ := hV.1.2.2.2.2.2.2 e he
    show M.2.1 11 e = nI ((M.2.1 11 e).toNatClampNeg) ∧ (M.2.1 11 e).toNatClampNeg ≤ 99 ∧ (nv ≤ e / 5 ∨ nv ≤ e % 5 → (M.2.1 11 e).toNatClampNeg = 0)
    rw [b2, cl_nI (by omega)]
    exact ⟨rfl, b1, b3⟩
  obtain ⟨T0, D1, r1, r2, r3, r4, r5⟩ := roads_ok (F := F) (X := Z) (T := S) (by omega) hv h5 hW hV.1.2.2.1.2.2.2
  obtain ⟨N0, D2, s1, s2, s3, s4, s5⟩ := far_ok (F := F) (N := M) (by omega) hv h5 hW hV.1.2.1.2.1 rfl
  have hDD : ∀ x, x < nv → D1 x = D2 x := fun x hx => roads_one hv r4 s4 r5 s5 (by omega) (by omega) hx
  have hV0 : RV F S Z N0 nm nv nd nb := hV.cw SC.rf s2.mcw rfl
  have hg0 : gP S Z N0 nd T0 Z N0 (1000000 * t) := ⟨r2.sc, rfl, c1.road (Or.inl rfl) r2, c2.road (Or.inr rfl) r2, MC.rf, hm.far h12 s2⟩
  have hloop : ∀ (j i q q' : Nat) (x y x' y' : Int32) (T : St) (X : Zt) (N : St) (B : Nat), i + j = nv → j < q → j < q' → xyOK x y x' y' → gP S Z N0 nd T X N B → T.2.1 147 = T0.2.1 147 → B + 96000 * j < 1000000000 → ∃ r T' X' N', f_X2_soonestByWays_L19 F (nI d) (nI h) a3 q T X x y (nI i) = some (r, T', X') ∧ f_X11_elsewhere_L46 F a1 (nI h) a3 q' N x' y' (nI i) = some (r, N') ∧ gP S Z N0 nd T' X' N' (B + 96000 * j) := by
    intro j
    induction j with
    | zero =>
      intro i q q' x y x' y' T X N B hij hq hq' hxy hg hr hB
      obtain ⟨q, rfl⟩ : ∃ z, q = z + 1 := ⟨q - 1, by omega⟩
      obtain ⟨q', rfl⟩ : ∃ z, q' = z + 1 := ⟨q' - 1, by omega⟩
      have hV1 := hV0.c hg.1 hg.2.2.2.2.1 hg.2.1
      simp only [f_X2_soonestByWays_L19, f_X11_elsewhere_L46, f_X7_valleyCount]
      rw [Option.bind_some, hV1.1.2.1.1, hV1.1.2.1.2.1, if_pos (nI_le (show nv ≤ i by omega) (by omega)), if_pos (nI_le (show nv ≤ i by omega) (by omega))]
      rcases hxy with ⟨rfl, rfl, rfl, rfl⟩ | ⟨b, s, hb, hs, rfl, rfl, rfl, rfl⟩
      · by_cases h0 : a3 = 0
        · rw [if_pos h0, if_pos h0]; exact ⟨_, T, X, N, rfl, rfl, hg⟩
        · rw [if_neg h0, if_neg h0, if_neg (show ¬ (0 : Int32) ≤ -2 by decide)]; exact ⟨_, T, X, N, rfl, rfl, hg⟩
      · by_cases h0 : a3 = 0
        · rw [if_pos h0, if_pos h0]; exact ⟨_, T, X, N, rfl, rfl, hg⟩
        · rw [if_neg h0, if_neg h0, if_pos (nI_pos' (by omega))]; exact ⟨_, T, X, N, rfl, rfl, hg⟩
    | succ j ih =>
      intro i q q' x y x' y' T X N B hij hq hq' hxy hg hr hB
      rw [Nat.mul_add_one, ← Nat.add_assoc] at hB
      rw [Nat.mul_add_one, ← Nat.add_assoc]
      generalize 96000 * j = p at ih hB ⊢
      obtain ⟨q, rfl⟩ : ∃ z, q = z + 1 := ⟨q - 1, by omega⟩
      obtain ⟨q', rfl⟩ : ∃ z, q' = z + 1 := ⟨q' - 1, by omega⟩
      have hV1 := hV0.c hg.1 hg.2.2.2.2.1 hg.2.1
      have hf : N.2.1 30 = N0.2.1 30 := hg.2.2.2.2.1.2.1 30 (by omega) (by omega) (by omega)
      have hi : i < nv := by omega
      have ra := r3.2 i (by omega)
      have rb := s3.2 i hi
      rw [hDD i hi] at ra
      have hnext : ∀ (x y x' y' : Int32) (T : St) (X : Zt) (N : St) (B' : Nat), xyOK x y x' y' → gP S Z N0 nd T X N B' → T.2.1 147 = T0.2.1 147 → B' ≤ B + 96000 → ∃ r T' X' N', f_X2_soonestByWays_L19 F (nI d) (nI h) a3 q T X x y (nI (i + 1)) = some (r, T', X') ∧ f_X11_elsewhere_L46 F a1 (nI h) a3 q' N x' y' (nI (i + 1)) = some (r, N') ∧ gP S Z N0 nd T' X' N' (B + p + 96000) := by
        intro x y x' y' T X N B' hxy hg hr hB'
        obtain ⟨r, T', X', N', y1, y2, y3⟩ := ih (i + 1) q q' x y x' y' T X N B' (by omega) (by omega) (by omega) hxy hg hr (by omega)
        exact ⟨r, T', X', N', y1, y2, y3.le (by omega)⟩
      simp only [f_X2_soonestByWays_L19, f_X11_elsewhere_L46, f_X7_valleyCount, f_X7_roadTo]
      rw [Option.bind_some, hV1.1.2.1.1, hV1.1.2.1.2.1, if_neg (nI_ge hi (by omega)), if_neg (nI_ge hi (by omega)), hasValley_eq hV1.1.2.1.1 h5, hx_y hi, Option.bind_some, if_neg one0, inr_nI (show i < 5 by omega) (by omega), chk_true, chk_true, chk_true, chk_true, cl_nI (by omega), hr, hf, ra.1, rb.1]
      by_cases hfar : D2 i < 1000000
      · obtain ⟨T1, X1, o1, o2, cf⟩ := hg.opn hF hV0 hd hi
        have hr1 : T1.2.1 147 = T0.2.1 147 := (cf.2.1 147 (by omega)).trans hr
        obtain ⟨N1, e4, o4⟩ := rfrom_ok (N := N) hF hV0 hd hi (show h + D2 i + 2000 < 1073730000 by omega) o2.2.2 (by omega)
        rw [if_neg (show ¬ (1000000 : Int32) ≤ nI (D2 i) from nI_ge (b := 1000000) hfar (by omega)), if_pos (show nI (D2 i) < 1000000 from nI_lt (b := 1000000) hfar (by omega)), Option.bind_some, if_neg (nI_pos (by omega)), o1, Option.bind_some, min_eq, Option.bind_some, nI_add h (D2 i), ec, e4, Option.bind_some, nI_1]
        unfold f_X11_elsewhere_B92
        rw [nI_1]
        have hkeep : ∀ (T2 : St), T2.2.1 147 = T0.2.1 147 → gP S Z N0 nd T2 X1 N1 (B + 96000) → (ffR (mP S Z N0 nm d i) 2000 (h + D2 i) < 0 ∨ (¬ ffR (mP S Z N0 nm d i) 2000 (h + D2 i) < 0 ∧ ¬ x' < 0 ∧ y' ≤ ffR (mP S Z N0 nm d i) 2000 (h + D2 i))) → ∃ r T' X' N', f_X2_soonestByWays_L19 F (nI d) (nI h) a3 q T2 X1 x y (nI (i + 1)) = some (r, T', X') ∧ (if ffR (mP S Z N0 nm d i) 2000 (h + D2 i) < 0 then f_X11_elsewhere_L46 F a1 (nI h) a3 q' N1 x' y' (nI (i + 1)) else if x' < 0 then f_X11_elsewhere_L46 F a1 (nI h) a3 q' N1 (nI i) (ffR (mP S Z N0 nm d i) 2000 (h + D2 i)) (nI (i + 1)) else if y' ≤ ffR (mP S Z N0 nm d i) 2000 (h + D2 i) then f_X11_elsewhere_L46 F a1 (nI h) a3 q' N1 x' y' (nI (i + 1)) else f_X11_elsewhere_L46 F a1 (nI h) a3 q' N1 (nI i) (ffR (mP S Z N0 nm d i) 2000 (h + D2 i)) (nI (i + 1))) = some (r, N') ∧ gP S Z N0 nd T' X' N' (B + p + 96000) := by
          intro T2 hr2 hg2 hc
          rcases hc with hc | ⟨hc1, hc2, hc3⟩
          · rw [if_pos hc]
            exact hnext x y x' y' T2 X1 N1 _ hxy hg2 hr2 (Nat.le_refl _)
          · rw [if_neg hc1, if_neg hc2, if_pos hc3]
            exact hnext x y x' y' T2 X1 N1 _ hxy hg2 hr2 (Nat.le_refl _)
        obtain ⟨z, ez, hz⟩ := sooner (p := mP S Z N0 nm d i) (H := h + D2 i) (h := h) (r := D2 i) (i := i) rfl (by omega) (by omega) hxy
        rw [← ez]
        rcases hz with ⟨z1, z2⟩ | ⟨K, hK, rfl, ⟨z1, z2⟩ | ⟨s, z1, z2, z3, z4⟩⟩
        · rw [cfrom_neg (by omega) z1, Option.bind_some, if_pos (show (-2 : Int32) < 0 by decide)]
          exact hkeep T1 hr1 ⟨o2.1.1, o2.1.2.1, o2.1.kct, o2.2.1, o4⟩ z2
        · obtain ⟨T2, e5, o5, c5⟩ := cfrom_ok (X := X1) (K := K) (by omega) hV0 hd hi (show h + D2 i + K < 1073730000 by omega) K 0 F T1 (by omega) (by omega) o2.1
          have e6 : f_X2_lawfulFrom F X1 T1 (nI (h + D2 i)) (nI K) = some (ffR (mP S Z N0 nm d i) K (h + D2 i), T2) := e5
          rw [e6, Option.bind_some, z1, if_pos (show (-2 : Int32) < 0 by decide)]
          exact hkeep T2 ((c5.2.1 147 (by omega)).trans hr1) ⟨o5.1, o5.2.1, o5.kct, o2.2.1.ot (Or.inr rfl) (Or.inl rfl) (by omega) c5 rfl, o4⟩ z2
        · obtain ⟨T2, e5, o5, c5⟩ := cfrom_ok (X := X1) (K := K) (by omega) hV0 hd hi (show h + D2 i + K < 1073730000 by omega) K 0 F T1 (by omega) (by omega) o2.1
          have e6 : f_X2_lawfulFrom F X1 T1 (nI (h + D2 i)) (nI K) = some (ffR (mP S Z N0 nm d i) K (h + D2 i), T2) := e5
          have hg2 : gP S Z N0 nd T2 X1 N1 (B + 96000) := ⟨o5.1, o5.2.1, o5.kct, o2.2.1.ot (Or.inr rfl) (Or.inl rfl) (by omega) c5 rfl, o4⟩
          have hfin := hnext (nI i) (nI s) (nI i) (nI s) T2 X1 N1 _ (Or.inr ⟨i, s, by omega, z1, rfl, rfl, rfl, rfl⟩) hg2 ((c5.2.1 147 (by omega)).trans hr1) (Nat.le_refl _)
          rw [e6, Option.bind_some, z2, z3, if_neg (nI_pos (by omega)), if_neg (nI_pos (by omega))]
          rcases z4 with z4 | z4
          · rw [if_pos z4]; exact hfin
          · rw [if_neg z4]
            split <;> exact hfin
      · rw [if_pos (show (1000000 : Int32) ≤ nI (D2 i) from nI_le (a := 1000000) (by omega) (by omega)), if_neg (show ¬ nI (D2 i) < 1000000 from nI_nlt (b := 1000000) (by omega) (by omega)), Option.bind_some, if_pos (show (-2 : Int32) < 0 by decide)]
        unfold f_X11_elsewhere_B92
        rw [if_pos (show (-2 : Int32) < 0 by decide), nI_1]
        exact hnext x y x' y' T X N B hxy hg hr (by omega)
  have hp := Nat.mul_le_mul_left 96000 h5
  rw [show 96000 * 5 = 480000 from rfl] at hp
  have hrr := hloop nv 0 F F (-2) 2147483647 (-2) (-2) T0 Z N0 (1000000 * t) (by omega) (by omega) (by omega) (Or.inl ⟨rfl, rfl, rfl, rfl⟩) hg0 rfl
  generalize 96000 * nv = p at hp hrr
  obtain ⟨r, T', X', N', y1, y2, y3⟩ := hrr (by omega)
  unfold f_X2_soonestByWays
  rw [r1, Option.bind_some, s1, Option.bind_some]
  exact ⟨r, T', X', N', y1, y2, y3.rr hV0 (by omega)⟩
end
