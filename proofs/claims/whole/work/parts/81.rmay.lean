/-! what a deed costs, begun in an hour: as numbers; the reference -/
def cP (S : St) (Z : Zt) (M : St) (nm d v n H : Nat) : Int32 := cst (LW S Z) (M.2.1 23 d) (M.2.1 0 (6 + d)) (M.2.1 24 d) v n (H % 24) (stP M v H nm)
def allP (c : Nat → Int32) : Nat → Nat → Int32 → Int32
  | 0, _, s => s
  | j + 1, i, s => if c i < 0 then -2 else allP c j (i + 1) (s + c i)
def milP (c : Nat → Int32) : Nat → Nat → Int32 → Int32
  | 0, _, x => x
  | j + 1, i, x => milP c j (i + 1) (if c i < 0 then x else if x < 0 then c i else if x ≤ c i then x else c i)
def hrs (M : St) (d : Nat) : Nat := (M.2.1 0 (6 + d)).toNatClampNeg
def ovr (M : St) (d : Nat) : Nat := (M.2.1 0 (18 + d)).toNatClampNeg
def mP (S : St) (Z : Zt) (M : St) (nm d v H : Nat) : Int32 := if ovr M d = 0 then cP S Z M nm d v 0 H else if ovr M d = 1 then cP S Z M nm d v (hrs M d - 1) (H + (hrs M d - 1)) else if ovr M d = 2 then allP (fun n => cP S Z M nm d v n (H + n)) (hrs M d) 0 0 else milP (fun n => cP S Z M nm d v n (H + n)) (hrs M d) 0 (-2)
def MO (S : St) (Z : Zt) (M0 : St) (nd B : Nat) (M : St) : Prop := MC M0 M ∧ KMemo S Z M nd B
section
variable {F : Nat} {Z : Zt} {S M0 M : St} {nm nv nd nb B : Nat}
theorem MO.le {B' : Nat} (h : MO S Z M0 nd B M) (hB : B ≤ B') : MO S Z M0 nd B' M := ⟨h.1, h.2.le hB⟩
theorem stP_c {M' : St} (b : MC M M') (v h k : Nat) : stP M' v h k = stP M v h k := by
  have e0 : M'.2.1 0 = M.2.1 0 := b.2.1 0 (by omega) (by omega) (by omega)
  have e7 : M'.2.1 7 = M.2.1 7 := b.2.1 7 (by omega) (by omega) (by omega)
  have e9 : M'.2.1 9 = M.2.1 9 := b.2.1 9 (by omega) (by omega) (by omega)
  have e10 : M'.2.1 10 = M.2.1 10 := b.2.1 10 (by omega) (by omega) (by omega)
  have hu : ∀ k, upB M' k v h = upB M k v h := fun k => by
    unfold upB
    rw [e0, e7, e9, e10]
  induction k with
  | zero => rfl
  | succ k ih =>
    show stP M' v h k + _ = stP M v h k + _
    rw [ih, hu k]
theorem st8 (hV : RV F S Z M0 nm nv nd nb) (v h : Nat) : stP M0 v h nm < 8 := Nat.lt_of_lt_of_le (stP_lt M0 v h nm) (Nat.pow_le_pow_right (by omega) hV.1.1.2.2)
theorem hrs_ok (hV : RV F S Z M0 nm nv nd nb) {d : Nat} (hd : d < nd) : M0.2.1 0 (6 + d) = nI (hrs M0 d) ∧ 1 ≤ hrs M0 d ∧ hrs M0 d ≤ 48 ∧ M0.2.1 0 (18 + d) = nI (ovr M0 d) ∧ ovr M0 d ≤ 3 := by
  obtain ⟨x, y, z, q, w1, w2, w3, w4, w5, w6, w7, w8, w9⟩ := hV.2.1.2.2.2 d hd
  have e1 : hrs M0 d = y := by unfold hrs; rw [w7, cl_nI (by omega)]
  have e2 : ovr M0 d = q := by unfold ovr; rw [w9, cl_nI (by omega)]
  rw [e1, e2]
  exact ⟨w7, w2, w3, w9, w5⟩
theorem costOf_ok (hF : 200 ≤ F) (hV : RV F S Z M0 nm nv nd nb) (hO : MO S Z M0 nd B M) (hB : B + 1 < 1000000000) {d v n H : Nat} (hd : d < nd) (hv : v < nv) (hn : n < 48) (hH : H < 1073740000) : ∃ M', f_X11_costOf F M (nI d) (nI v) (nI n) (nI H) = some (cP S Z M0 nm d v n H, M') ∧ MO S Z M0 nd (B + 1) M' := by
  have hV1 : RV F S Z M nm nv nd nb := hV.c SC.rf hO.1 rfl
  have b := hO.1
  have e0 : M.2.1 0 = M0.2.1 0 := b.2.1 0 (by omega) (by omega) (by omega)
  have e23 : M.2.1 23 = M0.2.1 23 := b.2.1 23 (by omega) (by omega) (by omega)
  have e24 : M.2.1 24 = M0.2.1 24 := b.2.1 24 (by omega) (by omega) (by omega)
  unfold f_X11_costOf
  rw [stateOf_eq hF hV1.1 hv hH, Option.bind_some, stP_c b]
  obtain ⟨M', e1, e2, e3⟩ := costBy_ok hF hV1.2.2.2.2.2.2.2 hV1.1.1.2.1 hV1.1.1.2.2 hO.2 hB hV.2.1.1.2.2 (st8 hV v H) hd (show v < 5 by have := hV.1.2.1.2.2; omega) hn (show H < 2 ^ 31 by omega)
  rw [e1, Option.bind_some, e0, e23, e24]
  exact ⟨M', rfl, b.tr e3, e2⟩
theorem mayOf_ok (hF : 200 ≤ F) (hV : RV F S Z M0 nm nv nd nb) (hO : MO S Z M0 nd B M) (hB : B + 48 < 1000000000) {d v H : Nat} (hd : d < nd) (hv : v < nv) (hH : H < 1073730000) : ∃ M', f_X11_mayOf F M (nI d) (nI v) (nI H) = some (mP S Z M0 nm d v H, M') ∧ MO S Z M0 nd (B + 48) M' := by
  obtain ⟨g1, g2, g3, g4, g5⟩ := hrs_ok hV hd
  have h12 := hV.2.1.1.2.2
  have r0 : ∀ {M : St} {B : Nat}, MO S Z M0 nd B M → M.2.1 0 = M0.2.1 0 := fun h => h.1.2.1 0 (by omega) (by omega) (by omega)
  have hall : ∀ (j i q : Nat) (s : Int32) (M : St) (B : Nat), i + j = hrs M0 d → j < q → MO S Z M0 nd B M → B + j < 1000000000 → ∃ M', f_X11_allOf_L6 F (nI d) (nI v) (nI H) q M s (nI i) = some (allP (fun n => cP S Z M0 nm d v n (H + n)) j i s, M') ∧ MO S Z M0 nd (B + j) M' := by
    intro j
    induction j with
    | zero =>
      intro i q s M B hij hq hO hB
      obtain ⟨q, rfl⟩ : ∃ z, q = z + 1 := ⟨q - 1, by omega⟩
      simp only [f_X11_allOf_L6]
      rw [show (6 : Int32) + nI d = nI (6 + d) from nI_add 6 d, inr_nI (by omega) (by omega), chk_true, cl_nI (by omega), r0 hO, g1, if_pos (nI_le (by omega) (by omega))]
      exact ⟨M, rfl, hO⟩
    | succ j ih =>
      intro i q s M B hij hq hO hB
      obtain ⟨q, rfl⟩ : ∃ z, q = z + 1 := ⟨q - 1, by omega⟩
      simp only [f_X11_allOf_L6]
      obtain ⟨M1, e1, hO1⟩ := costOf_ok hF hV hO (by omega) hd hv (show i < 48 by omega) (show H + i < 1073740000 by omega)
      rw [show (6 : Int32) + nI d = nI (6 + d) from nI_add 6 d, inr_nI (by omega) (by omega), chk_true, cl_nI (by omega), r0 hO, g1, if_neg (nI_ge (by omega) (by omega)), nI_add H i, e1, Option.bind_some, nI_1]
      show ∃ M', _ = some (if cP S Z M0 nm d v i (H + i) < 0 then -2 else allP (fun n => cP S Z M0 nm d v n (H + n)) j (i + 1) (s + cP S Z M0 nm d v i (H + i)), M') ∧ _
      by_cases hc : cP S Z M0 nm d v i (H + i) < 0
      · rw [if_pos hc, if_neg (n0_le hc)]
        exact ⟨M1, rfl, hO1.le (by omega)⟩
      · rw [if_neg hc, if_pos (nlt_le hc)]
        obtain ⟨M2, e2, hO2⟩ := ih (i + 1) q (s + cP S Z M0 nm d v i (H + i)) M1 (B + 1) (by omega) (by omega) hO1 (by omega)
        exact ⟨M2, e2, hO2.le (by omega)⟩
  have hmil : ∀ (j i q : Nat) (s : Int32) (M : St) (B : Nat), i + j = hrs M0 d → j < q → MO S Z M0 nd B M → B + j < 1000000000 → ∃ M', f_X11_mildestOf_L7 F (nI d) (nI v) (nI H) q M s (nI i) = some (milP (fun n => cP S Z M0 nm d v n (H + n)) j i s, M') ∧ MO S Z M0 nd (B + j) M' := by
    intro j
    induction j with
    | zero =>
      intro i q s M B hij hq hO hB
      obtain ⟨q, rfl⟩ : ∃ z, q = z + 1 := ⟨q - 1, by omega⟩
      simp only [f_X11_mildestOf_L7]
      rw [show (6 : Int32) + nI d = nI (6 + d) from nI_add 6 d, inr_nI (by omega) (by omega), chk_true, cl_nI (by omega), r0 hO, g1, if_pos (nI_le (by omega) (by omega))]
      exact ⟨M, rfl, hO⟩
    | succ j ih =>
      intro i q s M B hij hq hO hB
      obtain ⟨q, rfl⟩ : ∃ z, q = z + 1 := ⟨q - 1, by omega⟩
      simp only [f_X11_mildestOf_L7]
      obtain ⟨M1, e1, hO1⟩ := costOf_ok hF hV hO (by omega) hd hv (show i < 48 by omega) (show H + i < 1073740000 by omega)
      rw [show (6 : Int32) + nI d = nI (6 + d) from nI_add 6 d, inr_nI (by omega) (by omega), chk_true, cl_nI (by omega), r0 hO, g1, if_neg (nI_ge (by omega) (by omega)), nI_add H i, e1, Option.bind_some, nI_1]
      have hih := fun (s : Int32) => ih (i + 1) q s M1 (B + 1) (by omega) (by omega) hO1 (by omega)
      show ∃ M', _ = some (milP (fun n => cP S Z M0 nm d v n (H + n)) j (i + 1) (if cP S Z M0 nm d v i (H + i) < 0 then s else if s < 0 then cP S Z M0 nm d v i (H + i) else if s ≤ cP S Z M0 nm d v i (H + i) then s else cP S Z M0 nm d v i (H + i)), M') ∧ _
      by_cases hc : cP S Z M0 nm d v i (H + i) < 0
      · rw [if_pos hc, if_pos hc]
        obtain ⟨M2, e2, hO2⟩ := hih s
        exact ⟨M2, e2, hO2.le (by omega)⟩
      rw [if_neg hc, if_neg hc]
      by_cases hs : s < 0
      · rw [if_pos hs, if_pos hs]
        obtain ⟨M2, e2, hO2⟩ := hih (cP S Z M0 nm d v i (H + i))
        exact ⟨M2, e2, hO2.le (by omega)⟩
      rw [if_neg hs, if_neg hs]
      by_cases hl : s ≤ cP S Z M0 nm d v i (H + i)
      · rw [if_pos hl, if_pos hl]
        obtain ⟨M2, e2, hO2⟩ := hih s
        exact ⟨M2, e2, hO2.le (by omega)⟩
      · rw [if_neg hl, if_neg hl]
        obtain ⟨M2, e2, hO2⟩ := hih (cP S Z M0 nm d v i (H + i))
        exact ⟨M2, e2, hO2.le (by omega)⟩
  obtain ⟨L, hL⟩ : ∃ L, hrs M0 d = L + 1 := ⟨hrs M0 d - 1, by omega⟩
  unfold f_X11_mayOf mP
  rw [show (6 : Int32) + nI d = nI (6 + d) from nI_add 6 d, show (18 : Int32) + nI d = nI (18 + d) from nI_add 18 d, inr_nI (show 6 + d < 30 by omega) (by omega), inr_nI (show 18 + d < 30 by omega) (by omega), chk_true, cl_nI (show 6 + d < 2 ^ 31 by omega), cl_nI (show 18 + d < 2 ^ 31 by omega), r0 hO, g1, g4, hL, nI_pred, Nat.add_sub_cancel]
  simp only [lti]
  rw [chk_true, nI_add H L]
  by_cases o0 : ovr M0 d = 0
  · rw [if_pos o0, o0, if_pos (show nI 0 = 0 from rfl), bind_id2]
    obtain ⟨M1, e1, hO1⟩ := costOf_ok hF hV hO (by omega) hd hv (show 0 < 48 by omega) (show H < 1073740000 by omega)
    exact ⟨M1, e1, hO1.le (by omega)⟩
  rw [if_neg o0, if_neg (nI_ne0 (by omega) (by omega))]
  by_cases o1 : ovr M0 d = 1
  · rw [if_pos o1, o1, if_pos (show nI 1 = 1 from rfl), bind_id2]
    obtain ⟨M1, e1, hO1⟩ := costOf_ok hF hV hO (by omega) hd hv (show L < 48 by omega) (show H + L < 1073740000 by omega)
    exact ⟨M1, e1, hO1.le (by omega)⟩
  rw [if_neg o1, if_neg (show ¬ nI (ovr M0 d) = 1 from ne_n (b := 1) o1 (by omega) (by omega))]
  by_cases o2 : ovr M0 d = 2
  · rw [if_pos o2, o2, if_pos (show nI 2 = 2 from rfl), bind_id2]
    obtain ⟨M1, e1, hO1⟩ := hall (L + 1) 0 F 0 M B (by omega) (by omega) hO (by omega)
    exact ⟨M1, e1, hO1.le (by omega)⟩
  rw [if_neg o2, if_neg (show ¬ nI (ovr M0 d) = 2 from ne_n (b := 2) o2 (by omega) (by omega)), bind_id2]
  obtain ⟨M1, e1, hO1⟩ := hmil (L + 1) 0 F (-2) M B (by omega) (by omega) hO (by omega)
  exact ⟨M1, e1, hO1.le (by omega)⟩
end
