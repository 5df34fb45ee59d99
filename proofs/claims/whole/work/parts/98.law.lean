/-! law -/
section
variable {F : Nat} {Z Z' : Zt} {S S' M M' S1 M1 : St} {nm nv nd nb B : Nat}
/-- the tape emptied, a law read -/
def LwS_ (S S' : St) : Prop := (∀ j, j < 1000 → j ≠ 101 → j ≠ 102 → j ≠ 103 → S'.1 j = S.1 j) ∧ (∀ j, j < 1000 → S'.2.1 j = S.2.1 j) ∧ S'.2.2 = S.2.2 ∧ S'.1 101 = 0
def LwM_ (M M' : St) : Prop := (∀ j, (j < 16 ∨ 20 < j) → j ≠ 13 → M'.1 j = M.1 j) ∧ (∀ j, j ≠ 14 → j ≠ 15 → j ≠ 27 → M'.2.1 j = M.2.1 j) ∧ M'.2.2 = M.2.2 ∧ M'.1 13 = 0
theorem RV_law (h : RV F S Z M nm nv nd nb) (a : LwS_ S S') (b : LwM_ M M') (hL : KLaw F S' Z' M' nm) : RV F S' Z' M' nm nv nd nb := by
  obtain ⟨h1, h2, h3, h4, h5, h6, h7, h8⟩ := h
  obtain ⟨A, A2, A3, A4⟩ := a
  obtain ⟨C, C2, C3, C4⟩ := b
  have e0 : M'.2.1 0 = M.2.1 0 := C2 0 (by omega) (by omega) (by omega)
  refine ⟨?_, ?_, ⟨?_, 0, by omega, A4, C4⟩, ?_, ?_, ?_, ?_, hL⟩
  · exact h1.fr ⟨A _ (by omega) (by omega) (by omega) (by omega), A _ (by omega) (by omega) (by omega) (by omega), A2 _ (by omega), A2 _ (by omega), A2 _ (by omega), A2 _ (by omega), A2 _ (by omega), A2 _ (by omega)⟩ ⟨C _ (by omega) (by omega), C _ (by omega) (by omega), C2 _ (by omega) (by omega) (by omega), C2 _ (by omega) (by omega) (by omega), C2 _ (by omega) (by omega) (by omega), C2 _ (by omega) (by omega) (by omega)⟩ (fun k _ => by rw [e0])
  · exact h2.fr ⟨A _ (by omega) (by omega) (by omega) (by omega), A2 _ (by omega), A2 _ (by omega), A2 _ (by omega), A2 _ (by omega)⟩ ⟨C _ (by omega) (by omega), C2 _ (by omega) (by omega) (by omega), C2 _ (by omega) (by omega) (by omega)⟩ (fun k _ _ => by rw [e0])
  · rw [A2 100 (by omega), C2 12 (by omega) (by omega) (by omega)]; exact h3.1
  · exact h4.fr ⟨A _ (by omega) (by omega) (by omega) (by omega), A2 _ (by omega), A2 _ (by omega), A2 _ (by omega)⟩ ⟨C _ (by omega) (by omega), C2 _ (by omega) (by omega) (by omega), C2 _ (by omega) (by omega) (by omega)⟩ (Nat.le_refl _) (Nat.le_refl _)
  · exact h5.fr ⟨A _ (by omega) (by omega) (by omega) (by omega), A _ (by omega) (by omega) (by omega) (by omega), A2 _ (by omega), A2 _ (by omega), A2 _ (by omega), A2 _ (by omega)⟩ ⟨C _ (by omega) (by omega), C _ (by omega) (by omega), C2 _ (by omega) (by omega) (by omega), C2 _ (by omega) (by omega) (by omega), C2 _ (by omega) (by omega) (by omega)⟩ (fun k _ => by rw [C2 7 (by omega) (by omega) (by omega)]) (Nat.le_refl _) (Nat.le_refl _)
  · exact h6.fr ⟨A _ (by omega) (by omega) (by omega) (by omega), A _ (by omega) (by omega) (by omega) (by omega), A2 _ (by omega), A2 _ (by omega)⟩ ⟨C _ (by omega) (by omega), C _ (by omega) (by omega), C2 _ (by omega) (by omega) (by omega), C2 _ (by omega) (by omega) (by omega)⟩
  · exact h7.fr (Nat.le_refl _) ⟨A2 _ (by omega), A2 _ (by omega), A2 _ (by omega), by rw [A3]⟩ ⟨C2 _ (by omega) (by omega) (by omega), C2 _ (by omega) (by omega) (by omega), by rw [C3]⟩
theorem KCt_law {b : Nat} (hb : b = 80 ∨ b = 300) (h : KCt S Z b) (a : LwS_ S S') (hz : Z'.1 = Z.1) : KCt S' Z' b := by
  refine h.fr ⟨by rw [hz], ?_, ?_⟩
  · exact a.1 _ (by omega) (by omega) (by omega) (by omega)
  · exact a.2.1 _ (by omega)
theorem lawOK.cg {f : (Nat → Int32) → Int32} {tx tx' : Nat → Int32} {L : Nat} (h : lawOK F f tx L) (he : ∀ i, i < L → tx' i = tx i) : lawOK F f tx' L := fun M b hb hM => h M b hb (fun i hi => (hM i hi).trans (he i hi))
theorem hand_lo {m : Nat} {had : Bool} {j : Nat} (hj : j < 1000) (hm : m < 3) : (hand m had S).1 j = S.1 j ∧ (hand m had S).2.1 j = S.2.1 j := by
  have e : pm m (Dm m had) j = j := by
    unfold pm
    rw [if_neg (by omega), if_neg (by omega)]
  constructor
  · show (if 2000 ≤ pm m (Dm m had) j then 0 else S.1 (pm m (Dm m had) j)) = _
    rw [e, if_neg (by omega)]
  · show (if 2000 ≤ pm m (Dm m had) j then (fun _ => 0) else S.2.1 (pm m (Dm m had) j)) = _
    rw [e, if_neg (by omega)]
theorem hand_ot {m k c : Nat} {had : Bool} (hm : m < 3) (hk : k < 3) (hkm : k ≠ m) (hc : c < 20) : (hand m had S).1 (1000 + c + 20 * k) = S.1 (1000 + c + 20 * k) ∧ (hand m had S).2.1 (1000 + c + 20 * k) = S.2.1 (1000 + c + 20 * k) := by
  have e : pm m (Dm m had) (1000 + c + 20 * k) = 1000 + c + 20 * k := by
    unfold pm
    rw [if_neg (by omega), if_neg (by omega)]
  constructor
  · show (if 2000 ≤ pm m (Dm m had) (1000 + c + 20 * k) then 0 else S.1 (pm m (Dm m had) (1000 + c + 20 * k))) = _
    rw [e, if_neg (by omega)]
  · show (if 2000 ≤ pm m (Dm m had) (1000 + c + 20 * k) then (fun _ => 0) else S.2.1 (pm m (Dm m had) (1000 + c + 20 * k))) = _
    rw [e, if_neg (by omega)]
theorem hand_it {m c : Nat} {had : Bool} (hm : m < 3) (hc : c < 20) : (hand m had S).1 (1000 + c + 20 * m) = S.1 (1060 + c) ∧ (hand m had S).2.1 (1000 + c + 20 * m) = S.2.1 (1060 + c) := by
  have e : pm m (Dm m had) (1000 + c + 20 * m) = 1060 + c := by
    unfold pm
    rw [if_pos (by omega)]
    omega
  constructor
  · show (if 2000 ≤ pm m (Dm m had) (1000 + c + 20 * m) then 0 else S.1 (pm m (Dm m had) (1000 + c + 20 * m))) = _
    rw [e, if_neg (by omega)]
  · show (if 2000 ≤ pm m (Dm m had) (1000 + c + 20 * m) then (fun _ => 0) else S.2.1 (pm m (Dm m had) (1000 + c + 20 * m))) = _
    rw [e, if_neg (by omega)]
theorem text_ok (hF : 200 ≤ F) {k L : Nat} (hk : k < 3) (hL : L ≤ 120) (M0 : St) : ∃ M1, f_X11_law_L48 F (nI k) F M0 (nI L) 0 = ((f_X11_forgets F (sa M1 15 k (nI L))).bind fun r3 => some ((1 : Int32), r3)) ∧ M1.1 = M0.1 ∧ M1.2.2 = M0.2.2 ∧ (∀ j, j ≠ 14 → M1.2.1 j = M0.2.1 j) ∧ (∀ i, i < L → M1.2.1 14 (120 * k + i) = M0.2.1 12 i) ∧ ∀ y, (y < 120 * k ∨ 120 * k + 120 ≤ y) → M1.2.1 14 y = M0.2.1 14 y := by
  have hl : ∀ (j i m : Nat) (T : St), i + j = L → j < m → T.1 = M0.1 → T.2.2 = M0.2.2 → (∀ j, j ≠ 14 → T.2.1 j = M0.2.1 j) → (∀ x, x < i → T.2.1 14 (120 * k + x) = M0.2.1 12 x) → (∀ y, (y < 120 * k ∨ 120 * k + 120 ≤ y) → T.2.1 14 y = M0.2.1 14 y) → ∃ M1, f_X11_law_L48 F (nI k) m T (nI L) (nI i) = ((f_X11_forgets F (sa M1 15 k (nI L))).bind fun r3 => some ((1 : Int32), r3)) ∧ M1.1 = M0.1 ∧ M1.2.2 = M0.2.2 ∧ (∀ j, j ≠ 14 → M1.2.1 j = M0.2.1 j) ∧ (∀ i, i < L → M1.2.1 14 (120 * k + i) = M0.2.1 12 i) ∧ ∀ y, (y < 120 * k ∨ 120 * k + 120 ≤ y) → M1.2.1 14 y = M0.2.1 14 y := by
    intro j
    induction j with
    | zero =>
      intro i m T hi hm t1 t2 t3 t4 t5
      obtain ⟨m, rfl⟩ : ∃ z, m = z + 1 := ⟨m - 1, by omega⟩
      have e : i = L := by omega
      subst e
      simp only [f_X11_law_L48]
      rw [if_pos (nI_le (Nat.le_refl _) (by omega)), inr_nI hk (by omega), chk_true, cl_nI (by omega)]
      exact ⟨T, rfl, t1, t2, t3, t4, t5⟩
    | succ j ih =>
      intro i m T hi hm t1 t2 t3 t4 t5
      obtain ⟨m, rfl⟩ : ∃ z, m = z + 1 := ⟨m - 1, by omega⟩
      simp only [f_X11_law_L48]
      rw [if_neg (nI_ge (show i < L by omega) (by omega)), show (120 : Int32) * nI k + nI i = nI (120 * k + i) by
        rw [show (120 : Int32) = nI 120 from rfl, pk_mul, nI_add], inr_nI (show i < 120 by omega) (by omega), inr_nI (show 120 * k + i < 360 by omega) (by omega), chk_true, chk_true, cl_nI (show i < 2 ^ 31 by omega), cl_nI (show 120 * k + i < 2 ^ 31 by omega), nI_1, t3 12 (by omega)]
      refine ih (i + 1) m _ (by omega) (by omega) t1 t2 (fun y hy => ?_) (fun x hx => ?_) (fun y hy => ?_)
      · rw [sa21, if_neg hy]; exact t3 y hy
      · rw [sa21, if_pos rfl, updE]
        by_cases e : x = i
        · rw [if_pos (by omega), e]
        · rw [if_neg (by omega)]; exact t4 x (by omega)
      · rw [sa21, if_pos rfl, updE, if_neg (by omega)]; exact t5 y hy
  exact hl L 0 F M0 (by omega) (by omega) rfl rfl (fun _ _ => rfl) (fun x hx => absurd hx (Nat.not_lt_zero _)) (fun _ _ => rfl)
theorem st_law (hF : 200000 ≤ F) : ST_law F (RR F) := by
  intro t S Z M a1 ht hR
  have hR' := hR
  obtain ⟨nm, nv, nd, nb, hV, c1, c2, hm⟩ := hR
  have hK := hV.1
  have h3 := hK.1.2.2
  have h12 := hV.2.1.1.2.2
  have hKL := hV.2.2.2.2.2.2.2
  obtain ⟨t0, L, t1, t2, t3⟩ := hV.2.2.1
  unfold f_X10_law f_X11_law
  rw [hasMoon_eq hK.1.1 h3, isMoon_eq hK.1.2.1 h3, Option.bind_some, Option.bind_some]
  rcases hx_01 (n := nm) (a := a1) with h0 | ⟨k, hk, rfl, h1⟩
  · rw [h0, if_pos rfl, if_pos rfl]
    exact ⟨_, _, _, _, rfl, rfl, RR_idle hR'⟩
  rw [h1, if_neg one0, if_neg one0]
  obtain ⟨flt, S1, e1, f1, f2, f3, f4, f5, f6, f7⟩ := read_ok (F := F) (Z := Z) (S := S) (by omega) t2 t1
  obtain ⟨v, M1, e2, g1, g2⟩ := f7 M (fun i _ => by rw [t0])
  have hLS : LwS_ S S1 := ⟨fun j q1 q2 q3 q4 => f2 j q2 q3 q4 (by omega) (by omega), fun j q => f3 j (by omega), f1, f4⟩
  have hM13 : M1.1 13 = nI L := by rw [g2.2 13 (by omega)]; exact t3
  rw [e1, Option.bind_some, t3, e2, Option.bind_some, g1]
  rcases f5 with f5 | ⟨q, hq, f5⟩
  · -- a law
    obtain ⟨s, l, p1, p2, p3, p4, p5, p6⟩ := f6 f5
    rw [f5, if_pos neg1_0, if_pos neg1_0, hM13]
    unfold f_X7_setLaw
    rw [hasMoon_eq (show S1.1 148 = nI nm by rw [hLS.1 148 (by omega) (by omega) (by omega) (by omega)]; exact hK.1.1) h3, hx_y hk, Option.bind_some, if_neg one0, inr_nI (show k < 3 by omega) (by omega), chk_true, cl_nI (by omega), Option.bind_some]
    obtain ⟨M2, w1, w2, w3, w4, w5, w6⟩ := text_ok (F := F) (by omega) (show k < 3 by omega) t1 (sf M1 13 0)
    obtain ⟨M3, y1, y2, y3, y4, y5⟩ := forgets_ok (F := F) (by omega) (sa M2 15 k (nI L))
    rw [w1, y1, Option.bind_some]
    have hk3 : k < 3 := by omega
    have z1 : ∀ j, M3.1 j = if j = 13 then 0 else M1.1 j := fun j => by
      rw [y2]
      show M2.1 j = _
      rw [w2]
      rfl
    have z2 : ∀ j, j ≠ 14 → j ≠ 15 → j ≠ 27 → M3.2.1 j = M.2.1 j := fun j q1 q2 q3 => by
      rw [y4 j q3, sa21, if_neg q2, w4 j q1]
      show M1.2.1 j = _
      rw [g2.1]
    have z14 : M3.2.1 14 = M2.2.1 14 := by rw [y4 14 (by omega), sa21, if_neg (by omega)]
    have z15 : M3.2.1 15 = upd (M.2.1 15) k (nI L) := by
      rw [y4 15 (by omega), sa21, if_pos rfl, w4 15 (by omega)]
      show upd (M1.2.1 15) k (nI L) = _
      rw [g2.1]
    have hLM : LwM_ M M3 := ⟨fun j q1 q2 => by rw [z1, if_neg q2]; exact g2.2 j q1, z2, by
      rw [y3]
      show M2.2.2 = _
      rw [w3]
      show M1.2.2 = _
      rw [g2.1], by rw [z1, if_pos rfl]⟩
    have hLS2 : LwS_ S (hand k (Z.2 k) S1) := ⟨fun j q1 q2 q3 q4 => (hand_lo q1 hk3).1.trans (hLS.1 j q1 q2 q3 q4), fun j q1 => (hand_lo q1 hk3).2.trans (hLS.2.1 j q1), f1, (hand_lo (by omega) hk3).1.trans f4⟩
    have hz2 : ∀ j, (zm k Z).2 j = if j = k then true else Z.2 j := fun j => rfl
    have hKL' : KLaw F (hand k (Z.2 k) S1) (zm k Z) M3 nm := by
      intro j hj
      by_cases e : j = k
      · subst e
        refine Or.inr ⟨by rw [hz2, if_pos rfl], hk, L, s, l, t1, p1, p2, by rw [z15, pk_us], ?_, ?_, fun i hi => ?_, ?_⟩
        · exact (hand_it (c := 5) hk3 (by omega)).1.trans p3
        · exact (hand_it (c := 6) hk3 (by omega)).1.trans p4
        · have q3 : (hand j (Z.2 j) S1).2.1 (1003 + 20 * j) = S1.2.1 1063 := (hand_it (c := 3) hk3 (by omega)).2
          have q4 : (hand j (Z.2 j) S1).2.1 (1004 + 20 * j) = S1.2.1 1064 := (hand_it (c := 4) hk3 (by omega)).2
          rw [q3, q4]
          exact p5 i hi
        · have q0 : (hand j (Z.2 j) S1).2.1 (1000 + 20 * j) = S1.2.1 1060 := (hand_it (c := 0) hk3 (by omega)).2
          have q1 : (hand j (Z.2 j) S1).2.1 (1001 + 20 * j) = S1.2.1 1061 := (hand_it (c := 1) hk3 (by omega)).2
          have q2 : (hand j (Z.2 j) S1).2.1 (1002 + 20 * j) = S1.2.1 1062 := (hand_it (c := 2) hk3 (by omega)).2
          have q3 : (hand j (Z.2 j) S1).2.1 (1003 + 20 * j) = S1.2.1 1063 := (hand_it (c := 3) hk3 (by omega)).2
          have q4 : (hand j (Z.2 j) S1).2.1 (1004 + 20 * j) = S1.2.1 1064 := (hand_it (c := 4) hk3 (by omega)).2
          have ea : ansS j (hand j (Z.2 j) S1) s l = ansS 3 S1 s l := by
            unfold ansS
            rw [q0, q1, q2, q3, q4]
          rw [ea]
          refine p6.cg (fun i hi => ?_)
          show M3.2.1 14 (120 * j + i) = _
          rw [z14, w5 i hi]
          show M1.2.1 12 i = _
          rw [g2.1, t0]
      · refine (hKL j hj).fr (Nat.le_refl _) ⟨by rw [hz2, if_neg e], ?_, ?_, ?_, ?_, ?_, ?_, ?_⟩ (by rw [z15, pk_un e]) (fun i hi => ?_)
        · exact (hand_ot (c := 5) hk3 hj e (by omega)).1.trans (f2 _ (by omega) (by omega) (by omega) (by omega) (by omega))
        · exact (hand_ot (c := 6) hk3 hj e (by omega)).1.trans (f2 _ (by omega) (by omega) (by omega) (by omega) (by omega))
        · exact (hand_ot (c := 0) hk3 hj e (by omega)).2.trans (f3 _ (by omega))
        · exact (hand_ot (c := 1) hk3 hj e (by omega)).2.trans (f3 _ (by omega))
        · exact (hand_ot (c := 2) hk3 hj e (by omega)).2.trans (f3 _ (by omega))
        · exact (hand_ot (c := 3) hk3 hj e (by omega)).2.trans (f3 _ (by omega))
        · exact (hand_ot (c := 4) hk3 hj e (by omega)).2.trans (f3 _ (by omega))
        · rw [z14, w6 _ (by omega)]
          show M1.2.1 14 _ = _
          rw [g2.1]
    refine ⟨_, _, _, _, rfl, rfl, RR_mk (RV_law hV hLS2 hLM hKL') (KCt_law (Or.inl rfl) c1 hLS2 rfl) (KCt_law (Or.inr rfl) c2 hLS2 rfl) (hm.zero h12 ⟨?_, z2 26 (by omega) (by omega) (by omega)⟩ y5) (by omega)⟩
    exact hLM.1 29 (by omega) (by omega)
  · -- a fault
    rw [f5, if_neg (nI_pos (by omega)), if_neg (nI_pos (by omega))]
    have z1 : M1.2 = M.2 := g2.1
    have hLM : LwM_ M (sf M1 13 0) := ⟨fun j q1 q2 => by rw [sf1, if_neg q2]; exact g2.2 j q1, fun j _ _ _ => by show M1.2.1 j = _; rw [z1], by show M1.2.2 = _; rw [z1], rfl⟩
    have hlw : ∀ j, j < 3 → lwS S Z S1 Z j := fun j hj => ⟨rfl, f2 _ (by omega) (by omega) (by omega) (by omega) (by omega), f2 _ (by omega) (by omega) (by omega) (by omega) (by omega), f3 _ (by omega), f3 _ (by omega), f3 _ (by omega), f3 _ (by omega), f3 _ (by omega)⟩
    have hKL' : KLaw F S1 Z (sf M1 13 0) nm := hKL.fr (Nat.le_refl _) ⟨hlw 0 (by omega), hlw 1 (by omega), hlw 2 (by omega)⟩ ⟨by show M1.2.1 14 = _; rw [z1], by show M1.2.1 15 = _; rw [z1]⟩
    refine ⟨_, _, _, _, rfl, rfl, RR_mk (RV_law hV hLS hLM hKL') (KCt_law (Or.inl rfl) c1 hLS rfl) (KCt_law (Or.inr rfl) c2 hLS rfl) (hm.fr (Nat.le_refl _) h12 ⟨hlw 0 (by omega), hlw 1 (by omega), hlw 2 (by omega)⟩ ⟨hLM.1 29 (by omega) (by omega), ?_, ?_, ?_, ?_⟩ (fun d _ => ⟨?_, ?_, ?_⟩)) (by omega)⟩
    · show M1.2.1 25 = _; rw [z1]
    · show M1.2.1 26 = _; rw [z1]
    · show M1.2.1 27 = _; rw [z1]
    · show M1.2.1 28 = _; rw [z1]
    · show M1.2.1 23 d = _; rw [z1]
    · show M1.2.1 0 _ = _; rw [z1]
    · show M1.2.1 24 d = _; rw [z1]
end
