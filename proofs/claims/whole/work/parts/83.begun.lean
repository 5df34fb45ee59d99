/-! a court: what an hour costs, what a deed costs -/
section
variable {F b : Nat} {Z Z0 : Zt} {S S0 S' M0 M : St} {nm nv nd nb d v : Nat}
theorem strictest_ok (hF : 200 ≤ F) (hb : b = 80 ∨ b = 300) (hV : RV F S Z M0 nm nv nd nb) (hn : S.2.1 (b + 2) 0 = M0.2.1 23 d ∧ S.2.1 (b + 2) 2 = M0.2.1 0 (6 + d) ∧ S.2.1 (b + 2) 4 = nI v ∧ S.2.1 (b + 2) 5 = M0.2.1 24 d) {n H set : Nat} (hset : set < 8) (hH : H < 2 ^ 31) : ∃ S', f_X4_strictest F b Z S (nI n) (nI H) (nI set) = some (cst (LW S Z) (M0.2.1 23 d) (M0.2.1 0 (6 + d)) (M0.2.1 24 d) v n (H % 24) set, S') ∧ S'.1 = S.1 ∧ S'.2.2 = S.2.2 ∧ (∀ j, j ≠ b + 2 → j ≠ b + 3 → S'.2.1 j = S.2.1 j) ∧ ∀ i, i ≠ 1 → i ≠ 3 → i ≠ 6 → S'.2.1 (b + 2) i = S.2.1 (b + 2) i := by
  have h3 := hV.1.1.2.2
  unfold f_X4_strictest
  rw [(lnb hb).1, show inr (1 : Int32) 7 = true from rfl, show inr (3 : Int32) 7 = true from rfl, show inr (6 : Int32) 7 = true from rfl, chk_true, chk_true, bitCount_eq set hset, Option.bind_some, chk_true, rem_n hH 24 (d := 24) rfl (by omega) (by omega)]
  have hT : ∃ S1, S1 = sa (sa (sa S (b + 2) ((1 : Int32)).toNatClampNeg (nI n)) (b + 2) ((3 : Int32)).toNatClampNeg (nI (H % 24))) (b + 2) ((6 : Int32)).toNatClampNeg (nI (bts set)) := ⟨_, rfl⟩
  obtain ⟨S1, eS⟩ := hT
  rw [← eS]
  have u1 : S1.1 = S.1 := by rw [eS]; rfl
  have u2 : S1.2.2 = S.2.2 := by rw [eS]; rfl
  have u3 : ∀ j, j ≠ b + 2 → S1.2.1 j = S.2.1 j := fun j hj => by rw [eS, sa21, if_neg hj, sa21, if_neg hj, sa21, if_neg hj]
  have u4 : S1.2.1 (b + 2) = upd (upd (upd (S.2.1 (b + 2)) 1 (nI n)) 3 (nI (H % 24))) 6 (nI (bts set)) := by
    rw [eS, sa21, if_pos rfl, sa21, if_pos rfl, sa21, if_pos rfl]
    rfl
  have u5 : ∀ j, j < 7 → S1.2.1 (b + 2) j = nms (M0.2.1 23 d) (M0.2.1 0 (6 + d)) (M0.2.1 24 d) v n (H % 24) set j := by
    intro j hj
    rw [u4]
    match j, hj with
    | 0, _ => exact hn.1
    | 1, _ => rfl
    | 2, _ => exact hn.2.1
    | 3, _ => rfl
    | 4, _ => exact hn.2.2.1
    | 5, _ => exact hn.2.2.2
    | 6, _ => rfl
  have hloop : ∀ (j k q : Nat) (T : St) (m : Int32), k + j = 3 → j < q → 0 ≤ m → T.1 = S1.1 → T.2.2 = S1.2.2 → (∀ i, i ≠ b + 3 → T.2.1 i = S1.2.1 i) → ∃ S', f_X4_strictest_L34 F b Z (nI set) q T m (nI k) = some (cstL (LW S Z) set (nms (M0.2.1 23 d) (M0.2.1 0 (6 + d)) (M0.2.1 24 d) v n (H % 24) set) j k m, S') ∧ S'.1 = S1.1 ∧ S'.2.2 = S1.2.2 ∧ (∀ i, i ≠ b + 3 → S'.2.1 i = S1.2.1 i) := by
    intro j
    induction j with
    | zero =>
      intro k q T m hk hq hm t1 t2 t3
      obtain ⟨q, rfl⟩ : ∃ z, q = z + 1 := ⟨q - 1, by omega⟩
      have e : k = 3 := by omega
      subst e
      refine ⟨T, ?_, t1, t2, t3⟩
      simp only [f_X4_strictest_L34]
      rw [if_pos (show (3 : Int32) ≤ nI 3 by decide)]
      rfl
    | succ j ih =>
      intro k q T m hk hq hm t1 t2 t3
      obtain ⟨q, rfl⟩ : ∃ z, q = z + 1 := ⟨q - 1, by omega⟩
      have hk3 : k < 3 := by omega
      have hlw := hV.2.2.2.2.2.2.2 k hk3
      have h86 : ∀ (T : St) (r : Int32), one3 (LW S Z) k set (nms (M0.2.1 23 d) (M0.2.1 0 (6 + d)) (M0.2.1 24 d) v n (H % 24) set) = r → T.1 = S1.1 → T.2.2 = S1.2.2 → (∀ i, i ≠ b + 3 → T.2.1 i = S1.2.1 i) → ∃ S', f_X4_strictest_B86 F b Z (nI set) (f_X4_strictest_L34 F b Z (nI set) q) T m (nI k) r = some (if one3 (LW S Z) k set (nms (M0.2.1 23 d) (M0.2.1 0 (6 + d)) (M0.2.1 24 d) v n (H % 24) set) < 0 then -2 else cstL (LW S Z) set (nms (M0.2.1 23 d) (M0.2.1 0 (6 + d)) (M0.2.1 24 d) v n (H % 24) set) j (k + 1) (mxx m (one3 (LW S Z) k set (nms (M0.2.1 23 d) (M0.2.1 0 (6 + d)) (M0.2.1 24 d) v n (H % 24) set))), S') ∧ S'.1 = S1.1 ∧ S'.2.2 = S1.2.2 ∧ (∀ i, i ≠ b + 3 → S'.2.1 i = S1.2.1 i) := by
        intro T r hr t1 t2 t3
        rw [hr]
        unfold f_X4_strictest_B86
        by_cases hneg : r < 0
        · rw [if_pos hneg, if_neg (n0_le hneg)]
          exact ⟨T, rfl, t1, t2, t3⟩
        · have e1 : f_J9_min_7cf53 r 9999 = some (if 9999 < r then 9999 else r) := by
            unfold f_J9_min_7cf53
            split <;> rfl
          have e2 : ∀ y, f_J9_max_7cf53 m y = some (if m < y then y else m) := fun y => by
            unfold f_J9_max_7cf53
            split <;> rfl
          rw [if_neg hneg, if_pos (nlt_le hneg), e1, Option.bind_some, e2, Option.bind_some, nI_1]
          exact ih (k + 1) q T _ (by omega) (by omega) (mxx_ge (c := r) hm).1 t1 t2 t3
      show ∃ S', f_X4_strictest_L34 F b Z (nI set) (q + 1) T m (nI k) = some (if one3 (LW S Z) k set (nms (M0.2.1 23 d) (M0.2.1 0 (6 + d)) (M0.2.1 24 d) v n (H % 24) set) < 0 then -2 else cstL (LW S Z) set (nms (M0.2.1 23 d) (M0.2.1 0 (6 + d)) (M0.2.1 24 d) v n (H % 24) set) j (k + 1) (mxx m (one3 (LW S Z) k set (nms (M0.2.1 23 d) (M0.2.1 0 (6 + d)) (M0.2.1 24 d) v n (H % 24) set))), S') ∧ _
      simp only [f_X4_strictest_L34]
      rw [if_neg (show ¬ (3 : Int32) ≤ nI k from nI_ge (b := 3) hk3 (by omega)), bit_eq set hset k hk3]
      by_cases hbit : set / 2 ^ k % 2 = 0
      · rw [hbit, if_pos (show nI 0 = 0 from rfl)]
        exact h86 T 0 (if_pos hbit) t1 t2 t3
      · rw [show set / 2 ^ k % 2 = 1 by omega, if_neg (show ¬ nI 1 = 0 by decide)]
        have hlawOf : f_X7_lawOf Z T (nI k) = some (if k < 3 ∧ Z.2 k = true then some k else none) := by
          unfold f_X7_lawOf
          rw [hasMoon_eq (by rw [t1, u1]; exact hV.1.1.1) h3, Option.bind_some]
          rcases hx_01 (n := nm) (a := nI k) with h0 | ⟨x, hx, ex, h1⟩
          · rw [h0, if_pos rfl]
            rcases hlw with h | ⟨-, h, -⟩
            · rw [if_neg (fun z => by rw [h.1] at z; exact absurd z.2 (by decide))]
            · rw [hx_y h] at h0
              exact absurd h0 one0
          · rw [h1, if_neg one0, inr_nI hk3 (by omega), chk_true]
            unfold lawQ
            rw [cl_nI (by omega)]
        rw [hlawOf, Option.bind_some]
        rcases hlw with ⟨z1, z2⟩ | ⟨z1, z2, L, s, l, g1, g2, g3, g4, g5, g6, g7, g8⟩
        · rw [if_neg (fun z => by rw [z1] at z; exact absurd z.2 (by decide))]
          refine h86 T 0 ?_ t1 t2 t3
          unfold one3
          rw [if_neg hbit, LW_none z1]
        · rw [if_pos ⟨hk3, z1⟩]
          show ∃ S', chk (lawok Z k) ((f_X8_answer F (1000 + 20 * k) (b + 2) (b + 3) Z T).bind fun r4 => f_X4_strictest_B86 F b Z (nI set) (f_X4_strictest_L34 F b Z (nI set) q) r4.2 m (nI k) r4.1) = _ ∧ _
          rw [show lawok Z k = true from decide_eq_true ⟨hk3, z1⟩, chk_true]
          have r1 : ∀ i, 1000 ≤ i → T.2.1 i = S.2.1 i := fun i hi => by rw [t3 i (by omega), u3 i (by omega)]
          have r2 : ∀ i, T.1 i = S.1 i := fun i => by rw [t1, u1]
          obtain ⟨T2, e2, f1, f2, f3⟩ := answer_ok (F := F) (Z := Z) (p1 := b + 2) (p2 := b + 3) (S := T) hF (k := k) (by omega) (by omega) (lnb hb).1 (lnb hb).2.1 (s := s) (l := l) (by rw [r2]; exact g5) g2 (by rw [r2]; exact g6) g3 (fun i hi => by rw [r1 _ (by omega), r1 _ (by omega)]; exact g7 i hi)
          rw [e2, Option.bind_some]
          refine h86 T2 _ ?_ (f1.trans t1) (f2.trans t2) (fun i hi => (f3 i hi).trans (t3 i hi))
          unfold one3
          rw [if_neg hbit, LW_some z1 g5 g6 g2 g3]
          show ansS k S s l _ = ansS k T s l (T.2.1 (b + 2))
          unfold ansS
          rw [r1 _ (by omega), r1 _ (by omega), r1 _ (by omega), r1 _ (by omega), r1 _ (by omega)]
          exact (ansF_nm (fun j hj => by rw [t3 _ (by omega)]; exact u5 j hj)).symm
  obtain ⟨S', e1, e2, e3, e4⟩ := hloop 3 0 F S1 0 rfl (by omega) (by decide) rfl rfl (fun _ _ => rfl)
  refine ⟨S', e1, e2.trans u1, e3.trans u2, fun j q1 q2 => (e4 j q2).trans (u3 j q1), fun i q1 q2 q3 => ?_⟩
  rw [e4 _ (by omega), u4, pk_un q3, pk_un q2, pk_un q1]
theorem costUnder_ok (hF : 200 ≤ F) (hb : b = 80 ∨ b = 300) (hV : RV F S0 Z0 M0 nm nv nd nb) (hO : CO b S0 Z0 M0 nm d v S Z) {n H set : Nat} (hset : set < 8) (hn : n < 48) (hH : H < 2 ^ 31) : ∃ S', f_X4_costUnder F b Z S (nI n) (nI H) (nI set) = some (cst (LW S0 Z0) (M0.2.1 23 d) (M0.2.1 0 (6 + d)) (M0.2.1 24 d) v n (H % 24) set, S') ∧ CO b S0 Z0 M0 nm d v S' Z ∧ CF b S S' := by
  have hO' := hO
  have hV1 := hO.rv hV
  have hlw0 := SC.lw hO.1 hO.2.1 0
  have hlw1 := SC.lw hO.1 hO.2.1 1
  have hlw2 := SC.lw hO.1 hO.2.1 2
  obtain ⟨h1, h2, h3, h4, h5, h6, bs, q1, q2, q3⟩ := hO
  have hh24 : H % 24 < 24 := Nat.mod_lt _ (by omega)
  have hi : (n * 24 + H % 24) * 8 + set < 9216 := by omega
  have i1 : ((n * 24 + H % 24) * 8 + set) / 192 = n := by omega
  have i2 : ((n * 24 + H % 24) * 8 + set) / 8 % 24 = H % 24 := by omega
  have i3 : ((n * 24 + H % 24) * 8 + set) % 8 = set := by omega
  have hx := q3 _ hi
  rw [i1, i2, i3] at hx
  unfold f_X4_costUnder
  rw [rem_n hH 24 (d := 24) rfl (by omega) (by omega), show (24 : Int32) = nI 24 from rfl, show (8 : Int32) = nI 8 from rfl, pk_mul, nI_add, pk_mul, nI_add]
  generalize hid : (n * 24 + H % 24) * 8 + set = i at hi i1 i2 i3 hx ⊢
  simp only [lti]
  rw [if_neg (nI_pos (by omega)), (lnb hb).2.2.2.2, h3, if_pos (show nI i < Int32.ofNat 9216 from nI_lt (b := 9216) hi (by omega)), inr_nI hi (by omega), chk_true, cl_nI (by omega), q2]
  have hB70 : ∀ (T : St) (y : Nat), T.1 (b + 7) = nI bs → T.2.1 (b + 6) i = nI y → nI y = nI bs - (-2) + cst (LW S0 Z0) (M0.2.1 23 d) (M0.2.1 0 (6 + d)) (M0.2.1 24 d) v n (H % 24) set → f_X4_costUnder_B70 F b Z T (nI i) = some (cst (LW S0 Z0) (M0.2.1 23 d) (M0.2.1 0 (6 + d)) (M0.2.1 24 d) v n (H % 24) set, T) := by
    intro T y e1 e2 e3
    unfold f_X4_costUnder_B70
    rw [(lnb hb).2.2.2.2, h3, inr_nI hi (by omega), chk_true, cl_nI (by omega), e1, e2, e3, cv_eq]
  obtain ⟨x, x1, x2, x3⟩ := hx
  by_cases hle : bs ≤ x
  · rw [x2, if_pos (nI_le hle (by omega)), hB70 S x q2 x2 (x3 hle)]
    exact ⟨S, rfl, hO', CF.rf⟩
  · obtain ⟨T, e1, f1, f2, f3, f4⟩ := strictest_ok (d := d) (v := v) (n := n) (H := H) hF hb hV1 h5 hset hH
    rw [x2, if_neg (nI_ge (by omega) (by omega)), e1, Option.bind_some, chk_true]
    have ec : cst (LW S Z) (M0.2.1 23 d) (M0.2.1 0 (6 + d)) (M0.2.1 24 d) v n (H % 24) set = cst (LW S0 Z0) (M0.2.1 23 d) (M0.2.1 0 (6 + d)) (M0.2.1 24 d) v n (H % 24) set := cst.fr ⟨LW.fr hlw0, LW.fr hlw1, LW.fr hlw2⟩ _ _ _ _ _ _ _
    rw [ec]
    obtain ⟨y, y1, y2⟩ : ∃ y, y ≤ bs + 10001 ∧ nI bs - (-2) + cst (LW S0 Z0) (M0.2.1 23 d) (M0.2.1 0 (6 + d)) (M0.2.1 24 d) v n (H % 24) set = nI y := by
      rcases cst_rng (LW S0 Z0) (M0.2.1 23 d) (M0.2.1 0 (6 + d)) (M0.2.1 24 d) v n (H % 24) set with e | ⟨c, hc, e⟩
      · rw [e]
        exact ⟨bs, by omega, cv_m2 _⟩
      · rw [e]
        exact ⟨bs + 2 + c, by omega, cv_n bs c⟩
    have cT : CF b S T := ⟨fun j p => by rw [f1], fun j p => f3 j (by omega) (by omega), f2⟩
    have cT2 : CF b S (sa T (b + 6) i (nI y)) := cT.sa (by omega)
    rw [y2, hB70 (sa T (b + 6) i (nI y)) y (by show T.1 (b + 7) = _; rw [f1]; exact q2) (by rw [sa21, if_pos rfl, pk_us]) y2.symm]
    refine ⟨_, rfl, ⟨h1.tr (cT2.sc hb), h2, h3, ?_, ?_, ?_, bs, q1, ?_, fun k hk => ?_⟩, cT2⟩
    · show T.1 (b + 8) = _ ∧ T.1 (b + 9) = _ ∧ T.1 (b + 10) = _
      rw [f1]; exact h4
    · rw [sa21, if_neg (by omega), f4 0 (by omega) (by omega) (by omega), f4 2 (by omega) (by omega) (by omega), f4 4 (by omega) (by omega) (by omega), f4 5 (by omega) (by omega) (by omega)]
      exact h5
    · rw [sa21, if_neg (by omega), sa21, if_neg (by omega), f3 _ (by omega) (by omega), f3 _ (by omega) (by omega)]
      exact h6
    · show T.1 (b + 7) = _
      rw [f1]; exact q2
    · rw [sa21, if_pos rfl]
      by_cases e : k = i
      · rw [e, pk_us, i1, i2, i3]
        exact ⟨y, y1, rfl, fun _ => y2.symm⟩
      · rw [pk_un e, f3 _ (by omega) (by omega)]
        exact q3 k hk
/-- of an hour, by the moons that are up -/
theorem cP_c {H n : Nat} : cst (LW S0 Z0) (M0.2.1 23 d) (M0.2.1 0 (6 + d)) (M0.2.1 24 d) v n (H % 24) (stP M0 v H nm) = cP S0 Z0 M0 nm d v n H := rfl
theorem upCost_ok (hF : 200 ≤ F) (hb : b = 80 ∨ b = 300) (hV : RV F S0 Z0 M0 nm nv nd nb) (hO : CO b S0 Z0 M0 nm d v S Z) (hv : v < nv) {n H : Nat} (hn : n < 48) (hH : H < 1073740000) : ∃ S1 S', f_X4_upAt F b Z S (nI H) = some (nI (stP M0 v H nm), S1) ∧ f_X4_costUnder F b Z S1 (nI n) (nI H) (nI (stP M0 v H nm)) = some (cP S0 Z0 M0 nm d v n H, S') ∧ CO b S0 Z0 M0 nm d v S' Z ∧ CF b S S' := by
  obtain ⟨S1, e1, o1, c1⟩ := upAt_ok hF hb hV hO hv hH
  obtain ⟨S2, e2, o2, c2⟩ := costUnder_ok hF hb hV o1 (n := n) (H := H) (st8 hV v H) hn (by omega)
  exact ⟨S1, S2, e1, e2, o2, c1.tr c2⟩
theorem ccostOf_ok (hF : 200 ≤ F) (hb : b = 80 ∨ b = 300) (hV : RV F S0 Z0 M0 nm nv nd nb) (hO : CO b S0 Z0 M0 nm d v S Z) (hv : v < nv) {n H : Nat} (hn : n < 48) (hH : H < 1073740000) : ∃ S', f_X4_costOf F b Z S (nI n) (nI H) = some (cP S0 Z0 M0 nm d v n H, S') ∧ CO b S0 Z0 M0 nm d v S' Z ∧ CF b S S' := by
  obtain ⟨S1, S2, e1, e2, o2, c2⟩ := upCost_ok hF hb hV hO hv (n := n) hn hH
  unfold f_X4_costOf
  rw [e1, Option.bind_some, e2, Option.bind_some]
  exact ⟨S2, rfl, o2, c2⟩
theorem cP_rng {n H : Nat} : cP S0 Z0 M0 nm d v n H = -2 ∨ ∃ c : Nat, c ≤ 9999 ∧ cP S0 Z0 M0 nm d v n H = nI c := cst_rng _ _ _ _ _ _ _ _
theorem allP_1 {c : Nat → Int32} {i : Nat} (hc : c i = -2 ∨ ∃ x : Nat, x ≤ 9999 ∧ c i = nI x) : allP c 1 i 0 = c i := by
  show (if c i < 0 then (-2 : Int32) else 0 + c i) = c i
  rcases hc with e | ⟨x, hx, e⟩
  · rw [e, if_pos (by decide)]
  · rw [e, if_neg (nI_pos (by omega)), Int32.zero_add]
theorem begun_ok (hF : 200 ≤ F) (hb : b = 80 ∨ b = 300) (hV : RV F S0 Z0 M0 nm nv nd nb) (hO : CO b S0 Z0 M0 nm d v S Z) (hd : d < nd) (hv : v < nv) {H : Nat} (hH : H < 1073730000) : ∃ S', f_X4_costBegun F b Z S (nI H) = some (mP S0 Z0 M0 nm d v H, S') ∧ CO b S0 Z0 M0 nm d v S' Z ∧ CF b S S' := by
  obtain ⟨g1, g2, g3, g4, g5⟩ := hrs_ok hV hd
  have hsum : ¬ ovr M0 d = 3 → ∀ (j i q : Nat) (s x : Int32) (S : St) (E : Nat), i + j = E → E ≤ 48 → j < q → CO b S0 Z0 M0 nm d v S Z → ∃ S', f_X4_costBegun_L45 F b Z (nI H) q S (nI E) s x (nI i) = some (allP (fun n => cP S0 Z0 M0 nm d v n (H + n)) j i s, S') ∧ CO b S0 Z0 M0 nm d v S' Z ∧ CF b S S' := by
    intro ho j
    induction j with
    | zero =>
      intro i q s x S E hij hE hq hO
      obtain ⟨q, rfl⟩ : ∃ z, q = z + 1 := ⟨q - 1, by omega⟩
      simp only [f_X4_costBegun_L45]
      rw [if_pos (nI_le (by omega) (by omega)), hO.2.2.2.1.2.2, g4, if_neg (show ¬ nI (ovr M0 d) = 3 from ne_n (b := 3) ho (by omega) (by omega))]
      exact ⟨S, rfl, hO, CF.rf⟩
    | succ j ih =>
      intro i q s x S E hij hE hq hO
      obtain ⟨q, rfl⟩ : ∃ z, q = z + 1 := ⟨q - 1, by omega⟩
      simp only [f_X4_costBegun_L45]
      obtain ⟨S1, S2, e1, e2, o2, c2⟩ := upCost_ok hF hb hV hO hv (n := i) (H := H + i) (by omega) (by omega)
      rw [if_neg (nI_ge (by omega) (by omega)), nI_add H i, e1, Option.bind_some, e2, Option.bind_some]
      show ∃ S', _ = some (if cP S0 Z0 M0 nm d v i (H + i) < 0 then -2 else allP (fun n => cP S0 Z0 M0 nm d v n (H + n)) j (i + 1) (s + cP S0 Z0 M0 nm d v i (H + i)), S') ∧ _
      by_cases hc : cP S0 Z0 M0 nm d v i (H + i) < 0
      · rw [if_pos hc, if_neg (n0_le hc), o2.2.2.2.1.2.2, g4, if_neg (show ¬ nI (ovr M0 d) = 3 from ne_n (b := 3) ho (by omega) (by omega))]
        exact ⟨S2, rfl, o2, c2⟩
      · rw [if_neg hc, if_pos (nlt_le hc)]
        have hih := fun (x : Int32) => ih (i + 1) q (s + cP S0 Z0 M0 nm d v i (H + i)) x S2 E (by omega) hE (by omega) o2
        have hfin : ∀ x : Int32, ∃ S', f_X4_costBegun_L45 F b Z (nI H) q S2 (nI E) (s + cP S0 Z0 M0 nm d v i (H + i)) x (nI (i + 1)) = some (allP (fun n => cP S0 Z0 M0 nm d v n (H + n)) j (i + 1) (s + cP S0 Z0 M0 nm d v i (H + i)), S') ∧ CO b S0 Z0 M0 nm d v S' Z ∧ CF b S S' := fun x => by
          obtain ⟨S3, e3, o3, c3⟩ := hih x
          exact ⟨S3, e3, o3, c2.tr c3⟩
        unfold f_X4_costBegun_B87
        rw [if_neg hc, nI_1]
        by_cases hx : x < 0
        · rw [if_pos hx]; exact hfin _
        · rw [if_neg hx]
          split <;> exact hfin _
  have hmil : ovr M0 d = 3 → ∀ (j i q : Nat) (s x : Int32) (S : St), i + j = hrs M0 d → j < q → CO b S0 Z0 M0 nm d v S Z → ∃ S', f_X4_costBegun_L45 F b Z (nI H) q S (nI (hrs M0 d)) s x (nI i) = some (milP (fun n => cP S0 Z0 M0 nm d v n (H + n)) j i x, S') ∧ CO b S0 Z0 M0 nm d v S' Z ∧ CF b S S' := by
    intro ho j
    induction j with
    | zero =>
      intro i q s x S hij hq hO
      obtain ⟨q, rfl⟩ : ∃ z, q = z + 1 := ⟨q - 1, by omega⟩
      simp only [f_X4_costBegun_L45]
      rw [if_pos (nI_le (by omega) (by omega)), hO.2.2.2.1.2.2, g4, ho, if_pos (show nI 3 = 3 from rfl)]
      exact ⟨S, rfl, hO, CF.rf⟩
    | succ j ih =>
      intro i q s x S hij hq hO
      obtain ⟨q, rfl⟩ : ∃ z, q = z + 1 := ⟨q - 1, by omega⟩
      simp only [f_X4_costBegun_L45]
      obtain ⟨S1, S2, e1, e2, o2, c2⟩ := upCost_ok hF hb hV hO hv (n := i) (H := H + i) (by omega) (by omega)
      rw [if_neg (nI_ge (by omega) (by omega)), nI_add H i, e1, Option.bind_some, e2, Option.bind_some, o2.2.2.2.1.2.2, g4, ho, if_pos (show nI 3 = 3 from rfl)]
      show ∃ S', _ = some (milP (fun n => cP S0 Z0 M0 nm d v n (H + n)) j (i + 1) (if cP S0 Z0 M0 nm d v i (H + i) < 0 then x else if x < 0 then cP S0 Z0 M0 nm d v i (H + i) else if x ≤ cP S0 Z0 M0 nm d v i (H + i) then x else cP S0 Z0 M0 nm d v i (H + i)), S') ∧ _
      have hfin : ∀ x : Int32, ∃ S', f_X4_costBegun_L45 F b Z (nI H) q S2 (nI (hrs M0 d)) (s + cP S0 Z0 M0 nm d v i (H + i)) x (nI (i + 1)) = some (milP (fun n => cP S0 Z0 M0 nm d v n (H + n)) j (i + 1) x, S') ∧ CO b S0 Z0 M0 nm d v S' Z ∧ CF b S S' := fun x => by
        obtain ⟨S3, e3, o3, c3⟩ := ih (i + 1) q (s + cP S0 Z0 M0 nm d v i (H + i)) x S2 (by omega) (by omega) o2
        exact ⟨S3, e3, o3, c2.tr c3⟩
      have h87 : ∃ S', f_X4_costBegun_B87 F b Z (nI H) (f_X4_costBegun_L45 F b Z (nI H) q) S2 (nI (hrs M0 d)) s x (nI i) (cP S0 Z0 M0 nm d v i (H + i)) = some (milP (fun n => cP S0 Z0 M0 nm d v n (H + n)) j (i + 1) (if cP S0 Z0 M0 nm d v i (H + i) < 0 then x else if x < 0 then cP S0 Z0 M0 nm d v i (H + i) else if x ≤ cP S0 Z0 M0 nm d v i (H + i) then x else cP S0 Z0 M0 nm d v i (H + i)), S') ∧ CO b S0 Z0 M0 nm d v S' Z ∧ CF b S S' := by
        unfold f_X4_costBegun_B87
        rw [nI_1]
        by_cases q1 : cP S0 Z0 M0 nm d v i (H + i) < 0
        · rw [if_pos q1, if_pos q1]; exact hfin _
        rw [if_neg q1, if_neg q1]
        by_cases q2 : x < 0
        · rw [if_pos q2, if_pos q2]; exact hfin _
        rw [if_neg q2, if_neg q2]
        by_cases q3 : x ≤ cP S0 Z0 M0 nm d v i (H + i)
        · rw [if_pos q3, if_pos q3]; exact hfin _
        · rw [if_neg q3, if_neg q3]; exact hfin _
      by_cases hc : (0 : Int32) ≤ cP S0 Z0 M0 nm d v i (H + i)
      · rw [if_pos hc]; exact h87
      · rw [if_neg hc]; exact h87
  obtain ⟨L, hL⟩ : ∃ L, hrs M0 d = L + 1 := ⟨hrs M0 d - 1, by omega⟩
  unfold f_X4_costBegun f_X4_costBegun_B18 f_X4_costBegun_B34 mP
  rw [hO.2.2.2.1.2.2, hO.2.2.2.1.2.1, g1, g4]
  by_cases o0 : ovr M0 d = 0
  · rw [if_pos o0, o0, if_neg (show ¬ nI 0 = 1 by decide), if_pos (show nI 0 = 0 from rfl)]
    obtain ⟨S1, e1, o1, c1⟩ := hsum (by omega) 1 0 F 0 (-2) S 1 rfl (by omega) (by omega) hO
    rw [allP_1 (c := fun n => cP S0 Z0 M0 nm d v n (H + n)) (i := 0) cP_rng] at e1
    exact ⟨S1, e1, o1, c1⟩
  rw [if_neg o0]
  by_cases o1 : ovr M0 d = 1
  · rw [if_pos o1, o1, if_pos (show nI 1 = 1 from rfl), if_neg (show ¬ nI 1 = 0 by decide), hL, nI_pred, Nat.add_sub_cancel]
    obtain ⟨S1, e1, o1, c1⟩ := hsum (by omega) 1 L F 0 (-2) S (L + 1) rfl (by omega) (by omega) hO
    rw [allP_1 (c := fun n => cP S0 Z0 M0 nm d v n (H + n)) (i := L) cP_rng] at e1
    exact ⟨S1, e1, o1, c1⟩
  rw [if_neg o1, if_neg (show ¬ nI (ovr M0 d) = 1 from ne_n (b := 1) o1 (by omega) (by omega)), if_neg (nI_ne0 (by omega) (by omega))]
  by_cases o2 : ovr M0 d = 2
  · rw [if_pos o2]
    exact hsum (by omega) (hrs M0 d) 0 F 0 (-2) S (hrs M0 d) (by omega) (by omega) (by omega) hO
  · rw [if_neg o2]
    exact hmil (by omega) (hrs M0 d) 0 F 0 (-2) S (by omega) (by omega) hO
end
