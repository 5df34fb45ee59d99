/-! a court of the class: opened, asked -/
def CF (b : Nat) (S S' : St) : Prop := (∀ j, (j < b ∨ b + 19 < j) → S'.1 j = S.1 j) ∧ (∀ j, (j < b ∨ b + 19 < j) → S'.2.1 j = S.2.1 j) ∧ S'.2.2 = S.2.2
def CO (b : Nat) (S0 : St) (Z0 : Zt) (M0 : St) (nm d v : Nat) (S : St) (Z : Zt) : Prop :=
  SC S0 S ∧ Z.2 = Z0.2 ∧ Z.1 (b + 6) = 9216 ∧ (S.1 (b + 8) = nI v ∧ S.1 (b + 9) = M0.2.1 0 (6 + d) ∧ S.1 (b + 10) = M0.2.1 0 (18 + d)) ∧ (S.2.1 (b + 2) 0 = M0.2.1 23 d ∧ S.2.1 (b + 2) 2 = M0.2.1 0 (6 + d) ∧ S.2.1 (b + 2) 4 = nI v ∧ S.2.1 (b + 2) 5 = M0.2.1 24 d) ∧ (∀ s, s < 64 → S.2.1 (b + 4) s = -1 ∨ ∃ h, h < 1073740000 ∧ S.2.1 (b + 4) s = nI h ∧ S.2.1 (b + 5) s = nI (stP M0 v h nm)) ∧ ∃ bs, bs ≤ 2000016384 ∧ S.1 (b + 7) = nI bs ∧ ∀ i, i < 9216 → ∃ x, x ≤ bs + 10001 ∧ S.2.1 (b + 6) i = nI x ∧ (bs ≤ x → nI x = nI bs - (-2) + cst (LW S0 Z0) (M0.2.1 23 d) (M0.2.1 0 (6 + d)) (M0.2.1 24 d) v (i / 192) (i / 8 % 24) (i % 8))
theorem cv_eq (a c : Int32) : (a - (-2) + c - a) + (-2) = c := by
  rw [Int32.sub_eq_add_neg a (-2), show -(-2 : Int32) = 2 from rfl, Int32.add_assoc a 2 c, Int32.add_comm a (2 + c), Int32.add_sub_cancel, Int32.add_comm 2 c, Int32.add_assoc, show (2 : Int32) + (-2) = 0 from rfl, Int32.add_zero]
theorem cv_m2 (a : Int32) : a - (-2) + (-2) = a := by
  rw [Int32.sub_eq_add_neg a (-2), show -(-2 : Int32) = 2 from rfl, Int32.add_assoc, show (2 : Int32) + (-2) = 0 from rfl, Int32.add_zero]
theorem cv_n (a c : Nat) : nI a - (-2) + nI c = nI (a + 2 + c) := by
  rw [Int32.sub_eq_add_neg (nI a) (-2), show -(-2 : Int32) = nI 2 from rfl, nI_add, nI_add]
theorem bitCount_eq : ∀ set, set < 8 → f_J6_bitCount_0f7a4 (nI set) = some (nI (bts set)) := by decide +kernel
section
variable {F b : Nat} {Z Z0 : Zt} {S S0 S' M0 M : St} {nm nv nd nb d v : Nat}
theorem lnb (hb : b = 80 ∨ b = 300) : lnC Z (b + 2) = 7 ∧ lnC Z (b + 3) = 120 ∧ lnC Z (b + 4) = 64 ∧ lnC Z (b + 5) = 64 ∧ lnC Z (b + 6) = Z.1 (b + 6) := by
  rcases hb with rfl | rfl <;> exact ⟨rfl, rfl, rfl, rfl, rfl⟩
theorem CF.rf : CF b S S := ⟨fun _ _ => rfl, fun _ _ => rfl, rfl⟩
theorem CF.tr {S1 : St} (a : CF b S S1) (c : CF b S1 S') : CF b S S' := ⟨fun j p => (c.1 j p).trans (a.1 j p), fun j p => (c.2.1 j p).trans (a.2.1 j p), c.2.2.trans a.2.2⟩
theorem CF.sf (h : CF b S S') {k : Nat} (hk : b ≤ k ∧ k ≤ b + 19) {x : Int32} : CF b S (sf S' k x) := ⟨fun j p => by
  rw [sf1, if_neg (by omega)]
  exact h.1 j p, fun j p => h.2.1 j p, h.2.2⟩
theorem CF.sa (h : CF b S S') {k i : Nat} (hk : b ≤ k ∧ k ≤ b + 19) {x : Int32} : CF b S (sa S' k i x) := ⟨fun j p => h.1 j p, fun j p => by
  rw [sa21, if_neg (by omega)]
  exact h.2.1 j p, h.2.2⟩
theorem CF.sA (h : CF b S S') {k : Nat} (hk : b ≤ k ∧ k ≤ b + 19) {f : Nat → Int32} : CF b S (sA S' k f) := ⟨fun j p => h.1 j p, fun j p => by
  rw [sA21, if_neg (by omega)]
  exact h.2.1 j p, h.2.2⟩
theorem CF.sc (hb : b = 80 ∨ b = 300) (h : CF b S S') : SC S S' := ⟨fun j p q => h.1 j (by omega), fun j p q _ => h.2.1 j (by omega), h.2.2⟩
theorem CO.sc (h : CO b S0 Z0 M0 nm d v S Z) : SC S0 S := h.1
theorem CO.rv (hV : RV F S0 Z0 M0 nm nv nd nb) (h : CO b S0 Z0 M0 nm d v S Z) : RV F S Z M0 nm nv nd nb := hV.c h.1 MC.rf h.2.1
theorem CO.kct (h : CO b S0 Z0 M0 nm d v S Z) : KCt S Z b := by
  obtain ⟨-, -, h3, -, -, -, bs, q1, q2, q3⟩ := h
  exact ⟨Or.inr h3, bs, q1, q2, fun i hi => by
    obtain ⟨x, x1, x2, -⟩ := q3 i hi
    exact ⟨x, x1, x2⟩⟩
/-- what another court does leaves this one alone -/
theorem CO.ot {b' : Nat} (hb : b = 80 ∨ b = 300) (hb' : b' = 80 ∨ b' = 300) (hbb : b ≠ b') (h : CO b S0 Z0 M0 nm d v S Z) (c : CF b' S S') {Z' : Zt} (hz : Z'.2 = Z.2) (hz1 : Z'.1 (b + 6) = Z.1 (b + 6)) : CO b S0 Z0 M0 nm d v S' Z' := by
  obtain ⟨h1, h2, h3, h4, h5, h6, h7⟩ := h
  have a1 : ∀ k, k ≤ 19 → S'.1 (b + k) = S.1 (b + k) := fun k hk => c.1 _ (by omega)
  have a2 : ∀ k, k ≤ 19 → S'.2.1 (b + k) = S.2.1 (b + k) := fun k hk => c.2.1 _ (by omega)
  refine ⟨h1.tr (c.sc hb'), hz.trans h2, hz1.trans h3, ?_, ?_, ?_, ?_⟩
  · rw [a1 8 (by omega), a1 9 (by omega), a1 10 (by omega)]; exact h4
  · rw [a2 2 (by omega)]; exact h5
  · rw [a2 4 (by omega), a2 5 (by omega)]; exact h6
  · rw [a1 7 (by omega), a2 6 (by omega)]; exact h7
theorem KCt.ot {b' : Nat} (hb : b = 80 ∨ b = 300) (hb' : b' = 80 ∨ b' = 300) (hbb : b ≠ b') (h : KCt S Z b) (c : CF b' S S') {Z' : Zt} (hz1 : Z'.1 (b + 6) = Z.1 (b + 6)) : KCt S' Z' b := h.fr ⟨hz1, c.1 _ (by omega), c.2.1 _ (by omega)⟩
theorem fill_ok {p1 N : Nat} (hp : lnC Z p1 = N) (hN : N < F) (hN31 : N < 2 ^ 31) (S : St) (a : Int32) : ∃ S', f_J7_fill_53178 F p1 Z S a = some S' ∧ S'.1 = S.1 ∧ S'.2.2 = S.2.2 ∧ (∀ j, j ≠ p1 → S'.2.1 j = S.2.1 j) ∧ ∀ i, i < N → S'.2.1 p1 i = a := by
  have hl : ∀ (k i n : Nat) (T : St), i + k = N → k < n → T.1 = S.1 → T.2.2 = S.2.2 → (∀ j, j ≠ p1 → T.2.1 j = S.2.1 j) → (∀ j, j < i → T.2.1 p1 j = a) → ∃ S', f_J7_fill_53178_L5 F p1 Z a n T (nI i) (nI N) = some S' ∧ S'.1 = S.1 ∧ S'.2.2 = S.2.2 ∧ (∀ j, j ≠ p1 → S'.2.1 j = S.2.1 j) ∧ ∀ i, i < N → S'.2.1 p1 i = a := by
    intro k
    induction k with
    | zero =>
      intro i n T hik hn t1 t2 t3 t4
      obtain ⟨n, rfl⟩ : ∃ q, n = q + 1 := ⟨n - 1, by omega⟩
      have e : i = N := by omega
      subst e
      simp only [f_J7_fill_53178_L5]
      rw [if_pos (nI_le (Nat.le_refl _) hN31)]
      exact ⟨T, rfl, t1, t2, t3, t4⟩
    | succ k ih =>
      intro i n T hik hn t1 t2 t3 t4
      obtain ⟨n, rfl⟩ : ∃ q, n = q + 1 := ⟨n - 1, by omega⟩
      simp only [f_J7_fill_53178_L5]
      rw [if_neg (nI_ge (by omega) hN31), hp, inr_nI (by omega) hN31, chk_true, cl_nI (by omega), nI_1]
      refine ih (i + 1) n _ (by omega) (by omega) t1 t2 (fun j hj => ?_) (fun j hj => ?_)
      · rw [sa21, if_neg hj]; exact t3 j hj
      · rw [sa21, if_pos rfl, updE]
        split
        · rfl
        · exact t4 j (by omega)
  unfold f_J7_fill_53178
  rw [hp]
  exact hl N 0 F S (by omega) hN rfl rfl (fun _ _ => rfl) (fun j hj => absurd hj (Nat.not_lt_zero _))
theorem forget_ok (hF : 200000 ≤ F) (hb : b = 80 ∨ b = 300) (h : KCt S Z b) : ∃ S' Z', f_X4_forget F b S Z = some (S', Z') ∧ Z'.1 (b + 6) = 9216 ∧ Z'.2 = Z.2 ∧ (∀ j, j ≠ b + 6 → Z'.1 j = Z.1 j) ∧ (∀ j, j ≠ b + 7 → S'.1 j = S.1 j) ∧ (∀ j, j ≠ b + 6 → S'.2.1 j = S.2.1 j) ∧ S'.2.2 = S.2.2 ∧ ∃ bs, bs ≤ 2000016384 ∧ S'.1 (b + 7) = nI bs ∧ ∀ i, i < 9216 → ∃ x, x < bs ∧ S'.2.1 (b + 6) i = nI x := by
  have hb39 : ∀ (T : St) (X : Zt) (bs : Nat), T.1 (b + 7) = nI bs → bs ≤ 2000000000 → X.1 (b + 6) = 9216 → X.2 = Z.2 → (∀ j, j ≠ b + 6 → X.1 j = Z.1 j) → (∀ j, j ≠ b + 7 → T.1 j = S.1 j) → (∀ j, j ≠ b + 6 → T.2.1 j = S.2.1 j) → T.2.2 = S.2.2 → (∀ i, i < 9216 → ∃ x, x ≤ bs + 10001 ∧ T.2.1 (b + 6) i = nI x) → ∃ S' Z', f_X4_forget_B39 F b T X = some (S', Z') ∧ Z'.1 (b + 6) = 9216 ∧ Z'.2 = Z.2 ∧ (∀ j, j ≠ b + 6 → Z'.1 j = Z.1 j) ∧ (∀ j, j ≠ b + 7 → S'.1 j = S.1 j) ∧ (∀ j, j ≠ b + 6 → S'.2.1 j = S.2.1 j) ∧ S'.2.2 = S.2.2 ∧ ∃ bs, bs ≤ 2000016384 ∧ S'.1 (b + 7) = nI bs ∧ ∀ i, i < 9216 → ∃ x, x < bs ∧ S'.2.1 (b + 6) i = nI x := by
    intro T X bs t1 t2 t3 t4 t5 t6 t7 t8 t9
    unfold f_X4_forget_B39
    refine ⟨_, _, rfl, t3, t4, t5, fun j hj => by rw [sf1, if_neg hj]; exact t6 j hj, t7, t8, bs + 16384, by omega, ?_, fun i hi => ?_⟩
    · rw [sf1, if_pos rfl, t1]
      exact nI_add bs 16384
    · obtain ⟨x, x1, x2⟩ := t9 i hi
      exact ⟨x, by omega, x2⟩
  have hb17 : ∀ (T : St) (X : Zt) (bs : Nat), T.1 (b + 7) = nI bs → bs ≤ 2000016384 → X.1 (b + 6) = 9216 → X.2 = Z.2 → (∀ j, j ≠ b + 6 → X.1 j = Z.1 j) → (∀ j, j ≠ b + 7 → T.1 j = S.1 j) → (∀ j, j ≠ b + 6 → T.2.1 j = S.2.1 j) → T.2.2 = S.2.2 → (∀ i, i < 9216 → ∃ x, x ≤ bs + 10001 ∧ T.2.1 (b + 6) i = nI x) → ∃ S' Z', f_X4_forget_B17 F b T X = some (S', Z') ∧ Z'.1 (b + 6) = 9216 ∧ Z'.2 = Z.2 ∧ (∀ j, j ≠ b + 6 → Z'.1 j = Z.1 j) ∧ (∀ j, j ≠ b + 7 → S'.1 j = S.1 j) ∧ (∀ j, j ≠ b + 6 → S'.2.1 j = S.2.1 j) ∧ S'.2.2 = S.2.2 ∧ ∃ bs, bs ≤ 2000016384 ∧ S'.1 (b + 7) = nI bs ∧ ∀ i, i < 9216 → ∃ x, x < bs ∧ S'.2.1 (b + 6) i = nI x := by
    intro T X bs t1 t2 t3 t4 t5 t6 t7 t8 t9
    unfold f_X4_forget_B17
    by_cases hq : bs ≤ 2000000000
    · rw [t1, if_pos (show nI bs ≤ 2000000000 from nI_le (b := 2000000000) hq (by omega))]
      exact hb39 T X bs t1 hq t3 t4 t5 t6 t7 t8 t9
    · obtain ⟨S2, e2, f1, f2, f3, f4⟩ := fill_ok (F := F) (Z := X) (p1 := b + 6) (N := 9216) ((lnb hb).2.2.2.2.trans t3) (by omega) (by omega) T 0
      rw [t1, if_neg (show ¬ nI bs ≤ 2000000000 from nI_ge (a := 2000000000) (by omega) (by omega)), e2, Option.bind_some]
      refine hb39 (sf S2 (b + 7) 0) X 0 ?_ (by omega) t3 t4 t5 (fun j hj => ?_) (fun j hj => ?_) ?_ (fun i hi => ⟨0, by omega, ?_⟩)
      · rw [sf1, if_pos rfl]; rfl
      · rw [sf1, if_neg hj, f1]; exact t6 j hj
      · show S2.2.1 j = _
        rw [f3 j hj]; exact t7 j hj
      · show S2.2.2 = _
        rw [f2]; exact t8
      · show S2.2.1 (b + 6) i = _
        rw [f4 i hi]; rfl
  obtain ⟨h1, bs, h2, h3, h4⟩ := h
  unfold f_X4_forget
  rw [(lnb hb).2.2.2.2]
  rcases h1 with h1 | h1
  · rw [h1, if_pos (show Int32.ofNat 0 = 0 from rfl), show kz b Z = true from decide_eq_true h1, chk_true]
    refine hb17 (sA S (b + 6) (fun _ => 0)) (zk b Z) bs h3 h2 (if_pos rfl) rfl (fun j hj => if_neg hj) (fun _ _ => rfl) (fun j hj => if_neg hj) rfl (fun i hi => ⟨0, by omega, ?_⟩)
    rw [sA21, if_pos rfl]; rfl
  · rw [h1, if_neg (show ¬ Int32.ofNat 9216 = 0 by decide)]
    exact hb17 S Z bs h3 h2 h1 rfl (fun _ _ => rfl) (fun _ _ => rfl) (fun _ _ => rfl) rfl h4
theorem open_ok (hF : 200000 ≤ F) (hb : b = 80 ∨ b = 300) (hV : RV F S0 Z0 M0 nm nv nd nb) (hS : SC S0 S) (hz : Z.2 = Z0.2) (hC : KCt S Z b) (hd : d < nd) (hv : v < nv) : ∃ S' Z', f_X4_open F b S Z (nI d) (nI v) = some (S', Z') ∧ CO b S0 Z0 M0 nm d v S' Z' ∧ CF b S S' ∧ Z'.2 = Z.2 ∧ ∀ j, j ≠ b + 6 → Z'.1 j = Z.1 j := by
  have hbk : ∀ T, CF b S T → KBook T M0 nd := fun T hT => (hV.c (hS.tr (hT.sc hb)) MC.rf hz).2.1
  have c0 : CF b S (sf S (b + 8) (nI v)) := CF.rf.sf (by omega)
  have c1 : CF b S (sf (sf S (b + 8) (nI v)) (b + 9) (M0.2.1 0 (6 + d))) := c0.sf (by omega)
  have c2 : CF b S (sf (sf (sf S (b + 8) (nI v)) (b + 9) (M0.2.1 0 (6 + d))) (b + 10) (M0.2.1 0 (18 + d))) := c1.sf (by omega)
  have c3 : CF b S (sa (sa (sa (sf (sf (sf S (b + 8) (nI v)) (b + 9) (M0.2.1 0 (6 + d))) (b + 10) (M0.2.1 0 (18 + d))) (b + 2) ((0 : Int32)).toNatClampNeg (M0.2.1 23 d)) (b + 2) ((2 : Int32)).toNatClampNeg (M0.2.1 0 (6 + d))) (b + 2) ((4 : Int32)).toNatClampNeg (nI v)) := ((c2.sa (by omega)).sa (by omega)).sa (by omega)
  have c4 : CF b S (sa (sa (sa (sa (sf (sf (sf S (b + 8) (nI v)) (b + 9) (M0.2.1 0 (6 + d))) (b + 10) (M0.2.1 0 (18 + d))) (b + 2) ((0 : Int32)).toNatClampNeg (M0.2.1 23 d)) (b + 2) ((2 : Int32)).toNatClampNeg (M0.2.1 0 (6 + d))) (b + 2) ((4 : Int32)).toNatClampNeg (nI v)) (b + 2) ((5 : Int32)).toNatClampNeg (M0.2.1 24 d)) := c3.sa (by omega)
  unfold f_X4_open
  rw [(lnb hb).1, hoursOf_eq (hbk _ c0) hd, Option.bind_some, (told_eq (hbk _ c1) hd).2.2.2, Option.bind_some, (told_eq (hbk _ c2) hd).1, Option.bind_some, show inr (0 : Int32) 7 = true from rfl, show inr (2 : Int32) 7 = true from rfl, show inr (4 : Int32) 7 = true from rfl, show inr (5 : Int32) 7 = true from rfl, chk_true, chk_true, chk_true, (told_eq (hbk _ c3) hd).2.2.1, Option.bind_some, chk_true]
  generalize hT : sa (sa (sa (sa (sf (sf (sf S (b + 8) (nI v)) (b + 9) (M0.2.1 0 (6 + d))) (b + 10) (M0.2.1 0 (18 + d))) (b + 2) ((0 : Int32)).toNatClampNeg (M0.2.1 23 d)) (b + 2) ((2 : Int32)).toNatClampNeg (M0.2.1 0 (6 + d))) (b + 2) ((4 : Int32)).toNatClampNeg (nI v)) (b + 2) ((5 : Int32)).toNatClampNeg (M0.2.1 24 d) = T at c4 ⊢
  have t8 : T.1 (b + 8) = nI v := by
    rw [← hT]
    show (if b + 8 = b + 10 then _ else if b + 8 = b + 9 then _ else if b + 8 = b + 8 then nI v else _) = _
    rw [if_neg (by omega), if_neg (by omega), if_pos rfl]
  have t9 : T.1 (b + 9) = M0.2.1 0 (6 + d) := by
    rw [← hT]
    show (if b + 9 = b + 10 then _ else if b + 9 = b + 9 then _ else _) = _
    rw [if_neg (by omega), if_pos rfl]
  have t10 : T.1 (b + 10) = M0.2.1 0 (18 + d) := by
    rw [← hT]
    show (if b + 10 = b + 10 then _ else _) = _
    rw [if_pos rfl]
  have t7 : T.1 (b + 7) = S.1 (b + 7) := by
    rw [← hT]
    show (if b + 7 = b + 10 then _ else if b + 7 = b + 9 then _ else if b + 7 = b + 8 then nI v else _) = _
    rw [if_neg (by omega), if_neg (by omega), if_neg (by omega)]
  have t2 : T.2.1 (b + 2) = upd (upd (upd (upd (S.2.1 (b + 2)) 0 (M0.2.1 23 d)) 2 (M0.2.1 0 (6 + d))) 4 (nI v)) 5 (M0.2.1 24 d) := by
    rw [← hT, sa21, if_pos rfl, sa21, if_pos rfl, sa21, if_pos rfl, sa21, if_pos rfl]
    rfl
  have t6 : T.2.1 (b + 6) = S.2.1 (b + 6) := by
    rw [← hT, sa21, if_neg (by omega), sa21, if_neg (by omega), sa21, if_neg (by omega), sa21, if_neg (by omega)]
    rfl
  obtain ⟨T1, e1, f1, f2, f3, f4⟩ := fill_ok (F := F) (Z := Z) (p1 := b + 4) (N := 64) (lnb hb).2.2.1 (by omega) (by omega) T (-1)
  have hC1 : KCt T1 Z b := hC.fr ⟨rfl, by rw [f1, t7], by rw [f3 _ (by omega), t6]⟩
  obtain ⟨T2, Z2, e2, g1, g2, g3, g4, g5, g6, bs, g7, g8, g9⟩ := forget_ok hF hb hC1
  rw [e1, Option.bind_some, e2, Option.bind_some]
  have cT1 : CF b T T1 := ⟨fun j p => by rw [f1], fun j p => f3 j (by omega), f2⟩
  have cT2 : CF b T1 T2 := ⟨fun j p => g4 j (by omega), fun j p => g5 j (by omega), g6⟩
  have cT : CF b S T2 := c4.tr (cT1.tr cT2)
  refine ⟨T2, Z2, rfl, ⟨hS.tr (cT.sc hb), g2.trans hz, g1, ⟨?_, ?_, ?_⟩, ?_, fun s hs => Or.inl ?_, bs, g7, g8, fun i hi => ?_⟩, cT, g2, g3⟩
  · rw [g4 _ (by omega), f1]; exact t8
  · rw [g4 _ (by omega), f1]; exact t9
  · rw [g4 _ (by omega), f1]; exact t10
  · rw [g5 _ (by omega), f3 _ (by omega), t2]
    exact ⟨rfl, rfl, rfl, rfl⟩
  · rw [g5 _ (by omega)]; exact f4 s hs
  · obtain ⟨x, x1, x2⟩ := g9 i hi
    exact ⟨x, by omega, x2, fun q => by omega⟩
theorem upAt_ok (hF : 200 ≤ F) (hb : b = 80 ∨ b = 300) (hV : RV F S0 Z0 M0 nm nv nd nb) (hO : CO b S0 Z0 M0 nm d v S Z) (hv : v < nv) {H : Nat} (hH : H < 1073740000) : ∃ S', f_X4_upAt F b Z S (nI H) = some (nI (stP M0 v H nm), S') ∧ CO b S0 Z0 M0 nm d v S' Z ∧ CF b S S' := by
  have hO' := hO
  obtain ⟨h1, h2, h3, h4, h5, h6, h7⟩ := hO
  have hs : H % 64 < 64 := Nat.mod_lt _ (by omega)
  unfold f_X4_upAt
  rw [pk_andN (show H < 2 ^ 32 by omega) 6 rfl, (lnb hb).2.2.1, (lnb hb).2.2.2.1, show H % 2 ^ 6 = H % 64 from rfl, inr_nI hs (by omega), chk_true, chk_true, chk_true, cl_nI (by omega)]
  by_cases hq : S.2.1 (b + 4) (H % 64) = nI H
  · rw [if_pos hq]
    refine ⟨S, ?_, hO', CF.rf⟩
    rcases h6 (H % 64) hs with q | ⟨h, q1, q2, q3⟩
    · rw [q] at hq
      have e := nI_toInt (show H < 2 ^ 31 by omega)
      rw [← hq] at e
      have : (-1 : Int32).toInt = -1 := rfl
      omega
    · rw [q2] at hq
      have e : h = H := (nI_eq (by omega) (by omega)).mp hq
      rw [q3, e]
  · have cT : CF b S (sa S (b + 4) (H % 64) (nI H)) := CF.rf.sa (by omega)
    have hV1 : RV F (sa S (b + 4) (H % 64) (nI H)) Z M0 nm nv nd nb := hV.c (h1.tr (cT.sc hb)) MC.rf h2
    rw [if_neg hq, h4.1, upIn_eq hF hV1.1 hv hH, Option.bind_some, chk_true, chk_true]
    have c2 : CF b S (sa (sa S (b + 4) (H % 64) (nI H)) (b + 5) (H % 64) (nI (stP M0 v H nm))) := cT.sa (by omega)
    refine ⟨_, ?_, ⟨h1.tr (c2.sc hb), h2, h3, h4, ?_, fun s hs => ?_, ?_⟩, c2⟩
    · rw [sa21, if_pos rfl, pk_us]
    · rw [sa21, if_neg (by omega), sa21, if_neg (by omega)]; exact h5
    · rw [sa21, if_neg (show ¬ b + 4 = b + 5 by omega), sa21, if_pos rfl, sa21, if_pos rfl, sa21, if_neg (show ¬ b + 5 = b + 4 by omega)]
      by_cases e : s = H % 64
      · rw [e, pk_us, pk_us]
        exact Or.inr ⟨H, hH, rfl, rfl⟩
      · rw [pk_un e, pk_un e]
        exact h6 s hs
    · rw [sa21, if_neg (by omega), sa21, if_neg (by omega)]; exact h7
end
