/-! reading: numbers, names, ( ! - -/
def dig (c : Int32) : Prop := ¬ c < 48 ∧ ¬ 57 < c
theorem dig_y {c : Int32} (hd : dig c) : f_X5_isDigit c = some 1 := by
  unfold f_X5_isDigit
  rw [if_neg hd.1, if_neg hd.2]
theorem dig_n {c : Int32} (hd : ¬ dig c) : f_X5_isDigit c = some 0 := by
  unfold f_X5_isDigit
  by_cases q1 : c < 48
  · rw [if_pos q1]
  · by_cases q2 : 57 < c
    · rw [if_neg q1, if_pos q2]
    · exact absurd ⟨q1, q2⟩ hd
theorem name_cases (c : Int32) : (∃ j, j < 7 ∧ f_X5_nameOf c = some (nI j) ∧ f_X11_nameOf c = some (nI j) ∧ ¬ dig c) ∨ (f_X5_nameOf c = some (-2) ∧ f_X11_nameOf c = some (-1)) := by
  by_cases q1 : c = 104
  · subst q1; exact Or.inl ⟨3, by decide, rfl, rfl, fun z => z.2 (by decide)⟩
  by_cases q2 : c = 107
  · subst q2; exact Or.inl ⟨0, by decide, rfl, rfl, fun z => z.2 (by decide)⟩
  by_cases q3 : c = 108
  · subst q3; exact Or.inl ⟨2, by decide, rfl, rfl, fun z => z.2 (by decide)⟩
  by_cases q4 : c = 109
  · subst q4; exact Or.inl ⟨6, by decide, rfl, rfl, fun z => z.2 (by decide)⟩
  by_cases q5 : c = 110
  · subst q5; exact Or.inl ⟨1, by decide, rfl, rfl, fun z => z.2 (by decide)⟩
  by_cases q6 : c = 118
  · subst q6; exact Or.inl ⟨4, by decide, rfl, rfl, fun z => z.2 (by decide)⟩
  by_cases q7 : c = 119
  · subst q7; exact Or.inl ⟨5, by decide, rfl, rfl, fun z => z.2 (by decide)⟩
  refine Or.inr ⟨?_, ?_⟩
  · unfold f_X5_nameOf
    rw [if_neg q1, if_neg q2, if_neg q3, if_neg q4, if_neg q5, if_neg q6, if_neg q7]
    simp only [ite_self]
  · unfold f_X11_nameOf
    rw [if_neg q1, if_neg q2, if_neg q3, if_neg q4, if_neg q5, if_neg q6, if_neg q7]
    simp only [ite_self]
section
variable {F : Nat} {Z : Zt} {tx : Nat → Int32} {L o p s : Nat} {S M : St}
variable {g g6 : Nat → St → Int32 → Int32 → Option (Int32 × St)} {gm : Nat → St → Option (Int32 × St)}
theorem num_loop : ∀ (k i n n' p s : Nat) (S : St) (x : Int32), i + k = 4 → RdI tx L S p s → S.1 103 = -1 → (0 < i → s < p) → (i = 0 → ∃ ch, nxt tx L S p = some ch ∧ dig ch) → k < n → k < n' → ∃ x' p', p ≤ p' ∧ (i = 0 → p < p') ∧ p' ≤ L ∧ s < p' ∧ f_X5_number_L4 F Z n S x (nI i) = some (nI s, stp (sf S 102 (nI p')) s 48 x' (-1)) ∧ ∀ M, RdM tx L S M → f_X11_one_L176 F gm n' M x (nI i) = some (x', sf M 17 (nI p')) := by
  intro k
  induction k with
  | zero =>
    intro i n n' p s S x hk hI hf h1 h2 hn hn'
    obtain ⟨n, rfl⟩ : ∃ q, n = q + 1 := ⟨n - 1, by omega⟩
    obtain ⟨n', rfl⟩ : ∃ q, n' = q + 1 := ⟨n' - 1, by omega⟩
    have hi : i = 4 := by omega
    subst hi
    have hs := h1 (by decide)
    refine ⟨x, p, Nat.le_refl _, fun z => by omega, hI.2.2.2.2.1, hs, ?_, fun M hM => ?_⟩
    · simp only [f_X5_number_L4]
      rw [if_pos (by decide)]
      unfold f_X5_number_B49
      rw [add_eq hI hs, sf_self hI.2.2.2.1]
      rfl
    · simp only [f_X11_one_L176]
      rw [if_pos (by decide)]
      unfold f_X11_one_B229
      rw [if_neg (by decide), sf_self (hM.1.trans hI.2.2.2.1)]
  | succ k ih =>
    intro i n n' p s S x hk hI hf h1 h2 hn hn'
    obtain ⟨n, rfl⟩ : ∃ q, n = q + 1 := ⟨n - 1, by omega⟩
    obtain ⟨n', rfl⟩ : ∃ q, n' = q + 1 := ⟨n' - 1, by omega⟩
    have h4 : ¬ (4 : Int32) ≤ nI i := by rw [show (4 : Int32) = nI 4 from rfl]; exact nI_ge (by omega) (by omega)
    have hsp := hI.2.2.2.2.2.2.1
    by_cases hd : ∃ ch, nxt tx L S p = some ch ∧ dig ch
    · obtain ⟨ch, hx, hdg⟩ := hd
      obtain ⟨-, hp, htx⟩ := nxt_some hx
      obtain ⟨x', p', b1, -, b2, b3, b4, b5⟩ := ih (i + 1) n n' (p + 1) s (sf S 102 (nI (p + 1))) (10 * x + ch - 48) (by omega) (hI.pl (p + 1) (by omega) (by omega)) hf (fun _ => by omega) (fun z => by omega) (by omega) (by omega)
      rw [sf_sf] at b4
      refine ⟨x', p', by omega, fun _ => by omega, b2, b3, ?_, fun M hM => ?_⟩
      · simp only [f_X5_number_L4]
        rw [if_neg h4, ahead_eq hI, hd_eq hx, Option.bind_some, dig_y hdg, Option.bind_some, if_neg (by decide), Option.bind_some, pl_eq hI, nI_1]
        exact b4
      · have b6 := b5 _ (hM.pl (p + 1))
        rw [sf_sf] at b6
        simp only [f_X11_one_L176]
        rw [if_neg h4, byte_eq hI hM, by_eq hx, Option.bind_some, if_neg hdg.1, Option.bind_some, if_neg hdg.2, Option.bind_some, at_eq hI hM, nI_1]
        exact b6
    · have hi : 0 < i := Nat.pos_of_ne_zero (fun z => hd (h2 z))
      have hs := h1 hi
      refine ⟨x, p, Nat.le_refl _, fun z => by omega, hI.2.2.2.2.1, hs, ?_, fun M hM => ?_⟩
      · have hnd : ¬ dig ((nxt tx L S p).getD (-2)) := by
          cases hy : nxt tx L S p with
          | none => exact fun z => z.1 (by decide)
          | some c => exact fun z => hd ⟨c, hy, z⟩
        simp only [f_X5_number_L4]
        rw [if_neg h4, ahead_eq hI, Option.bind_some, dig_n hnd, Option.bind_some, if_pos rfl]
        unfold f_X5_number_B49
        rw [add_eq hI hs, sf_self hI.2.2.2.1]
        rfl
      · have hnd : ¬ dig (if p < L then tx p else 0) := by
          by_cases hp : p < L
          · rw [if_pos hp]; exact fun z => hd ⟨tx p, if_pos ⟨hf, hp⟩, z⟩
          · rw [if_neg hp]; exact fun z => z.1 (by decide)
        have hB : f_X11_one_B229 F gm M x (nI i) = some (x, sf M 17 (nI p)) := by
          unfold f_X11_one_B229
          rw [if_neg (nI_ne0 hi (by omega)), sf_self (hM.1.trans hI.2.2.2.1)]
        simp only [f_X11_one_L176]
        rw [if_neg h4, byte_eq hI hM, Option.bind_some]
        by_cases q1 : (if p < L then tx p else 0) < 48
        · rw [if_pos q1]; exact hB
        · rw [if_neg q1, Option.bind_some, if_pos (Classical.byContradiction fun q2 => hnd ⟨q1, q2⟩)]; exact hB
theorem wrong_flt (hf : 0 ≤ M.1 19) : f_X11_wrong M = some (0, M) := by
  unfold f_X11_wrong
  rw [if_pos hf, sf_self rfl]
theorem Spec.fail {c : Option (Int32 × St)} {m : St → Option (Int32 × St)} (hI : RdI tx L S p s) (hc : c = (f_X5_failed Z S).bind fun r => some (r.1, r.2)) (hm : ∀ M, RdM tx L S M → (S.1 103 = -1 → M.1 20 = nI o) → m M = f_X11_wrong M) : Spec tx L o S p s c m := by
  obtain ⟨S', e1, hI', hF, hf, hw⟩ := fail_ok (Z := Z) hI
  refine ⟨-1, S', p, s, by rw [hc, e1]; rfl, hI', Nat.le_refl _, Nat.le_refl _, Nat.le_refl _, hF, fun q => absurd q hf, fun M hM hO => ?_⟩
  obtain ⟨M', w1, hM', fr⟩ := hw M hM
  exact ⟨0, M', (hm M hM hO).trans w1, hM', fr, fun q => absurd q hf⟩
theorem RdM.op (hM : RdM tx L S M) (v : Int32) : RdM tx L S (sf M 20 v) := ⟨hM.1, hM.2.1, hM.2.2.fr MFr.op⟩
/-- a step with one side -/
theorem un_step {op ch : Int32} {c1 : Option (Int32 × St)} {m1 : St → Option (Int32 × St)} (ho : o < 6) (hI : RdI tx L S p s) (hx : nxt tx L S p = some ch) (hop : ¬ op = 48 ∧ ¬ op = 107) (h1 : Spec tx L (o + 1) (sf S 102 (nI (p + 1))) (p + 1) s c1 m1) {m : St → Option (Int32 × St)}
    (hm : ∀ M w M3, RdM tx L S M → M.1 20 = nI o → m1 (sf (sf M 20 (M.1 20 + 1)) 17 (M.1 17 + 1)) = some (w, M3) → m M = some (jn op w 0, sf M3 20 (M3.1 20 - 1))) : Spec tx L o S p s (c1.bind fun r6 => (f_X8_addStep 1060 Z r6.2 op r6.1 (-1)).bind fun r7 => some (r7.1, r7.2)) m := by
  obtain ⟨r3, S3, p3, s3, e3, hI3, a1, a2, a3, f3, g3, k3⟩ := h1
  obtain ⟨hfl, hp, htx⟩ := nxt_some hx
  have hL := hI.2.2.1
  have hs := hI.2.2.2.2.2.2.1
  have hp3 := hI3.2.2.2.2.1
  have hlt : s3 < p3 := by omega
  refine ⟨nI s3, stp S3 s3 op r3 (-1), p3, s3 + 1, ?_, hI3.st hlt, by omega, by omega, by omega, (RdF.pl.tr f3 (Nat.le_refl _)).tr RdF.st a2, fun q => ⟨hfl, by omega, s3, Nat.lt_succ_self _, rfl⟩, fun M hM hO => ?_⟩
  · rw [e3]
    show Option.bind (f_X8_addStep 1060 Z S3 op r3 (-1)) _ = _
    rw [add_eq hI3 hlt]
    rfl
  have hO2 := hO hfl
  obtain ⟨w, M3, w1, hM3, fr3, z3⟩ := k3 (sf (sf M 20 (nI (o + 1))) 17 (nI (p + 1))) ((hM.op _).pl (p + 1)) (fun _ => rfl)
  have w2 := w1
  rw [← at_eq hI hM, ← nI_1, ← hO2] at w2
  refine ⟨jn op w 0, sf M3 20 (M3.1 20 - 1), hm M w M3 hM hO2 w2, hM3.op _, ((MFr.op.tr MFr.pl).tr fr3).tr MFr.op, fun q => ?_⟩
  obtain ⟨y1, y2⟩ := z3 q
  obtain ⟨wn, hw1, rfl⟩ := (g3 q).2.2
  refine ⟨?_, fun x ex hlx => ?_⟩
  · show M3.1 20 - 1 = nI o
    rw [y1, nI_pred]
  have ex2 : s3 = x := (nI_eq (by omega) (by omega)).mp ex
  subst ex2
  have k2 : ev S3 (M.2.1 21) s3 wn = w := y2 wn rfl hw1
  show vs (upd (S3.2.1 1060) s3 op) (upd (S3.2.1 1061) s3 (nI wn)) (upd (S3.2.1 1062) s3 (-1)) (M.2.1 21) (s3 + 1) s3 = _
  rw [vs_push1 hop.1 hop.2 hw1 (by omega)]
  show jn op (ev S3 (M.2.1 21) s3 wn) 0 = _
  rw [k2]
theorem par_step {c1 : Option (Int32 × St)} {m1 : St → Option (Int32 × St)} (ho : o < 6) (hI : RdI tx L S p s) (hx : nxt tx L S p = some 40) (h1 : Spec tx L (o + 1) (sf S 102 (nI (p + 1))) (p + 1) s c1 m1) {m : St → Option (Int32 × St)}
    (hm : ∀ M w M3, RdM tx L S M → M.1 20 = nI o → m1 (sf (sf M 20 (M.1 20 + 1)) 17 (M.1 17 + 1)) = some (w, M3) → m M = f_X11_one_B83 F gm M3 40 w) : Spec tx L o S p s (c1.bind fun r1 => (f_X5_took Z r1.2 41).bind fun r2 => (if r2.1 = 0 then (f_X5_failed Z r2.2).bind fun r3 => some (r3.1, r3.2) else some (r1.1, r2.2))) m := by
  obtain ⟨r3, S3, p3, s3, e3, hI3, a1, a2, a3, f3, g3, k3⟩ := h1
  obtain ⟨hfl, hp, htx⟩ := nxt_some hx
  have hL := hI.2.2.1
  have hp3 := hI3.2.2.2.2.1
  have hmm : ∀ M, RdM tx L S M → (S.1 103 = -1 → M.1 20 = nI o) → ∃ w M3, m M = f_X11_one_B83 F gm M3 40 w ∧ RdM tx L S3 M3 ∧ MFr M M3 ∧ (S3.1 103 = -1 → M3.1 20 = nI (o + 1) ∧ ∀ rn, r3 = nI rn → rn < s3 → ev S3 (M.2.1 21) s3 rn = w) := by
    intro M hM hO
    obtain ⟨w, M3, w1, hM3, fr3, z3⟩ := k3 (sf (sf M 20 (nI (o + 1))) 17 (nI (p + 1))) ((hM.op _).pl (p + 1)) (fun _ => rfl)
    have w2 := w1
    rw [← at_eq hI hM, ← nI_1, ← hO hfl] at w2
    exact ⟨w, M3, hm M w M3 hM (hO hfl) w2, hM3, (MFr.op.tr MFr.pl).tr fr3, z3⟩
  by_cases hc : nxt tx L S3 p3 = some 41
  · obtain ⟨hf3, hp3', -⟩ := nxt_some hc
    refine ⟨r3, sf S3 102 (nI (p3 + 1)), p3 + 1, s3, ?_, hI3.pl (p3 + 1) (by omega) (by omega), by omega, by omega, by omega, (RdF.pl.tr f3 (Nat.le_refl _)).tr (RdF.pl (s := s3)) a2, fun q => ⟨hfl, (g3 q).2⟩, fun M hM hO => ?_⟩
    · rw [e3]
      show Option.bind (f_X5_took Z S3 41) _ = _
      rw [took_eq hI3 (by decide), if_pos hc]
      rfl
    · obtain ⟨w, M3, w1, hM3, fr3, z3⟩ := hmm M hM hO
      refine ⟨w, sf (sf M3 17 (nI (p3 + 1))) 20 (M3.1 20 - 1), ?_, (hM3.pl (p3 + 1)).op _, (fr3.tr MFr.pl).tr MFr.op, fun q => ?_⟩
      · rw [w1]
        unfold f_X11_one_B83
        rw [if_pos rfl, takes_eq hI3 hM3 (by decide), if_pos hc]
        rfl
      · obtain ⟨y1, y2⟩ := z3 q
        refine ⟨?_, y2⟩
        show M3.1 20 - 1 = nI o
        rw [y1, nI_pred]
  · obtain ⟨S4, e4, hI4, hF4, hf4, hw4⟩ := fail_ok (Z := Z) hI3
    refine ⟨-1, S4, p3, s3, ?_, hI4, by omega, by omega, by omega, (RdF.pl.tr f3 (Nat.le_refl _)).tr hF4 a2, fun q => absurd q hf4, fun M hM hO => ?_⟩
    · rw [e3]
      show Option.bind (f_X5_took Z S3 41) _ = _
      rw [took_eq hI3 (by decide), if_neg hc]
      show Option.bind (f_X5_failed Z S3) _ = _
      rw [e4]
      rfl
    · obtain ⟨w, M3, w1, hM3, fr3, z3⟩ := hmm M hM hO
      obtain ⟨M4, w4, hM4, fr4⟩ := hw4 M3 hM3
      refine ⟨0, M4, ?_, hM4, fr3.tr fr4, fun q => absurd q hf4⟩
      rw [w1]
      unfold f_X11_one_B83
      rw [if_pos rfl, takes_eq hI3 hM3 (by decide), if_neg hc]
      show Option.bind (f_X11_wrong M3) _ = _
      rw [w4]
      rfl
theorem op_ok (hF : 100 ≤ F) (ho : o ≤ 6) (hg6 : o < 6 → ∀ S a b, g6 6 S a b = f_X5_opened F Z g S a b) (hlow : o < 6 → (∀ S p s, RdI tx L S p s → Spec tx L (o + 1) S p s (g 0 S (nI (o + 1)) 0) (gm 0)) ∧ ∀ S p s, RdI tx L S p s → Spec tx L (o + 1) S p s (g 5 S (nI (o + 1)) 0) (gm 5)) (hI : RdI tx L S p s) : Spec tx L o S p s (f_X5_operand F Z g6 S (nI o)) (f_X11_one F gm) := by
  have hL := hI.2.2.1
  have hsp := hI.2.2.2.2.2.2.1
  have hpL := hI.2.2.2.2.1
  by_cases hs : ∃ ch, nxt tx L S p = some ch ∧ (ch = 40 ∨ ch = 33 ∨ ch = 45)
  · obtain ⟨ch, hx, hch⟩ := hs
    obtain ⟨hfl, hp, htx⟩ := nxt_some hx
    have hC : f_X5_operand F Z g6 S (nI o) = f_X5_operand_B23 F Z g6 (nI o) S ch := by
      unfold f_X5_operand
      rw [ahead_eq hI, hd_eq hx, Option.bind_some]
      rcases hch with q | q | q
      · rw [if_pos q]
      · rw [if_neg (by rw [q]; decide), if_pos q]
      · rw [if_neg (by rw [q]; decide), if_neg (by rw [q]; decide), if_pos q]
    have hMm : ∀ M, RdM tx L S M → f_X11_one F gm M = f_X11_one_B32 F gm M ch := by
      intro M hM
      unfold f_X11_one
      rw [if_pos (flt_no hM hfl).1, byte_eq hI hM, by_eq hx, Option.bind_some]
      rcases hch with q | q | q
      · rw [if_neg (by rw [q]; decide), if_neg (by rw [q]; decide), if_pos q]
      · rw [if_pos q]
      · rw [if_neg (by rw [q]; decide), if_pos q]
    rw [hC]
    unfold f_X5_operand_B23
    by_cases h6 : o = 6
    · subst h6
      rw [if_pos (by decide)]
      refine Spec.fail hI rfl (fun M hM hO => ?_)
      rw [hMm M hM]
      unfold f_X11_one_B32
      rw [if_pos (show M.1 20 = 6 from hO hfl)]
      cases hw : f_X11_wrong M with
      | none => rfl
      | some q => rfl
    · have ho6 : o < 6 := by omega
      obtain ⟨h0, h5⟩ := hlow ho6
      have hn6 : ¬ nI o = (6 : Int32) := by rw [show (6 : Int32) = nI 6 from rfl, nI_eq (by omega) (by omega)]; omega
      rw [if_neg (by rw [show (6 : Int32) = nI 6 from rfl]; exact nI_ge ho6 (by omega)), hg6 ho6, nI_1]
      have hbs : ∀ e : Option (Int32 × St), (e.bind fun r8 => some (r8.1, r8.2)) = e := fun e => by cases e <;> rfl
      rw [hbs]
      unfold f_X5_opened
      rw [pl_eq hI]
      rcases hch with q | q | q
      · subst q
        rw [if_neg (by decide), if_neg (by decide)]
        refine par_step (F := F) (gm := gm) ho6 hI hx (h0 _ _ _ (hI.pl (p + 1) (by omega) (by omega))) (fun M w M3 hM hO w1 => ?_)
        rw [hMm M hM]
        unfold f_X11_one_B32
        rw [if_neg (by rw [hO]; exact hn6), if_pos rfl, w1]
        rfl
      · subst q
        rw [if_pos rfl]
        refine un_step ho6 hI hx (by decide) (h5 _ _ _ (hI.pl (p + 1) (by omega) (by omega))) (fun M w M3 hM hO w1 => ?_)
        rw [hMm M hM]
        unfold f_X11_one_B32
        rw [if_neg (by rw [hO]; exact hn6), if_neg (by decide), w1, Option.bind_some, jn_not]
        unfold f_X11_one_B83 f_X11_one_B104
        rw [if_neg (by decide), if_neg (by decide), if_neg (by decide)]
        show (if w = 0 then _ else _) = _
        by_cases hw : w = 0
        · rw [if_pos hw, if_pos hw]
        · rw [if_neg hw, if_neg hw]
      · subst q
        rw [if_neg (by decide), if_pos rfl]
        refine un_step ho6 hI hx (by decide) (h5 _ _ _ (hI.pl (p + 1) (by omega) (by omega))) (fun M w M3 hM hO w1 => ?_)
        rw [hMm M hM]
        unfold f_X11_one_B32
        rw [if_neg (by rw [hO]; exact hn6), if_neg (by decide), w1, Option.bind_some, jn_neg]
        unfold f_X11_one_B83 f_X11_one_B104
        rw [if_neg (by decide), if_neg (by decide), if_pos rfl]
  · have hx1 : ¬ nxt tx L S p = some 40 := fun q => hs ⟨40, q, Or.inl rfl⟩
    have hx2 : ¬ nxt tx L S p = some 33 := fun q => hs ⟨33, q, Or.inr (Or.inl rfl)⟩
    have hx3 : ¬ nxt tx L S p = some 45 := fun q => hs ⟨45, q, Or.inr (Or.inr rfl)⟩
    have hC : f_X5_operand F Z g6 S (nI o) = (f_X5_isDigit ((nxt tx L S p).getD (-2))).bind fun r2 => (if r2 = 0 then (f_X5_nameOf ((nxt tx L S p).getD (-2))).bind fun r3 => (if (0 : Int32) ≤ r3 then (f_X8_addStep 1060 Z (sf S 102 ((S.1 102) + 1)) 107 r3 (-1)).bind fun r4 => some (r4.1, r4.2) else (f_X5_failed Z S).bind fun r5 => some (r5.1, r5.2)) else (f_X5_number F Z S).bind fun r6 => some (r6.1, r6.2)) := by
      unfold f_X5_operand
      rw [ahead_eq hI, Option.bind_some, if_neg (hd_ne hx1 (by decide)), if_neg (hd_ne hx2 (by decide)), if_neg (hd_ne hx3 (by decide))]
    have hMm : ∀ M, RdM tx L S M → S.1 103 = -1 → f_X11_one F gm M = (f_X11_nameOf (if p < L then tx p else 0)).bind fun r2 => (if r2 < 0 then f_X11_one_L176 F gm F M 0 0 else chk (inr r2 7) (some (M.2.1 21 (r2).toNatClampNeg, sf M 17 ((M.1 17) + 1)))) := by
      intro M hM hfl
      unfold f_X11_one
      rw [if_pos (flt_no hM hfl).1, byte_eq hI hM, Option.bind_some, if_neg (by_ne hfl hx2 (by decide)), if_neg (by_ne hfl hx3 (by decide)), if_neg (by_ne hfl hx1 (by decide))]
    rw [hC]
    by_cases hd : ∃ ch, nxt tx L S p = some ch ∧ dig ch
    · obtain ⟨ch, hx, hdg⟩ := hd
      obtain ⟨hfl, hp, htx⟩ := nxt_some hx
      obtain ⟨x', p', b1, b0, b2, b3, b4, b5⟩ := num_loop (F := F) (Z := Z) (gm := gm) 4 0 F F p s S 0 (by omega) hI hfl (fun z => by omega) (fun _ => ⟨ch, hx, hdg⟩) (by omega) (by omega)
      have b0 := b0 rfl
      refine ⟨nI s, stp (sf S 102 (nI p')) s 48 x' (-1), p', s + 1, ?_, (hI.pl p' b1 b2).st b3, b1, by omega, by omega, RdF.pl.tr RdF.st (Nat.le_refl _), fun _ => ⟨hfl, Nat.lt_succ_self _, s, Nat.lt_succ_self _, rfl⟩, fun M hM hO => ?_⟩
      · rw [hd_eq hx, dig_y hdg, Option.bind_some, if_neg (by decide)]
        unfold f_X5_number
        show Option.bind (f_X5_number_L4 F Z F S 0 (nI 0)) _ = _
        rw [b4]
        rfl
      · refine ⟨x', sf M 17 (nI p'), ?_, (hM.pl p').st, MFr.pl, fun _ => ⟨hO hfl, fun rn er hr => ?_⟩⟩
        · rw [hMm M hM hfl, by_eq hx]
          rcases name_cases ch with ⟨j, -, -, -, hnd⟩ | ⟨-, hn⟩
          · exact absurd hdg hnd
          · rw [hn, Option.bind_some, if_pos (by decide)]
            exact b5 M hM
        · have ex2 : s = rn := (nI_eq (by omega) (by omega)).mp er
          subst ex2
          show vs (upd (S.2.1 1060) s 48) (upd (S.2.1 1061) s x') (upd (S.2.1 1062) s (-1)) (M.2.1 21) (s + 1) s = _
          exact vs_pushN
    · have hndC : ¬ dig ((nxt tx L S p).getD (-2)) := by
        cases hy : nxt tx L S p with
        | none => exact fun z => z.1 (by decide)
        | some c => exact fun z => hd ⟨c, hy, z⟩
      rw [dig_n hndC, Option.bind_some, if_pos rfl]
      by_cases hnm : ∃ ch j, nxt tx L S p = some ch ∧ j < 7 ∧ f_X5_nameOf ch = some (nI j) ∧ f_X11_nameOf ch = some (nI j)
      · obtain ⟨ch, j, hx, hj, n1, n2⟩ := hnm
        obtain ⟨hfl, hp, htx⟩ := nxt_some hx
        refine ⟨nI s, stp (sf S 102 (nI (p + 1))) s 107 (nI j) (-1), p + 1, s + 1, ?_, (hI.pl (p + 1) (by omega) (by omega)).st (by omega), by omega, by omega, by omega, RdF.pl.tr RdF.st (Nat.le_refl _), fun _ => ⟨hfl, Nat.lt_succ_self _, s, Nat.lt_succ_self _, rfl⟩, fun M hM hO => ?_⟩
        · rw [hd_eq hx, n1, Option.bind_some, if_pos (nI_pos' (by omega)), pl_eq hI, add_eq (hI.pl (p + 1) (by omega) (by omega)) (by omega)]
          rfl
        · refine ⟨M.2.1 21 j, sf M 17 (nI (p + 1)), ?_, (hM.pl (p + 1)).st, MFr.pl, fun _ => ⟨hO hfl, fun rn er hr => ?_⟩⟩
          · rw [hMm M hM hfl, by_eq hx, n2, Option.bind_some, if_neg (nI_pos (by omega)), inr_nI hj (by omega), chk_true, cl_nI (by omega), at_eq hI hM]
          · have ex2 : s = rn := (nI_eq (by omega) (by omega)).mp er
            subst ex2
            show vs (upd (S.2.1 1060) s 107) (upd (S.2.1 1061) s (nI j)) (upd (S.2.1 1062) s (-1)) (M.2.1 21) (s + 1) s = _
            exact vs_pushK hj
      · have hnC : f_X5_nameOf ((nxt tx L S p).getD (-2)) = some (-2) := by
          cases hy : nxt tx L S p with
          | none => rfl
          | some c =>
            rcases name_cases c with ⟨j, hj, n1, n2, -⟩ | ⟨n1, -⟩
            · exact absurd ⟨c, j, hy, hj, n1, n2⟩ hnm
            · exact n1
        rw [hnC, Option.bind_some, if_neg (by decide)]
        refine Spec.fail hI rfl (fun M hM hO => ?_)
        by_cases hfl : S.1 103 = -1
        · have hnd : ¬ dig (if p < L then tx p else 0) := by
            by_cases hp : p < L
            · rw [if_pos hp]; exact fun z => hd ⟨tx p, if_pos ⟨hfl, hp⟩, z⟩
            · rw [if_neg hp]; exact fun z => z.1 (by decide)
          have hnM : f_X11_nameOf (if p < L then tx p else 0) = some (-1) := by
            by_cases hp : p < L
            · rw [if_pos hp]
              rcases name_cases (tx p) with ⟨j, hj, n1, n2, -⟩ | ⟨-, n1⟩
              · exact absurd ⟨tx p, j, if_pos ⟨hfl, hp⟩, hj, n1, n2⟩ hnm
              · exact n1
            · rw [if_neg hp]; rfl
          rw [hMm M hM hfl, hnM, Option.bind_some, if_pos (by decide)]
          have hB : f_X11_one_B229 F gm M 0 0 = f_X11_wrong M := by
            unfold f_X11_one_B229
            rw [if_pos rfl]
            cases hw : f_X11_wrong M with
            | none => rfl
            | some q => rfl
          obtain ⟨f, hf⟩ : ∃ f, F = f + 1 := ⟨F - 1, by omega⟩
          have hun : f_X11_one_L176 F gm F M 0 0 = (f_X11_byteAt M).bind fun r6 => (if r6 < 48 then f_X11_one_B229 F gm M 0 0 else (f_X11_byteAt M).bind fun r7 => (if (57 : Int32) < r7 then f_X11_one_B229 F gm M 0 0 else (f_X11_byteAt M).bind fun r8 => f_X11_one_L176 F gm f (sf M 17 ((M.1 17) + 1)) (((10 * 0) + r8) - 48) (0 + 1))) := by
            rw [hf]
            simp only [f_X11_one_L176]
            rw [if_neg (by decide)]
          rw [hun, byte_eq hI hM, Option.bind_some]
          by_cases q1 : (if p < L then tx p else 0) < 48
          · rw [if_pos q1, hB]
          · rw [if_neg q1, Option.bind_some, if_pos (Classical.byContradiction fun q2 => hnd ⟨q1, q2⟩), hB]
        · unfold f_X11_one
          rw [if_neg (flt_yes hI hM hfl).1, wrong_flt (flt_yes hI hM hfl).2]
end
