/-! reading: a whole law, and what it comes to for all names -/
def MFw (M M' : St) : Prop := M'.2 = M.2 ∧ ∀ j, j < 16 ∨ 20 < j → M'.1 j = M.1 j
def lawOK (F : Nat) (f : (Nat → Int32) → Int32) (tx : Nat → Int32) (L : Nat) : Prop := ∀ (M : St) (b : Nat), b + L ≤ 360 → (∀ i, i < L → M.2.1 14 (b + i) = tx i) → ∃ M', f_X11_workOut F M (nI b) (nI L) = some (f (M.2.1 21), M') ∧ MFw M M'
abbrev ansS (k : Nat) (S : St) (s l : Nat) : (Nat → Int32) → Int32 := ansF (S.2.1 (1000 + 20 * k)) (S.2.1 (1001 + 20 * k)) (S.2.1 (1002 + 20 * k)) (S.2.1 (1003 + 20 * k)) (S.2.1 (1004 + 20 * k)) s l
section
variable {F : Nat} {Z : Zt} {tx : Nat → Int32} {L p s l : Nat} {S M : St}
theorem L33_1 {n : Nat} {x3 x4 : Int32} : f_X11_workOut_L33 F (n + 1) M x3 x4 1 = mline F (f_X11_workOut_L33 F n) M x3 x4 := by
  simp only [f_X11_workOut_L33]
  rw [if_neg (by decide)]
  rfl
theorem L33_0 {n : Nat} {x3 x4 : Int32} : f_X11_workOut_L33 F (n + 1) M x3 x4 0 = if (0 : Int32) ≤ (M.1 19) then some (x4, M) else if (M.1 18) ≤ (M.1 17) then some (x4, M) else (f_X11_wrong M).bind fun r1 => some (r1.1, r1.2) := by
  simp only [f_X11_workOut_L33]
  rw [if_pos trivial]
theorem Hit.val {nm : Nat → Int32} {x3 x4 : Int32} (hH : Hit S nm s l x3 x4) : x4 = ansS 3 S s l nm := by
  show x4 = (hitP (S.2.1 1063) (S.2.1 1064) (ev S nm s) l).getD 0
  rcases hH with ⟨-, e, hh⟩ | ⟨-, hh⟩
  · rw [hh, e]; rfl
  · rw [hh]; rfl
theorem read_end (hI : RdI tx L S p s) (hL : LnI S s l) (hx : ¬ nxt tx L S p = some 59) : ∃ S2, f_X5_read_B48 F Z S = some (S2.1 103, sf S2 101 0) ∧ RdG S S2 ∧ (S2.1 103 = -1 ∨ ∃ q, q ≤ 120 ∧ S2.1 103 = nI q) ∧ (S2.1 103 = -1 → S2.1 1065 = nI s ∧ LnI S2 s l) ∧
    ∀ (M : St) (x3 x4 : Int32) (n : Nat), RdM tx L S M → (S.1 103 = -1 → M.1 20 = 0 ∧ Hit S (M.2.1 21) s l x3 x4) → ∃ v M', ((f_X11_takes M 59).bind fun r => f_X11_workOut_L33 F (n + 1) r.2 x3 x4 r.1) = some (v, M') ∧ M'.1 19 = S2.1 103 ∧ MFr M M' ∧ (S2.1 103 = -1 → v = ansS 3 S2 s l (M.2.1 21)) := by
  have hLL := hI.2.2.1
  have hpL := hI.2.2.2.2.1
  have hmm : ∀ (M : St) (x3 x4 : Int32) (n : Nat), RdM tx L S M → ((f_X11_takes M 59).bind fun r => f_X11_workOut_L33 F (n + 1) r.2 x3 x4 r.1) = if (0 : Int32) ≤ (M.1 19) then some (x4, M) else if (M.1 18) ≤ (M.1 17) then some (x4, M) else (f_X11_wrong M).bind fun r1 => some (r1.1, r1.2) := by
    intro M x3 x4 n hM
    rw [takes_eq hI hM (by decide), if_neg hx]
    exact L33_0 (F := F) (n := n) (x3 := x3) (x4 := x4)
  unfold f_X5_read_B48
  by_cases hp : p < L
  · obtain ⟨S4, e4, hI4, hF4, hf4, hw4⟩ := fail_ok (Z := Z) hI
    refine ⟨S4, ?_, hF4.g, hI4.2.2.2.2.2.2.2, fun q => absurd q hf4, fun M x3 x4 n hM hV => ?_⟩
    · rw [hI.2.1, hI.2.2.2.1, if_neg (nI_ge hp (by omega)), e4]
      rfl
    · obtain ⟨M4, w4, hM4, fr4⟩ := hw4 M hM
      rw [hmm M x3 x4 n hM]
      by_cases hf : S.1 103 = -1
      · refine ⟨0, M4, ?_, hM4.2.1, fr4, fun q => absurd q hf4⟩
        rw [if_neg (flt_no hM hf).2, hM.2.2.1, hM.1, hI.2.2.2.1, if_neg (nI_ge hp (by omega)), w4]
        rfl
      · rw [wrong_flt (flt_yes hI hM hf).2] at w4
        cases w4
        exact ⟨x4, M, if_pos (flt_yes hI hM hf).2, hM4.2.1, MFr.rf, fun q => absurd q hf4⟩
  · refine ⟨S, ?_, RdG.rf, hI.2.2.2.2.2.2.2, fun q => ⟨hI.2.2.2.2.2.1, hL⟩, fun M x3 x4 n hM hV => ?_⟩
    · rw [hI.2.1, hI.2.2.2.1, if_pos (nI_le (by omega) (by omega))]
    · rw [hmm M x3 x4 n hM]
      refine ⟨x4, M, ?_, hM.2.1, MFr.rf, fun q => (hV q).2.val⟩
      split
      · rfl
      · rw [hM.2.2.1, hM.1, hI.2.2.2.1, if_pos (nI_le (by omega) (by omega))]
theorem read_loop (hF : 200 ≤ F) : ∀ (k n n' i : Nat) (S : St) (p s l : Nat), RdI tx L S p s → LnI S s l → L - p = k → i ≤ p → k < n → k < n' → ∃ S2 s2 l2, f_X5_read_L23 F Z n S (nI i) = some (S2.1 103, sf S2 101 0) ∧ RdG S S2 ∧ (S2.1 103 = -1 ∨ ∃ q, q ≤ 120 ∧ S2.1 103 = nI q) ∧ (S2.1 103 = -1 → s2 ≤ 120 ∧ S2.1 1065 = nI s2 ∧ LnI S2 s2 l2) ∧
    ∀ (M : St) (x3 x4 : Int32), RdM tx L S M → (S.1 103 = -1 → M.1 20 = 0 ∧ Hit S (M.2.1 21) s l x3 x4) → ∃ v M', ((f_X11_takes M 59).bind fun r => f_X11_workOut_L33 F n' r.2 x3 x4 r.1) = some (v, M') ∧ M'.1 19 = S2.1 103 ∧ MFr M M' ∧ (S2.1 103 = -1 → v = ansS 3 S2 s2 l2 (M.2.1 21)) := by
  intro k
  induction k using Nat.strongRecOn with
  | _ k ih =>
    intro n n' i S p s l hI hL hk hi hn hn'
    obtain ⟨n, rfl⟩ : ∃ q, n = q + 1 := ⟨n - 1, by omega⟩
    obtain ⟨n', rfl⟩ : ∃ q, n' = q + 1 := ⟨n' - 1, by omega⟩
    have hLL := hI.2.2.1
    by_cases hx : nxt tx L S p = some 59
    · obtain ⟨hf, hp, -⟩ := nxt_some hx
      have hsp := hI.2.2.2.2.2.2.1
      obtain ⟨S3, p3, s3, l3, e3, hI3, a1, hL3, hG3, g3, k3⟩ := line_ok (Z := Z) hF (hI.pl (p + 1) (by omega) (by omega)) (show LnI (sf S 102 (nI (p + 1))) s l from hL)
      obtain ⟨S2, s2, l2, b1, b2, b3, b4, b5⟩ := ih (L - p3) (by omega) n n' (i + 1) S3 p3 s3 l3 hI3 hL3 rfl (by omega) (by omega) (by omega)
      refine ⟨S2, s2, l2, ?_, (RdF.pl (s := 0)).g.tr (hG3.tr b2), b3, b4, fun M x3 x4 hM hV => ?_⟩
      · simp only [f_X5_read_L23]
        rw [if_neg (i120 (by omega)), took_eq hI (by decide), if_pos hx]
        show Option.bind (f_X5_readLine F Z (sf S 102 (nI (p + 1)))) _ = _
        rw [e3, ← b1, ← nI_1]
        rfl
      · obtain ⟨M3, x3', x4', c1, c2, c3, c4⟩ := k3 (f_X11_workOut_L33 F n') (sf M 17 (nI (p + 1))) x3 x4 (hM.pl (p + 1)) (fun q => hV q)
        have hrow : M3.2.1 21 = M.2.1 21 := by rw [c3.1]; rfl
        obtain ⟨v, M', d1, d2, d3, d4⟩ := b5 M3 x3' x4' c2 (fun q => by rw [hrow]; exact c4 q)
        rw [hrow] at d4
        refine ⟨v, M', ?_, d2, (MFr.pl.tr c3).tr d3, d4⟩
        rw [takes_eq hI hM (by decide), if_pos hx]
        show f_X11_workOut_L33 F (n' + 1) (sf M 17 (nI (p + 1))) x3 x4 1 = _
        rw [L33_1, c1, d1]
    · obtain ⟨S2, e2, hG, b3, b4, b5⟩ := read_end (F := F) (Z := Z) hI hL hx
      refine ⟨S2, s, l, ?_, hG, b3, fun q => ⟨by have := hI.2.2.2.2.1; have := hI.2.2.2.2.2.2.1; omega, (b4 q).1, (b4 q).2⟩, fun M x3 x4 hM hV => b5 M x3 x4 n' hM hV⟩
      simp only [f_X5_read_L23]
      split
      · exact e2
      · rw [took_eq hI (by decide), if_neg hx]
        exact e2
def rs0 (S : St) : St := sf (sf (sf (sf S 102 0) 103 (-1)) 1065 0) 1066 0
def ms0 (M : St) (b a : Int32) : St := sf (sf (sf (sf (sf M 16 b) 17 0) 18 a) 19 (-1)) 20 0
theorem ms0_w {M M' : St} {b a : Int32} (hf : MFr (ms0 M b a) M') : MFw M M' := ⟨hf.1, fun j hj => (hf.2 j (by omega) (by omega) (by omega)).trans (by
  show (if j = 20 then _ else if j = 19 then _ else if j = 18 then _ else if j = 17 then _ else if j = 16 then _ else M.1 j) = M.1 j
  rw [if_neg (by omega), if_neg (by omega), if_neg (by omega), if_neg (by omega), if_neg (by omega)])⟩
theorem read_ok (hF : 200 ≤ F) (hlen : S.1 101 = nI L) (hL : L ≤ 120) : ∃ flt S', f_X5_read F Z S = some (flt, S') ∧ S'.2.2 = S.2.2 ∧ (∀ j, j ≠ 101 → j ≠ 102 → j ≠ 103 → j ≠ 1065 → j ≠ 1066 → S'.1 j = S.1 j) ∧ (∀ j, j < 1060 ∨ 1064 < j → S'.2.1 j = S.2.1 j) ∧ S'.1 101 = 0 ∧ (flt = -1 ∨ ∃ q, q ≤ 120 ∧ flt = nI q) ∧
    (flt = -1 → ∃ s l, s ≤ 120 ∧ l ≤ 120 ∧ S'.1 1065 = nI s ∧ S'.1 1066 = nI l ∧ (∀ i, i < l → lineOK s (S'.2.1 1063 i) (S'.2.1 1064 i)) ∧ lawOK F (ansS 3 S' s l) (S.2.1 100) L) ∧
    ∀ M, (∀ i, i < L → M.2.1 12 i = S.2.1 100 i) → ∃ v M', f_X11_workOut F M (-1) (nI L) = some (v, M') ∧ M'.1 19 = flt ∧ MFw M M' := by
  have hI0 : RdI (S.2.1 100) L (rs0 S) 0 0 := ⟨rfl, hlen, hL, rfl, Nat.zero_le _, rfl, Nat.zero_le _, Or.inl rfl⟩
  have hL0 : LnI (rs0 S) 0 0 := ⟨rfl, Nat.zero_le _, fun _ => ⟨Nat.le_refl _, fun i hi => absurd hi (Nat.not_lt_zero _)⟩⟩
  obtain ⟨S3, p3, s3, l3, e3, hI3, a1, hL3, hG3, g3, k3⟩ := line_ok (Z := Z) hF hI0 hL0
  obtain ⟨f, hf⟩ : ∃ f, F = f + 1 := ⟨F - 1, by omega⟩
  obtain ⟨S2, s2, l2, b1, b2, b3, b4, b5⟩ := read_loop (Z := Z) hF (L - p3) F f 0 S3 p3 s3 l3 hI3 hL3 rfl (Nat.zero_le _) (by omega) (by omega)
  have hG : RdG (rs0 S) S2 := hG3.tr b2
  have hwork : ∀ (M : St) (b : Int32), RdM (S.2.1 100) L (rs0 S) (ms0 M b (nI L)) → ∃ v M', f_X11_workOut F M b (nI L) = some (v, M') ∧ M'.1 19 = S2.1 103 ∧ MFw M M' ∧ (S2.1 103 = -1 → v = ansS 3 S2 s2 l2 (M.2.1 21)) := by
    intro M b hM
    obtain ⟨M3, x3', x4', c1, c2, c3, c4⟩ := k3 (f_X11_workOut_L33 F f) (ms0 M b (nI L)) 0 0 hM (fun _ => ⟨rfl, Or.inl ⟨rfl, rfl, rfl⟩⟩)
    have hrow : M3.2.1 21 = M.2.1 21 := by rw [c3.1]; rfl
    obtain ⟨v, M', d1, d2, d3, d4⟩ := b5 M3 x3' x4' c2 (fun q => by rw [hrow]; exact c4 q)
    rw [hrow] at d4
    refine ⟨v, M', ?_, d2, ms0_w (c3.tr d3), d4⟩
    show f_X11_workOut_L33 F F (ms0 M b (nI L)) 0 0 1 = _
    have hun : f_X11_workOut_L33 F F (ms0 M b (nI L)) 0 0 1 = f_X11_workOut_L33 F (f + 1) (ms0 M b (nI L)) 0 0 1 := by rw [← hf]
    rw [hun, L33_1, c1, d1]
  refine ⟨S2.1 103, sf S2 101 0, ?_, hG.1, fun j q1 q2 q3 q4 q5 => ?_, fun j hj => ?_, rfl, b3, fun q => ?_, fun M hM => ?_⟩
  · unfold f_X5_read
    show Option.bind (f_X5_readLine F Z (rs0 S)) _ = _
    rw [e3]
    exact b1
  · show (if j = 101 then _ else S2.1 j) = _
    rw [if_neg q1, hG.2.1 j q2 q3 q4 q5]
    show (if j = 1066 then _ else if j = 1065 then _ else if j = 103 then _ else if j = 102 then _ else S.1 j) = _
    rw [if_neg q5, if_neg q4, if_neg q3, if_neg q2]
  · exact hG.2.2 j (by omega) (by omega) (by omega) (by omega) (by omega)
  · obtain ⟨w1, w2, w3, w4, w5⟩ := b4 q
    refine ⟨s2, l2, w1, w4, w2, w3, (w5 q).2, fun M b hb hM => ?_⟩
    obtain ⟨v, M', d1, d2, d3, d4⟩ := hwork M (nI b) ⟨rfl, rfl, rfl, Or.inr ⟨b, rfl, hb, hM⟩⟩
    exact ⟨M', by rw [d1, d4 q]; rfl, d3⟩
  · obtain ⟨v, M', d1, d2, d3, -⟩ := hwork M (-1) ⟨rfl, rfl, rfl, Or.inl ⟨show (-1 : Int32) < 0 from by decide, hM⟩⟩
    exact ⟨v, M', d1, d2, d3⟩
end
