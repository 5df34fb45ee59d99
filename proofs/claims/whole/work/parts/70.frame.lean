/-! what a part of the relation hangs on -/
section
variable {F : Nat} {Z Z' : Zt} {S S' M M' : St} {nm nv nd nb B b : Nat}
theorem KSky.fr (h : KSky S M nm nv) (a : S'.1 148 = S.1 148 ∧ S'.1 149 = S.1 149 ∧ S'.2.1 140 = S.2.1 140 ∧ S'.2.1 141 = S.2.1 141 ∧ S'.2.1 142 = S.2.1 142 ∧ S'.2.1 144 = S.2.1 144 ∧ S'.2.1 145 = S.2.1 145 ∧ S'.2.1 146 = S.2.1 146) (b : M'.1 6 = M.1 6 ∧ M'.1 8 = M.1 8 ∧ M'.2.1 7 = M.2.1 7 ∧ M'.2.1 9 = M.2.1 9 ∧ M'.2.1 10 = M.2.1 10 ∧ M'.2.1 11 = M.2.1 11) (c : ∀ k, k < 6 → M'.2.1 0 k = M.2.1 0 k) : KSky S' M' nm nv := by
  obtain ⟨a1, a2, a3, a4, a5, a6, a7, a8⟩ := a
  obtain ⟨b1, b2, b3, b4, b5, b6⟩ := b
  obtain ⟨h1, h2, h3, h4, h5, h6, h7⟩ := h
  have hnm := h1.2.2
  unfold KSky
  rw [a1, a2, a3, a6, a7, a8, b1, b2, b3, b4, b5, b6, a4, a5]
  refine ⟨h1, h2, h3, fun k hk => ?_, fun k hk => ?_, h6, h7⟩
  · rw [c k (by omega), c (3 + k) (by omega)]; exact h4 k hk
  · rw [c k (by omega), c (3 + k) (by omega)]; exact h5 k hk
theorem KBook.fr (h : KBook S M nd) (a : S'.1 24 = S.1 24 ∧ S'.2.1 20 = S.2.1 20 ∧ S'.2.1 21 = S.2.1 21 ∧ S'.2.1 22 = S.2.1 22 ∧ S'.2.1 23 = S.2.1 23) (b : M'.1 22 = M.1 22 ∧ M'.2.1 23 = M.2.1 23 ∧ M'.2.1 24 = M.2.1 24) (c : ∀ k, 6 ≤ k → k < 30 → M'.2.1 0 k = M.2.1 0 k) : KBook S' M' nd := by
  obtain ⟨a1, a2, a3, a4, a5⟩ := a
  obtain ⟨b1, b2, b3⟩ := b
  obtain ⟨h1, h2, h3, h4⟩ := h
  have hnd := h1.2.2
  unfold KBook
  rw [a1, a2, a3, a4, a5, b1, b2, b3]
  refine ⟨h1, h2, fun d hd => ?_, fun d hd => ?_⟩
  · rw [c (6 + d) (by omega) (by omega), c (18 + d) (by omega) (by omega)]; exact h3 d hd
  · rw [c (6 + d) (by omega) (by omega), c (18 + d) (by omega) (by omega)]; exact h4 d hd
theorem KTape.fr (h : KTape S M) (a : S'.2.1 100 = S.2.1 100 ∧ S'.1 101 = S.1 101) (b : M'.2.1 12 = M.2.1 12 ∧ M'.1 13 = M.1 13) : KTape S' M' := by
  unfold KTape
  rw [a.1, a.2, b.1, b.2]
  exact h
theorem KVows.fr {nd' nv' : Nat} (h : KVows S M nd nv) (a : S'.1 186 = S.1 186 ∧ S'.2.1 183 = S.2.1 183 ∧ S'.2.1 184 = S.2.1 184 ∧ S'.2.1 185 = S.2.1 185) (b : M'.1 31 = M.1 31 ∧ M'.2.1 32 = M.2.1 32 ∧ M'.2.1 33 = M.2.1 33) (hd : nd ≤ nd') (hv : nv ≤ nv') : KVows S' M' nd' nv' := by
  obtain ⟨n, h1, h2, h3, h4⟩ := h
  unfold KVows
  rw [a.1, a.2.1, a.2.2.1, a.2.2.2, b.1, b.2.1, b.2.2]
  refine ⟨n, h1, h2, h3, fun p hp => ?_⟩
  obtain ⟨d, v, hh, q1, q2, q3, q4⟩ := h4 p hp
  exact ⟨d, v, hh, by omega, by omega, q3, q4⟩
theorem chV.fr {nm' nd' n w v : Nat} (h : chV M nm nd w n v) (hr : ∀ k, k < nm → M'.2.1 7 k = M.2.1 7 k) (h1 : nm ≤ nm') (h2 : nd ≤ nd') : chV M' nm' nd' w n v := by
  rcases h with ⟨q1, q2, q3⟩ | ⟨q1, q2, q3⟩ | ⟨q1, q2, q3⟩ | ⟨q1, q2, q3⟩
  · exact Or.inl ⟨q1, by omega, by rw [hr n q2]; exact q3⟩
  · exact Or.inr (Or.inl ⟨q1, by omega, by rw [hr n q2]; exact q3⟩)
  · exact Or.inr (Or.inr (Or.inl ⟨q1, by omega, q3⟩))
  · exact Or.inr (Or.inr (Or.inr ⟨q1, by omega, q3⟩))
theorem KChg.fr {nm' nd' : Nat} (h : KChg S M nm nd) (a : S'.1 66 = S.1 66 ∧ S'.1 67 = S.1 67 ∧ S'.2.1 62 = S.2.1 62 ∧ S'.2.1 63 = S.2.1 63 ∧ S'.2.1 64 = S.2.1 64 ∧ S'.2.1 65 = S.2.1 65) (b : M'.1 4 = M.1 4 ∧ M'.1 5 = M.1 5 ∧ M'.2.1 1 = M.2.1 1 ∧ M'.2.1 2 = M.2.1 2 ∧ M'.2.1 3 = M.2.1 3) (hr : ∀ k, k < nm → M'.2.1 7 k = M.2.1 7 k) (h1 : nm ≤ nm') (h2 : nd ≤ nd') : KChg S' M' nm' nd' := by
  obtain ⟨a1, a2, a3, a4, a5, a6⟩ := a
  obtain ⟨b1, b2, b3, b4, b5⟩ := b
  obtain ⟨dn, kp, q1, q2, q3, q4, q5, q6, q7⟩ := h
  unfold KChg
  rw [a1, a2, a3, a4, a5, a6, b1, b2, b3, b4, b5]
  refine ⟨dn, kp, q1, q2, q3, q4, q5, q6, fun i hi => ?_⟩
  obtain ⟨n, w, v1, v2, w1, w2, w3, w4, w5, w6, w7, w8, w9⟩ := q7 i hi
  exact ⟨n, w, v1, v2, w1, w2, w3, w4, w5, w6, w7, w8.fr hr h1 h2, w9.fr hr h1 h2⟩
theorem KActs.fr (h : KActs S M nb) (a : S'.1 2 = S.1 2 ∧ S'.1 3 = S.1 3 ∧ S'.2.1 0 = S.2.1 0 ∧ S'.2.1 1 = S.2.1 1) (b : M'.1 34 = M.1 34 ∧ M'.1 37 = M.1 37 ∧ M'.2.1 35 = M.2.1 35 ∧ M'.2.1 36 = M.2.1 36) : KActs S' M' nb := by
  unfold KActs
  rw [a.1, a.2.1, a.2.2.1, a.2.2.2, b.1, b.2.1, b.2.2.1, b.2.2.2]
  exact h
theorem shOK.fr {nb' d : Nat} (h : shOK S M nb d) (hb : nb ≤ nb') (a : S'.2.1 120 d = S.2.1 120 d ∧ S'.2.1 121 d = S.2.1 121 d ∧ S'.2.1 122 d = S.2.1 122 d ∧ ∀ i, i < 60 → S'.2.2 123 (60 * d + i) = S.2.2 123 (60 * d + i)) (b : M'.2.1 40 d = M.2.1 40 d ∧ M'.2.1 41 d = M.2.1 41 d ∧ ∀ i, i < 60 → M'.2.2 42 (60 * d + i) = M.2.2 42 (60 * d + i)) : shOK S' M' nb' d := by
  obtain ⟨a1, a2, a3, a4⟩ := a
  obtain ⟨b1, b2, b3⟩ := b
  unfold shOK
  rw [a1, a2, a3, b1, b2]
  rcases h with h | ⟨q1, b, q2, q3⟩ | ⟨q, n, q1, q2, q3, q4, q5, q6, q7, q8⟩
  · exact Or.inl h
  · exact Or.inr (Or.inl ⟨q1, b, by omega, q3⟩)
  · refine Or.inr (Or.inr ⟨q, n, q1, q2, q3, q4, q5, q6, fun i hi => ?_, fun e i hi => ?_⟩)
    · rw [a4 i hi, b3 i hi]; exact q7 i hi
    · rw [b3 i hi]; exact q8 e i hi
theorem KShelf.fr {nb' : Nat} (h : KShelf S M nb) (hb : nb ≤ nb') (a : S'.2.1 120 = S.2.1 120 ∧ S'.2.1 121 = S.2.1 121 ∧ S'.2.1 122 = S.2.1 122 ∧ S'.2.2 123 = S.2.2 123) (b : M'.2.1 40 = M.2.1 40 ∧ M'.2.1 41 = M.2.1 41 ∧ M'.2.2 42 = M.2.2 42) : KShelf S' M' nb' := fun d hd =>
  (h d hd).fr hb ⟨by rw [a.1], by rw [a.2.1], by rw [a.2.2.1], fun i _ => by rw [a.2.2.2]⟩ ⟨by rw [b.1], by rw [b.2.1], fun i _ => by rw [b.2.2]⟩
/-- one law's places -/
def lwS (S : St) (Z : Zt) (S' : St) (Z' : Zt) (k : Nat) : Prop := Z'.2 k = Z.2 k ∧ S'.1 (1005 + 20 * k) = S.1 (1005 + 20 * k) ∧ S'.1 (1006 + 20 * k) = S.1 (1006 + 20 * k) ∧ S'.2.1 (1000 + 20 * k) = S.2.1 (1000 + 20 * k) ∧ S'.2.1 (1001 + 20 * k) = S.2.1 (1001 + 20 * k) ∧ S'.2.1 (1002 + 20 * k) = S.2.1 (1002 + 20 * k) ∧ S'.2.1 (1003 + 20 * k) = S.2.1 (1003 + 20 * k) ∧ S'.2.1 (1004 + 20 * k) = S.2.1 (1004 + 20 * k)
theorem lwOK.fr {nm' k : Nat} (h : lwOK F S Z M nm k) (hk : nm ≤ nm') (hl : lwS S Z S' Z' k) (b1 : M'.2.1 15 k = M.2.1 15 k) (b2 : ∀ i, i < 120 → M'.2.1 14 (120 * k + i) = M.2.1 14 (120 * k + i)) : lwOK F S' Z' M' nm' k := by
  obtain ⟨a1, a2, a3, a4, a5, a6, a7, a8⟩ := hl
  unfold lwOK ansS
  rw [a1, a2, a3, a4, a5, a6, a7, a8, b1]
  rcases h with h | ⟨q1, q2, L, s, l, q3, q4, q5, q6, q7, q8, q9, q10⟩
  · exact Or.inl h
  · refine Or.inr ⟨q1, by omega, L, s, l, q3, q4, q5, q6, q7, q8, q9, fun M1 b hb he => q10 M1 b hb (fun i hi => ?_)⟩
    show _ = M.2.1 14 (120 * k + i)
    rw [← b2 i (by omega)]
    exact he i hi
theorem KLaw.fr {nm' : Nat} (h : KLaw F S Z M nm) (hk : nm ≤ nm') (hl : lwS S Z S' Z' 0 ∧ lwS S Z S' Z' 1 ∧ lwS S Z S' Z' 2) (b : M'.2.1 14 = M.2.1 14 ∧ M'.2.1 15 = M.2.1 15) : KLaw F S' Z' M' nm' := by
  intro k h3
  refine (h k h3).fr hk ?_ (by rw [b.2]) (fun i _ => by rw [b.1])
  match k, h3 with
  | 0, _ => exact hl.1
  | 1, _ => exact hl.2.1
  | 2, _ => exact hl.2.2
theorem LW.fr {k : Nat} (hl : lwS S Z S' Z' k) : LW S' Z' k = LW S Z k := by
  obtain ⟨a1, a2, a3, a4, a5, a6, a7, a8⟩ := hl
  unfold LW ansS
  rw [a1, a2, a3, a4, a5, a6, a7, a8]
theorem KCt.fr (h : KCt S Z b) (a : Z'.1 (b + 6) = Z.1 (b + 6) ∧ S'.1 (b + 7) = S.1 (b + 7) ∧ S'.2.1 (b + 6) = S.2.1 (b + 6)) : KCt S' Z' b := by
  unfold KCt
  rw [a.1, a.2.1, a.2.2]
  exact h
theorem cst.fr {W W' : Nat → Option ((Nat → Int32) → Int32)} (h : W' 0 = W 0 ∧ W' 1 = W 1 ∧ W' 2 = W 2) (so hr wh : Int32) (v n h' set : Nat) : cst W' so hr wh v n h' set = cst W so hr wh v n h' set := by
  have e : ∀ k, W' k = W k → ∀ s nm, one3 W' k s nm = one3 W k s nm := fun k hk s nm => by
    unfold one3
    rw [hk]
  unfold cst
  rw [e 0 h.1, e 1 h.2.1, e 2 h.2.2]
theorem KMemo.le {B' : Nat} (h : KMemo S Z M nd B) (hB : B ≤ B') : KMemo S Z M nd B' := by
  obtain ⟨st, h4, h5⟩ := h
  exact ⟨st, by omega, h5⟩
theorem KMemo.fr {nd' : Nat} (h : KMemo S Z M nd B) (hd : nd ≤ nd') (h12 : nd' ≤ 12) (hl : lwS S Z S' Z' 0 ∧ lwS S Z S' Z' 1 ∧ lwS S Z S' Z' 2) (m : M'.1 29 = M.1 29 ∧ M'.2.1 25 = M.2.1 25 ∧ M'.2.1 26 = M.2.1 26 ∧ M'.2.1 27 = M.2.1 27 ∧ M'.2.1 28 = M.2.1 28) (r : ∀ d, d < nd → M'.2.1 23 d = M.2.1 23 d ∧ M'.2.1 0 (6 + d) = M.2.1 0 (6 + d) ∧ M'.2.1 24 d = M.2.1 24 d) : KMemo S' Z' M' nd' B := by
  obtain ⟨st, h1, h2, h3, h4, h5⟩ := h
  obtain ⟨m1, m2, m3, m4, m5⟩ := m
  unfold KMemo
  rw [m1, m2, m3, m4, m5]
  refine ⟨st, h1, h2, fun d hd' => ?_, h4, fun d hd' hne => ?_⟩
  · obtain ⟨x, x1, x2, x3⟩ := h3 d hd'
    exact ⟨x, x1, x2, fun q => x3 (by omega)⟩
  · by_cases q : d < nd
    · obtain ⟨r1, r2, r3⟩ := r d q
      obtain ⟨v, v1, v2, v3⟩ := h5 d q hne
      refine ⟨v, v1, v2, fun set n hh w1 w2 w3 w4 => ?_⟩
      rw [r1, r2, r3, v3 set n hh w1 w2 w3 w4]
      exact (cst.fr ⟨LW.fr hl.1, LW.fr hl.2.1, LW.fr hl.2.2⟩ _ _ _ _ _ _ _).symm
    · obtain ⟨x, x1, x2, x3⟩ := h3 d (by omega)
      rw [x2, x3 (by omega)] at hne
      exact absurd rfl hne
/-- nothing is known any more -/
theorem KMemo.zero {nd' : Nat} (h : KMemo S Z M nd B) (h12 : nd' ≤ 12) (m : M'.1 29 = M.1 29 ∧ M'.2.1 26 = M.2.1 26) (hz : ∀ d, d < 12 → M'.2.1 27 d = 0) : KMemo S' Z' M' nd' B := by
  obtain ⟨st, h1, h2, h3, h4, h5⟩ := h
  unfold KMemo
  rw [m.1, m.2]
  exact ⟨st, h1, h2, fun d hd => ⟨0, Nat.zero_le _, hz d hd, fun _ => rfl⟩, h4, fun d hd hne => absurd (hz d (by omega)) hne⟩
/-- but for the courts and what roads come to -/
def SC (S S' : St) : Prop := (∀ j, (j < 80 ∨ 99 < j) → (j < 300 ∨ 319 < j) → S'.1 j = S.1 j) ∧ (∀ j, (j < 80 ∨ 99 < j) → (j < 300 ∨ 319 < j) → j ≠ 147 → S'.2.1 j = S.2.1 j) ∧ S'.2.2 = S.2.2
def MC (M M' : St) : Prop := (∀ j, (j < 16 ∨ 20 < j) → j ≠ 29 → M'.1 j = M.1 j) ∧ (∀ j, (j < 25 ∨ 28 < j) → j ≠ 21 → j ≠ 1030 → M'.2.1 j = M.2.1 j) ∧ M'.2.2 = M.2.2
/-- roads as well -/
def MCw (M M' : St) : Prop := (∀ j, (j < 16 ∨ 20 < j) → j ≠ 29 → M'.1 j = M.1 j) ∧ (∀ j, (j < 25 ∨ 28 < j) → j ≠ 21 → (j ≠ 30 ∧ j ≠ 1030) → M'.2.1 j = M.2.1 j) ∧ M'.2.2 = M.2.2
theorem MC.w (b : MC M M') : MCw M M' := ⟨b.1, fun j p q r => b.2.1 j p q r.2, b.2.2⟩
theorem SC.rf : SC S S := ⟨fun _ _ _ => rfl, fun _ _ _ _ => rfl, rfl⟩
theorem MC.rf : MC M M := ⟨fun _ _ _ => rfl, fun _ _ _ _ => rfl, rfl⟩
theorem SC.tr {S1 : St} (a : SC S S1) (b : SC S1 S') : SC S S' := ⟨fun j p q => (b.1 j p q).trans (a.1 j p q), fun j p q r => (b.2.1 j p q r).trans (a.2.1 j p q r), b.2.2.trans a.2.2⟩
theorem MC.tr {M1 : St} (a : MC M M1) (b : MC M1 M') : MC M M' := ⟨fun j p q => (b.1 j p q).trans (a.1 j p q), fun j p q r => (b.2.1 j p q r).trans (a.2.1 j p q r), b.2.2.trans a.2.2⟩
theorem SC.lw (a : SC S S') (hz : Z'.2 = Z.2) (k : Nat) : lwS S Z S' Z' k := ⟨by rw [hz], a.1 _ (by omega) (by omega), a.1 _ (by omega) (by omega), a.2.1 _ (by omega) (by omega) (by omega), a.2.1 _ (by omega) (by omega) (by omega), a.2.1 _ (by omega) (by omega) (by omega), a.2.1 _ (by omega) (by omega) (by omega), a.2.1 _ (by omega) (by omega) (by omega)⟩
theorem KSky.cw (h : KSky S M nm nv) (a : SC S S') (b : MCw M M') : KSky S' M' nm nv := by
  have A := a.1
  have A2 := a.2.1
  have B := b.1
  have B2 := b.2.1
  exact h.fr ⟨A _ (by omega) (by omega), A _ (by omega) (by omega), A2 _ (by omega) (by omega) (by omega), A2 _ (by omega) (by omega) (by omega), A2 _ (by omega) (by omega) (by omega), A2 _ (by omega) (by omega) (by omega), A2 _ (by omega) (by omega) (by omega), A2 _ (by omega) (by omega) (by omega)⟩ ⟨B _ (by omega) (by omega), B _ (by omega) (by omega), B2 _ (by omega) (by omega) (by omega), B2 _ (by omega) (by omega) (by omega), B2 _ (by omega) (by omega) (by omega), B2 _ (by omega) (by omega) (by omega)⟩ (fun k _ => by rw [B2 0 (by omega) (by omega) (by omega)])
theorem RV.cw (h : RV F S Z M nm nv nd nb) (a : SC S S') (b : MCw M M') (hz : Z'.2 = Z.2) : RV F S' Z' M' nm nv nd nb := by
  obtain ⟨h1, h2, h3, h4, h5, h6, h7, h8⟩ := h
  have A := a.1
  have A2 := a.2.1
  have B := b.1
  have B2 := b.2.1
  have e0 : M'.2.1 0 = M.2.1 0 := B2 0 (by omega) (by omega) (by omega)
  refine ⟨h1.cw a b, ?_, ?_, ?_, ?_, ?_, ?_, ?_⟩
  · exact h2.fr ⟨A _ (by omega) (by omega), A2 _ (by omega) (by omega) (by omega), A2 _ (by omega) (by omega) (by omega), A2 _ (by omega) (by omega) (by omega), A2 _ (by omega) (by omega) (by omega)⟩ ⟨B _ (by omega) (by omega), B2 _ (by omega) (by omega) (by omega), B2 _ (by omega) (by omega) (by omega)⟩ (fun k _ _ => by rw [e0])
  · exact h3.fr ⟨A2 _ (by omega) (by omega) (by omega), A _ (by omega) (by omega)⟩ ⟨B2 _ (by omega) (by omega) (by omega), B _ (by omega) (by omega)⟩
  · exact h4.fr ⟨A _ (by omega) (by omega), A2 _ (by omega) (by omega) (by omega), A2 _ (by omega) (by omega) (by omega), A2 _ (by omega) (by omega) (by omega)⟩ ⟨B _ (by omega) (by omega), B2 _ (by omega) (by omega) (by omega), B2 _ (by omega) (by omega) (by omega)⟩ (Nat.le_refl _) (Nat.le_refl _)
  · exact h5.fr ⟨A _ (by omega) (by omega), A _ (by omega) (by omega), A2 _ (by omega) (by omega) (by omega), A2 _ (by omega) (by omega) (by omega), A2 _ (by omega) (by omega) (by omega), A2 _ (by omega) (by omega) (by omega)⟩ ⟨B _ (by omega) (by omega), B _ (by omega) (by omega), B2 _ (by omega) (by omega) (by omega), B2 _ (by omega) (by omega) (by omega), B2 _ (by omega) (by omega) (by omega)⟩ (fun k _ => by rw [B2 7 (by omega) (by omega) (by omega)]) (Nat.le_refl _) (Nat.le_refl _)
  · exact h6.fr ⟨A _ (by omega) (by omega), A _ (by omega) (by omega), A2 _ (by omega) (by omega) (by omega), A2 _ (by omega) (by omega) (by omega)⟩ ⟨B _ (by omega) (by omega), B _ (by omega) (by omega), B2 _ (by omega) (by omega) (by omega), B2 _ (by omega) (by omega) (by omega)⟩
  · exact h7.fr (Nat.le_refl _) ⟨A2 _ (by omega) (by omega) (by omega), A2 _ (by omega) (by omega) (by omega), A2 _ (by omega) (by omega) (by omega), by rw [a.2.2]⟩ ⟨B2 _ (by omega) (by omega) (by omega), B2 _ (by omega) (by omega) (by omega), by rw [b.2.2]⟩
  · exact h8.fr (Nat.le_refl _) ⟨a.lw hz 0, a.lw hz 1, a.lw hz 2⟩ ⟨B2 _ (by omega) (by omega) (by omega), B2 _ (by omega) (by omega) (by omega)⟩
theorem RV.c (h : RV F S Z M nm nv nd nb) (a : SC S S') (b : MC M M') (hz : Z'.2 = Z.2) : RV F S' Z' M' nm nv nd nb := h.cw a b.w hz
theorem RR_mk {t : Nat} (hV : RV F S Z M nm nv nd nb) (c1 : KCt S Z 80) (c2 : KCt S Z 300) (m : KMemo S Z M nd B) (hB : B ≤ 1000000 * (t + 1)) : RR F (t + 1) S Z M := ⟨nm, nv, nd, nb, hV, c1, c2, m.le hB⟩
end
