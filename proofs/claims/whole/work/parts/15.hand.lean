/-! a law read is handed out: the draft's place becomes the moon's, the draft lies elsewhere -/
def pm (m D i : Nat) : Nat := if 1000 + 20 * m ≤ i ∧ i < 1020 + 20 * m then i - (1000 + 20 * m) + 1060 else if 1060 ≤ i ∧ i < 1080 then i - 1060 + D else i
def Dm (m : Nat) (had : Bool) : Nat := if had = true then 1000 + 20 * m else 2000
def S2k (S : St) : St := (fun j => if 2000 ≤ j then 0 else S.1 j, fun j => if 2000 ≤ j then (fun _ => 0) else S.2.1 j, S.2.2)
def hand (m : Nat) (had : Bool) (S : St) : St := (fun j => (S2k S).1 (pm m (Dm m had) j), fun j => (S2k S).2.1 (pm m (Dm m had) j), S.2.2)
def zm (m : Nat) (Z : Zt) : Zt := (Z.1, fun j => if j = m then true else Z.2 j)
def lawcell (θ : TH) (lw : Nat → Option Nat) : va_E := .inl (θ.2.2.2, (3, .inr (.inr (.inr (.inr lw)))))
/-- the world ahead: ids from 2000 on are the new law's, the reader's draft is d, the sky's laws are lw -/
def gH (θ : TH) (ad Y : Nat → Nat) (S : St) (Z : Zt) (d : Nat) (lw : Nat → Option Nat) (i : Nat) : va_E := if i = 119 then .inr (5, (objC ad Y S 100 5).set 4 (.ref (Y d))) else if i = 143 then lawcell θ lw else cellC θ ad Y S Z i
def gL (θ : TH) (ad Y : Nat → Nat) (S : St) (Z : Zt) (lw : Nat → Option Nat) (i : Nat) : va_E := if i = 143 then lawcell θ lw else cellC θ ad Y S Z i
theorem pl_sub {ad ad' : Nat → Nat} {L L' : List Nat} {g g' : Nat → va_E} {D : va_G} {A : Nat → Prop} {H : Heap} (σ : Nat → Nat) (hL : L.Nodup) (hL' : L'.Nodup) (hσ : ∀ i ∈ L', σ i ∈ L) (hinj : ∀ i ∈ L', ∀ j ∈ L', σ i = σ j → i = j) (ha : ∀ i ∈ L', ad' i = ad (σ i)) (hg : ∀ i ∈ L', g' i = g (σ i)) (hP : va_P D vwCl (pl ad L g) H) (hD : va_D A (pl ad L g)) : va_P D vwCl (pl ad' L' g') H ∧ va_D A (pl ad' L' g') := by
  have key : ∀ (k : Nat) (z : Nat × va_E), (pl ad' L' g')[k]? = some z → ∃ i q : Nat, L'[k]? = some i ∧ L[q]? = some (σ i) ∧ (pl ad L g)[q]? = some z := by
    intro k z hz
    unfold pl at hz
    rw [List.getElem?_map] at hz
    cases hi : L'[k]? with
    | none => rw [hi] at hz; cases hz
    | some i =>
      rw [hi] at hz
      have hz : (ad' i, g' i) = z := Option.some.inj hz
      have hm := List.mem_of_getElem? hi
      obtain ⟨q, hq, hq2⟩ := pl_get (ad := ad) (g := g) (hσ i hm)
      exact ⟨i, q, rfl, hq, by rw [hq2, ← hz, ha i hm, hg i hm]⟩
  refine ⟨fun k z hz => ?_, ⟨fun k1 k2 z1 z2 h1 h2 he => ?_, fun k z hz => ?_⟩⟩
  · obtain ⟨i, q, -, -, h⟩ := key k z hz
    exact hP q z h
  · obtain ⟨i1, q1, a1, b1, c1⟩ := key k1 z1 h1
    obtain ⟨i2, q2, a2, b2, c2⟩ := key k2 z2 h2
    have hq := hD.1 q1 q2 z1 z2 c1 c2 he
    subst hq
    have hi := hinj i1 (List.mem_of_getElem? a1) i2 (List.mem_of_getElem? a2) (Option.some.inj (b1.symm.trans b2))
    subst hi
    exact (List.getElem?_inj (List.getElem?_eq_some_iff.mp a1).1 hL').mp (a1.trans a2.symm)
  · obtain ⟨i, q, -, -, h⟩ := key k z hz
    exact hD.2 q z h
def LCb (b0 b1 b2 : Bool) : List Nat := LF ++ ((if b0 = true then LSt 0 else []) ++ ((if b1 = true then LSt 1 else []) ++ (if b2 = true then LSt 2 else [])))
def LN : List Nat := [2019, 2000, 2001, 2002, 2003, 2004]
def bm (m j : Nat) (b : Bool) : Bool := if j = m then true else b
theorem pmA : ∀ m, m < 3 → ∀ b0 b1 b2 : Bool, (if m = 0 then b0 else if m = 1 then b1 else b2) = true → (∀ i ∈ LCb b0 b1 b2, pm m (1000 + 20 * m) i ∈ LCb b0 b1 b2) ∧ (∀ i ∈ LCb b0 b1 b2, ∀ j ∈ LCb b0 b1 b2, pm m (1000 + 20 * m) i = pm m (1000 + 20 * m) j → i = j) := by decide +kernel
theorem pmB : ∀ m, m < 3 → ∀ b0 b1 b2 : Bool, (if m = 0 then b0 else if m = 1 then b1 else b2) = false → (∀ i ∈ LCb (bm m 0 b0) (bm m 1 b1) (bm m 2 b2), pm m 2000 i ∈ LCb b0 b1 b2 ++ LN) ∧ (∀ i ∈ LCb (bm m 0 b0) (bm m 1 b1) (bm m 2 b2), ∀ j ∈ LCb (bm m 0 b0) (bm m 1 b1) (bm m 2 b2), pm m 2000 i = pm m 2000 j → i = j) ∧ (LCb b0 b1 b2 ++ LN).Nodup := by decide +kernel
theorem LC_b (Z : Zt) : LC Z = LCb (Z.2 0) (Z.2 1) (Z.2 2) := rfl
theorem LC_lt {Z : Zt} : ∀ i ∈ LC Z, i < 2000 := by
  rw [LC_b]
  generalize Z.2 0 = b0
  generalize Z.2 1 = b1
  generalize Z.2 2 = b2
  revert b0 b1 b2
  decide +kernel
theorem objC_5 (ad Y : Nat → Nat) (S : St) : objC ad Y S 100 5 = [.ref (ad 100), .int (S.1 101), .int (S.1 102), .int (S.1 103), .ref (Y 1079)] := rfl
theorem objC_8 (ad Y : Nat → Nat) (S : St) (b : Nat) : objC ad Y S b 8 = [.ref (Y (b + 0)), .ref (Y (b + 1)), .ref (Y (b + 2)), .ref (Y (b + 3)), .ref (Y (b + 4)), .int (S.1 (b + 5)), .int (S.1 (b + 6))] := rfl
theorem pm_lt {m D i : Nat} (hm : m < 3) (h : i < 1000) : pm m D i = i := by
  unfold pm
  rw [if_neg (by omega), if_neg (by omega)]
theorem pm_hi {m D i : Nat} (hm : m < 3) (hD : D = 1000 + 20 * m ∨ D = 2000) (h : 1000 ≤ i) (h2 : i < 2000) : 1000 ≤ pm m D i ∧ (pm m D i) % 20 = i % 20 ∧ ∀ k, i % 20 = 19 → k < 19 → pm m D (i - 19 + k) = pm m D i - 19 + k := by
  have h19 : i - 19 + 19 = i := by omega
  unfold pm
  by_cases c1 : 1000 + 20 * m ≤ i ∧ i < 1020 + 20 * m
  · rw [if_pos c1]
    refine ⟨by omega, by omega, fun k hk hk2 => ?_⟩
    rw [if_pos (by omega)]
    omega
  · rw [if_neg c1]
    by_cases c2 : 1060 ≤ i ∧ i < 1080
    · rw [if_pos c2]
      refine ⟨by omega, by omega, fun k hk hk2 => ?_⟩
      rw [if_neg (by omega), if_pos (by omega)]
      omega
    · rw [if_neg c2]
      refine ⟨by omega, rfl, fun k hk hk2 => ?_⟩
      rw [if_neg (by omega), if_neg (by omega)]
/-- the cells in their new places -/
theorem gH_gL {θ : TH} {ad Y : Nat → Nat} {S : St} {Z Z' : Zt} {m D : Nat} {lw : Nat → Option Nat} (hm : m < 3) (hD : D = 1000 + 20 * m ∨ D = 2000) (hZ : Z'.1 = Z.1) : ∀ i, i < 2000 → gL θ ad (fun j => Y (pm m D j)) (fun j => S.1 (pm m D j), fun j => S.2.1 (pm m D j), S.2.2) Z' lw i = gH θ ad Y S Z (D + 19) lw (pm m D i) := by
  intro i hi
  unfold gL gH
  by_cases hlo : i < 1000
  · rw [pm_lt hm hlo]
    by_cases h1 : i = 119
    · subst h1
      rw [if_neg (by decide), if_pos rfl]
      show (Sum.inr (5, objC ad _ _ 100 5) : va_E) = _
      have e : pm m D 1079 = D + 19 := by unfold pm; rw [if_neg (by omega), if_pos (by omega)]; omega
      rw [objC_5, objC_5, e]
      show (Sum.inr (5, [Value.ref (ad 100), Value.int (S.1 (pm m D 101)), Value.int (S.1 (pm m D 102)), Value.int (S.1 (pm m D 103)), Value.ref (Y (D + 19))]) : va_E) = Sum.inr (5, [Value.ref (ad 100), Value.int (S.1 101), Value.int (S.1 102), Value.int (S.1 103), Value.ref (Y (D + 19))])
      rw [pm_lt hm (by decide), pm_lt hm (by decide), pm_lt hm (by decide)]
    · rw [if_neg h1]
      by_cases h2 : i = 143
      · rw [if_pos h2, if_pos h2]
      · rw [if_neg h2, if_neg h2]
        unfold cellC
        by_cases ho : i % 20 = 19
        · rw [if_pos ho, if_pos ho]
          congr 2
          unfold objC
          refine List.map_congr_left (fun kf hkf => ?_)
          have h3 := List.mem_range.mp hkf
          have h4 := KT_len (clC i)
          have hd : ¬ (KT (clC i)).getD kf 0 = 2 := by
            have h5 : clC i ≠ 5 := by unfold clC; rw [if_neg (by omega)]; split <;> omega
            have h6 : kf < 11 := by omega
            clear h3 hkf
            revert kf
            unfold KT
            split <;> first | (exact absurd (by assumption) h5) | decide
          have hp : pm m D (i - 19 + kf) = i - 19 + kf := pm_lt hm (by omega)
          unfold fvC
          simp only [hp, hd, if_false]
        · rw [if_neg ho, if_neg ho]
          have e1 : lnC Z' i = lnC Z i := by unfold lnC; rw [hZ]
          show (if i = 123 then _ else if i = 143 then _ else _) = _
          rw [if_neg h2, e1]
          by_cases h3 : i = 123
          · rw [if_pos h3, if_pos h3]
          · rw [if_neg h3, if_neg h3, if_neg h2]
            show (Sum.inl (θ.2.1, (lnC Z i, Sum.inl (S.2.1 (pm m D i)))) : va_E) = _
            rw [pm_lt hm hlo]
  · obtain ⟨q1, q2, q3⟩ := pm_hi (m := m) (D := D) hm hD (by omega) hi
    rw [if_neg (by omega), if_neg (by omega), if_neg (by omega)]
    unfold cellC
    by_cases ho : i % 20 = 19
    · rw [if_pos ho, if_pos (q2.trans ho)]
      have c1 : clC i = 8 := by unfold clC; rw [if_pos (by omega)]
      have c2 : clC (pm m D i) = 8 := by unfold clC; rw [if_pos q1]
      rw [c1, c2, objC_8, objC_8]
      show (Sum.inr (8, [Value.ref (Y (pm m D (i - 19 + 0))), Value.ref (Y (pm m D (i - 19 + 1))), Value.ref (Y (pm m D (i - 19 + 2))), Value.ref (Y (pm m D (i - 19 + 3))), Value.ref (Y (pm m D (i - 19 + 4))), Value.int (S.1 (pm m D (i - 19 + 5))), Value.int (S.1 (pm m D (i - 19 + 6)))]) : va_E) = _
      rw [q3 0 ho (by decide), q3 1 ho (by decide), q3 2 ho (by decide), q3 3 ho (by decide), q3 4 ho (by decide), q3 5 ho (by decide), q3 6 ho (by decide)]
    · rw [if_neg ho, if_neg (show ¬ pm m D i % 20 = 19 by rw [q2]; exact ho), if_neg (show ¬ i = 123 by omega), if_neg (show ¬ i = 143 by omega), if_neg (show ¬ pm m D i = 123 by omega), if_neg (show ¬ pm m D i = 143 by omega)]
      have e1 : lnC Z' i = 120 := by unfold lnC; rw [if_neg (by omega), if_pos (by omega)]
      have e2 : lnC Z (pm m D i) = 120 := by unfold lnC; rw [if_neg (by omega), if_pos (by omega)]
      rw [e1, e2]
