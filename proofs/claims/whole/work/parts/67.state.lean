/-! the state of an hour -/
theorem jrem_i (x y : Int32) : (jrem x y).toInt = x.toInt.tmod y.toInt := by
  unfold jrem
  rw [Jvm.irem_eq_mod, Int32.toInt_mod]
theorem sub_i {a b : Int32} (h1 : -1073741824 ≤ a.toInt - b.toInt) (h2 : a.toInt - b.toInt ≤ 1073741824) : (a - b).toInt = a.toInt - b.toInt := by
  rw [Int32.toInt_sub]
  exact Int.bmod_eq_of_le_mul_two (by omega) (by omega)
theorem add_i {a b : Int32} (h1 : -1073741824 ≤ a.toInt + b.toInt) (h2 : a.toInt + b.toInt ≤ 1073741824) : (a + b).toInt = a.toInt + b.toInt := by
  rw [Int32.toInt_add]
  exact Int.bmod_eq_of_le_mul_two (by omega) (by omega)
def upB (M : St) (k v h : Nat) : Bool := decide (((h : Int) - (M.2.1 0 (3 + k)).toInt - (M.2.1 9 (3 * v + k)).toInt) % (M.2.1 7 k).toInt < (M.2.1 0 k).toInt - (M.2.1 10 (3 * v + k)).toInt)
def stP (M : St) (v h : Nat) : Nat → Nat
  | 0 => 0
  | k + 1 => stP M v h k + if upB M k v h = true then 2 ^ k else 0
theorem stP_lt (M : St) (v h : Nat) : ∀ k, stP M v h k < 2 ^ k := by
  intro k
  induction k with
  | zero => exact Nat.zero_lt_one
  | succ k ih =>
    show stP M v h k + (if upB M k v h = true then 2 ^ k else 0) < 2 ^ (k + 1)
    have e : 2 ^ (k + 1) = 2 ^ k + 2 ^ k := by rw [Nat.pow_succ]; omega
    split <;> omega
theorem or_bit : ∀ k, k < 3 → ∀ b, b < 2 ^ k → nI b ||| (1 <<< (nI k &&& 31)) = nI (b + 2 ^ k) := by decide
theorem or_0 (b : Nat) : nI b ||| 0 = nI b := by
  rw [show (0 : Int32) = nI 0 from rfl, fa_or, Nat.or_zero]
/-- the rest, not below 0 -/
theorem fl_pos {x r : Int32} {a : Int} (hr : r.toInt = a) (ha : 0 < a) (ha2 : a ≤ 999) : (if 0 ≤ jrem x r then (jrem x r).toInt else (jrem x r + r).toInt) = x.toInt % a ∧ (x.toInt < 0 → jrem x r ≤ 0) ∧ (0 ≤ x.toInt → 0 ≤ jrem x r) := by
  have e := jrem_i x r
  rw [hr] at e
  have b1 := Int.tmod_lt_of_pos x.toInt ha
  have b2 := Int.lt_tmod_of_pos x.toInt ha
  have b3 : x.toInt % a = if 0 ≤ x.toInt.tmod a then x.toInt.tmod a else x.toInt.tmod a + a := by
    have hd : a ∣ (x.toInt - x.toInt.tmod a) := by
      refine ⟨x.toInt.tdiv a, ?_⟩
      have := Int.mul_tdiv_add_tmod x.toInt a
      omega
    obtain ⟨q, hq⟩ := hd
    split
    · rename_i h0
      rw [show x.toInt = x.toInt.tmod a + a * q by omega, Int.add_mul_emod_self_left]
      have : (x.toInt.tmod a + a * q).tmod a = x.toInt.tmod a := by rw [show x.toInt.tmod a + a * q = x.toInt by omega]
      rw [this]
      exact Int.emod_eq_of_lt h0 b1
    · rename_i h0
      rw [show x.toInt = (x.toInt.tmod a + a) + a * (q - 1) by rw [Int.mul_sub]; omega, Int.add_mul_emod_self_left]
      have : ((x.toInt.tmod a + a) + a * (q - 1)).tmod a = x.toInt.tmod a := by rw [show (x.toInt.tmod a + a) + a * (q - 1) = x.toInt by rw [Int.mul_sub]; omega]
      rw [this]
      exact Int.emod_eq_of_lt (by omega) (by omega)
  refine ⟨?_, fun hx => ?_, fun hx => ?_⟩
  · rw [b3]
    by_cases h0 : 0 ≤ jrem x r
    · have h0' := le_i.mp h0
      rw [e] at h0'
      rw [if_pos h0, if_pos h0', e]
    · have h0' : ¬ 0 ≤ x.toInt.tmod a := fun z => h0 (le_i.mpr (by rw [e]; exact z))
      rw [if_neg h0, if_neg h0', add_i (by omega) (by omega), e, hr]
  · rw [le_i, e]
    exact Int.tmod_nonpos_of_nonpos _ (by omega)
  · rw [le_i, e]
    exact Int.tmod_nonneg _ hx
section
variable {F : Nat} {Z : Zt} {S M : St} {nm nv : Nat}
end
