/-! the state of an hour -/
theorem one0 : ¬ (1 : Int32) = 0 := by decide
theorem jrem_i (x y : Int32) : (jrem x y).toInt = x.toInt.tmod y.toInt := by
  unfold jrem
  rw [Jvm.irem_eq_mod, Int32.toInt_mod]
theorem sub_i {a b : Int32} (h1 : -1073741824 ≤ a.toInt - b.toInt) (h2 : a.toInt - b.toInt ≤ 1073741824) : (a - b).toInt = a.toInt - b.toInt := by
  rw [Int32.toInt_sub]
  exact Int.bmod_eq_of_le_mul_two (by omega) (by omega)
theorem add_i {a b : Int32} (h1 : -1073741824 ≤ a.toInt + b.toInt) (h2 : a.toInt + b.toInt ≤ 1073741824) : (a + b).toInt = a.toInt + b.toInt := by
  rw [Int32.toInt_add]
  exact Int.bmod_eq_of_le_mul_two (by omega) (by omega)
def upB (M : St) (k v h : Nat) : Bool := decide (((h : Int) - (M.2.1 0 (3 + k)).toInt - (M.2.1 9 (3 * v + k)).toInt) % (M.2.1 7 k).toInt < (M.2.1 0 k).toInt - (M.2.1 10 (3 * v + k)).toInt)
def stP (M : St) (v h : Nat) : Nat → Nat
  | 0 => 0
  | k + 1 => stP M v h k + if upB M k v h = true then 2 ^ k else 0
theorem stP_lt (M : St) (v h : Nat) : ∀ k, stP M v h k < 2 ^ k := by
  intro k
  induction k with
  | zero => exact Nat.zero_lt_one
  | succ k ih =>
    show stP M v h k + (if upB M k v h = true then 2 ^ k else 0) < 2 ^ (k + 1)
    have e : 2 ^ (k + 1) = 2 ^ k + 2 ^ k := by rw [Nat.pow_succ]; omega
    split <;> omega
theorem or_bit : ∀ k, k < 3 → ∀ b, b < 2 ^ k → nI b ||| (1 <<< (nI k &&& 31)) = nI (b + 2 ^ k) := by decide
theorem or_0 (b : Nat) : nI b ||| 0 = nI b := by
  simp
/-- the rest, not below 0 -/
theorem fl_pos {x r : Int32} {a : Int} (hr : r.toInt = a) (ha : 0 < a) (ha2 : a ≤ 999) : (if 0 ≤ jrem x r then (jrem x r).toInt else (jrem x r + r).toInt) = x.toInt % a ∧ (x.toInt < 0 → jrem x r ≤ 0) ∧ (0 ≤ x.toInt → 0 ≤ jrem x r) := by
  have e := jrem_i x r
  rw [hr] at e
  have b1 := Int.tmod_lt_of_pos x.toInt ha
  have b2 := Int.lt_tmod_of_pos x.toInt ha
  have b3 : x.toInt % a = if 0 ≤ x.toInt.tmod a then x.toInt.tmod a else x.toInt.tmod a + a := by
    have hd : a ∣ (x.toInt - x.toInt.tmod a) := by
      refine ⟨x.toInt.tdiv a, ?_⟩
      have := Int.mul_tdiv_add_tmod x.toInt a
      omega
    obtain ⟨q, hq⟩ := hd
    split
    · rename_i h0
      rw [show x.toInt = x.toInt.tmod a + a * q by omega, Int.add_mul_emod_self_left]
      have : (x.toInt.tmod a + a * q).tmod a = x.toInt.tmod a := by rw [show x.toInt.tmod a + a * q = x.toInt by omega]
      rw [this]
      exact Int.emod_eq_of_lt h0 b1
    · rename_i h0
      rw [show x.toInt = (x.toInt.tmod a + a) + a * (q - 1) by rw [Int.mul_sub]; omega, Int.add_mul_emod_self_left]
      have : ((x.toInt.tmod a + a) + a * (q - 1)).tmod a = x.toInt.tmod a := by rw [show (x.toInt.tmod a + a) + a * (q - 1) = x.toInt by rw [Int.mul_sub]; omega]
      rw [this]
      exact Int.emod_eq_of_lt (by omega) (by omega)
  refine ⟨?_, fun hx => ?_, fun hx => ?_⟩
  · rw [b3]
    by_cases h0 : 0 ≤ jrem x r
    · have h0' : 0 ≤ x.toInt.tmod a := by
        have z := le_i.mp h0
        rw [e] at z
        exact z
      rw [if_pos h0, if_pos h0', e]
    · have h0' : ¬ 0 ≤ x.toInt.tmod a := fun z => h0 (le_i.mpr (by rw [e]; exact z))
      rw [if_neg h0, if_neg h0', add_i (by omega) (by omega), e, hr]
  · rw [le_i, e]
    have z := Int.tmod_nonneg a (show 0 ≤ -x.toInt by omega)
    rw [Int.neg_tmod] at z
    show x.toInt.tmod a ≤ 0
    omega
  · rw [le_i, e]
    exact Int.tmod_nonneg _ hx
/-- hour, first, late: what is asked of the round -/
theorem hr_i {h c l : Nat} {f t : Int32} (hh : h < 1073740000) (hf : f = nI c) (hc : c ≤ 999) (ht : t = nI l) (hl : l ≤ 99) : (nI h - f - t).toInt = (h : Int) - c - l := by
  subst hf ht
  have e1 : (nI h - nI c).toInt = (h : Int) - c := pk_sub_toInt (by omega) (by omega)
  rw [sub_i (by rw [e1, nI_toInt (by omega)]; omega) (by rw [e1, nI_toInt (by omega)]; omega), e1, nI_toInt (by omega)]
section
variable {F : Nat} {Z : Zt} {S M : St} {nm nv : Nat}
/-- what is known of a moon over a valley -/
theorem moon_facts (hK : KSky S M nm nv) {k v : Nat} (hk : k < nm) (hv : v < nv) : ∃ a b c l q : Nat, 2 ≤ a ∧ a ≤ 999 ∧ b ≤ a ∧ c < a ∧ l ≤ 99 ∧ q ≤ 99 ∧ M.2.1 7 k = nI a ∧ M.2.1 0 k = nI b ∧ M.2.1 0 (3 + k) = nI c ∧ M.2.1 9 (3 * v + k) = nI l ∧ M.2.1 10 (3 * v + k) = nI q := by
  obtain ⟨⟨-, -, h3⟩, ⟨-, -, h5⟩, -, -, hm, hv15, -⟩ := hK
  obtain ⟨a, b, c, q1, q2, q3, q4, q5, q6, q7⟩ := hm k hk
  obtain ⟨l, q, w1, w2, w3, w4⟩ := hv15 (3 * v + k) (by omega)
  exact ⟨a, b, c, l, q, q1, q2, q3, q4, w1, w2, q5, q6, q7, w3, w4⟩
theorem upB_iff (hK : KSky S M nm nv) {k v h : Nat} (hk : k < nm) (hv : v < nv) (hh : h < 1073740000) {t : Int32} (ht : t.toInt = (nI h - M.2.1 0 (3 + k) - M.2.1 9 (3 * v + k)).toInt % (M.2.1 7 k).toInt) : (M.2.1 0 k - M.2.1 10 (3 * v + k) ≤ t) ↔ ¬ upB M k v h = true := by
  obtain ⟨a, b, c, l, q, q1, q2, q3, q4, q5, q6, e1, e2, e3, e4, e5⟩ := moon_facts hK hk hv
  have hx := hr_i hh e3 (by omega) e4 q5
  have hd : (M.2.1 0 k - M.2.1 10 (3 * v + k)).toInt = (b : Int) - q := by rw [e2, e5]; exact pk_sub_toInt (by omega) (by omega)
  unfold upB
  rw [decide_eq_true_iff, le_i, hd, ht, hx, e1, e2, e3, e4, e5, nI_toInt (by omega), nI_toInt (by omega), nI_toInt (by omega), nI_toInt (by omega), nI_toInt (by omega)]
  omega
theorem isUp_eq (hK : KSky S M nm nv) {k v h : Nat} (hk : k < nm) (hv : v < nv) (hh : h < 1073740000) : f_X11_isUp M (nI k) (nI v) (nI h) = some (if upB M k v h = true then 1 else 0) := by
  obtain ⟨a, b, c, l, q, q1, q2, q3, q4, q5, q6, e1, e2, e3, e4, e5⟩ := moon_facts hK hk hv
  have hnm := hK.1.2.2
  have hnv := hK.2.1.2.2
  have hra : (M.2.1 7 k).toInt = (a : Int) := by rw [e1]; exact nI_toInt (by omega)
  have hfl := fl_pos (x := nI h - M.2.1 0 (3 + k) - M.2.1 9 (3 * v + k)) hra (by omega) (by omega)
  have i1 : (3 : Int32) + nI k = nI (3 + k) := nI_add 3 k
  have i2 : (3 : Int32) * nI v + nI k = nI (3 * v + k) := by rw [show (3 : Int32) = nI 3 from rfl, pk_mul, nI_add]
  have hB : ∀ t : Int32, t.toInt = (nI h - M.2.1 0 (3 + k) - M.2.1 9 (3 * v + k)).toInt % (M.2.1 7 k).toInt → f_X11_isUp_B49 M (nI k) (nI v) t = some (if upB M k v h = true then 1 else 0) := by
    intro t ht
    unfold f_X11_isUp_B49
    rw [i2, inr_nI (by omega) (by omega), chk_true, inr_nI (by omega) (by omega), chk_true, cl_nI (by omega), cl_nI (by omega)]
    have hu := upB_iff hK hk hv hh ht
    by_cases hup : upB M k v h = true
    · rw [if_pos hup, if_neg (fun z => (hu.mp z) hup)]
    · rw [if_neg hup, if_pos (hu.mpr hup)]
  unfold f_X11_isUp
  rw [i1, i2, inr_nI (by omega) (by omega), inr_nI (by omega) (by omega), inr_nI (by omega) (by omega), chk_true, chk_true, chk_true, cl_nI (by omega), cl_nI (by omega), cl_nI (by omega), nz_of (by rw [e1]; exact nI_ne0 (by omega) (by omega)), chk_true]
  simp only [lti]
  by_cases h0 : 0 ≤ jrem (nI h - M.2.1 0 (3 + k) - M.2.1 9 (3 * v + k)) (M.2.1 7 k)
  · rw [if_pos h0]
    exact hB _ (by rw [hra, ← hfl.1, if_pos h0])
  · rw [if_neg h0, chk_true]
    exact hB _ (by rw [hra, ← hfl.1, if_neg h0])
theorem stateOf_eq (hF : 200 ≤ F) (hK : KSky S M nm nv) {v h : Nat} (hv : v < nv) (hh : h < 1073740000) : f_X11_stateOf F M (nI v) (nI h) = some (nI (stP M v h nm)) := by
  have hnm := hK.1.2.2
  have hloop : ∀ (j i n : Nat), i + j = nm → j < n → f_X11_stateOf_L5 F M (nI v) (nI h) n (nI (stP M v h i)) (nI i) = some (nI (stP M v h nm)) := by
    intro j
    induction j with
    | zero =>
      intro i n hij hn
      obtain ⟨n, rfl⟩ : ∃ q, n = q + 1 := ⟨n - 1, by omega⟩
      have e : i = nm := by omega
      subst e
      simp only [f_X11_stateOf_L5]
      rw [hK.1.2.1, if_pos (nI_le (Nat.le_refl _) (by omega))]
    | succ j ih =>
      intro i n hij hn
      obtain ⟨n, rfl⟩ : ∃ q, n = q + 1 := ⟨n - 1, by omega⟩
      have hnext := ih (i + 1) n (by omega) (by omega)
      simp only [f_X11_stateOf_L5]
      rw [hK.1.2.1, if_neg (nI_ge (by omega) (by omega)), isUp_eq hK (by omega) hv hh, Option.bind_some, or_0, nI_1]
      have estep : stP M v h (i + 1) = stP M v h i + if upB M i v h = true then 2 ^ i else 0 := rfl
      rw [estep] at hnext
      by_cases hup : upB M i v h = true
      · rw [if_pos hup] at hnext
        rw [if_pos hup, if_neg (by decide)]
        unfold lti
        rw [or_bit i (by omega) _ (stP_lt M v h i)]
        exact hnext
      · rw [if_neg hup, Nat.add_zero] at hnext
        rw [if_neg hup, if_pos rfl]
        exact hnext
  exact hloop nm 0 F (by omega) (by omega)
theorem xor_sign (x r : Int32) (hr : 0 < r.toInt) : 0 ≤ (x ^^^ r).toInt ↔ 0 ≤ x.toInt := by
  have hx : ∀ y : Int32, 0 ≤ y.toInt ↔ y.toBitVec.msb = false := fun y => by
    rw [← Int32.toInt_toBitVec, BitVec.msb_eq_toInt, decide_eq_false_iff_not]
    omega
  rw [hx, hx, Int32.toBitVec_xor, BitVec.msb_xor, (hx r).mp (by omega), Bool.xor_false]
theorem floorMod_eq {x r : Int32} {a : Int} (hr : r.toInt = a) (ha : 0 < a) (ha2 : a ≤ 999) : ∃ t : Int32, f_J9_floorMod_7cf53 x r = some t ∧ t.toInt = x.toInt % r.toInt := by
  obtain ⟨f1, f2, f3⟩ := fl_pos (x := x) hr ha ha2
  have hne : ¬ r = 0 := fun z => by rw [z] at hr; have : (0 : Int32).toInt = 0 := rfl; omega
  have hsgn : (0 : Int32) ≤ x ^^^ r ↔ 0 ≤ x.toInt := by
    rw [le_i]
    have := xor_sign x r (by omega)
    exact this
  unfold f_J9_floorMod_7cf53
  rw [nz_of hne, chk_true, hr]
  by_cases hx : 0 ≤ x.toInt
  · refine ⟨_, if_pos (hsgn.mpr hx), ?_⟩
    rw [← f1, if_pos (f3 hx)]
  · rw [if_neg (fun z => hx (hsgn.mp z))]
    by_cases h0 : jrem x r = 0
    · refine ⟨_, if_pos h0, ?_⟩
      rw [← f1, if_pos (by rw [h0]; decide)]
    · refine ⟨_, if_neg h0, ?_⟩
      have hle := le_i.mp (f2 (by omega))
      rw [← f1, if_neg]
      intro z
      have hz := le_i.mp z
      exact h0 (Int32.toInt_inj.mp (by have : (0 : Int32).toInt = 0 := rfl; omega))
theorem upIn_eq (hF : 200 ≤ F) (hK : KSky S M nm nv) {v h : Nat} (hv : v < nv) (hh : h < 1073740000) : f_X7_upIn F Z S (nI v) (nI h) = some (nI (stP M v h nm)) := by
  have hnm := hK.1.2.2
  have hnv := hK.2.1.2.2
  have hloop : ∀ (j i n : Nat), i + j = nm → j < n → f_X7_upIn_L15 F Z S (nI v) (nI h) n (nI (stP M v h i)) (nI i) = some (nI (stP M v h nm)) := by
    intro j
    induction j with
    | zero =>
      intro i n hij hn
      obtain ⟨n, rfl⟩ : ∃ q, n = q + 1 := ⟨n - 1, by omega⟩
      have e : i = nm := by omega
      subst e
      simp only [f_X7_upIn_L15]
      rw [hK.1.1, if_pos (nI_le (Nat.le_refl _) (by omega))]
    | succ j ih =>
      intro i n hij hn
      obtain ⟨n, rfl⟩ : ∃ q, n = q + 1 := ⟨n - 1, by omega⟩
      have hnext := ih (i + 1) n (by omega) (by omega)
      obtain ⟨a, b, c, l, q, q1, q2, q3, q4, q5, q6, e1, e2, e3, e4, e5⟩ := moon_facts hK (show i < nm by omega) hv
      have hK2 := hK
      obtain ⟨-, -, ⟨r1, r2, r3, -⟩, r5, -⟩ := hK2
      obtain ⟨r6, r7⟩ := r5 i (by omega)
      have hra : (M.2.1 7 i).toInt = (a : Int) := by rw [e1]; exact nI_toInt (by omega)
      obtain ⟨t, ht1, ht2⟩ := floorMod_eq (x := nI h - M.2.1 0 (3 + i) - M.2.1 9 (3 * v + i)) hra (by omega) (by omega)
      have hu := upB_iff hK (show i < nm by omega) hv hh ht2
      have i2 : nI v * 3 + nI i = nI (3 * v + i) := by rw [show (3 : Int32) = nI 3 from rfl, pk_mul, nI_add, Nat.mul_comm]
      simp only [f_X7_upIn_L15, lti]
      rw [hK.1.1, if_neg (nI_ge (by omega) (by omega)), show (3 : Int32) = nI 3 from rfl, if_neg (nI_ge (by omega) (by omega)), inr_nI (by omega) (by omega), chk_true, cl_nI (by omega), r1, r7, r2, if_neg (by rw [e1]; exact nI_nle (by omega) (by omega)), chk_true]
      rw [show nI 3 = (3 : Int32) from rfl, i2, inr_nI (by omega) (by omega), chk_true, cl_nI (by omega), ht1, Option.bind_some]
      unfold f_X7_upIn_B78
      rw [inr_nI (by omega) (by omega), inr_nI (by omega) (by omega), chk_true, chk_true, cl_nI (by omega), cl_nI (by omega), r6, r3, nI_1]
      have estep : stP M v h (i + 1) = stP M v h i + if upB M i v h = true then 2 ^ i else 0 := rfl
      rw [estep] at hnext
      by_cases hup : upB M i v h = true
      · rw [if_pos hup] at hnext
        rw [if_neg (fun z => (hu.mp z) hup)]
        simp only [lti]
        rw [or_bit i (by omega) _ (stP_lt M v h i)]
        exact hnext
      · rw [if_neg hup, Nat.add_zero] at hnext
        rw [if_pos (hu.mpr hup)]
        exact hnext
  unfold f_X7_upIn
  rw [hasValley_eq hK.2.1.1 hK.2.1.2.2, Option.bind_some, hx_y hv, if_neg (by decide)]
  exact hloop nm 0 F (by omega) (by omega)
theorem st_state (hF : 200 ≤ F) : ST_state F (RR F) := by
  intro t S Z M a1 a2 ht hR
  have hR' := hR
  obtain ⟨nm, nv, nd, nb, ⟨hK, -⟩, -⟩ := hR
  have hnv := hK.2.1
  unfold f_X10_state f_X11_state
  rw [isPlace_eq hnv.1 hnv.2.2, isValley_eq hnv.2.1 hnv.2.2, Option.bind_some, Option.bind_some, bind_id, bind_id, isHour_eq]
  rcases hx_01 (n := nv) (a := a1) with h0 | ⟨v, hv, rfl, h1⟩
  · rw [h0]
    exact ⟨_, rfl, rfl, RR_idle hR'⟩
  · rw [h1, if_neg one0, if_neg one0, Option.bind_some]
    rcases hx_01 (n := 1000000) (a := a2) with h0 | ⟨h, hh, rfl, h2⟩
    · rw [h0]
      exact ⟨_, rfl, rfl, RR_idle hR'⟩
    · rw [h2, if_neg one0, if_neg one0]
      exact ⟨_, upIn_eq hF hK hv (by omega), stateOf_eq hF hK hv (by omega), RR_idle hR'⟩
end
