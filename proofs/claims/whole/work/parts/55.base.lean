/-! the pure level: both sides as functions; rows of reckoning -/
section
variable {τ σ : Type}
theorem sf1 (S : St) (k j : Nat) (v : Int32) : (sf S k v).1 j = if j = k then v else S.1 j := rfl
theorem sf2 (S : St) (k : Nat) (v : Int32) : (sf S k v).2 = S.2 := rfl
theorem sa1 (S : St) (k i : Nat) (x : Int32) : (sa S k i x).1 = S.1 := rfl
theorem sa21 (S : St) (k i j : Nat) (x : Int32) : (sa S k i x).2.1 j = if j = k then upd (S.2.1 k) i x else S.2.1 j := rfl
theorem sa22 (S : St) (k i : Nat) (x : Int32) : (sa S k i x).2.2 = S.2.2 := rfl
theorem sl1 (S : St) (k i : Nat) (x : Int64) : (sl S k i x).1 = S.1 := rfl
theorem sl21 (S : St) (k i : Nat) (x : Int64) : (sl S k i x).2.1 = S.2.1 := rfl
theorem sl22 (S : St) (k i j : Nat) (x : Int64) : (sl S k i x).2.2 j = if j = k then vp_updL (S.2.2 k) i x else S.2.2 j := rfl
theorem sA1 (S : St) (k : Nat) (f : Nat → Int32) : (sA S k f).1 = S.1 := rfl
theorem sA21 (S : St) (k j : Nat) (f : Nat → Int32) : (sA S k f).2.1 j = if j = k then f else S.2.1 j := rfl
theorem sA22 (S : St) (k : Nat) (f : Nat → Int32) : (sA S k f).2.2 = S.2.2 := rfl
theorem updE (f : Nat → Int32) (k j : Nat) (x : Int32) : upd f k x j = if j = k then x else f j := rfl
theorem updLE (f : Nat → Int64) (k j : Nat) (x : Int64) : vp_updL f k x j = if j = k then x else f j := rfl
theorem chk_true (e : Option τ) : chk true e = e := rfl
theorem inr_nI {k n : Nat} (h : k < n) (hn : n < 2 ^ 31) : inr (nI k) n = true := by
  unfold inr
  rw [nI_toInt (by omega)]
  exact decide_eq_true ⟨by omega, by omega⟩
theorem inr_eq {x : Int32} {k n : Nat} (e : x = nI k) (h : k < n) (hn : n < 2 ^ 31) : inr x n = true := e ▸ inr_nI h hn
theorem isb0 : isb 0 = true := rfl
theorem isb1 : isb 1 = true := rfl
theorem nz_of {x : Int32} (h : ¬ x = 0) : nz x = true := decide_eq_true h
theorem nzl_of {x : Int64} (h : ¬ x = 0) : nzl x = true := decide_eq_true h
theorem cl_nI {n : Nat} (h : n < 2 ^ 31) : (nI n).toNatClampNeg = n := nI_clamp h
theorem div_n {a : Nat} (ha : a < 2 ^ 31) (x : Int32) {d : Nat} (hx : x = nI d) (h0 : 0 < d) (hd : d < 2 ^ 31) : nI a / x = nI (a / d) := by rw [hx, pk_div ha h0 hd]
theorem rem_n {a : Nat} (ha : a < 2 ^ 31) (x : Int32) {d : Nat} (hx : x = nI d) (h0 : 0 < d) (hd : d < 2 ^ 31) : jrem (nI a) x = nI (a % d) := by
  subst hx
  exact pk_rem ha h0 hd
theorem lt_i {x y : Int32} : x < y ↔ x.toInt < y.toInt := Int32.lt_iff_toInt_lt
theorem le_i {x y : Int32} : x ≤ y ↔ x.toInt ≤ y.toInt := Int32.le_iff_toInt_le
theorem lg_cmp_neg (x y : Int64) : lg_cmp x y < 0 ↔ x < y := by
  unfold lg_cmp
  constructor
  · intro h
    split at h
    · exact absurd h (by decide)
    · split at h
      · exact absurd h (by decide)
      · rename_i h1 h2
        rw [Int64.lt_iff_toInt_lt]
        have h3 : ¬ y.toInt < x.toInt := fun z => h1 (Int64.lt_iff_toInt_lt.mpr z)
        have h4 : x.toInt ≠ y.toInt := fun z => h2 (Int64.toInt_inj.mp z)
        omega
  · intro h
    have h1 := Int64.lt_iff_toInt_lt.mp h
    rw [if_neg (fun z => by have := Int64.lt_iff_toInt_lt.mp z; omega), if_neg (fun z => by subst z; omega)]
    decide
theorem lg_cmp_pos (x y : Int64) : 0 < lg_cmp x y ↔ y < x := by
  unfold lg_cmp
  constructor
  · intro h
    split at h
    · rename_i h1; exact h1
    · split at h
      · exact absurd h (by decide)
      · exact absurd h (by decide)
  · intro h
    rw [if_pos h]
    decide
theorem lg_cmp_0 (x y : Int64) : lg_cmp x y = 0 ↔ x = y := by
  unfold lg_cmp
  constructor
  · intro h
    split at h
    · exact absurd h (by decide)
    · split at h
      · rename_i h1; exact h1
      · exact absurd h (by decide)
  · rintro rfl
    rw [if_neg (fun z => by have := Int64.lt_iff_toInt_lt.mp z; omega), if_pos rfl]
/-- within -/
theorem wi_y {x l m : Int64} (h1 : l.toInt ≤ x.toInt) (h2 : x.toInt ≤ m.toInt) : f_X11_within x l m = some 1 := by
  unfold f_X11_within
  rw [if_neg (fun z => by have := Int64.lt_iff_toInt_lt.mp ((lg_cmp_neg _ _).mp z); omega), if_neg (fun z => by have := Int64.lt_iff_toInt_lt.mp ((lg_cmp_pos _ _).mp z); omega)]
theorem wi_n {x l m : Int64} (h : x.toInt < l.toInt ∨ m.toInt < x.toInt) : f_X11_within x l m = some 0 := by
  unfold f_X11_within
  by_cases h1 : x.toInt < l.toInt
  · rw [if_pos ((lg_cmp_neg _ _).mpr (Int64.lt_iff_toInt_lt.mpr h1))]
  · rw [if_neg (fun z => h1 (Int64.lt_iff_toInt_lt.mp ((lg_cmp_neg _ _).mp z))), if_pos ((lg_cmp_pos _ _).mpr (Int64.lt_iff_toInt_lt.mpr (by omega)))]
/-- an int within two ints -/
theorem wi32 (x l m : Int32) : f_X11_within x.toInt64 l.toInt64 m.toInt64 = some (if l ≤ x ∧ x ≤ m then 1 else 0) := by
  by_cases h : l ≤ x ∧ x ≤ m
  · rw [if_pos h]
    exact wi_y (by rw [Int32.toInt_toInt64, Int32.toInt_toInt64]; exact le_i.mp h.1) (by rw [Int32.toInt_toInt64, Int32.toInt_toInt64]; exact le_i.mp h.2)
  · rw [if_neg h]
    refine wi_n ?_
    rw [Int32.toInt_toInt64, Int32.toInt_toInt64, Int32.toInt_toInt64]
    rw [le_i, le_i] at h
    omega
/-- an index of n, or none -/
theorem ix (x : Int32) {n : Nat} (hn : n < 2 ^ 31) : (∃ j : Nat, j < n ∧ x = nI j) ∨ (x < 0 ∨ nI n ≤ x) := by
  rcases pk_ix x hn with h | h | h
  · exact Or.inr (Or.inl h)
  · exact Or.inr (Or.inr h)
  · exact Or.inl h
/-- not below 0: a number -/
theorem ge0 {x : Int32} (h : 0 ≤ x) : ∃ j : Nat, j < 2 ^ 31 ∧ x = nI j := nI_of (fun z => by rw [lt_i] at z; rw [le_i] at h; omega)
theorem cnt_in {x m : Int32} {n : Nat} (hm : m = nI n) (hn : n < 2 ^ 31) : (if (0 : Int32) ≤ x ∧ x ≤ m - 1 then (1 : Int32) else 0) = if ∃ j, j < n ∧ x = nI j then 1 else 0 := by
  subst hm
  have e : (nI n - 1).toInt = (n : Int) - 1 := by
    rcases n with _ | n
    · rfl
    · rw [nI_pred, nI_toInt (by omega)]; omega
  by_cases h : ∃ j, j < n ∧ x = nI j
  · rw [if_pos h, if_pos]
    obtain ⟨j, hj, rfl⟩ := h
    exact ⟨nI_pos' (by omega), by rw [le_i, e, nI_toInt (by omega)]; omega⟩
  · rw [if_neg h, if_neg]
    rintro ⟨h1, h2⟩
    obtain ⟨j, hj, rfl⟩ := ge0 h1
    rw [le_i, e, nI_toInt hj] at h2
    exact h ⟨j, by omega, rfl⟩
theorem cnt_w {x m : Int32} {n : Nat} (hm : m = nI n) (hn : n < 2 ^ 31) : ((f_X11_within x.toInt64 0 ((m - 1).toInt64)).bind fun r1 => chk (isb r1) (some r1)) = some (if ∃ j, j < n ∧ x = nI j then 1 else 0) := by
  rw [show (0 : Int64) = (0 : Int32).toInt64 from rfl, wi32, cnt_in hm hn, Option.bind_some]
  split <;> rfl
theorem has_w {x m N : Int32} {n n2 : Nat} (hm : m = nI n) (hN : N = nI n2) (h : n ≤ n2) (hn2 : n2 < 2 ^ 31) : (if x < 0 then some (0 : Int32) else if m ≤ x then some 0 else if N ≤ x then some 0 else some 1) = some (if ∃ j, j < n ∧ x = nI j then 1 else 0) := by
  subst hm hN
  by_cases h1 : ∃ j, j < n ∧ x = nI j
  · rw [if_pos h1]
    obtain ⟨j, hj, rfl⟩ := h1
    rw [if_neg (nI_pos (by omega)), if_neg (nI_ge (by omega) (by omega)), if_neg (nI_ge (by omega) (by omega))]
  · rw [if_neg h1]
    split
    · rfl
    · split
      · rfl
      · rename_i h2 h3
        obtain ⟨j, hj, rfl⟩ := nI_of h2
        exact absurd ⟨j, by rw [nI_leI (by omega) hj] at h3; omega, rfl⟩ h1
theorem iteT {c : Prop} [Decidable c] {a b : τ} (h : c) : (if c then a else b) = a := if_pos h
end
