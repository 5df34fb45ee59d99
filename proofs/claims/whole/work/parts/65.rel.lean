/-! what the class's state and the reference's have in common -/
def mnOK (r u f : Int32) : Prop := ∃ a b c : Nat, 2 ≤ a ∧ a ≤ 999 ∧ b ≤ a ∧ c < a ∧ r = nI a ∧ u = nI b ∧ f = nI c
def KSky (S M : St) (nm nv : Nat) : Prop := (S.1 148 = nI nm ∧ M.1 6 = nI nm ∧ nm ≤ 3) ∧ (S.1 149 = nI nv ∧ M.1 8 = nI nv ∧ nv ≤ 5) ∧ (S.2.1 140 = M.2.1 7 ∧ S.2.1 144 = M.2.1 9 ∧ S.2.1 145 = M.2.1 10 ∧ S.2.1 146 = M.2.1 11) ∧ (∀ k, k < 3 → S.2.1 141 k = M.2.1 0 k ∧ S.2.1 142 k = M.2.1 0 (3 + k)) ∧ (∀ k, k < nm → mnOK (M.2.1 7 k) (M.2.1 0 k) (M.2.1 0 (3 + k))) ∧ (∀ i, i < 15 → ∃ a b, a ≤ 99 ∧ b ≤ 99 ∧ M.2.1 9 i = nI a ∧ M.2.1 10 i = nI b) ∧ ∀ i, i < 25 → ∃ a, a ≤ 99 ∧ M.2.1 11 i = nI a ∧ (nv ≤ i / 5 ∨ nv ≤ i % 5 → a = 0)
def ddOK (a h w o : Int32) : Prop := ∃ x y z q : Nat, x ≤ 9 ∧ 1 ≤ y ∧ y ≤ 48 ∧ z ≤ 9 ∧ q ≤ 3 ∧ a = nI x ∧ h = nI y ∧ w = nI z ∧ o = nI q
def KBook (S M : St) (nd : Nat) : Prop := (S.1 24 = nI nd ∧ M.1 22 = nI nd ∧ nd ≤ 12) ∧ (S.2.1 20 = M.2.1 23 ∧ S.2.1 22 = M.2.1 24) ∧ (∀ d, d < 12 → S.2.1 21 d = M.2.1 0 (6 + d) ∧ S.2.1 23 d = M.2.1 0 (18 + d)) ∧ ∀ d, d < nd → ddOK (M.2.1 23 d) (M.2.1 0 (6 + d)) (M.2.1 24 d) (M.2.1 0 (18 + d))
def KTape (S M : St) : Prop := S.2.1 100 = M.2.1 12 ∧ ∃ n, n ≤ 120 ∧ S.1 101 = nI n ∧ M.1 13 = nI n
def vwOK (nd nv : Nat) (a b c x y : Int32) : Prop := ∃ d v h : Nat, d < nd ∧ v < nv ∧ h ≤ 999999 ∧ a = nI d ∧ b = nI v ∧ c = nI h ∧ x = nI (10 * d + v) ∧ y = nI h
def KVows (S M : St) (nd nv : Nat) : Prop := ∃ n, n ≤ 20 ∧ S.1 186 = nI n ∧ M.1 31 = nI n ∧ ∀ p, p < n → vwOK nd nv (S.2.1 183 p) (S.2.1 184 p) (S.2.1 185 p) (M.2.1 32 p) (M.2.1 33 p)
/-- the value v may stand at what of number n -/
def chV (M : St) (nm nd w n v : Nat) : Prop := (w = 0 ∧ n < nm ∧ ∃ r, M.2.1 7 n = nI r ∧ r ≤ 999 ∧ v ≤ r) ∨ (w = 1 ∧ n < nm ∧ ∃ r, M.2.1 7 n = nI r ∧ r ≤ 999 ∧ v < r) ∨ (w = 2 ∧ n < nd ∧ 1 ≤ v ∧ v ≤ 48) ∨ (w = 3 ∧ n < nd ∧ v ≤ 3)
def plW (w : Nat) : Nat := if w = 0 then 0 else if w = 1 then 3 else if w = 2 then 6 else 18
def chOK (M : St) (nm nd : Nat) (a b c d x y z : Int32) : Prop := ∃ n w v1 v2 : Nat, a = nI n ∧ b = nI w ∧ c = nI v1 ∧ d = nI v2 ∧ x = nI (plW w + n) ∧ y = nI v1 ∧ z = nI v2 ∧ chV M nm nd w n v1 ∧ chV M nm nd w n v2
def KChg (S M : St) (nm nd : Nat) : Prop := ∃ dn kp, dn ≤ kp ∧ kp ≤ 40 ∧ S.1 66 = nI dn ∧ M.1 5 = nI dn ∧ S.1 67 = nI kp ∧ M.1 4 = nI kp ∧ ∀ i, i < kp → chOK M nm nd (S.2.1 62 i) (S.2.1 63 i) (S.2.1 64 i) (S.2.1 65 i) (M.2.1 1 i) (M.2.1 2 i) (M.2.1 3 i)
def KActs (S M : St) (nb : Nat) : Prop := (S.1 2 = nI nb ∧ M.1 34 = nI nb ∧ nb ≤ 50) ∧ (S.2.1 0 = M.2.1 35 ∧ S.2.1 1 = M.2.1 36) ∧ (∀ b, b < nb → ∃ k, k < 8 ∧ M.2.1 35 b = nI k) ∧ S.1 3 = M.1 37 ∧ ∃ r, r ≤ 1000 ∧ M.1 37 = nI r
def byOK (v : Int64) : Prop := (-128 : Int) ≤ v.toInt ∧ v.toInt ≤ 127
def shOK (S M : St) (nb d : Nat) : Prop := (S.2.1 120 d = -1 ∧ M.2.1 40 d = -1) ∨ (S.2.1 120 d = -2 ∧ ∃ b, b < nb ∧ S.2.1 121 d = nI b ∧ M.2.1 40 d = nI b) ∨ ∃ q n, q ≤ 4 ∧ n ≤ 60 ∧ S.2.1 120 d = nI q ∧ M.2.1 40 d = nI (50 + q) ∧ S.2.1 122 d = nI n ∧ M.2.1 41 d = nI n ∧ (∀ i, i < 60 → S.2.2 123 (60 * d + i) = M.2.2 42 (60 * d + i)) ∧ (q = 0 → ∀ i, i < 60 → byOK (M.2.2 42 (60 * d + i)))
def KShelf (S M : St) (nb : Nat) : Prop := ∀ d, d < 6 → shOK S M nb d
def lwOK (F : Nat) (S : St) (Z : Zt) (M : St) (nm k : Nat) : Prop := (Z.2 k = false ∧ M.2.1 15 k = -1) ∨ (Z.2 k = true ∧ k < nm ∧ ∃ L s l, L ≤ 120 ∧ s ≤ 120 ∧ l ≤ 120 ∧ M.2.1 15 k = nI L ∧ S.1 (1005 + 20 * k) = nI s ∧ S.1 (1006 + 20 * k) = nI l ∧ (∀ i, i < l → lineOK s (S.2.1 (1003 + 20 * k) i) (S.2.1 (1004 + 20 * k) i)) ∧ lawOK F (ansS k S s l) (fun i => M.2.1 14 (120 * k + i)) L)
def KLaw (F : Nat) (S : St) (Z : Zt) (M : St) (nm : Nat) : Prop := ∀ k, k < 3 → lwOK F S Z M nm k
def KCt (S : St) (Z : Zt) (b : Nat) : Prop := (Z.1 (b + 6) = 0 ∨ Z.1 (b + 6) = 9216) ∧ ∃ bs, bs ≤ 2000016384 ∧ S.1 (b + 7) = nI bs ∧ ∀ i, i < 9216 → ∃ x, x ≤ bs + 10001 ∧ S.2.1 (b + 6) i = nI x
/-- what a law comes to -/
def LW (S : St) (Z : Zt) (k : Nat) : Option ((Nat → Int32) → Int32) := if Z.2 k = true then some (ansS k S (S.1 (1005 + 20 * k)).toNatClampNeg (S.1 (1006 + 20 * k)).toNatClampNeg) else none
def bts (set : Nat) : Nat := set % 2 + set / 2 % 2 + set / 4 % 2
def nms (so hr wh : Int32) (v n h set : Nat) : Nat → Int32 := fun j => if j = 0 then so else if j = 1 then nI n else if j = 2 then hr else if j = 3 then nI h else if j = 4 then nI v else if j = 5 then wh else nI (bts set)
def one3 (W : Nat → Option ((Nat → Int32) → Int32)) (k set : Nat) (nm : Nat → Int32) : Int32 := if set / 2 ^ k % 2 = 0 then 0 else match W k with
  | none => 0
  | some f => f nm
def mxx (m c : Int32) : Int32 := if m < (if 9999 < c then 9999 else c) then (if 9999 < c then 9999 else c) else m
/-- costs by a set of moons -/
def cst (W : Nat → Option ((Nat → Int32) → Int32)) (so hr wh : Int32) (v n h set : Nat) : Int32 :=
  if one3 W 0 set (nms so hr wh v n h set) < 0 then -2 else if one3 W 1 set (nms so hr wh v n h set) < 0 then -2 else if one3 W 2 set (nms so hr wh v n h set) < 0 then -2 else mxx (mxx (mxx 0 (one3 W 0 set (nms so hr wh v n h set))) (one3 W 1 set (nms so hr wh v n h set))) (one3 W 2 set (nms so hr wh v n h set))
def mmK (d set n h : Nat) : Nat := 9216 * d + (48 * set + n) * 24 + h
def KMemo (S : St) (Z : Zt) (M : St) (nd B : Nat) : Prop := ∃ st, st ≤ B ∧ M.1 29 = nI st ∧ (∀ d, d < 12 → ∃ x, x ≤ st ∧ M.2.1 27 d = nI x ∧ (nd ≤ d → x = 0)) ∧ (∀ k, k < 110592 → ∃ x, x ≤ st ∧ M.2.1 26 k = nI x) ∧ ∀ d, d < nd → ¬ M.2.1 27 d = 0 → ∃ v, v < 5 ∧ M.2.1 28 d = nI v ∧ ∀ set n h, set < 8 → n < 48 → h < 24 → M.2.1 26 (mmK d set n h) = M.2.1 27 d → M.2.1 25 (mmK d set n h) = cst (LW S Z) (M.2.1 23 d) (M.2.1 0 (6 + d)) (M.2.1 24 d) v n h set
def RV (F : Nat) (S : St) (Z : Zt) (M : St) (nm nv nd nb : Nat) : Prop := KSky S M nm nv ∧ KBook S M nd ∧ KTape S M ∧ KVows S M nd nv ∧ KChg S M nm nd ∧ KActs S M nb ∧ KShelf S M nb ∧ KLaw F S Z M nm
def RR (F : Nat) (t : Nat) (S : St) (Z : Zt) (M : St) : Prop := ∃ nm nv nd nb, RV F S Z M nm nv nd nb ∧ KCt S Z 80 ∧ KCt S Z 300 ∧ KMemo S Z M nd (1000000 * t)
theorem RR_idle {F t : Nat} {S : St} {Z : Zt} {M : St} (hR : RR F t S Z M) : RR F (t + 1) S Z M := by
  obtain ⟨nm, nv, nd, nb, h1, h2, h3, st, h4, h5⟩ := hR
  exact ⟨nm, nv, nd, nb, h1, h2, h3, st, by omega, h5⟩
