/-! reading a law: what the class's reader and the reference's have in common -/
def RdI (tx : Nat → Int32) (L : Nat) (S : St) (p s : Nat) : Prop := S.2.1 100 = tx ∧ S.1 101 = nI L ∧ L ≤ 120 ∧ S.1 102 = nI p ∧ p ≤ L ∧ S.1 1065 = nI s ∧ s ≤ p ∧ (S.1 103 = -1 ∨ ∃ q, q ≤ 120 ∧ S.1 103 = nI q)
def RdF (S S' : St) (s : Nat) : Prop := S'.2.2 = S.2.2 ∧ (∀ j, j ≠ 102 → j ≠ 103 → j ≠ 1065 → S'.1 j = S.1 j) ∧ (∀ j, j ≠ 1060 → j ≠ 1061 → j ≠ 1062 → S'.2.1 j = S.2.1 j) ∧ ∀ i, i < s → S'.2.1 1060 i = S.2.1 1060 i ∧ S'.2.1 1061 i = S.2.1 1061 i ∧ S'.2.1 1062 i = S.2.1 1062 i
def MFr (M M' : St) : Prop := M'.2 = M.2 ∧ ∀ j, j ≠ 17 → j ≠ 19 → j ≠ 20 → M'.1 j = M.1 j
def RdT (tx : Nat → Int32) (L : Nat) (M : St) : Prop := M.1 18 = nI L ∧ ((M.1 16 < 0 ∧ ∀ i, i < L → M.2.1 12 i = tx i) ∨ ∃ b, M.1 16 = nI b ∧ b + L ≤ 360 ∧ ∀ i, i < L → M.2.1 14 (b + i) = tx i)
def RdM (tx : Nat → Int32) (L : Nat) (S M : St) : Prop := M.1 17 = S.1 102 ∧ M.1 19 = S.1 103 ∧ RdT tx L M
def nxt (tx : Nat → Int32) (L : Nat) (S : St) (p : Nat) : Option Int32 := if S.1 103 = -1 ∧ p < L then some (tx p) else none
def ev (S : St) (nm : Nat → Int32) (s r : Nat) : Int32 := vs (S.2.1 1060) (S.2.1 1061) (S.2.1 1062) nm s r
def stp (S : St) (s : Nat) (a b c : Int32) : St := sf (sa (sa (sa S 1060 s a) 1061 s b) 1062 s c) 1065 (nI (s + 1))
theorem sf_self {S : St} {k : Nat} {v : Int32} (hv : S.1 k = v) : sf S k v = S := by
  refine Prod.ext (funext fun j => ?_) rfl
  show (if j = k then v else S.1 j) = S.1 j
  split
  · rename_i hj; rw [hj, hv]
  · rfl
theorem sf_sf {S : St} {k : Nat} {v w : Int32} : sf (sf S k v) k w = sf S k w := by
  refine Prod.ext (funext fun j => ?_) rfl
  show (if j = k then w else if j = k then v else S.1 j) = if j = k then w else S.1 j
  split
  · rfl
  · rfl
theorem m1_ne {n : Nat} (hn : n < 2 ^ 31) : ¬ nI n = -1 := fun q => by
  have hh := nI_toInt hn
  rw [q] at hh
  have : (-1 : Int32).toInt = -1 := rfl
  omega
theorem RdF.rf {S : St} {s : Nat} : RdF S S s := ⟨rfl, fun _ _ _ _ => rfl, fun _ _ _ _ => rfl, fun _ _ => ⟨rfl, rfl, rfl⟩⟩
theorem RdF.tr {S S1 S2 : St} {s s1 : Nat} (h1 : RdF S S1 s) (h2 : RdF S1 S2 s1) (hs : s ≤ s1) : RdF S S2 s :=
  ⟨h2.1.trans h1.1, fun j a b c => (h2.2.1 j a b c).trans (h1.2.1 j a b c), fun j a b c => (h2.2.2.1 j a b c).trans (h1.2.2.1 j a b c), fun i hi => by
    obtain ⟨a1, a2, a3⟩ := h1.2.2.2 i hi
    obtain ⟨b1, b2, b3⟩ := h2.2.2.2 i (Nat.lt_of_lt_of_le hi hs)
    exact ⟨b1.trans a1, b2.trans a2, b3.trans a3⟩⟩
theorem RdF.le {S S1 : St} {s s1 : Nat} (h1 : RdF S S1 s1) (hs : s ≤ s1) : RdF S S1 s := ⟨h1.1, h1.2.1, h1.2.2.1, fun i hi => h1.2.2.2 i (Nat.lt_of_lt_of_le hi hs)⟩
theorem RdF.pl {S : St} {s : Nat} {v : Int32} : RdF S (sf S 102 v) s := ⟨rfl, fun j a _ _ => if_neg a, fun _ _ _ _ => rfl, fun _ _ => ⟨rfl, rfl, rfl⟩⟩
theorem RdF.fl {S : St} {s : Nat} {v : Int32} : RdF S (sf S 103 v) s := ⟨rfl, fun j _ a _ => if_neg a, fun _ _ _ _ => rfl, fun _ _ => ⟨rfl, rfl, rfl⟩⟩
theorem RdF.st {S : St} {s : Nat} {a b c : Int32} : RdF S (stp S s a b c) s := ⟨rfl, fun j _ _ q => if_neg q, fun j q1 q2 q3 => by
    show (if j = 1062 then _ else if j = 1061 then _ else if j = 1060 then _ else _) = _
    rw [if_neg q3, if_neg q2, if_neg q1], fun i hi => ⟨pk_un (Nat.ne_of_lt hi), pk_un (Nat.ne_of_lt hi), pk_un (Nat.ne_of_lt hi)⟩⟩
theorem MFr.rf {M : St} : MFr M M := ⟨rfl, fun _ _ _ _ => rfl⟩
theorem MFr.tr {M M1 M2 : St} (h1 : MFr M M1) (h2 : MFr M1 M2) : MFr M M2 := ⟨h2.1.trans h1.1, fun j a b c => (h2.2 j a b c).trans (h1.2 j a b c)⟩
theorem MFr.pl {M : St} {v : Int32} : MFr M (sf M 17 v) := ⟨rfl, fun j a _ _ => if_neg a⟩
theorem MFr.fl {M : St} {v : Int32} : MFr M (sf M 19 v) := ⟨rfl, fun j _ a _ => if_neg a⟩
theorem MFr.op {M : St} {v : Int32} : MFr M (sf M 20 v) := ⟨rfl, fun j _ _ a => if_neg a⟩
theorem RdT.fr {tx : Nat → Int32} {L : Nat} {M M' : St} (ht : RdT tx L M) (hf : MFr M M') : RdT tx L M' := by
  unfold RdT
  rw [hf.1, hf.2 18 (by decide) (by decide) (by decide), hf.2 16 (by decide) (by decide) (by decide)]
  exact ht
theorem ev_keep {S S' : St} {nm : Nat → Int32} {s s' r : Nat} (hf : RdF S S' s) (hr : r < s) (hs : s ≤ s') : ev S' nm s' r = ev S nm s r := by
  unfold ev
  rw [vs_stl hr hs]
  exact congrFun (vs_ext hf.2.2.2 (fun _ _ => rfl)) r
section
variable {F : Nat} {Z : Zt} {tx : Nat → Int32} {L o p s : Nat} {S M : St}
theorem ahead_eq (hI : RdI tx L S p s) : f_X5_ahead Z S = some ((nxt tx L S p).getD (-2)) := by
  obtain ⟨i1, i2, i3, i4, i5, i6, i7, i8⟩ := hI
  unfold f_X5_ahead
  by_cases hf : S.1 103 = -1
  · rw [if_pos hf, i4, i2, if_neg (nI_pos (by omega))]
    by_cases hp : p < L
    · have hx : nxt tx L S p = some (tx p) := if_pos ⟨hf, hp⟩
      rw [if_neg (nI_ge hp (by omega)), show (120 : Int32) = nI 120 from rfl, if_neg (nI_ge (by omega) (by omega)), inr_nI (by omega) (by omega), chk_true, cl_nI (by omega), i1, hx]
      rfl
    · have hx : nxt tx L S p = none := if_neg (fun q => hp q.2)
      rw [if_pos (nI_le (by omega) (by omega)), hx]
      rfl
  · have hx : nxt tx L S p = none := if_neg (fun q => hf q.1)
    rw [if_neg hf, hx]
    rfl
theorem took_eq {c : Int32} (hI : RdI tx L S p s) (hc : ¬ (-2) = c) : f_X5_took Z S c = some (if nxt tx L S p = some c then (1, sf S 102 (nI (p + 1))) else (0, S)) := by
  unfold f_X5_took
  rw [ahead_eq hI, Option.bind_some, hI.2.2.2.1, nI_1]
  cases hx : nxt tx L S p with
  | none =>
    have hno : ¬ (none : Option Int32) = some c := fun q => by cases q
    rw [if_neg hno]
    exact if_neg hc
  | some d =>
    by_cases hd : d = c
    · subst hd
      rw [if_pos (rfl : (some d : Option Int32) = some d)]
      exact if_pos rfl
    · rw [if_neg (fun q => hd (Option.some.inj q) : ¬ (some d : Option Int32) = some c)]
      exact if_neg hd
theorem nxt_y (hf : S.1 103 = -1) (hp : p < L) : nxt tx L S p = some (tx p) := if_pos ⟨hf, hp⟩
theorem nxt_n1 (hp : ¬ p < L) : nxt tx L S p = none := if_neg (fun q => hp q.2)
theorem nxt_n2 (hf : ¬ S.1 103 = -1) : nxt tx L S p = none := if_neg (fun q => hf q.1)
theorem no_some {c : Int32} : ¬ (none : Option Int32) = some c := fun q => by cases q
theorem byte_eq (hI : RdI tx L S p s) (hM : RdM tx L S M) : f_X11_byteAt M = some (if p < L then tx p else 0) := by
  obtain ⟨i1, i2, i3, i4, i5, i6, i7, i8⟩ := hI
  obtain ⟨m1, m2, m3, m4⟩ := hM
  unfold f_X11_byteAt
  rw [m3, m1, i4]
  by_cases hp : p < L
  · rw [if_neg (nI_ge hp (by omega)), if_pos hp]
    rcases m4 with ⟨a1, a2⟩ | ⟨b, b1, b2, b3⟩
    · rw [if_neg (fun q => by rw [le_i] at q; rw [lt_i] at a1; omega), inr_nI (by omega) (by omega), chk_true, cl_nI (by omega), a2 p hp]
    · rw [b1, if_pos (nI_pos' (by omega)), nI_add, inr_nI (by omega) (by omega), chk_true, cl_nI (by omega), b3 p hp]
  · rw [if_pos (nI_le (by omega) (by omega)), if_neg hp]
/-- no fault so far: the reference hasn't one -/
theorem flt_no (hM : RdM tx L S M) (hf : S.1 103 = -1) : M.1 19 < 0 ∧ ¬ 0 ≤ M.1 19 := by
  rw [hM.2.1, hf]
  decide
theorem flt_yes (hI : RdI tx L S p s) (hM : RdM tx L S M) (hf : ¬ S.1 103 = -1) : ¬ M.1 19 < 0 ∧ 0 ≤ M.1 19 := by
  rw [hM.2.1]
  rcases hI.2.2.2.2.2.2.2 with q | ⟨k, hk, q⟩
  · exact absurd q hf
  · rw [q]
    exact ⟨nI_pos (by omega), nI_pos' (by omega)⟩
theorem takes_eq {c : Int32} (hI : RdI tx L S p s) (hM : RdM tx L S M) (hc : ¬ 0 = c) : f_X11_takes M c = some (if nxt tx L S p = some c then (1, sf M 17 (nI (p + 1))) else (0, M)) := by
  unfold f_X11_takes
  by_cases hf : S.1 103 = -1
  · rw [if_neg (flt_no hM hf).2, byte_eq hI hM, Option.bind_some, hM.1, hI.2.2.2.1, nI_1]
    by_cases hp : p < L
    · rw [if_pos hp, nxt_y hf hp]
      by_cases hd : tx p = c
      · rw [if_pos hd, if_pos (congrArg some hd)]
      · rw [if_neg hd, if_neg (fun q => hd (Option.some.inj q) : ¬ some (tx p) = some c)]
    · rw [if_neg hp, nxt_n1 hp, if_neg hc, if_neg no_some]
  · rw [if_pos (flt_yes hI hM hf).2, nxt_n2 hf, if_neg no_some]
theorem nxt_some {c : Int32} (hx : nxt tx L S p = some c) : S.1 103 = -1 ∧ p < L ∧ tx p = c := by
  unfold nxt at hx
  split at hx
  · rename_i q; exact ⟨q.1, q.2, Option.some.inj hx⟩
  · cases hx
theorem nxt_none (hx : nxt tx L S p = none) : ¬ S.1 103 = -1 ∨ L ≤ p := by
  unfold nxt at hx
  split at hx
  · cases hx
  · rename_i q
    rcases Classical.em (S.1 103 = -1) with q1 | q1
    · exact Or.inr (Nat.not_lt.mp (fun z => q ⟨q1, z⟩))
    · exact Or.inl q1
theorem RdI.pl (hI : RdI tx L S p s) (q : Nat) (h1 : p ≤ q) (h2 : q ≤ L) : RdI tx L (sf S 102 (nI q)) q s := by
  obtain ⟨i1, i2, i3, i4, i5, i6, i7, i8⟩ := hI
  exact ⟨i1, i2, i3, rfl, h2, i6, by omega, i8⟩
theorem RdM.pl (hM : RdM tx L S M) (q : Nat) : RdM tx L (sf S 102 (nI q)) (sf M 17 (nI q)) := ⟨rfl, hM.2.1, hM.2.2.fr MFr.pl⟩
theorem lnC_hi {i : Nat} (hi : 1000 ≤ i) : lnC Z i = 120 := by
  unfold lnC
  rw [if_neg (by omega), if_pos hi]
theorem add_eq {a b c : Int32} (hI : RdI tx L S p s) (hs : s < p) : f_X8_addStep 1060 Z S a b c = some (nI s, stp S s a b c) := by
  obtain ⟨i1, i2, i3, i4, i5, i6, i7, i8⟩ := hI
  unfold f_X8_addStep
  simp only [Nat.reduceAdd, i6]
  rw [show (120 : Int32) = nI 120 from rfl, if_pos (nI_lt (by omega) (by omega)), lnC_hi (by omega), lnC_hi (by omega), lnC_hi (by omega), inr_nI (by omega) (by omega), chk_true, chk_true, chk_true, cl_nI (by omega), nI_1]
  rfl
theorem RdI.st {a b c : Int32} (hI : RdI tx L S p s) (hs : s < p) : RdI tx L (stp S s a b c) p (s + 1) := by
  obtain ⟨i1, i2, i3, i4, i5, i6, i7, i8⟩ := hI
  exact ⟨i1, i2, i3, i4, i5, rfl, by omega, i8⟩
theorem RdM.st {a b c : Int32} (hM : RdM tx L S M) : RdM tx L (stp S s a b c) M := hM
/-- a fault -/
theorem fail_ok (hI : RdI tx L S p s) : ∃ S', f_X5_failed Z S = some (-1, S') ∧ RdI tx L S' p s ∧ RdF S S' s ∧ ¬ S'.1 103 = -1 ∧ ∀ M, RdM tx L S M → ∃ M', f_X11_wrong M = some (0, M') ∧ RdM tx L S' M' ∧ MFr M M' := by
  unfold f_X5_failed f_X11_wrong
  by_cases hf : S.1 103 = -1
  · refine ⟨_, if_pos hf, ?_, RdF.fl, ?_, fun M hM => ⟨_, if_neg (flt_no hM hf).2, ?_, MFr.fl⟩⟩
    · obtain ⟨i1, i2, i3, i4, i5, i6, i7, i8⟩ := hI
      exact ⟨i1, i2, i3, i4, i5, i6, i7, Or.inr ⟨p, by omega, i4⟩⟩
    · show ¬ S.1 102 = -1
      rw [hI.2.2.2.1]
      exact m1_ne (by have := hI.2.2.1; have := hI.2.2.2.2.1; omega)
    · exact ⟨hM.1, hM.1, hM.2.2.fr MFr.fl⟩
  · refine ⟨_, if_neg hf, hI, RdF.rf, hf, fun M hM => ⟨_, if_pos (flt_yes hI hM hf).2, ?_, MFr.fl⟩⟩
    exact ⟨hM.1, hM.2.1, hM.2.2.fr MFr.fl⟩
end
