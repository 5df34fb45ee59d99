/-! roads: the fewest hours by ways -/
def rch (W : Nat → Nat) (nv src : Nat) : Nat → Nat → Nat → Prop
  | 0, v, l => v = src ∧ l = 0
  | n + 1, v, l => ∃ a l', rch W nv src n a l' ∧ a < nv ∧ v < nv ∧ 0 < W (5 * a + v) ∧ l = l' + W (5 * a + v)
def cntL (δ : Nat → Nat) (x : Nat) : Nat → Nat
  | 0 => 0
  | k + 1 => cntL δ x k + if δ k < x then 1 else 0
theorem cntL_lt {δ : Nat → Nat} {x y a : Nat} (hxy : x < y) (ha : δ a = x) : ∀ k, cntL δ x k ≤ cntL δ y k ∧ (a < k → cntL δ x k + 1 ≤ cntL δ y k) := by
  intro k
  induction k with
  | zero => exact ⟨Nat.le_refl _, fun h => absurd h (Nat.not_lt_zero _)⟩
  | succ k ih =>
    show cntL δ x k + (if δ k < x then 1 else 0) ≤ cntL δ y k + (if δ k < y then 1 else 0) ∧ (a < k + 1 → cntL δ x k + (if δ k < x then 1 else 0) + 1 ≤ cntL δ y k + (if δ k < y then 1 else 0))
    have h1 : (if δ k < x then 1 else 0) ≤ (if δ k < y then 1 else 0) := by
      by_cases q : δ k < x
      · rw [if_pos q, if_pos (by omega)]
        exact Nat.le_refl _
      · rw [if_neg q]
        exact Nat.zero_le _
    refine ⟨by omega, fun hk => ?_⟩
    by_cases q : a = k
    · subst q
      rw [if_neg (by omega), if_pos (by omega)]
      omega
    · have := ih.2 (by omega)
      omega
theorem cntL_le {δ : Nat → Nat} {x v : Nat} (hv : δ v = x) : ∀ k, cntL δ x k ≤ k ∧ (v < k → cntL δ x k + 1 ≤ k) := by
  intro k
  induction k with
  | zero => exact ⟨Nat.le_refl _, fun h => absurd h (Nat.not_lt_zero _)⟩
  | succ k ih =>
    show cntL δ x k + (if δ k < x then 1 else 0) ≤ k + 1 ∧ (v < k + 1 → cntL δ x k + (if δ k < x then 1 else 0) + 1 ≤ k + 1)
    have h1 : (if δ k < x then 1 else 0) ≤ 1 := by split <;> omega
    refine ⟨by omega, fun hk => ?_⟩
    by_cases q : v = k
    · subst q
      rw [if_neg (by omega)]
      omega
    · have := ih.2 (by omega)
      omega
section
variable {W : Nat → Nat} {nv src : Nat}
theorem rch_lt (hs : src < nv) {n v l : Nat} (h : rch W nv src n v l) : v < nv := by
  cases n with
  | zero => exact h.1 ▸ hs
  | succ n =>
    obtain ⟨a, l', -, -, q, -⟩ := h
    exact q
/-- no walk need be longer than there are valleys -/
theorem short (hs : src < nv) {n v l : Nat} (h : rch W nv src n v l) : ∃ n' l', n' + 1 ≤ nv ∧ l' ≤ l ∧ rch W nv src n' v l' := by
  have hex : ∀ v, ∃ m, (∃ n l, rch W nv src n v l) → (∃ n, rch W nv src n v m) ∧ ∀ n l, rch W nv src n v l → m ≤ l := by
    intro v
    by_cases q : ∃ n l, rch W nv src n v l
    · obtain ⟨n, l, h⟩ := q
      obtain ⟨m, ⟨n', h'⟩, h2⟩ := pk_least (fun m => ∃ n, rch W nv src n v m) ⟨l, n, h⟩
      exact ⟨m, fun _ => ⟨⟨n', h'⟩, fun n l hn => Nat.not_lt.mp fun z => h2 l z ⟨n, hn⟩⟩⟩
    · exact ⟨0, fun z => absurd z q⟩
  obtain ⟨δ, hδ⟩ := Classical.axiomOfChoice hex
  have hmain : ∀ x v, δ v = x → (∃ n l, rch W nv src n v l) → ∃ n', n' ≤ cntL δ x nv ∧ rch W nv src n' v x := by
    intro x
    induction x using Nat.strongRecOn with
    | _ x ih =>
      intro v hv hr
      obtain ⟨⟨n, hn⟩, hmin⟩ := hδ v hr
      rw [hv] at hn hmin
      cases n with
      | zero => exact ⟨0, Nat.zero_le _, hn⟩
      | succ n =>
        obtain ⟨a, l', h1, h2, h3, h4, h5⟩ := hn
        obtain ⟨⟨na, hna⟩, hamin⟩ := hδ a ⟨n, l', h1⟩
        have hle := hamin n l' h1
        have hge := hmin (na + 1) (δ a + W (5 * a + v)) ⟨a, δ a, hna, h2, h3, h4, rfl⟩
        obtain ⟨n2, hn2, hr2⟩ := ih (δ a) (by omega) a rfl ⟨n, l', h1⟩
        have hc := (cntL_lt (δ := δ) (x := δ a) (y := x) (a := a) (by omega) rfl nv).2 h2
        exact ⟨n2 + 1, by omega, a, δ a, hr2, h2, h3, h4, by omega⟩
  obtain ⟨n', h1, h2⟩ := hmain (δ v) v rfl ⟨n, l, h⟩
  have h3 := (cntL_le (δ := δ) (x := δ v) (v := v) rfl nv).2 (rch_lt hs h)
  exact ⟨n', δ v, by omega, (hδ v ⟨n, l, h⟩).2 n l h, h2⟩
def Ld (W : Nat → Nat) (nv src : Nat) (D : Nat → Nat) : Prop := ∀ v, v < nv → D v ≤ 1000000 ∧ (D v = 1000000 ∨ ∃ n, rch W nv src n v (D v))
def Ub (W : Nat → Nat) (nv src p : Nat) (D : Nat → Nat) : Prop := ∀ n v l, n ≤ p → rch W nv src n v l → D v ≤ l
def Dn (W : Nat → Nat) (nv src p : Nat) (D : Nat → Nat) (a b : Nat) : Prop := ∀ n l, n ≤ p → rch W nv src n a l → 0 < W (5 * a + b) → D b ≤ l + W (5 * a + b)
/-- what is found is one thing -/
theorem roads_one (hs : src < nv) {D1 D2 : Nat → Nat} {p1 p2 : Nat} (a1 : Ld W nv src D1) (a2 : Ld W nv src D2) (b1 : Ub W nv src p1 D1) (b2 : Ub W nv src p2 D2) (h1 : nv ≤ p1 + 1) (h2 : nv ≤ p2 + 1) {v : Nat} (hv : v < nv) : D1 v = D2 v := by
  have hle : ∀ {D1 D2 : Nat → Nat} {p1 : Nat}, Ld W nv src D1 → Ld W nv src D2 → Ub W nv src p1 D1 → nv ≤ p1 + 1 → D1 v ≤ D2 v := by
    intro D1 D2 p1 a1 a2 b1 h1
    rcases (a2 v hv).2 with e | ⟨n, hn⟩
    · rw [e]
      exact (a1 v hv).1
    · obtain ⟨n', l', q1, q2, q3⟩ := short hs hn
      exact Nat.le_trans (b1 n' v l' (by omega) q3) q2
  exact Nat.le_antisymm (hle a1 a2 b1 h1) (hle a2 a1 b2 h2)
theorem Ub.up (hs : src < nv) {p : Nat} {D : Nat → Nat} (h : Ub W nv src p D) (hd : ∀ a b, a < nv → b < nv → Dn W nv src p D a b) : Ub W nv src (p + 1) D := by
  intro n v l hn hr
  by_cases q : n ≤ p
  · exact h n v l q hr
  · have e : n = p + 1 := by omega
    subst e
    obtain ⟨a, l', h1, h2, h3, h4, rfl⟩ := hr
    exact hd a v h2 h3 p l' (Nat.le_refl _) h1 h4
theorem Ub.dn {p : Nat} {D D' : Nat → Nat} (h : Ub W nv src p D) (hle : ∀ v, D' v ≤ D v) : Ub W nv src p D' := fun n v l hn hr => Nat.le_trans (hle v) (h n v l hn hr)
theorem Dn.dn {p a b : Nat} {D D' : Nat → Nat} (h : Dn W nv src p D a b) (hle : ∀ v, D' v ≤ D v) : Dn W nv src p D' a b := fun n l hn hr hw => Nat.le_trans (hle b) (h n l hn hr hw)
/-- one way looked at -/
def edg (W : Nat → Nat) (D : Nat → Nat) (a b : Nat) : Nat → Nat := fun x => if x = b ∧ 0 < W (5 * a + b) ∧ D a + W (5 * a + b) < D b then D a + W (5 * a + b) else D x
theorem edg_le (D : Nat → Nat) (a b x : Nat) : edg W D a b x ≤ D x := by
  unfold edg
  split
  · rename_i h
    obtain ⟨rfl, h2, h3⟩ := h
    omega
  · exact Nat.le_refl _
theorem edg_dn {D : Nat → Nat} {p a b : Nat} (h : Ub W nv src p D) : Dn W nv src p (edg W D a b) a b := by
  intro n l hn hr hw
  have h1 := h n a l hn hr
  unfold edg
  by_cases q : D a + W (5 * a + b) < D b
  · rw [if_pos ⟨rfl, hw, q⟩]
    omega
  · rw [if_neg (fun z => q z.2.2)]
    omega
theorem edg_ld {D : Nat → Nat} {a b : Nat} (h : Ld W nv src D) (ha : a < nv) (hb : b < nv) : Ld W nv src (edg W D a b) := by
  intro v hv
  unfold edg
  split
  · rename_i q
    obtain ⟨rfl, h2, h3⟩ := q
    have h4 := (h v hv).1
    refine ⟨by omega, Or.inr ?_⟩
    rcases (h a ha).2 with e | ⟨n, hn⟩
    · omega
    · exact ⟨n + 1, a, D a, hn, ha, hb, h2, rfl⟩
  · exact h v hv
end
