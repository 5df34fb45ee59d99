/-! a law's steps: what each comes to -/
def jn (sg a b : Int32) : Int32 := (f_X8_joined sg a b).getD 0
theorem is_ite {τ : Type} {c : Prop} [Decidable c] {e1 e2 : Option τ} (h1 : e1.isSome = true) (h2 : e2.isSome = true) : (if c then e1 else e2).isSome = true := by
  by_cases hc : c
  · rw [if_pos hc]; exact h1
  · rw [if_neg hc]; exact h2
theorem joined_ok (sg a b : Int32) : f_X8_joined sg a b = some (jn sg a b) := by
  have hsome : (f_X8_joined sg a b).isSome = true := by
    unfold f_X8_joined
    by_cases h3 : b = 0
    · simp only [if_pos h3]
      repeat' first | rfl | refine is_ite ?_ ?_
    · simp only [if_neg h3, nz_of h3, chk_true]
      repeat' first | rfl | refine is_ite ?_ ?_
  unfold jn
  cases hj : f_X8_joined sg a b with
  | none => rw [hj] at hsome; cases hsome
  | some v => rfl
def lw_a (i : Nat) (l : Int32) (w : Nat → Int32) : Int32 := if l < 0 then 0 else if nI i ≤ l then 0 else w l.toNatClampNeg
def sval (sg lf rt nm : Nat → Int32) (i : Nat) (w : Nat → Int32) : Int32 := if sg i = 48 then lf i else if sg i = 107 then (if lf i < 0 then 0 else if 7 ≤ lf i then 0 else nm (lf i).toNatClampNeg) else jn (sg i) (lw_a i (lf i) w) (lw_a i (rt i) w)
def vs (sg lf rt nm : Nat → Int32) : Nat → Nat → Int32
  | 0 => fun _ => 0
  | i + 1 => upd (vs sg lf rt nm i) i (sval sg lf rt nm i (vs sg lf rt nm i))
theorem vs_st {sg lf rt nm : Nat → Int32} {i j : Nat} (k : Nat) (h : j < i) : vs sg lf rt nm (i + k) j = vs sg lf rt nm i j := by
  induction k with
  | zero => rfl
  | succ k ih => rw [← Nat.add_assoc]; show upd _ _ _ j = _; rw [updE, if_neg (by omega), ih]
theorem vs_stl {sg lf rt nm : Nat → Int32} {i i' j : Nat} (h : j < i) (h2 : i ≤ i') : vs sg lf rt nm i' j = vs sg lf rt nm i j := by
  obtain ⟨k, rfl⟩ := Nat.exists_eq_add_of_le h2
  exact vs_st k h
theorem vs_ext {sg lf rt nm sg' lf' rt' nm' : Nat → Int32} {s : Nat} (h : ∀ i, i < s → sg' i = sg i ∧ lf' i = lf i ∧ rt' i = rt i) (hn : ∀ j, j < 7 → nm' j = nm j) : vs sg' lf' rt' nm' s = vs sg lf rt nm s := by
  induction s with
  | zero => rfl
  | succ s ih =>
    have ih := ih (fun i hi => h i (Nat.lt_succ_of_lt hi))
    obtain ⟨h1, h2, h3⟩ := h s (Nat.lt_succ_self s)
    show upd _ _ _ = upd _ _ _
    rw [ih]
    unfold sval
    rw [h1, h2, h3]
    congr 1
    split
    · rfl
    · split
      · split
        · rfl
        · split
          · rfl
          · rename_i q1 q2 q3 q4
            obtain ⟨j, hj, e⟩ := nI_of q3
            rw [e] at q4
            rw [show (7 : Int32) = nI 7 from rfl, nI_leI (by omega) hj] at q4
            rw [e, cl_nI hj]
            exact hn j (by omega)
      · rfl
theorem lw_a_nI {i r : Nat} {w : Nat → Int32} (h : r < i) (hi : i < 2 ^ 31) : lw_a i (nI r) w = w r := by
  unfold lw_a
  rw [if_neg (nI_pos (by omega)), if_neg (nI_ge h hi), cl_nI (by omega)]
theorem lw_a_m1 {i : Nat} {w : Nat → Int32} : lw_a i (-1) w = 0 := if_pos (by decide)
theorem vs_push {sg lf rt nm : Nat → Int32} {s : Nat} {c l r : Int32} : vs (upd sg s c) (upd lf s l) (upd rt s r) nm (s + 1) s = if c = 48 then l else if c = 107 then (if l < 0 then 0 else if 7 ≤ l then 0 else nm l.toNatClampNeg) else jn c (lw_a s l (vs sg lf rt nm s)) (lw_a s r (vs sg lf rt nm s)) := by
  have e : vs (upd sg s c) (upd lf s l) (upd rt s r) nm s = vs sg lf rt nm s := vs_ext (fun i hi => ⟨pk_un (Nat.ne_of_lt hi), pk_un (Nat.ne_of_lt hi), pk_un (Nat.ne_of_lt hi)⟩) (fun _ _ => rfl)
  show upd _ s _ s = _
  rw [pk_us, e]
  unfold sval
  rw [pk_us, pk_us, pk_us]
theorem vs_push2 {sg lf rt nm : Nat → Int32} {s a b : Nat} {c : Int32} (h1 : ¬ c = 48) (h2 : ¬ c = 107) (ha : a < s) (hb : b < s) (hs : s < 2 ^ 31) : vs (upd sg s c) (upd lf s (nI a)) (upd rt s (nI b)) nm (s + 1) s = jn c (vs sg lf rt nm s a) (vs sg lf rt nm s b) := by
  rw [vs_push, if_neg h1, if_neg h2, lw_a_nI ha hs, lw_a_nI hb hs]
theorem vs_push1 {sg lf rt nm : Nat → Int32} {s a : Nat} {c : Int32} (h1 : ¬ c = 48) (h2 : ¬ c = 107) (ha : a < s) (hs : s < 2 ^ 31) : vs (upd sg s c) (upd lf s (nI a)) (upd rt s (-1)) nm (s + 1) s = jn c (vs sg lf rt nm s a) 0 := by
  rw [vs_push, if_neg h1, if_neg h2, lw_a_nI ha hs, lw_a_m1]
theorem vs_pushN {sg lf rt nm : Nat → Int32} {s : Nat} {l r : Int32} : vs (upd sg s 48) (upd lf s l) (upd rt s r) nm (s + 1) s = l := by
  rw [vs_push, if_pos rfl]
theorem vs_pushK {sg lf rt nm : Nat → Int32} {s j : Nat} {r : Int32} (hj : j < 7) : vs (upd sg s 107) (upd lf s (nI j)) (upd rt s r) nm (s + 1) s = nm j := by
  rw [vs_push, if_neg (by decide), if_pos rfl, if_neg (nI_pos (by omega)), show (7 : Int32) = nI 7 from rfl, if_neg (nI_ge hj (by omega)), cl_nI (by omega)]
/-- the first line that counts -/
def hitP (wt rs w : Nat → Int32) : Nat → Option Int32
  | 0 => none
  | n + 1 => match hitP wt rs w n with
    | some v => some v
    | none => if wt n < 0 ∨ ¬ w (wt n).toNatClampNeg = 0 then some (w (rs n).toNatClampNeg) else none
def lineOK (s : Nat) (wt rs : Int32) : Prop := (wt = -1 ∨ ∃ j, j < s ∧ wt = nI j) ∧ ∃ r, r < s ∧ rs = nI r
def ansF (sg lf rt wt rs : Nat → Int32) (steps lines : Nat) (nm : Nat → Int32) : Int32 := (hitP wt rs (vs sg lf rt nm steps) lines).getD 0
theorem hitP_ext {wt rs w wt' rs' w' : Nat → Int32} {n s : Nat} (hl : ∀ i, i < n → lineOK s (wt i) (rs i)) (he : ∀ i, i < n → wt' i = wt i ∧ rs' i = rs i) (hw : ∀ j, j < s → w' j = w j) (hs : s < 2 ^ 31) : hitP wt' rs' w' n = hitP wt rs w n := by
  induction n with
  | zero => rfl
  | succ n ih =>
    have ih := ih (fun i hi => hl i (Nat.lt_succ_of_lt hi)) (fun i hi => he i (Nat.lt_succ_of_lt hi))
    obtain ⟨e1, e2⟩ := he n (Nat.lt_succ_self n)
    obtain ⟨a, r, hr, er⟩ := hl n (Nat.lt_succ_self n)
    have k1 : w' (rs n).toNatClampNeg = w (rs n).toNatClampNeg := by rw [er, cl_nI (by omega)]; exact hw r hr
    unfold hitP
    rw [ih, e1, e2, k1]
    rcases a with a | ⟨j, hj, ej⟩
    · rw [a]
      cases hitP wt rs w n with
      | some v => rfl
      | none => simp only []; rw [if_pos (Or.inl (by decide)), if_pos (Or.inl (by decide))]
    · rw [ej, cl_nI (by omega), hw j hj]
theorem hitP_some {wt rs w : Nat → Int32} {n : Nat} {v : Int32} (h : hitP wt rs w n = some v) : ∀ k, hitP wt rs w (n + k) = some v := by
  intro k
  induction k with
  | zero => exact h
  | succ k ih => rw [← Nat.add_assoc]; unfold hitP; rw [ih]
theorem wide_probe (_ : Jvm.Free.Str.SB7P = Jvm.Free.Str.SB7P) : True := trivial
