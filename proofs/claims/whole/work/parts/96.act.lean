/-! acts -/
def kndP (A : Nat) : Nat → Nat → Nat
  | 0, k => k
  | f + 1, k => if k = 0 then 0 else if ownF (8 * A + k) = 0 then kndP A f (abvF k).toNatClampNeg else k
/-- but for acts -/
def TR (S0 M0 : St) (p k0 nb : Nat) (S M : St) (r : Nat) : Prop :=
  (S.1 3 = nI r ∧ M.1 37 = nI r ∧ S.2.1 1 = M.2.1 36) ∧ (S.1 4 = nI p ∧ M.1 39 = nI p ∧ M.1 38 = nI k0) ∧ (S.1 2 = nI nb ∧ p < nb ∧ nb ≤ 50 ∧ S.2.1 0 p = nI k0) ∧ ((∀ j, j ≠ 3 → j ≠ 4 → S.1 j = S0.1 j) ∧ (∀ j, j ≠ 1 → S.2.1 j = S0.2.1 j) ∧ S.2.2 = S0.2.2) ∧ (∀ j, (j < 37 ∨ 39 < j) → M.1 j = M0.1 j) ∧ (∀ j, j ≠ 36 → M.2.1 j = M0.2.1 j) ∧ M.2.2 = M0.2.2
section
variable {F : Nat} {Z : Zt} {S0 M0 S M : St} {p k0 nb d dep r : Nat} {x a : Int32}
def Sub (S0 M0 : St) (p k0 nb : Nat) (cC : Nat → St → Int32 → Nat → Option (Int32 × St)) (cM : Nat → St → Int32 → Option (Int32 × St)) (c D D' : Nat) : Prop := ∀ (d d' : Nat) (S M : St) (r : Nat) (x : Int32) (dep : Nat), D ≤ d → D' ≤ d' → TR S0 M0 p k0 nb S M r → r + c ≤ 1000 → dep + c ≤ 40 → ∃ v S' M' r', cC d S x dep = some (v, S') ∧ cM d' M x = some (v, M') ∧ TR S0 M0 p k0 nb S' M' r' ∧ r' ≤ r + c
abbrev AS (F : Nat) (Z : Zt) (S0 M0 : St) (p k0 nb : Nat) (a : Int32) (tag k c D D' : Nat) : Prop := Sub S0 M0 p k0 nb (fun d S x dep => R_C_1 F Z d 0 S a (nI k) x (nI dep)) (fun d' M x => R_X11_1 F d' tag M (nI k) x) c D D'
theorem Sub.mono {cC : Nat → St → Int32 → Nat → Option (Int32 × St)} {cM : Nat → St → Int32 → Option (Int32 × St)} {c D D' c2 D2 D2' : Nat} (h : Sub S0 M0 p k0 nb cC cM c D D') (h1 : c ≤ c2) (h2 : D ≤ D2) (h3 : D' ≤ D2') : Sub S0 M0 p k0 nb cC cM c2 D2 D2' := by
  intro d d' S M r x dep q1 q2 q3 q4 q5
  obtain ⟨v, S', M', r', e1, e2, e3, e4⟩ := h d d' S M r x dep (by omega) (by omega) q3 (by omega) (by omega)
  exact ⟨v, S', M', r', e1, e2, e3, by omega⟩
theorem bodyAt_eq {A k : Nat} (hA : A < 4) (hk : k < 8) : f_X0_bodyAt Z S (nI A) (nI k) = some (ownF (8 * A + k)) := by
  unfold f_X0_bodyAt
  rw [if_neg (nI_pos (by omega)), show nI A * 8 + nI k = nI (8 * A + k) by
    rw [show (8 : Int32) = nI 8 from rfl, pk_mul, nI_add, Nat.mul_comm], if_neg (nI_pos (by omega)), if_neg (show ¬ (32 : Int32) ≤ nI (8 * A + k) from nI_ge (b := 32) (by omega) (by omega)), inr_nI (by omega) (by omega), chk_true, cl_nI (by omega)]
theorem kndP_le (A : Nat) : ∀ f k, k < 8 → kndP A f k ≤ k := by
  intro f
  induction f with
  | zero => exact fun k _ => Nat.le_refl _
  | succ f ih =>
    intro k hk
    show (if k = 0 then 0 else if ownF (8 * A + k) = 0 then kndP A f (abvF k).toNatClampNeg else k) ≤ k
    by_cases h0 : k = 0
    · rw [if_pos h0]; omega
    · rw [if_neg h0]
      by_cases h1 : ownF (8 * A + k) = 0
      · rw [if_pos h1]
        obtain ⟨j, hj, e, -⟩ := ab_ok k hk (by omega)
        rw [e, cl_nI (by omega)]
        have := ih j (by omega)
        omega
      · rw [if_neg h1]
        exact Nat.le_refl _
theorem L6_eq {A : Nat} {g : Nat → St → Int32 → Int32 → Int32 → Int32 → Option (Int32 × St)} {a3 a4 : Int32} (hA : A < 4) : ∀ (f k i n : Nat), k ≤ f → k < 8 → i + k ≤ 7 → k < n → f_X0_run_L6 F Z g (nI A) a3 a4 n S (nI k) (nI i) = f_X0_run_B42 F Z g (nI A) a3 a4 S (nI (kndP A f k)) := by
  intro f
  induction f with
  | zero =>
    intro k i n hf hk hi hn
    obtain ⟨n, rfl⟩ : ∃ z, n = z + 1 := ⟨n - 1, by omega⟩
    have e : k = 0 := by omega
    subst e
    simp only [f_X0_run_L6]
    rw [if_neg (show ¬ (8 : Int32) ≤ nI i from nI_ge (b := 8) (by omega) (by omega)), if_pos (show nI 0 ≤ 0 by decide)]
    rfl
  | succ f ih =>
    intro k i n hf hk hi hn
    obtain ⟨n, rfl⟩ : ∃ z, n = z + 1 := ⟨n - 1, by omega⟩
    simp only [f_X0_run_L6]
    show _ = f_X0_run_B42 F Z g (nI A) a3 a4 S (nI (if k = 0 then 0 else if ownF (8 * A + k) = 0 then kndP A f (abvF k).toNatClampNeg else k))
    rw [if_neg (show ¬ (8 : Int32) ≤ nI i from nI_ge (b := 8) (by omega) (by omega))]
    by_cases h0 : k = 0
    · rw [if_pos h0, h0, if_pos (show nI 0 ≤ 0 by decide)]
    · rw [if_neg h0, if_neg (nI_nle (by omega) (by omega)), bodyAt_eq hA hk, Option.bind_some]
      by_cases h1 : ownF (8 * A + k) = 0
      · obtain ⟨j, hj, e, -⟩ := ab_ok k hk (by omega)
        rw [if_pos h1, if_pos h1, above_c hk, Option.bind_some, e, cl_nI (by omega), nI_1]
        exact ih j (i + 1) n (by omega) (by omega) (by omega) (by omega)
      · rw [if_neg h1, if_neg h1]
theorem runC (hF : 200 ≤ F) {A k : Nat} (ha : a = nI A) (hA : A < 4) (hk : k < 8) (hdep : dep ≤ 40) : R_C_1 F Z (d + 1) 0 S a (nI k) x (nI dep) = (f_X0_note Z S (ownF (8 * A + kndP A 8 k))).bind fun r4 => R_C_1 F Z d (A + 1) r4 (ownF (8 * A + kndP A 8 k)) (nI (kndP A 8 k)) x (nI dep) := by
  subst ha
  have hkn := kndP_le A 8 k hk
  show f_X0_run F Z (R_C_1 F Z d) S (nI A) (nI k) x (nI dep) = _
  unfold f_X0_run
  have h6 := L6_eq (F := F) (Z := Z) (S := S) (g := R_C_1 F Z d) (a3 := x) (a4 := nI dep) hA 8 k 0 F (by omega) hk (by omega) (by omega)
  rw [show (0 : Int32) = nI 0 from rfl, h6]
  unfold f_X0_run_B42
  rw [if_pos (show nI dep ≤ 40 from nI_le (b := 40) hdep (by omega)), bodyAt_eq hA (by omega), Option.bind_some]
  congr 1
  funext r4
  match A, hA with
  | 0, _ => rw [if_pos (show nI 0 = 0 from rfl), bind_id2]
  | 1, _ => rw [if_neg (show ¬ nI 1 = 0 by decide), if_pos (show nI 1 = 1 from rfl), bind_id2]
  | 2, _ => rw [if_neg (show ¬ nI 2 = 0 by decide), if_neg (show ¬ nI 2 = 1 by decide), if_pos (show nI 2 = 2 from rfl), bind_id2]
  | 3, _ => rw [if_neg (show ¬ nI 3 = 0 by decide), if_neg (show ¬ nI 3 = 1 by decide), if_neg (show ¬ nI 3 = 2 by decide), bind_id2]
theorem upC {kk j : Nat} (hk : kk < 8) (he : abvF kk = nI j) : R_C_1 F Z (d + 1) 6 S a (nI kk) x (nI dep) = R_C_1 F Z d 0 S a (nI j) x (nI (dep + 1)) := by
  show f_X0_upper F Z (R_C_1 F Z d) S a (nI kk) x (nI dep) = _
  unfold f_X0_upper
  rw [above_c hk, Option.bind_some, he, bind_id2, nI_1]
theorem ownC (h : TR S0 M0 p k0 nb S M r) {z : Int32} : R_C_1 F Z (d + 1) 5 S a x (nI dep) z = R_C_1 F Z d 0 S a (nI k0) x (nI (dep + 1)) := by
  show f_X0_own F Z (R_C_1 F Z d) S a x (nI dep) = _
  obtain ⟨-, ⟨h2, -, -⟩, ⟨h3, h4, h5, h6⟩, -⟩ := h
  unfold f_X0_own f_X0_kindOf
  rw [h2, hasBody_eq h3 h5, hx_y h4, Option.bind_some, if_neg one0, inr_nI (show p < 50 by omega) (by omega), chk_true, cl_nI (by omega), h6, Option.bind_some, bind_id2, nI_1]
theorem noteB (h : TR S0 M0 p k0 nb S M r) (hr : r < 1000) (c : Int32) : ∃ S' M', f_X0_note Z S c = some S' ∧ f_X11_begins M c = some M' ∧ TR S0 M0 p k0 nb S' M' (r + 1) := by
  obtain ⟨⟨a1, a2, a3⟩, h2, h3, ⟨b1, b2, b3⟩, d1, d2, d3⟩ := h
  unfold f_X0_note f_X11_begins f_X0_note_B19 f_X11_begins_B19
  rw [a1, a2]
  have hf1 : ∀ (T : St), (∀ j, j ≠ 3 → j ≠ 4 → T.1 j = S0.1 j) → ∀ j, j ≠ 3 → j ≠ 4 → (sf T 3 (nI (r + 1))).1 j = S0.1 j := fun T hT j q1 q2 => by
    rw [sf1, if_neg q1]; exact hT j q1 q2
  have hf2 : ∀ (T : St), (∀ j, (j < 37 ∨ 39 < j) → T.1 j = M0.1 j) → ∀ j, (j < 37 ∨ 39 < j) → (sf T 37 (nI (r + 1))).1 j = M0.1 j := fun T hT j q1 => by
    rw [sf1, if_neg (by omega)]; exact hT j q1
  by_cases q : 24 ≤ r
  · rw [if_pos (show (24 : Int32) ≤ nI r from nI_le (a := 24) q (by omega)), if_pos (show (24 : Int32) ≤ nI r from nI_le (a := 24) q (by omega)), nI_1]
    exact ⟨_, _, rfl, rfl, ⟨rfl, rfl, a3⟩, h2, h3, ⟨hf1 _ b1, b2, b3⟩, hf2 _ d1, d2, d3⟩
  · rw [if_neg (show ¬ (24 : Int32) ≤ nI r from nI_ge (b := 24) (by omega) (by omega)), if_neg (show ¬ (24 : Int32) ≤ nI r from nI_ge (b := 24) (by omega) (by omega)), inr_nI (show r < 24 by omega) (by omega), chk_true, chk_true, cl_nI (by omega)]
    have e1 : (sa S 1 r c).1 3 = nI r := a1
    have e2 : (sa M 36 r c).1 37 = nI r := a2
    rw [e1, e2, nI_1]
    refine ⟨_, _, rfl, rfl, ⟨rfl, rfl, ?_⟩, h2, h3, ⟨hf1 _ b1, fun j hj => ?_, b3⟩, hf2 _ d1, fun j hj => ?_, d3⟩
    · show upd (S.2.1 1) r c = upd (M.2.1 36) r c
      rw [a3]
    · show (if j = 1 then _ else S.2.1 j) = _
      rw [if_neg hj]; exact b2 j hj
    · show (if j = 36 then _ else M.2.1 j) = _
      rw [if_neg hj]; exact d2 j hj
theorem Sub.up {tag j kk c D D' : Nat} (hk : kk < 8) (he : abvF kk = nI j) (h : AS F Z S0 M0 p k0 nb a tag j c D D') : Sub S0 M0 p k0 nb (fun d S x dep => R_C_1 F Z d 6 S a (nI kk) x (nI dep)) (fun d' M x => R_X11_1 F d' tag M (nI j) x) (c + 1) (D + 1) D' := by
  intro d d' S M r x dep q1 q2 q3 q4 q5
  obtain ⟨d, rfl⟩ : ∃ z, d = z + 1 := ⟨d - 1, by omega⟩
  obtain ⟨v, S', M', r', e1, e2, e3, e4⟩ := h d d' S M r x (dep + 1) (by omega) q2 q3 (by omega) (by omega)
  exact ⟨v, S', M', r', (upC hk he).trans e1, e2, e3, by omega⟩
theorem Sub.own {tag c D D' : Nat} {z : Int32} (h : AS F Z S0 M0 p k0 nb a tag k0 c D D') : Sub S0 M0 p k0 nb (fun d S x dep => R_C_1 F Z d 5 S a x (nI dep) z) (fun d' M x => R_X11_1 F d' tag M (M.1 38) x) (c + 1) (D + 1) D' := by
  intro d d' S M r x dep q1 q2 q3 q4 q5
  obtain ⟨d, rfl⟩ : ∃ z, d = z + 1 := ⟨d - 1, by omega⟩
  obtain ⟨v, S', M', r', e1, e2, e3, e4⟩ := h d d' S M r x (dep + 1) (by omega) q2 q3 (by omega) (by omega)
  exact ⟨v, S', M', r', (ownC q3).trans e1, by show R_X11_1 F d' tag M (M.1 38) x = _; rw [q3.2.1.2.2]; exact e2, e3, by omega⟩
theorem AS.one {tag k c D D' : Nat} {num : Int32} {f : Int32 → Int32} {h : Int32 → Int32} {cC : Nat → St → Int32 → Nat → Option (Int32 × St)} {cM : Nat → St → Int32 → Option (Int32 × St)}
    (hC : ∀ d S x dep, dep ≤ 40 → R_C_1 F Z (d + 1 + 1) 0 S a (nI k) x (nI dep) = (f_X0_note Z S num).bind fun r4 => (cC d r4 (h x) dep).bind fun q => some (f q.1, q.2))
    (hM : ∀ d M x, R_X11_1 F (d + 1) tag M (nI k) x = (f_X11_begins M num).bind fun r => (cM d r (h x)).bind fun q => some (f q.1, q.2))
    (hs : Sub S0 M0 p k0 nb cC cM c D D') : AS F Z S0 M0 p k0 nb a tag k (c + 1) (D + 2) (D' + 1) := by
  intro d d' S M r x dep q1 q2 q3 q4 q5
  obtain ⟨d, rfl⟩ : ∃ z, d = z + 1 + 1 := ⟨d - 2, by omega⟩
  obtain ⟨d', rfl⟩ : ∃ z, d' = z + 1 := ⟨d' - 1, by omega⟩
  obtain ⟨S1, M1, n1, n2, n3⟩ := noteB (Z := Z) q3 (by omega) num
  obtain ⟨v, S2, M2, r2, e1, e2, e3, e4⟩ := hs d d' S1 M1 (r + 1) (h x) dep (by omega) (by omega) n3 (by omega) (by omega)
  refine ⟨f v, S2, M2, r2, ?_, ?_, e3, by omega⟩
  · show R_C_1 F Z (d + 1 + 1) 0 S a (nI k) x (nI dep) = _
    rw [hC d S x dep (by omega), n1, Option.bind_some, e1, Option.bind_some]
  · show R_X11_1 F (d' + 1) tag M (nI k) x = _
    rw [hM, n2, Option.bind_some, e2, Option.bind_some]
theorem AS.two {tag k c c2 D D' : Nat} {num x2 : Int32} {f : Int32 → Int32 → Int32} {cC cC2 : Nat → St → Int32 → Nat → Option (Int32 × St)} {cM cM2 : Nat → St → Int32 → Option (Int32 × St)}
    (hC : ∀ d S x dep, dep ≤ 40 → R_C_1 F Z (d + 1 + 1) 0 S a (nI k) x (nI dep) = (f_X0_note Z S num).bind fun r4 => (cC d r4 x dep).bind fun q => (cC2 d q.2 x2 dep).bind fun q2 => some (f q.1 q2.1, q2.2))
    (hM : ∀ d M x, R_X11_1 F (d + 1) tag M (nI k) x = (f_X11_begins M num).bind fun r => (cM d r x).bind fun q => (cM2 d q.2 x2).bind fun q2 => some (f q.1 q2.1, q2.2))
    (hs : Sub S0 M0 p k0 nb cC cM c D D') (hs2 : Sub S0 M0 p k0 nb cC2 cM2 c2 D D') : AS F Z S0 M0 p k0 nb a tag k (c + c2 + 1) (D + 2) (D' + 1) := by
  intro d d' S M r x dep q1 q2 q3 q4 q5
  obtain ⟨d, rfl⟩ : ∃ z, d = z + 1 + 1 := ⟨d - 2, by omega⟩
  obtain ⟨d', rfl⟩ : ∃ z, d' = z + 1 := ⟨d' - 1, by omega⟩
  obtain ⟨S1, M1, n1, n2, n3⟩ := noteB (Z := Z) q3 (by omega) num
  obtain ⟨v, S2, M2, r2, e1, e2, e3, e4⟩ := hs d d' S1 M1 (r + 1) x dep (by omega) (by omega) n3 (by omega) (by omega)
  obtain ⟨v2, S3, M3, r3, g1, g2, g3, g4⟩ := hs2 d d' S2 M2 r2 x2 dep (by omega) (by omega) e3 (by omega) (by omega)
  refine ⟨f v v2, S3, M3, r3, ?_, ?_, g3, by omega⟩
  · show R_C_1 F Z (d + 1 + 1) 0 S a (nI k) x (nI dep) = _
    rw [hC d S x dep (by omega), n1, Option.bind_some, e1, Option.bind_some, g1, Option.bind_some]
  · show R_X11_1 F (d' + 1) tag M (nI k) x = _
    rw [hM, n2, Option.bind_some, e2, Option.bind_some, g2, Option.bind_some]
end
