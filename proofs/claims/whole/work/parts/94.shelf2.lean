/-! shelves: taken, deeds from a row, shifted -/
theorem ab_ok : ∀ k, k < 8 → 0 < k → ∃ j, j < k ∧ abvF k = nI j ∧ f_X11_above (nI k) = some (nI j) := by
  intro k hk h0
  match k, hk with
  | 1, _ => exact ⟨0, by omega, by decide, by decide⟩
  | 2, _ => exact ⟨0, by omega, by decide, by decide⟩
  | 3, _ => exact ⟨2, by omega, by decide, by decide⟩
  | 4, _ => exact ⟨2, by omega, by decide, by decide⟩
  | 5, _ => exact ⟨1, by omega, by decide, by decide⟩
  | 6, _ => exact ⟨0, by omega, by decide, by decide⟩
  | 7, _ => exact ⟨3, by omega, by decide, by decide⟩
section
variable {F : Nat} {Z : Zt} {S S' M M' : St} {nm nv nd nb s q n : Nat}
theorem above_c {k : Nat} (hk : k < 8) : f_X0_kindAbove Z S (nI k) = some (abvF k) := by
  unfold f_X0_kindAbove
  rw [if_neg (nI_pos (by omega)), if_neg (show ¬ (8 : Int32) ≤ nI k from nI_ge (b := 8) hk (by omega)), inr_nI hk (by omega), chk_true, cl_nI (by omega)]
theorem und_ok (hF : 200 ≤ F) {a1 : Int32} {u : Nat} (hu : u < 8) : ∀ (k i m m' : Nat), k < 8 → i + k ≤ 7 → k + 2 < m → k < m' → (f_X0_isUnder_L5 F Z S (nI u) m (nI k) (nI i) = some 1 ∧ f_X11_taken_L58 F M a1 (nI u) m' (nI k) = f_X11_taken_B75 F M a1 (nI u) (nI u)) ∨ (f_X0_isUnder_L5 F Z S (nI u) m (nI k) (nI i) = some 0 ∧ f_X11_taken_L58 F M a1 (nI u) m' (nI k) = some (-12)) := by
  intro k
  induction k using Nat.strongRecOn with
  | _ k ih =>
    intro i m m' hk hi hm hm'
    obtain ⟨m, rfl⟩ : ∃ z, m = z + 1 := ⟨m - 1, by omega⟩
    obtain ⟨m', rfl⟩ : ∃ z, m' = z + 1 := ⟨m' - 1, by omega⟩
    simp only [f_X0_isUnder_L5, f_X11_taken_L58]
    rw [if_neg (show ¬ (8 : Int32) ≤ nI i from nI_ge (b := 8) (by omega) (by omega)), if_neg (nI_pos (by omega))]
    by_cases e : k = u
    · left
      unfold f_X0_isUnder_B33
      rw [e, if_pos rfl, if_pos rfl, if_neg (nI_pos (by omega)), if_pos rfl]
      exact ⟨rfl, rfl⟩
    · rw [if_neg (ne_n e (by omega) (by omega)), if_neg (ne_n e (by omega) (by omega)), above_c hk, Option.bind_some]
      rcases Nat.eq_zero_or_pos k with h0 | h0
      · right
        subst h0
        obtain ⟨m, rfl⟩ : ∃ z, m = z + 1 := ⟨m - 1, by omega⟩
        simp only [f_X0_isUnder_L5]
        unfold f_X0_isUnder_B33 f_X11_taken_B75
        rw [show abvF 0 = -1 from by decide, if_pos (show nI 0 ≤ 0 by decide), if_neg (ne_n e (by omega) (by omega)), if_pos neg1_0, if_pos neg1_0]
        refine ⟨?_, rfl⟩
        split <;> rfl
      · obtain ⟨j, hj, e1, e2⟩ := ab_ok k hk h0
        rw [e1, if_neg (nI_nle h0 (by omega)), e2, Option.bind_some, nI_1]
        exact ih j hj (i + 1) m m' (by omega) (by omega) (by omega) (by omega)
theorem st_taken (hF : 200000 ≤ F) : ST_taken F (RR F) := by
  intro t S Z M a1 a2 ht hR
  have hR' := hR
  obtain ⟨nm, nv, nd, nb, hV, -⟩ := hR
  have hS := hV.2.2.2.2.2.2.1
  have hA := hV.2.2.2.2.2.1
  have hnb := hA.1.2.2
  unfold f_X10_taken f_X11_taken
  rw [hasShelf_eq, isShelf_eq, Option.bind_some, Option.bind_some]
  rcases hx_01 (n := 6) (a := a1) with h0 | ⟨s, hs, rfl, h1⟩
  · rw [h0]; exact ⟨_, rfl, rfl, RR_idle hR'⟩
  rw [h1, if_neg one0, if_neg one0, show (0 : Int64) = (nI 0).toInt64 from rfl, show (7 : Int64) = (nI 7).toInt64 from rfl]
  rcases rng (x := a2) 0 7 (by omega) (by omega) with ⟨hq, hw⟩ | ⟨u, n1, n2, rfl, q1, q2, hw⟩
  · rw [hw]
    rcases hq with hq | ⟨hq1, hq2⟩
    · rw [if_pos (show a2 < 0 from hq)]; exact ⟨_, rfl, rfl, RR_idle hR'⟩
    · have q8 : ¬ a2 < 8 := fun z => by
        rw [lt_i] at z hq2
        have e7 : (nI 7).toInt = 7 := rfl
        have e8 : (8 : Int32).toInt = 8 := rfl
        omega
      rw [if_neg (show ¬ a2 < 0 from hq1), if_neg q8]; exact ⟨_, rfl, rfl, RR_idle hR'⟩
  rw [hw, if_neg (show ¬ nI u < 0 from q1), if_pos (show nI u < 8 from nI_lt (b := 8) (by omega) (by omega)), Option.bind_some, if_neg one0, inr_nI hs (by omega), chk_true, chk_true, chk_true, cl_nI (show s < 2 ^ 31 by omega)]
  have hbody : f_X6_bodyOn Z S (nI s) = some (if S.2.1 120 s = -2 then S.2.1 121 s else -2) := by
    unfold f_X6_bodyOn
    rw [hasShelf_eq, h1, Option.bind_some, if_neg one0, inr_nI hs (by omega), chk_true, chk_true, cl_nI (by omega)]
    split <;> rfl
  rcases sh_d hS hs with h | h | ⟨q, n, h⟩
  · rw [empty_E hs h, Option.bind_some, if_neg one0, h.2, if_neg (by decide)]
    exact ⟨_, rfl, rfl, RR_idle hR'⟩
  · obtain ⟨b, hb, hb1, hb2⟩ := h.2
    obtain ⟨k, hk, ek⟩ := hA.2.2.1 b hb
    have hkind : f_X0_kindOf Z S (nI b) = some (nI k) := by
      unfold f_X0_kindOf
      rw [hasBody_eq hA.1.1 hnb, hx_y hb, Option.bind_some, if_neg one0, inr_nI (show b < 50 by omega) (by omega), chk_true, cl_nI (by omega), hA.2.1.1, ek]
    have hkindM : f_X11_kindOf M (nI b) = some (nI k) := by
      unfold f_X11_kindOf
      rw [inr_nI (show b < 50 by omega) (by omega), chk_true, cl_nI (by omega), ek]
    rw [empty_B hs h, Option.bind_some, if_pos rfl, hbody, h.1, if_pos rfl, hb1, Option.bind_some, hkind, Option.bind_some, hb2, if_pos (nI_pos' (by omega)), if_pos (show nI b < 50 from nI_lt (b := 50) (by omega) (by omega)), hkindM, Option.bind_some]
    unfold f_X0_isUnder
    rcases und_ok (Z := Z) (S := S) (M := M) (F := F) (a1 := nI s) (by omega) (show u < 8 by omega) k 0 F F hk (by omega) (by omega) (by omega) with ⟨y1, y2⟩ | ⟨y1, y2⟩
    · rw [show (0 : Int32) = nI 0 from rfl, y1, y2, Option.bind_some]
      unfold f_X11_taken_B75
      rw [if_pos rfl, inr_nI hs (by omega), chk_true, cl_nI (by omega), hb2, hkindM, if_neg (show ¬ (1 : Int32) = nI 0 by decide)]
      exact ⟨_, rfl, rfl, RR_idle hR'⟩
    · rw [show (0 : Int32) = nI 0 from rfl, y1, y2, Option.bind_some]
      exact ⟨_, rfl, rfl, RR_idle hR'⟩
  · have h' := h
    obtain ⟨g1, g2, g3, g4, g5, g6, g7, g8⟩ := h
    have hno : ¬ nI q = -2 := fun z => by
      have e := nI_toInt (show q < 2 ^ 31 by omega)
      rw [z] at e
      have : (-2 : Int32).toInt = -2 := rfl
      omega
    have hkind : f_X0_kindOf Z S (-2) = some (-2) := by
      unfold f_X0_kindOf
      rw [hasBody_eq hA.1.1 hnb, hx_n (fun ⟨j, hj, e⟩ => by
        have e2 := nI_toInt (show j < 2 ^ 31 by omega)
        rw [← e] at e2
        have : (-2 : Int32).toInt = -2 := rfl
        omega), Option.bind_some, if_pos rfl]
    have hund : f_X0_isUnder F Z S (-2) (nI u) = some 0 := by
      obtain ⟨f, rfl⟩ : ∃ f, F = f + 1 := ⟨F - 1, by omega⟩
      unfold f_X0_isUnder
      simp only [f_X0_isUnder_L5]
      unfold f_X0_isUnder_B33
      rw [if_neg (show ¬ (8 : Int32) ≤ 0 by decide), if_pos neg2_0, if_pos neg2_0]
    rw [empty_R hs h', Option.bind_some, if_pos rfl, hbody, g3, if_neg hno, Option.bind_some, hkind, Option.bind_some, hund, Option.bind_some, if_pos rfl, g4, if_pos (nI_pos' (by omega)), if_neg (show ¬ nI (50 + q) < 50 from nI_nlt (b := 50) (by omega) (by omega))]
    exact ⟨_, rfl, rfl, RR_idle hR'⟩
/-- an element of a row of bytes, as an int and back -/
theorem by_back {v : Int64} (h : byOK v) : v.toInt32.toInt64 = v := by
  obtain ⟨h1, h2⟩ := h
  apply Int64.toInt_inj.mp
  rw [Int32.toInt_toInt64, Int64.toInt_toInt32]
  exact Int.bmod_eq_of_le_mul_two (by omega) (by omega)
theorem shR_ad {a b c d : Int32} (h : shR S M s q n) : shR (adS S nd a b c d) (adM M nd a b c d) s q n := h
theorem one_row (hs : s < 6) (h : shR S M s 0 n) {i : Nat} (hi : i < n) : f_X6_at Z S (nI s) (nI i) = some (M.2.2 42 (60 * s + i)) ∧ (M.2.2 42 (60 * s + i)).toInt32.toInt64 = M.2.2 42 (60 * s + i) := ⟨elt_eq hs h hi, by_back (h.2.2.2.2.2.2.2 rfl i (by have := h.2.1; omega))⟩
theorem deeds_loop (hF : 200 ≤ F) (hs : s < 6) {i K : Nat} (hi : i < 2 ^ 31) (hK : K ≤ 12) {B : Nat} : ∀ (j c m m' nd : Nat) (S M : St), c + j = K → j < m → j + 1 < m' → RV F S Z M nm nv nd nb → KCt S Z 80 → KCt S Z 300 → KMemo S Z M nd B → shR S M s 0 n → ∃ r S' M' nd', f_X10_deeds_L52 F Z (nI s) (nI i) (nI K) m S (nI c) = some (r, S') ∧ f_X11_deeds_L69 F (nI s) (nI i) (nI K) m' M (nI c) 1 = some (r, M') ∧ RV F S' Z M' nm nv nd' nb ∧ KCt S' Z 80 ∧ KCt S' Z 300 ∧ KMemo S' Z M' nd' B := by
  intro j
  induction j with
  | zero =>
    intro c m m' nd S M hc hm hm' hV c1 c2 hk hR
    obtain ⟨m, rfl⟩ : ∃ z, m = z + 1 := ⟨m - 1, by omega⟩
    obtain ⟨m', rfl⟩ : ∃ z, m' = z + 1 := ⟨m' - 1, by omega⟩
    have e : c = K := by omega
    subst e
    simp only [f_X10_deeds_L52, f_X11_deeds_L69]
    rw [if_pos (nI_le (Nat.le_refl _) (by omega)), if_neg one0, if_pos (nI_le (Nat.le_refl _) (by omega))]
    exact ⟨_, S, M, nd, rfl, rfl, hV, c1, c2, hk⟩
  | succ j ih =>
    intro c m m' nd S M hc hm hm' hV c1 c2 hk hR
    obtain ⟨m, rfl⟩ : ∃ z, m = z + 1 := ⟨m - 1, by omega⟩
    obtain ⟨m', rfl⟩ : ∃ z, m' = z + 1 := ⟨m' - 1, by omega⟩
    obtain ⟨m'', rfl⟩ : ∃ z, m' = z + 1 := ⟨m' - 1, by omega⟩
    have hB := hV.2.1
    have h12 := hB.1.2.2
    have hn60 := hR.2.1
    have hstop : ∃ r S' M' nd', (some (nI c, S) : Option (Int32 × St)) = some (r, S') ∧ f_X11_deeds_B176 F (nI s) (nI i) (nI K) (f_X11_deeds_L69 F (nI s) (nI i) (nI K) (m'' + 1)) M (nI c) ((60 * nI s + nI i) + 4 * nI c) 0 = some (r, M') ∧ RV F S' Z M' nm nv nd' nb ∧ KCt S' Z 80 ∧ KCt S' Z 300 ∧ KMemo S' Z M' nd' B := by
      refine ⟨nI c, S, M, nd, rfl, ?_, hV, c1, c2, hk⟩
      unfold f_X11_deeds_B176
      rw [if_pos rfl]
      simp only [f_X11_deeds_L69]
      rw [if_pos trivial]
    have hbyt : f_X6_holdsBytes Z S (nI s) = some 1 := by
      rw [bytes_eq hs, hR.2.2.1, if_pos (show nI 0 = 0 from rfl)]
    have hpl := places_R (Z := Z) hs hR (i := i) (k := 4 * c + 4) hi (by omega)
    have hcond : ((M.2.1 41 s - 4) - 4 * nI c) < nI i ↔ ¬ i + (4 * c + 4) ≤ n := by
      rw [hR.2.2.2.2.2.1, show (4 : Int32) = nI 4 from rfl, pk_mul, lt_i, nI_toInt hi]
      have e1 : (nI n - nI 4).toInt = (n : Int) - 4 := pk_sub_toInt (by omega) (by omega)
      rw [sub_i (by rw [e1, nI_toInt (by omega)]; omega) (by rw [e1, nI_toInt (by omega)]; omega), e1, nI_toInt (by omega)]
      omega
    simp only [f_X10_deeds_L52]
    rw [if_neg (nI_ge (show c < K by omega) (by omega))]
    have hL69 : f_X11_deeds_L69 F (nI s) (nI i) (nI K) (m'' + 1 + 1) M (nI c) 1 = (if ((M.2.1 41 s - 4) - 4 * nI c) < nI i then f_X11_deeds_B110 F (nI s) (nI i) (nI K) (f_X11_deeds_L69 F (nI s) (nI i) (nI K) (m'' + 1)) M (nI c) else if (12 : Int32) ≤ (M.1 22) then f_X11_deeds_B110 F (nI s) (nI i) (nI K) (f_X11_deeds_L69 F (nI s) (nI i) (nI K) (m'' + 1)) M (nI c) else f_X11_deeds_B111 F (nI s) (nI i) (nI K) (f_X11_deeds_L69 F (nI s) (nI i) (nI K) (m'' + 1)) M (nI c) 1) := by
      have hun : f_X11_deeds_L69 F (nI s) (nI i) (nI K) (m'' + 1 + 1) M (nI c) 1 = (if (1 : Int32) = 0 then some (nI c, M) else if nI K ≤ nI c then some (nI c, M) else chk (inr (nI s) 6) (if ((M.2.1 41 (nI s).toNatClampNeg - 4) - 4 * nI c) < nI i then f_X11_deeds_B110 F (nI s) (nI i) (nI K) (f_X11_deeds_L69 F (nI s) (nI i) (nI K) (m'' + 1)) M (nI c) else if (12 : Int32) ≤ (M.1 22) then f_X11_deeds_B110 F (nI s) (nI i) (nI K) (f_X11_deeds_L69 F (nI s) (nI i) (nI K) (m'' + 1)) M (nI c) else f_X11_deeds_B111 F (nI s) (nI i) (nI K) (f_X11_deeds_L69 F (nI s) (nI i) (nI K) (m'' + 1)) M (nI c) 1)) := rfl
      rw [hun, if_neg one0, if_neg (nI_ge (show c < K by omega) (by omega)), inr_nI hs (by omega), chk_true, cl_nI (by omega)]
    have h110 : f_X11_deeds_B110 F (nI s) (nI i) (nI K) (f_X11_deeds_L69 F (nI s) (nI i) (nI K) (m'' + 1)) M (nI c) = f_X11_deeds_B176 F (nI s) (nI i) (nI K) (f_X11_deeds_L69 F (nI s) (nI i) (nI K) (m'' + 1)) M (nI c) ((60 * nI s + nI i) + 4 * nI c) 0 := by
      unfold f_X11_deeds_B110 f_X11_deeds_B111 f_X11_deeds_B175
      simp only [lti]
      rw [if_pos trivial]
    rw [hL69]
    unfold f_X10_deedFromRow
    rw [hbyt, Option.bind_some, if_neg one0, show (4 : Int32) * nI c + 4 = nI (4 * c + 4) by
      rw [show (4 : Int32) = nI 4 from rfl, pk_mul, nI_add], hpl]
    by_cases hfit : i + (4 * c + 4) ≤ n
    · rw [if_pos hfit, if_neg (fun z => hcond.mp z hfit), Option.bind_some, if_neg one0]
      have ei : ∀ x : Nat, nI i + 4 * nI c + nI x = nI (i + 4 * c + x) := fun x => by
        rw [show (4 : Int32) = nI 4 from rfl, pk_mul, nI_add, nI_add]
      have ei0 : nI i + 4 * nI c = nI (i + 4 * c) := by
        rw [show (4 : Int32) = nI 4 from rfl, pk_mul, nI_add]
      obtain ⟨v0, b0⟩ := one_row (Z := Z) hs hR (show i + 4 * c < n by omega)
      obtain ⟨v1, b1⟩ := one_row (Z := Z) hs hR (show i + 4 * c + 1 < n by omega)
      obtain ⟨v2, b2⟩ := one_row (Z := Z) hs hR (show i + 4 * c + 2 < n by omega)
      obtain ⟨v3, b3⟩ := one_row (Z := Z) hs hR (show i + 4 * c + 3 < n by omega)
      rw [show nI i + 4 * nI c + 1 = nI (i + 4 * c + 1) from ei 1, show nI i + 4 * nI c + 2 = nI (i + 4 * c + 2) from ei 2, show nI i + 4 * nI c + 3 = nI (i + 4 * c + 3) from ei 3, ei0, v0, v1, v2, v3]
      simp only [Option.bind_some]
      generalize hw0 : M.2.2 42 (60 * s + (i + 4 * c)) = w0 at b0 ⊢
      generalize hw1 : M.2.2 42 (60 * s + (i + 4 * c + 1)) = w1 at b1 ⊢
      generalize hw2 : M.2.2 42 (60 * s + (i + 4 * c + 2)) = w2 at b2 ⊢
      generalize hw3 : M.2.2 42 (60 * s + (i + 4 * c + 3)) = w3 at b3 ⊢
      have hso := isOne_eq w0.toInt32 w1.toInt32 w2.toInt32 w3.toInt32
      rw [b0, b1, b2, b3] at hso
      have ek : ∀ x : Nat, ((60 * nI s + nI i) + 4 * nI c) + nI x = nI (60 * s + (i + 4 * c + x)) := fun x => by
        rw [(idx_eq hs).2, show (4 : Int32) = nI 4 from rfl, pk_mul, nI_add, nI_add]
        congr 1
        omega
      have ek0 : (60 * nI s + nI i) + 4 * nI c = nI (60 * s + (i + 4 * c)) := by
        rw [(idx_eq hs).2, show (4 : Int32) = nI 4 from rfl, pk_mul, nI_add]
        congr 1
        omega
      by_cases hnd : nd < 12
      · rw [hB.1.2.1, if_neg (show ¬ (12 : Int32) ≤ nI nd from nI_ge (b := 12) hnd (by omega))]
        have h111 : f_X11_deeds_B111 F (nI s) (nI i) (nI K) (f_X11_deeds_L69 F (nI s) (nI i) (nI K) (m'' + 1)) M (nI c) 1 = (f_X11_isOne w0 w1 w2 w3).bind fun r4 => (if r4 = 0 then f_X11_deeds_B176 F (nI s) (nI i) (nI K) (f_X11_deeds_L69 F (nI s) (nI i) (nI K) (m'' + 1)) M (nI c) ((60 * nI s + nI i) + 4 * nI c) 0 else f_X11_deeds_B176 F (nI s) (nI i) (nI K) (f_X11_deeds_L69 F (nI s) (nI i) (nI K) (m'' + 1)) M (nI c) ((60 * nI s + nI i) + 4 * nI c) 1) := by
          unfold f_X11_deeds_B111 f_X11_deeds_B175
          simp only [lti]
          rw [if_neg one0, show ((60 * nI s + nI i) + 4 * nI c) + 1 = nI (60 * s + (i + 4 * c + 1)) from ek 1, show ((60 * nI s + nI i) + 4 * nI c) + 2 = nI (60 * s + (i + 4 * c + 2)) from ek 2, show ((60 * nI s + nI i) + 4 * nI c) + 3 = nI (60 * s + (i + 4 * c + 3)) from ek 3, ek0, inr_nI (show 60 * s + (i + 4 * c) < 360 by omega) (by omega), inr_nI (show 60 * s + (i + 4 * c + 1) < 360 by omega) (by omega), inr_nI (show 60 * s + (i + 4 * c + 2) < 360 by omega) (by omega), inr_nI (show 60 * s + (i + 4 * c + 3) < 360 by omega) (by omega), chk_true, chk_true, chk_true, chk_true, cl_nI (show 60 * s + (i + 4 * c) < 2 ^ 31 by omega), cl_nI (show 60 * s + (i + 4 * c + 1) < 2 ^ 31 by omega), cl_nI (show 60 * s + (i + 4 * c + 2) < 2 ^ 31 by omega), cl_nI (show 60 * s + (i + 4 * c + 3) < 2 ^ 31 by omega), hw0, hw1, hw2, hw3]
        rw [h111, hso]
        rcases isSo_01 w0.toInt32 w1.toInt32 w2.toInt32 w3.toInt32 with h0 | ⟨h0, hdd⟩
        · rw [h0, Option.bind_some, Option.bind_some, if_pos rfl, if_pos rfl, Option.bind_some, if_pos rfl]
          exact hstop
        · rw [h0, Option.bind_some, Option.bind_some, if_neg one0, if_neg one0, add_eqS hB.1.1 hnd, Option.bind_some, if_neg (nI_pos (by omega)), Option.bind_some, if_neg one0, nI_1]
          unfold f_X11_deeds_B176
          rw [if_neg one0, show ((60 * nI s + nI i) + 4 * nI c) + 1 = nI (60 * s + (i + 4 * c + 1)) from ek 1, show ((60 * nI s + nI i) + 4 * nI c) + 2 = nI (60 * s + (i + 4 * c + 2)) from ek 2, show ((60 * nI s + nI i) + 4 * nI c) + 3 = nI (60 * s + (i + 4 * c + 3)) from ek 3, ek0, inr_nI (show 60 * s + (i + 4 * c) < 360 by omega) (by omega), inr_nI (show 60 * s + (i + 4 * c + 1) < 360 by omega) (by omega), inr_nI (show 60 * s + (i + 4 * c + 2) < 360 by omega) (by omega), inr_nI (show 60 * s + (i + 4 * c + 3) < 360 by omega) (by omega), chk_true, chk_true, chk_true, chk_true, cl_nI (show 60 * s + (i + 4 * c) < 2 ^ 31 by omega), cl_nI (show 60 * s + (i + 4 * c + 1) < 2 ^ 31 by omega), cl_nI (show 60 * s + (i + 4 * c + 2) < 2 ^ 31 by omega), cl_nI (show 60 * s + (i + 4 * c + 3) < 2 ^ 31 by omega), hw0, hw1, hw2, hw3, add_eqM hB.1.2.1 hnd, Option.bind_some, nI_1]
          exact ih (c + 1) m (m'' + 1) (nd + 1) _ _ (by omega) (by omega) (by omega) (RV_ad hV hnd hdd) (c1.fr ⟨rfl, rfl, rfl⟩) (c2.fr ⟨rfl, rfl, rfl⟩) (KMemo_ad hk hnd) (shR_ad hR)
      · have e : nd = 12 := by omega
        rw [hB.1.2.1, e, if_pos (show (12 : Int32) ≤ nI 12 by decide), h110]
        have hfull : f_X1_add Z S w0.toInt32 w1.toInt32 w2.toInt32 w3.toInt32 = some (-3, S) := by
          unfold f_X1_add
          rw [hB.1.1, e, if_neg (show ¬ nI 12 < 12 by decide)]
        rcases isSo_01 w0.toInt32 w1.toInt32 w2.toInt32 w3.toInt32 with h0 | ⟨h0, hdd⟩
        · rw [h0, Option.bind_some, if_pos rfl, Option.bind_some, if_pos rfl]
          exact hstop
        · rw [h0, Option.bind_some, if_neg one0, hfull, Option.bind_some, if_pos (show (-3 : Int32) < 0 by decide), Option.bind_some, if_pos rfl]
          exact hstop
    · rw [if_neg hfit, if_pos (hcond.mpr hfit), Option.bind_some, if_pos rfl, Option.bind_some, if_pos rfl, h110]
      exact hstop
theorem st_deeds (hF : 200000 ≤ F) : ST_deeds F (RR F) := by
  intro t S Z M a1 a2 a3 ht hR
  have hR' := hR
  obtain ⟨nm, nv, nd, nb, hV, c1, c2, hm⟩ := hR
  have hS := hV.2.2.2.2.2.2.1
  have hnb := hV.2.2.2.2.2.1.1.2.2
  have idle : ∀ (r : Int32), ∃ (r' : Int32) (S1 M1 : St), (some (r, S) : Option (Int32 × St)) = some (r', S1) ∧ (some (r, M) : Option (Int32 × St)) = some (r', M1) ∧ RR F (t + 1) S1 Z M1 := fun r => ⟨r, S, M, rfl, rfl, RR_idle hR'⟩
  obtain ⟨f, hf⟩ : ∃ f, F = f + 1 := ⟨F - 1, by omega⟩
  unfold f_X10_deeds f_X11_deeds
  rw [hasShelf_eq, isShelf_eq, Option.bind_some, Option.bind_some]
  rcases hx_01 (n := 6) (a := a1) with h0 | ⟨s, hs, rfl, h1⟩
  · rw [h0]; exact idle _
  rw [h1, if_neg one0, if_neg one0, show (1 : Int64) = (nI 1).toInt64 from rfl, show (12 : Int64) = (nI 12).toInt64 from rfl]
  rcases rng (x := a3) 1 12 (by omega) (by omega) with ⟨hq, hw⟩ | ⟨K, n1, n2, rfl, q1, q2, hw⟩
  · rw [hw]
    rcases hq with hq | ⟨hq1, hq2⟩
    · rw [if_pos (show a3 < 1 from hq)]; exact idle _
    · rw [if_neg (show ¬ a3 < 1 from hq1), if_neg (gt_nle (show 12 < a3 from hq2))]; exact idle _
  rw [hw, if_neg (show ¬ nI K < 1 from q1), if_pos (show nI K ≤ 12 from nlt_le q2), Option.bind_some, if_neg one0, inr_nI hs (by omega), chk_true, chk_true, cl_nI (show s < 2 ^ 31 by omega)]
  have hM0 : f_X11_deeds_L69 F (nI s) a2 (nI K) F M 0 0 = some (0, M) := by
    have e : f_X11_deeds_L69 F (nI s) a2 (nI K) F M 0 0 = f_X11_deeds_L69 F (nI s) a2 (nI K) (f + 1) M 0 0 := by rw [← hf]
    rw [e]
    simp only [f_X11_deeds_L69]
    rw [if_pos trivial]
  have hS0 : f_X10_deedFromRow Z S (nI s) a2 (4 * 0) = some (0, S) → f_X10_deeds_L52 F Z (nI s) a2 (nI K) F S 0 = some (0, S) := by
    intro h
    have e : f_X10_deeds_L52 F Z (nI s) a2 (nI K) F S 0 = f_X10_deeds_L52 F Z (nI s) a2 (nI K) (f + 1) S 0 := by rw [← hf]
    rw [e]
    simp only [f_X10_deeds_L52]
    rw [if_neg (show ¬ nI K ≤ 0 from nI_nle (by omega) (by omega)), h, Option.bind_some, if_pos rfl]
  rcases sh_d hS hs with h | h | ⟨q, n, h⟩
  · have hd : f_X10_deedFromRow Z S (nI s) a2 (4 * 0) = some (0, S) := by
      unfold f_X10_deedFromRow
      rw [bytes_eq hs, h.1, if_neg (by decide), Option.bind_some, if_pos rfl]
    unfold f_X11_deeds_B44
    rw [empty_E hs h, Option.bind_some, if_neg one0, hS0 hd, h.2, if_pos neg1_0, inr_nI hs (by omega), chk_true, cl_nI (by omega), h.2, if_neg (show ¬ (-1 : Int32) = 50 by decide), hM0]
    exact idle _
  · obtain ⟨b, hb, hb1, hb2⟩ := h.2
    rw [empty_B hs h, Option.bind_some, if_pos rfl, bytes_eq hs, h.1, if_neg (show ¬ (-2 : Int32) = 0 by decide), Option.bind_some, if_pos rfl, hb2, if_neg (nI_pos (by omega)), if_neg (show ¬ nI b = 50 from ne_n (b := 50) (by omega) (by omega) (by omega))]
    exact idle _
  · have h' := h
    obtain ⟨g1, g2, g3, g4, g5, g6, g7, g8⟩ := h
    rw [empty_R hs h', Option.bind_some, if_pos rfl, bytes_eq hs, g3, g4, if_neg (nI_pos (by omega))]
    by_cases hq0 : q = 0
    · subst hq0
      unfold f_X11_deeds_B44
      rw [if_pos (show nI 0 = 0 from rfl), Option.bind_some, if_neg one0, if_pos (show nI (50 + 0) = 50 from rfl), inr_nI hs (by omega), chk_true, cl_nI (by omega), g4, if_pos (show nI (50 + 0) = 50 from rfl)]
      by_cases h2 : a2 < 0
      · have hd : f_X10_deedFromRow Z S (nI s) a2 (4 * 0) = some (0, S) := by
          unfold f_X10_deedFromRow
          rw [bytes_eq hs, g3, if_pos (show nI 0 = 0 from rfl), Option.bind_some, if_neg one0, places_neg hs h' (Or.inl h2), Option.bind_some, if_pos rfl]
        rw [if_pos h2, hS0 hd, hM0]
        exact idle _
      · obtain ⟨i, hi, rfl⟩ := nI_of h2
        rw [if_neg h2]
        obtain ⟨r, S', M', nd', y1, y2, y3, y4, y5, y6⟩ := deeds_loop (F := F) (Z := Z) (by omega) hs hi n2 K 0 F F nd S M (by omega) (by omega) (by omega) hV c1 c2 hm h'
        exact ⟨r, S', M', y1, y2, RR_mk y3 y4 y5 y6 (by omega)⟩
    · rw [if_neg (nI_ne0 (by omega) (by omega)), Option.bind_some, if_pos rfl, if_neg (show ¬ nI (50 + q) = 50 from ne_n (b := 50) (by omega) (by omega) (by omega))]
      exact idle _
end
