/-! shelves: rows made, put in, told -/
def shE (S M : St) (s : Nat) : Prop := S.2.1 120 s = -1 ∧ M.2.1 40 s = -1
def shB (S M : St) (nb s : Nat) : Prop := S.2.1 120 s = -2 ∧ ∃ b, b < nb ∧ S.2.1 121 s = nI b ∧ M.2.1 40 s = nI b
def shR (S M : St) (s q n : Nat) : Prop := q ≤ 4 ∧ n ≤ 60 ∧ S.2.1 120 s = nI q ∧ M.2.1 40 s = nI (50 + q) ∧ S.2.1 122 s = nI n ∧ M.2.1 41 s = nI n ∧ (∀ i, i < 60 → S.2.2 123 (60 * s + i) = M.2.2 42 (60 * s + i)) ∧ (q = 0 → ∀ i, i < 60 → byOK (M.2.2 42 (60 * s + i)))
section
variable {F : Nat} {Z : Zt} {S S' M M' : St} {nm nv nd nb s q n : Nat}
theorem sh_d (h : KShelf S M nb) (hs : s < 6) : shE S M s ∨ shB S M nb s ∨ ∃ q n, shR S M s q n := h s hs
theorem neg1_0 : (-1 : Int32) < 0 := by decide
theorem neg2_0 : (-2 : Int32) < 0 := by decide
theorem empty_E (hs : s < 6) (h : shE S M s) : f_X6_isEmpty Z S (nI s) = some 1 := by
  unfold f_X6_isEmpty
  rw [hasShelf_eq, hx_y hs, Option.bind_some, if_neg one0, inr_nI hs (by omega), chk_true, cl_nI (by omega), h.1, if_pos rfl]
theorem empty_B (hs : s < 6) (h : shB S M nb s) : f_X6_isEmpty Z S (nI s) = some 0 := by
  unfold f_X6_isEmpty
  rw [hasShelf_eq, hx_y hs, Option.bind_some, if_neg one0, inr_nI hs (by omega), chk_true, cl_nI (by omega), h.1, if_neg (by decide)]
theorem nI_m1 {k : Nat} (hk : k < 2 ^ 31) : ¬ nI k = -1 := fun z => by
  have e := nI_toInt hk
  rw [z] at e
  have : (-1 : Int32).toInt = -1 := rfl
  omega
theorem empty_R (hs : s < 6) (h : shR S M s q n) : f_X6_isEmpty Z S (nI s) = some 0 := by
  unfold f_X6_isEmpty
  rw [hasShelf_eq, hx_y hs, Option.bind_some, if_neg one0, inr_nI hs (by omega), chk_true, cl_nI (by omega), h.2.2.1, if_neg (nI_m1 (by have := h.1; omega))]
theorem row_n (hs : s < 6) (h : S.2.1 120 s < 0) : f_X6_holdsRow Z S (nI s) = some 0 := by
  unfold f_X6_holdsRow
  rw [hasShelf_eq, hx_y hs, Option.bind_some, if_neg one0, inr_nI hs (by omega), chk_true, cl_nI (by omega), if_pos h]
theorem row_R (hs : s < 6) (h : shR S M s q n) : f_X6_holdsRow Z S (nI s) = some 1 := by
  unfold f_X6_holdsRow
  rw [hasShelf_eq, hx_y hs, Option.bind_some, if_neg one0, inr_nI hs (by omega), chk_true, cl_nI (by omega), h.2.2.1, if_neg (nI_pos (by have := h.1; omega))]
theorem bytes_eq (hs : s < 6) : f_X6_holdsBytes Z S (nI s) = some (if S.2.1 120 s = 0 then 1 else 0) := by
  unfold f_X6_holdsBytes
  rw [hasShelf_eq, hx_y hs, Option.bind_some, if_neg one0, inr_nI hs (by omega), chk_true, cl_nI (by omega)]
  split <;> rfl
theorem places_n (hs : s < 6) (h : S.2.1 120 s < 0) (a k : Int32) : f_X6_hasPlaces Z S (nI s) a k = some 0 := by
  unfold f_X6_hasPlaces
  rw [row_n hs h, Option.bind_some, if_pos rfl]
theorem places_neg (hs : s < 6) (h : shR S M s q n) {a k : Int32} (hn : a < 0 ∨ k < 0) : f_X6_hasPlaces Z S (nI s) a k = some 0 := by
  unfold f_X6_hasPlaces
  rw [row_R hs h, Option.bind_some, if_neg one0]
  by_cases h1 : a < 0
  · rw [if_pos h1]
  · rw [if_neg h1, if_pos (hn.resolve_left h1)]
theorem places_R (hs : s < 6) (h : shR S M s q n) {i k : Nat} (hi : i < 2 ^ 31) (hk : k < 2 ^ 31) : f_X6_hasPlaces Z S (nI s) (nI i) (nI k) = some (if i + k ≤ n then 1 else 0) := by
  have hn := h.2.1
  unfold f_X6_hasPlaces
  rw [row_R hs h, Option.bind_some, if_neg one0, if_neg (nI_pos hi), if_neg (nI_pos hk), inr_nI hs (by omega), chk_true, cl_nI (by omega), h.2.2.2.2.1]
  by_cases h1 : n < k
  · rw [if_pos (nI_lt h1 hk), if_neg (by omega)]
  · rw [if_neg (nI_nlt (by omega) (by omega)), chk_true, pk_sub (by omega)]
    by_cases h2 : n - k < i
    · rw [if_pos (nI_lt h2 hi), if_neg (by omega)]
    · rw [if_neg (nI_nlt (by omega) (by omega)), if_pos (by omega)]
/-- why an element can't be had -/
theorem refusal_d (h : KShelf S M nb) (hnb : nb ≤ 50) (a1 a2 : Int32) : (∃ r, ¬ r = 0 ∧ f_X6_refusal Z S a1 a2 = some r ∧ f_X11_refusal M a1 a2 = some r) ∨ ∃ s i q n, s < 6 ∧ i < n ∧ a1 = nI s ∧ a2 = nI i ∧ shR S M s q n ∧ f_X6_refusal Z S a1 a2 = some 0 ∧ f_X11_refusal M a1 a2 = some 0 := by
  unfold f_X6_refusal f_X11_refusal
  rw [hasShelf_eq, isShelf_eq, Option.bind_some, Option.bind_some]
  rcases hx_01 (n := 6) (a := a1) with h0 | ⟨s, hs, rfl, h1⟩
  · rw [h0]; exact Or.inl ⟨-1, by decide, rfl, rfl⟩
  rw [h1, if_neg one0, if_neg one0, inr_nI hs (by omega), chk_true, chk_true, chk_true, cl_nI (by omega)]
  rcases sh_d h hs with h | h | ⟨q, n, h⟩
  · rw [empty_E hs h, Option.bind_some, if_neg one0, h.2, if_neg (by decide)]
    exact Or.inl ⟨-11, by decide, rfl, rfl⟩
  · obtain ⟨b, hb, hb1, hb2⟩ := h.2
    rw [empty_B hs h, Option.bind_some, if_pos rfl, row_n hs (by rw [h.1]; decide), Option.bind_some, if_pos rfl, hb2, if_pos (nI_pos' (by omega)), if_neg (show ¬ (50 : Int32) ≤ nI b from nI_ge (b := 50) (by omega) (by omega))]
    exact Or.inl ⟨-12, by decide, rfl, rfl⟩
  · have h' := h
    obtain ⟨g1, g2, g3, g4, g5, g6, g7, g8⟩ := h
    rw [empty_R hs h', Option.bind_some, if_pos rfl, row_R hs h', Option.bind_some, if_neg one0, g4, if_pos (nI_pos' (by omega)), if_pos (show (50 : Int32) ≤ nI (50 + q) from nI_le (a := 50) (by omega) (by omega)), g6]
    by_cases h2 : a2 < 0
    · rw [places_neg hs h' (Or.inl h2), if_pos h2]
      exact Or.inl ⟨-13, by decide, rfl, rfl⟩
    · obtain ⟨i, hi, rfl⟩ := nI_of h2
      have hp := places_R (Z := Z) hs h' (i := i) (k := 1) hi (by omega)
      rw [show (1 : Int32) = nI 1 from rfl, hp, if_neg h2, Option.bind_some]
      by_cases h3 : i < n
      · rw [if_pos (show i + 1 ≤ n by omega), if_neg one0, if_neg (nI_ge h3 (by omega))]
        exact Or.inr ⟨s, i, q, n, hs, h3, rfl, rfl, h', rfl, rfl⟩
      · rw [if_neg (show ¬ i + 1 ≤ n by omega), if_pos rfl, if_pos (nI_le (by omega) hi)]
        exact Or.inl ⟨-13, by decide, rfl, rfl⟩
theorem idx_eq (hs : s < 6) {i : Nat} : nI s * 60 + nI i = nI (60 * s + i) ∧ 60 * nI s + nI i = nI (60 * s + i) := by
  constructor
  · rw [show (60 : Int32) = nI 60 from rfl, pk_mul, nI_add, Nat.mul_comm]
  · rw [show (60 : Int32) = nI 60 from rfl, pk_mul, nI_add]
theorem elt_eq (hs : s < 6) (h : shR S M s q n) {i : Nat} (hi : i < n) : f_X6_at Z S (nI s) (nI i) = some (M.2.2 42 (60 * s + i)) := by
  have hn := h.2.1
  unfold f_X6_at
  rw [show (1 : Int32) = nI 1 from rfl, places_R hs h (i := i) (k := 1) (by omega) (by omega), if_pos (show i + 1 ≤ n by omega), Option.bind_some, if_neg one0, (idx_eq hs).1, inr_nI (show 60 * s + i < 360 by omega) (by omega), chk_true, cl_nI (by omega), h.2.2.2.2.2.2.1 i (by omega)]
theorem st_element : ST_element F (RR F) := by
  intro t S Z M a1 a2 ht hR
  have hR' := hR
  obtain ⟨nm, nv, nd, nb, hV, -⟩ := hR
  unfold f_X10_element f_X11_element
  rcases refusal_d (Z := Z) hV.2.2.2.2.2.2.1 hV.2.2.2.2.2.1.1.2.2 a1 a2 with ⟨r, hr, e1, e2⟩ | ⟨s, i, q, n, hs, hi, rfl, rfl, h, e1, e2⟩
  · rw [e1, e2, Option.bind_some, Option.bind_some, if_neg hr, if_neg hr]
    exact ⟨_, rfl, rfl, RR_idle hR'⟩
  · have hn := h.2.1
    rw [e1, e2, Option.bind_some, Option.bind_some, if_pos rfl, if_pos rfl, bind_id, elt_eq hs h hi, (idx_eq hs).2, inr_nI (show 60 * s + i < 360 by omega) (by omega), chk_true, cl_nI (by omega)]
    exact ⟨_, rfl, rfl, RR_idle hR'⟩
/-- but for shelves -/
theorem RR_sh {t : Nat} (hV : RV F S Z M nm nv nd nb) (c1 : KCt S Z 80) (c2 : KCt S Z 300) (hm : KMemo S Z M nd (1000000 * t)) (a1 : S'.1 = S.1) (a2 : ∀ j, (j < 120 ∨ 122 < j) → S'.2.1 j = S.2.1 j) (b1 : M'.1 = M.1) (b2 : ∀ j, (j < 40 ∨ 41 < j) → M'.2.1 j = M.2.1 j) (hS : KShelf S' M' nb) : RR F (t + 1) S' Z M' := by
  obtain ⟨h1, h2, h3, h4, h5, h6, h7, h8⟩ := hV
  have h12 := h2.1.2.2
  have A : ∀ j, S'.1 j = S.1 j := fun j => by rw [a1]
  have B : ∀ j, M'.1 j = M.1 j := fun j => by rw [b1]
  have e0 : M'.2.1 0 = M.2.1 0 := b2 0 (by omega)
  have hl : ∀ k, lwS S Z S' Z k := fun k => ⟨rfl, A _, A _, a2 _ (by omega), a2 _ (by omega), a2 _ (by omega), a2 _ (by omega), a2 _ (by omega)⟩
  refine RR_mk (nm := nm) (nv := nv) (nd := nd) (nb := nb) ⟨?_, ?_, ?_, ?_, ?_, ?_, hS, ?_⟩ (c1.fr ⟨rfl, A _, a2 _ (by omega)⟩) (c2.fr ⟨rfl, A _, a2 _ (by omega)⟩) (hm.fr (Nat.le_refl _) h12 ⟨hl 0, hl 1, hl 2⟩ ⟨B _, b2 _ (by omega), b2 _ (by omega), b2 _ (by omega), b2 _ (by omega)⟩ (fun d _ => ⟨by rw [b2 23 (by omega)], by rw [e0], by rw [b2 24 (by omega)]⟩)) (by omega)
  · exact h1.fr ⟨A _, A _, a2 _ (by omega), a2 _ (by omega), a2 _ (by omega), a2 _ (by omega), a2 _ (by omega), a2 _ (by omega)⟩ ⟨B _, B _, b2 _ (by omega), b2 _ (by omega), b2 _ (by omega), b2 _ (by omega)⟩ (fun k _ => by rw [e0])
  · exact h2.fr ⟨A _, a2 _ (by omega), a2 _ (by omega), a2 _ (by omega), a2 _ (by omega)⟩ ⟨B _, b2 _ (by omega), b2 _ (by omega)⟩ (fun k _ _ => by rw [e0])
  · exact h3.fr ⟨a2 _ (by omega), A _⟩ ⟨b2 _ (by omega), B _⟩
  · exact h4.fr ⟨A _, a2 _ (by omega), a2 _ (by omega), a2 _ (by omega)⟩ ⟨B _, b2 _ (by omega), b2 _ (by omega)⟩ (Nat.le_refl _) (Nat.le_refl _)
  · exact h5.fr ⟨A _, A _, a2 _ (by omega), a2 _ (by omega), a2 _ (by omega), a2 _ (by omega)⟩ ⟨B _, B _, b2 _ (by omega), b2 _ (by omega), b2 _ (by omega)⟩ (fun k _ => by rw [b2 7 (by omega)]) (Nat.le_refl _) (Nat.le_refl _)
  · exact h6.fr ⟨A _, A _, a2 _ (by omega), a2 _ (by omega)⟩ ⟨B _, B _, b2 _ (by omega), b2 _ (by omega)⟩
  · exact h8.fr (Nat.le_refl _) ⟨hl 0, hl 1, hl 2⟩ ⟨b2 _ (by omega), b2 _ (by omega)⟩
/-- a row becomes another: its own elements, the others as they were -/
theorem KShelf_up {q' n' : Nat} (h : KShelf S M nb) (hs : s < 6) (a : ∀ d, d ≠ s → S'.2.1 120 d = S.2.1 120 d ∧ S'.2.1 121 d = S.2.1 121 d ∧ S'.2.1 122 d = S.2.1 122 d) (b : ∀ d, d ≠ s → M'.2.1 40 d = M.2.1 40 d ∧ M'.2.1 41 d = M.2.1 41 d) (a2 : ∀ k, (k < 60 * s ∨ 60 * s + 60 ≤ k) → S'.2.2 123 k = S.2.2 123 k) (b2 : ∀ k, (k < 60 * s ∨ 60 * s + 60 ≤ k) → M'.2.2 42 k = M.2.2 42 k) (hR : shR S' M' s q' n') : KShelf S' M' nb := by
  intro d hd
  by_cases e : d = s
  · subst e
    exact Or.inr (Or.inr ⟨q', n', hR⟩)
  · obtain ⟨a1, a3, a4⟩ := a d e
    obtain ⟨b1, b3⟩ := b d e
    exact (h d hd).fr (Nat.le_refl _) ⟨a1, a3, a4, fun i hi => a2 _ (by omega)⟩ ⟨b1, b3, fun i hi => b2 _ (by omega)⟩
theorem by_ok (v : Int64) : byOK v.toInt32.toInt8.toInt32.toInt64 := by
  unfold byOK
  rw [Int32.toInt_toInt64, Int8.toInt_toInt32]
  have h1 := Int8.le_toInt v.toInt32.toInt8
  have h2 := Int8.toInt_lt v.toInt32.toInt8
  omega
theorem low_eq (hq : q ≤ 4) (v : Int64) : ∃ r, f_X6_lowestBits (nI q) v = some r ∧ f_X11_asSort (nI (50 + q) - 50) v = some r ∧ (q = 0 → byOK r) := by
  have e : nI (50 + q) - 50 = nI q := by
    rw [show (50 : Int32) = nI 50 from rfl, pk_sub (by omega)]
    congr 1
    omega
  rw [e]
  unfold f_X6_lowestBits f_X11_asSort
  match q, hq with
  | 0, _ => exact ⟨_, rfl, rfl, fun _ => by_ok v⟩
  | 1, _ => exact ⟨_, rfl, rfl, fun z => absurd z (by decide)⟩
  | 2, _ => exact ⟨_, rfl, rfl, fun z => absurd z (by decide)⟩
  | 3, _ => exact ⟨_, rfl, rfl, fun z => absurd z (by decide)⟩
  | 4, _ =>
    by_cases h : lg_cmp v 0 = 0
    · refine ⟨1 - 1, ?_, ?_, fun z => absurd z (by decide)⟩
      · rw [if_neg (show ¬ nI 4 = 0 by decide), if_neg (show ¬ nI 4 = 1 by decide), if_neg (show ¬ nI 4 = 2 by decide), if_neg (show ¬ nI 4 = 3 by decide), if_pos (show nI 4 = 4 from rfl), if_pos h]; rfl
      · rw [if_neg (show ¬ nI 4 = 0 by decide), if_neg (show ¬ nI 4 = 1 by decide), if_neg (show ¬ nI 4 = 2 by decide), if_pos (show nI 4 = 4 from rfl), if_pos h]; rfl
    · refine ⟨1, ?_, ?_, fun z => absurd z (by decide)⟩
      · rw [if_neg (show ¬ nI 4 = 0 by decide), if_neg (show ¬ nI 4 = 1 by decide), if_neg (show ¬ nI 4 = 2 by decide), if_neg (show ¬ nI 4 = 3 by decide), if_pos (show nI 4 = 4 from rfl), if_neg h]
      · rw [if_neg (show ¬ nI 4 = 0 by decide), if_neg (show ¬ nI 4 = 1 by decide), if_neg (show ¬ nI 4 = 2 by decide), if_pos (show nI 4 = 4 from rfl), if_neg h]
theorem st_put : ST_put F (RR F) := by
  intro t S Z M a1 a2 a3 ht hR
  have hR' := hR
  obtain ⟨nm, nv, nd, nb, hV, c1, c2, hm⟩ := hR
  have hS := hV.2.2.2.2.2.2.1
  unfold f_X10_put f_X11_put
  rcases refusal_d (Z := Z) hS hV.2.2.2.2.2.1.1.2.2 a1 a2 with ⟨r, hr, e1, e2⟩ | ⟨s, i, q, n, hs, hi, rfl, rfl, h, e1, e2⟩
  · rw [e1, e2, Option.bind_some, Option.bind_some, if_neg hr, if_neg hr, if_neg hr]
    exact ⟨_, _, _, rfl, rfl, RR_idle hR'⟩
  · have h' := h
    obtain ⟨g1, g2, g3, g4, g5, g6, g7, g8⟩ := h
    obtain ⟨r, l1, l2, l3⟩ := low_eq g1 a3
    unfold f_X6_setAt
    rw [e1, e2, Option.bind_some, Option.bind_some, if_pos rfl, if_pos rfl, show (1 : Int32) = nI 1 from rfl, places_R hs h' (i := i) (k := 1) (by omega) (by omega), if_pos (show i + 1 ≤ n by omega), Option.bind_some, if_neg one0, inr_nI hs (by omega), chk_true, chk_true, cl_nI (show s < 2 ^ 31 by omega), g3, g4, l1, l2, Option.bind_some, Option.bind_some, (idx_eq hs).1, (idx_eq hs).2, inr_nI (show 60 * s + i < 360 by omega) (by omega), chk_true, chk_true, cl_nI (show 60 * s + i < 2 ^ 31 by omega), Option.bind_some, if_pos rfl]
    refine ⟨_, _, _, rfl, rfl, RR_sh hV c1 c2 hm rfl (fun _ _ => rfl) rfl (fun _ _ => rfl) (KShelf_up (s := s) (q' := q) (n' := n) hS hs (fun d _ => ⟨rfl, rfl, rfl⟩) (fun d _ => ⟨rfl, rfl⟩) (fun k hk => ?_) (fun k hk => ?_) ⟨g1, g2, g3, g4, g5, g6, fun x hx => ?_, fun hq x hx => ?_⟩)⟩
    · show vp_updL (S.2.2 123) (60 * s + i) r k = _
      rw [updLE, if_neg (by omega)]
    · show vp_updL (M.2.2 42) (60 * s + i) r k = _
      rw [updLE, if_neg (by omega)]
    · show vp_updL (S.2.2 123) (60 * s + i) r (60 * s + x) = vp_updL (M.2.2 42) (60 * s + i) r (60 * s + x)
      rw [updLE, updLE]
      by_cases e : 60 * s + x = 60 * s + i
      · rw [if_pos e, if_pos e]
      · rw [if_neg e, if_neg e]
        exact g7 x hx
    · show byOK (vp_updL (M.2.2 42) (60 * s + i) r (60 * s + x))
      rw [updLE]
      by_cases e : 60 * s + x = 60 * s + i
      · rw [if_pos e]; exact l3 hq
      · rw [if_neg e]; exact g8 hq x hx
theorem holdRow_ok (hF : 200 ≤ F) (hs : s < 6) (S0 : St) : ∃ S', f_X6_holdRow_L25 F Z (nI s) F S0 0 = some S' ∧ S'.1 = S0.1 ∧ S'.2.1 = S0.2.1 ∧ (∀ k, (k < 60 * s ∨ 60 * s + 60 ≤ k) → S'.2.2 123 k = S0.2.2 123 k) ∧ ∀ i, i < 60 → S'.2.2 123 (60 * s + i) = 0 := by
  have hl : ∀ (j i q : Nat) (T : St), i + j = 60 → j < q → T.1 = S0.1 → T.2.1 = S0.2.1 → (∀ k, (k < 60 * s ∨ 60 * s + 60 ≤ k) → T.2.2 123 k = S0.2.2 123 k) → (∀ x, x < i → T.2.2 123 (60 * s + x) = 0) → ∃ S', f_X6_holdRow_L25 F Z (nI s) q T (nI i) = some S' ∧ S'.1 = S0.1 ∧ S'.2.1 = S0.2.1 ∧ (∀ k, (k < 60 * s ∨ 60 * s + 60 ≤ k) → S'.2.2 123 k = S0.2.2 123 k) ∧ ∀ i, i < 60 → S'.2.2 123 (60 * s + i) = 0 := by
    intro j
    induction j with
    | zero =>
      intro i q T hi hq t1 t2 t3 t4
      obtain ⟨q, rfl⟩ : ∃ z, q = z + 1 := ⟨q - 1, by omega⟩
      have e : i = 60 := by omega
      subst e
      simp only [f_X6_holdRow_L25]
      rw [if_pos (show (60 : Int32) ≤ nI 60 by decide)]
      exact ⟨T, rfl, t1, t2, t3, t4⟩
    | succ j ih =>
      intro i q T hi hq t1 t2 t3 t4
      obtain ⟨q, rfl⟩ : ∃ z, q = z + 1 := ⟨q - 1, by omega⟩
      simp only [f_X6_holdRow_L25]
      rw [if_neg (show ¬ (60 : Int32) ≤ nI i from nI_ge (b := 60) (by omega) (by omega)), (idx_eq hs).1, inr_nI (show 60 * s + i < 360 by omega) (by omega), chk_true, cl_nI (by omega), nI_1]
      refine ih (i + 1) q _ (by omega) (by omega) t1 t2 (fun k hk => ?_) (fun x hx => ?_)
      · rw [sl22, if_pos rfl, updLE, if_neg (by omega)]; exact t3 k hk
      · rw [sl22, if_pos rfl, updLE]
        split
        · rfl
        · exact t4 x (by omega)
  exact hl 60 0 F S0 rfl (by omega) rfl rfl (fun _ _ => rfl) (fun x hx => absurd hx (Nat.not_lt_zero _))
theorem rowM_ok (hF : 200 ≤ F) (hs : s < 6) (M0 : St) : ∃ M', f_X11_row_L57 F (nI s) F M0 (60 * nI s) = some (1, M') ∧ M'.1 = M0.1 ∧ M'.2.1 = M0.2.1 ∧ (∀ k, (k < 60 * s ∨ 60 * s + 60 ≤ k) → M'.2.2 42 k = M0.2.2 42 k) ∧ ∀ i, i < 60 → M'.2.2 42 (60 * s + i) = 0 := by
  have e60 : (60 : Int32) * nI s = nI (60 * s) := pk_mul 60 s
  have hl : ∀ (j i q : Nat) (T : St), i + j = 60 → j < q → T.1 = M0.1 → T.2.1 = M0.2.1 → (∀ k, (k < 60 * s ∨ 60 * s + 60 ≤ k) → T.2.2 42 k = M0.2.2 42 k) → (∀ x, x < i → T.2.2 42 (60 * s + x) = 0) → ∃ M', f_X11_row_L57 F (nI s) q T (nI (60 * s + i)) = some (1, M') ∧ M'.1 = M0.1 ∧ M'.2.1 = M0.2.1 ∧ (∀ k, (k < 60 * s ∨ 60 * s + 60 ≤ k) → M'.2.2 42 k = M0.2.2 42 k) ∧ ∀ i, i < 60 → M'.2.2 42 (60 * s + i) = 0 := by
    intro j
    induction j with
    | zero =>
      intro i q T hi hq t1 t2 t3 t4
      obtain ⟨q, rfl⟩ : ∃ z, q = z + 1 := ⟨q - 1, by omega⟩
      have e : i = 60 := by omega
      subst e
      simp only [f_X11_row_L57]
      rw [e60, show nI (60 * s) + 60 = nI (60 * s + 60) from nI_add (60 * s) 60, if_pos (nI_le (Nat.le_refl _) (by omega))]
      exact ⟨T, rfl, t1, t2, t3, t4⟩
    | succ j ih =>
      intro i q T hi hq t1 t2 t3 t4
      obtain ⟨q, rfl⟩ : ∃ z, q = z + 1 := ⟨q - 1, by omega⟩
      simp only [f_X11_row_L57]
      rw [e60, show nI (60 * s) + 60 = nI (60 * s + 60) from nI_add (60 * s) 60, if_neg (nI_ge (show 60 * s + i < 60 * s + 60 by omega) (by omega)), inr_nI (show 60 * s + i < 360 by omega) (by omega), chk_true, cl_nI (by omega), nI_1]
      refine ih (i + 1) q _ (by omega) (by omega) t1 t2 (fun k hk => ?_) (fun x hx => ?_)
      · rw [sl22, if_pos rfl, updLE, if_neg (by omega)]; exact t3 k hk
      · rw [sl22, if_pos rfl, updLE]
        split
        · rfl
        · exact t4 x (by omega)
  rw [e60]
  exact hl 60 0 F M0 rfl (by omega) rfl rfl (fun _ _ => rfl) (fun x hx => absurd hx (Nat.not_lt_zero _))
theorem st_row (hF : 200000 ≤ F) : ST_row F (RR F) := by
  intro t S Z M a1 a2 a3 ht hR
  have hR' := hR
  obtain ⟨nm, nv, nd, nb, hV, c1, c2, hm⟩ := hR
  have hS := hV.2.2.2.2.2.2.1
  have idle : ∀ (r : Int32), ∃ (r' : Int32) (S1 M1 : St), (some (r, S) : Option (Int32 × St)) = some (r', S1) ∧ (some (r, M) : Option (Int32 × St)) = some (r', M1) ∧ RR F (t + 1) S1 Z M1 := fun r => ⟨r, S, M, rfl, rfl, RR_idle hR'⟩
  unfold f_X10_row f_X11_row
  rw [hasShelf_eq, isShelf_eq, Option.bind_some, Option.bind_some]
  rcases hx_01 (n := 6) (a := a1) with h0 | ⟨s, hs, rfl, h1⟩
  · rw [h0]; exact idle _
  rw [h1, if_neg one0, if_neg one0, show (0 : Int64) = (nI 0).toInt64 from rfl, show (4 : Int64) = (nI 4).toInt64 from rfl]
  rcases rng (x := a2) 0 4 (by omega) (by omega) with ⟨hq, hw⟩ | ⟨q, n1, n2, rfl, q1, q2, hw⟩
  · rw [hw]
    rcases hq with hq | ⟨hq1, hq2⟩
    · rw [if_pos (show a2 < 0 from hq)]; exact idle _
    · rw [if_neg (show ¬ a2 < 0 from hq1), if_pos (show 4 < a2 from hq2)]; exact idle _
  rw [hw, if_neg (show ¬ nI q < 0 from q1), if_neg (show ¬ 4 < nI q from q2), Option.bind_some, if_neg one0]
  by_cases h60 : a3 ≤ 60
  · rw [if_pos h60, if_pos h60]
    by_cases h3 : (0 : Int32) ≤ a3
    · obtain ⟨n, hn, rfl⟩ := ge0 h3
      have hn60 : n ≤ 60 := (nI_leI (b := 60) hn (by omega)).mp h60
      rw [if_pos h3, if_pos h3]
      unfold f_X6_holdRow
      rw [hasShelf_eq, h1, Option.bind_some, if_neg one0, inr_nI hs (by omega), chk_true, chk_true, chk_true, chk_true, cl_nI (show s < 2 ^ 31 by omega), show (50 : Int32) + nI q = nI (50 + q) from nI_add 50 q]
      obtain ⟨S1, e1, f1, f2, f3, f4⟩ := holdRow_ok (Z := Z) (F := F) (by omega) hs (sa (sa S 120 s (nI q)) 122 s (nI n))
      obtain ⟨M1, e2, g1, g2, g3, g4⟩ := rowM_ok (F := F) (by omega) hs (sa (sa M 40 s (nI (50 + q))) 41 s (nI n))
      rw [e1, Option.bind_some, e2]
      refine ⟨_, _, _, rfl, rfl, RR_sh hV c1 c2 hm f1 (fun j hj => ?_) g1 (fun j hj => ?_) (KShelf_up (s := s) (q' := q) (n' := n) hS hs (fun d hd => ?_) (fun d hd => ?_) (fun k hk => f3 k hk) (fun k hk => g3 k hk) ⟨n2, hn60, ?_, ?_, ?_, ?_, fun i hi => by rw [f4 i hi, g4 i hi], fun _ i hi => ?_⟩)⟩
      · rw [f2, sa21, if_neg (by omega), sa21, if_neg (by omega)]
      · rw [g2, sa21, if_neg (by omega), sa21, if_neg (by omega)]
      · rw [f2]; exact ⟨pk_un hd, rfl, pk_un hd⟩
      · rw [g2]; exact ⟨pk_un hd, pk_un hd⟩
      · rw [f2]; exact pk_us
      · rw [g2]; exact pk_us
      · rw [f2]; exact pk_us
      · rw [g2]; exact pk_us
      · rw [g4 i hi]; exact ⟨by decide, by decide⟩
    · rw [if_neg h3, if_neg h3]; exact idle _
  · rw [if_neg h60, if_neg h60]; exact idle _
end
