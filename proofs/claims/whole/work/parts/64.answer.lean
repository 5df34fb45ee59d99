/-! a law answers -/
theorem lw_a_ext {i : Nat} {v : Int32} {w w' : Nat → Int32} (hw : ∀ j, j < i → w' j = w j) (hi : i < 2 ^ 31) : lw_a i v w' = lw_a i v w := by
  unfold lw_a
  by_cases q1 : v < 0
  · rw [if_pos q1, if_pos q1]
  · by_cases q2 : nI i ≤ v
    · rw [if_neg q1, if_neg q1, if_pos q2, if_pos q2]
    · obtain ⟨j, hj, ej⟩ := nI_of q1
      rw [ej, nI_leI hi hj] at q2
      rw [if_neg q1, if_neg q1, ej, cl_nI hj, hw j (by omega)]
section
variable {F bs p1 p2 : Nat} {Z : Zt}
theorem ans_B123 (hb : 1000 ≤ bs) (h2 : lnC Z p2 = 120) {K : St → Int32 → Option (Int32 × St)} {T : St} {i : Nat} {y5 a : Int32} (hi : i < 120) : f_X8_answer_B123 F bs p1 p2 Z K T (nI i) y5 a = K (sa T p2 i (jn (T.2.1 bs i) a (lw_a i y5 (T.2.1 p2)))) (nI (i + 1)) := by
  have h144 : ∀ q, f_X8_answer_B144 F bs p1 p2 Z K T (nI i) a q = K (sa T p2 i (jn (T.2.1 bs i) a q)) (nI (i + 1)) := fun q => by
    unfold f_X8_answer_B144
    rw [lnC_hi (by omega), inr_nI hi (by omega), chk_true, joined_ok, Option.bind_some, h2, inr_nI hi (by omega), chk_true, cl_nI (by omega), nI_1]
    rfl
  unfold f_X8_answer_B123 f_X8_answer_B143
  by_cases q1 : y5 < 0
  · rw [if_pos q1, h144]
    unfold lw_a
    rw [if_pos q1]
  · obtain ⟨j, hj, rfl⟩ := nI_of q1
    by_cases q2 : nI i ≤ nI j
    · rw [if_neg q1, if_pos q2, h144]
      unfold lw_a
      rw [if_neg q1, if_pos q2]
    · rw [if_neg q1, if_neg q2]
      rw [nI_leI (by omega) hj] at q2
      rw [h2, inr_nI (by omega) (by omega), chk_true, h144, lw_a_nI (by omega) (by omega), cl_nI hj]
theorem ans_step (hb : 1000 ≤ bs) (h1 : lnC Z p1 = 7) (h2 : lnC Z p2 = 120) {n s i : Nat} {T : St} (hs : T.1 (bs + 5) = nI s) (hs2 : s ≤ 120) (hi : i < s) : f_X8_answer_L12 F bs p1 p2 Z (n + 1) T (nI i) = f_X8_answer_L12 F bs p1 p2 Z n (sa T p2 i (sval (T.2.1 bs) (T.2.1 (bs + 1)) (T.2.1 (bs + 2)) (T.2.1 p1) i (T.2.1 p2))) (nI (i + 1)) := by
  have hi120 : i < 120 := by omega
  simp only [f_X8_answer_L12]
  rw [hs, if_neg (nI_ge hi (by omega)), if_neg (i120 hi120), h1, h2, show Int32.ofNat 120 = nI 120 from rfl, show Int32.ofNat 7 = nI 7 from rfl, if_neg (nI_ge hi120 (by omega)), lnC_hi (by omega), lnC_hi (by omega), lnC_hi (by omega), inr_nI hi120 (by omega)]
  simp only [lti, chk_true]
  rw [cl_nI (by omega), nI_1]
  unfold sval f_X8_answer_B122
  simp only [Nat.add_zero]
  by_cases q48 : T.2.1 bs i = 48
  · rw [if_pos q48, if_pos q48]
  · rw [if_neg q48, if_neg q48]
    by_cases q107 : T.2.1 bs i = 107
    · rw [if_pos q107, if_pos q107]
      by_cases q1 : T.2.1 (bs + 1) i < 0
      · rw [if_pos q1, if_pos q1]
      · obtain ⟨j, hj, ej⟩ := nI_of q1
        rw [if_neg q1, if_neg q1, show (7 : Int32) = nI 7 from rfl]
        by_cases q2 : nI 7 ≤ T.2.1 (bs + 1) i
        · rw [if_pos q2, if_pos q2]
        · rw [if_neg q2, if_neg q2]
          rw [ej, nI_leI (by omega) hj] at q2
          rw [ej, inr_nI (by omega) (by omega)]
          rfl
    · rw [if_neg q107, if_neg q107]
      by_cases q1 : T.2.1 (bs + 1) i < 0
      · rw [if_pos q1, ans_B123 hb h2 hi120]
        unfold lw_a
        rw [if_pos q1]
      · obtain ⟨j, hj, ej⟩ := nI_of q1
        rw [if_neg q1]
        by_cases q2 : nI i ≤ T.2.1 (bs + 1) i
        · rw [if_pos q2, ans_B123 hb h2 hi120]
          have e0 : lw_a i (T.2.1 (bs + 1) i) (T.2.1 p2) = 0 := by
            unfold lw_a
            rw [if_neg q1, if_pos q2]
          rw [e0]
        · rw [if_neg q2]
          rw [ej, nI_leI (by omega) hj] at q2
          rw [ej, inr_nI (by omega) (by omega), chk_true, ans_B123 hb h2 hi120, lw_a_nI (by omega) (by omega), cl_nI hj]
theorem first_loop (hb : 1000 ≤ bs) (h2 : lnC Z p2 = 120) {s l : Nat} {T : St} (hs2 : s ≤ 120) (hl : T.1 (bs + 6) = nI l) (hl2 : l ≤ 120) (hok : ∀ i, i < l → lineOK s (T.2.1 (bs + 3) i) (T.2.1 (bs + 4) i)) : ∀ (k i n : Nat), i + k = l → k < n → hitP (T.2.1 (bs + 3)) (T.2.1 (bs + 4)) (T.2.1 p2) i = none → f_X8_firstThatCounts_L2 F bs p2 Z T n (nI i) = some ((hitP (T.2.1 (bs + 3)) (T.2.1 (bs + 4)) (T.2.1 p2) l).getD 0) := by
  intro k
  induction k with
  | zero =>
    intro i n hik hn hh
    obtain ⟨n, rfl⟩ : ∃ q, n = q + 1 := ⟨n - 1, by omega⟩
    have e : i = l := by omega
    subst e
    simp only [f_X8_firstThatCounts_L2]
    rw [hl, if_pos (nI_le (Nat.le_refl _) (by omega)), hh]
    rfl
  | succ k ih =>
    intro i n hik hn hh
    obtain ⟨n, rfl⟩ : ∃ q, n = q + 1 := ⟨n - 1, by omega⟩
    have hi120 : i < 120 := by omega
    obtain ⟨hw, r, hr, er⟩ := hok i (by omega)
    have hnext : hitP (T.2.1 (bs + 3)) (T.2.1 (bs + 4)) (T.2.1 p2) (i + 1) = if T.2.1 (bs + 3) i < 0 ∨ ¬ T.2.1 p2 (T.2.1 (bs + 3) i).toNatClampNeg = 0 then some (T.2.1 p2 (T.2.1 (bs + 4) i).toNatClampNeg) else none := by
      show (match hitP (T.2.1 (bs + 3)) (T.2.1 (bs + 4)) (T.2.1 p2) i with
        | some v => some v
        | none => if T.2.1 (bs + 3) i < 0 ∨ ¬ T.2.1 p2 (T.2.1 (bs + 3) i).toNatClampNeg = 0 then some (T.2.1 p2 (T.2.1 (bs + 4) i).toNatClampNeg) else none) = _
      rw [hh]
    have hB47 : ∀ K, f_X8_firstThatCounts_B47 F bs p2 Z T K (nI i) (T.2.1 (bs + 4) i) = some (T.2.1 p2 (T.2.1 (bs + 4) i).toNatClampNeg) := fun K => by
      unfold f_X8_firstThatCounts_B47 f_X8_firstThatCounts_B52
      rw [if_neg (by decide), er, if_neg (nI_pos (by omega)), h2, show Int32.ofNat 120 = nI 120 from rfl, if_neg (nI_ge (by omega) (by omega)), inr_nI (by omega) (by omega), chk_true]
    have hgo : T.2.1 (bs + 3) i < 0 ∨ ¬ T.2.1 p2 (T.2.1 (bs + 3) i).toNatClampNeg = 0 → (hitP (T.2.1 (bs + 3)) (T.2.1 (bs + 4)) (T.2.1 p2) l).getD 0 = T.2.1 p2 (T.2.1 (bs + 4) i).toNatClampNeg := fun q => by
      rw [if_pos q] at hnext
      have := hitP_some hnext (l - (i + 1))
      rw [show i + 1 + (l - (i + 1)) = l by omega] at this
      rw [this]
      rfl
    simp only [f_X8_firstThatCounts_L2]
    rw [hl, if_neg (nI_ge (by omega) (by omega)), if_neg (i120 hi120), lnC_hi (by omega), lnC_hi (by omega), inr_nI hi120 (by omega)]
    simp only [lti, chk_true]
    rw [cl_nI (by omega)]
    rcases hw with hw | ⟨j, hj, ej⟩
    · rw [if_pos (by rw [hw]; decide), hB47, hgo (Or.inl (by rw [hw]; decide))]
    · rw [ej] at hgo hnext
      rw [ej, if_neg (nI_pos (by omega)), h2, show Int32.ofNat 120 = nI 120 from rfl, if_neg (nI_ge (by omega) (by omega)), inr_nI (by omega) (by omega), chk_true]
      by_cases q0 : T.2.1 p2 (nI j).toNatClampNeg = 0
      · rw [if_pos q0]
        unfold f_X8_firstThatCounts_B52
        rw [if_pos rfl, nI_1]
        refine ih (i + 1) n (by omega) (by omega) ?_
        rw [hnext, if_neg]
        rintro (z | z)
        · exact nI_pos (by omega) z
        · exact z q0
      · rw [if_neg q0, hB47, hgo (Or.inr q0)]
theorem ans_loop (hF : 200 ≤ F) (hb : 1000 ≤ bs) (hp2 : p2 < 1000) (hp : p1 ≠ p2) (h1 : lnC Z p1 = 7) (h2 : lnC Z p2 = 120) {s l : Nat} {S : St} (hs : S.1 (bs + 5) = nI s) (hs2 : s ≤ 120) (hl : S.1 (bs + 6) = nI l) (hl2 : l ≤ 120) (hok : ∀ i, i < l → lineOK s (S.2.1 (bs + 3) i) (S.2.1 (bs + 4) i)) : ∀ (k i n : Nat) (T : St), i + k = s → k < n → T.1 = S.1 → T.2.2 = S.2.2 → (∀ j, j ≠ p2 → T.2.1 j = S.2.1 j) → (∀ j, j < i → T.2.1 p2 j = vs (S.2.1 bs) (S.2.1 (bs + 1)) (S.2.1 (bs + 2)) (S.2.1 p1) i j) →
    ∃ S', f_X8_answer_L12 F bs p1 p2 Z n T (nI i) = some (ansF (S.2.1 bs) (S.2.1 (bs + 1)) (S.2.1 (bs + 2)) (S.2.1 (bs + 3)) (S.2.1 (bs + 4)) s l (S.2.1 p1), S') ∧ S'.1 = S.1 ∧ S'.2.2 = S.2.2 ∧ ∀ j, j ≠ p2 → S'.2.1 j = S.2.1 j := by
  intro k
  induction k with
  | zero =>
    intro i n T hik hn t1 t2 t3 t4
    obtain ⟨n, rfl⟩ : ∃ q, n = q + 1 := ⟨n - 1, by omega⟩
    have e : i = s := by omega
    subst e
    refine ⟨T, ?_, t1, t2, t3⟩
    have hfirst := first_loop (F := F) (Z := Z) (T := T) hb h2 hs2 (by rw [t1]; exact hl) hl2 (fun i hi => by rw [t3 _ (by omega), t3 _ (by omega)]; exact hok i hi) l 0 F (by omega) (by omega) rfl
    rw [t3 _ (by omega), t3 _ (by omega)] at hfirst
    simp only [f_X8_answer_L12]
    rw [t1, hs, if_pos (nI_le (Nat.le_refl _) (by omega))]
    unfold f_X8_firstThatCounts
    rw [show (0 : Int32) = nI 0 from rfl, hfirst, Option.bind_some]
    unfold ansF
    rw [hitP_ext hok (fun _ _ => ⟨rfl, rfl⟩) t4 (by omega)]
  | succ k ih =>
    intro i n T hik hn t1 t2 t3 t4
    obtain ⟨n, rfl⟩ : ∃ q, n = q + 1 := ⟨n - 1, by omega⟩
    rw [ans_step hb h1 h2 (s := s) (by rw [t1]; exact hs) hs2 (by omega), t3 bs (by omega), t3 (bs + 1) (by omega), t3 (bs + 2) (by omega), t3 p1 hp]
    refine ih (i + 1) n _ (by omega) (by omega) t1 t2 (fun j hj => ?_) (fun j hj => ?_)
    · rw [sa21, if_neg hj]; exact t3 j hj
    · rw [sa21, if_pos rfl]
      show upd (T.2.1 p2) i _ j = upd (vs _ _ _ _ i) i _ j
      by_cases hji : j = i
      · subst hji
        rw [pk_us, pk_us]
        unfold sval
        rw [lw_a_ext t4 (by omega), lw_a_ext t4 (by omega)]
      · rw [pk_un hji, pk_un hji]
        exact t4 j (by omega)
theorem answer_ok (hF : 200 ≤ F) {k : Nat} (hp2 : p2 < 1000) (hp : p1 ≠ p2) (h1 : lnC Z p1 = 7) (h2 : lnC Z p2 = 120) {s l : Nat} {S : St} (hs : S.1 (1005 + 20 * k) = nI s) (hs2 : s ≤ 120) (hl : S.1 (1006 + 20 * k) = nI l) (hl2 : l ≤ 120) (hok : ∀ i, i < l → lineOK s (S.2.1 (1003 + 20 * k) i) (S.2.1 (1004 + 20 * k) i)) : ∃ S', f_X8_answer F (1000 + 20 * k) p1 p2 Z S = some (ansS k S s l (S.2.1 p1), S') ∧ S'.1 = S.1 ∧ S'.2.2 = S.2.2 ∧ ∀ j, j ≠ p2 → S'.2.1 j = S.2.1 j := by
  have e : ∀ m, 1000 + 20 * k + m = 1000 + m + 20 * k := fun m => by omega
  have hh := ans_loop (F := F) (Z := Z) (bs := 1000 + 20 * k) (p1 := p1) (p2 := p2) (s := s) (l := l) (S := S) hF (by omega) hp2 hp h1 h2 (by rw [e]; exact hs) hs2 (by rw [e]; exact hl) hl2 (fun i hi => by rw [e, e]; exact hok i hi) s 0 F S (by omega) (by omega) rfl rfl (fun _ _ => rfl) (fun j hj => absurd hj (Nat.not_lt_zero _))
  rw [e, e, e, e] at hh
  exact hh
end
