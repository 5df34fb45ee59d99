/-! round, next -/
def rd (M : St) (k : Nat) : Nat := (M.2.1 7 k).toNatClampNeg
def lcP (M : St) : Nat → Nat
  | 0 => 1
  | k + 1 => lcP M k / Nat.gcd (rd M k) (lcP M k) * rd M k
section
variable {F : Nat} {Z X : Zt} {S T M N : St} {nm nv nd nb d v B t : Nat}
theorem gsh_ok : ∀ (k a b i q : Nat), b < 2 ^ k → i + 2 * k + 1 ≤ 100 → 2 * k + 1 < q → a < 2 ^ 31 → b < 2 ^ 31 → f_X7_greatestShared_L2 F q (nI a) (nI b) (nI i) = some (nI (Nat.gcd b a)) := by
  intro k
  induction k with
  | zero =>
    intro a b i q hb hi hq ha hb31
    obtain ⟨q, rfl⟩ : ∃ z, q = z + 1 := ⟨q - 1, by omega⟩
    have e : b = 0 := by
      have : 2 ^ 0 = 1 := rfl
      omega
    subst e
    simp only [f_X7_greatestShared_L2]
    rw [if_neg (show ¬ (100 : Int32) ≤ nI i from nI_ge (b := 100) (by omega) (by omega)), if_pos (show nI 0 ≤ 0 by decide), Nat.gcd_zero_left]
  | succ k ih =>
    intro a b i q hb hi hq ha hb31
    obtain ⟨q, rfl⟩ : ∃ z, q = z + 1 := ⟨q - 1, by omega⟩
    obtain ⟨q, rfl⟩ : ∃ z, q = z + 1 := ⟨q - 1, by omega⟩
    simp only [f_X7_greatestShared_L2]
    rw [if_neg (show ¬ (100 : Int32) ≤ nI i from nI_ge (b := 100) (by omega) (by omega))]
    by_cases h0 : b = 0
    · subst h0
      rw [if_pos (show nI 0 ≤ 0 by decide), Nat.gcd_zero_left]
    have hr : a % b < b := Nat.mod_lt _ (by omega)
    rw [if_neg (nI_nle (by omega) hb31), nz_of (nI_ne0 (by omega) hb31), chk_true, rem_n ha (nI b) (d := b) rfl (by omega) hb31, nI_1, if_neg (show ¬ (100 : Int32) ≤ nI (i + 1) from nI_ge (b := 100) (by omega) (by omega)), Nat.gcd_rec b a]
    by_cases h1 : a % b = 0
    · rw [h1, if_pos (show nI 0 ≤ 0 by decide), Nat.gcd_zero_left]
    · have hlt : b % (a % b) < a % b := Nat.mod_lt _ (by omega)
      have hle : b % (a % b) + a % b ≤ b := by
        have e := Nat.div_add_mod b (a % b)
        have e2 : 1 ≤ b / (a % b) := (Nat.le_div_iff_mul_le (by omega)).mpr (by omega)
        have e3 : a % b * 1 ≤ a % b * (b / (a % b)) := Nat.mul_le_mul_left _ e2
        omega
      have h2k : b % (a % b) < 2 ^ k := by
        have : 2 ^ (k + 1) = 2 ^ k + 2 ^ k := by rw [Nat.pow_succ]; omega
        omega
      rw [if_neg (nI_nle (by omega) (by omega)), nz_of (nI_ne0 (by omega) (by omega)), chk_true, rem_n hb31 (nI (a % b)) (d := a % b) rfl (by omega) (by omega), nI_1, ih (a % b) (b % (a % b)) (i + 1 + 1) q h2k (by omega) (by omega) (by omega) (by omega), Nat.gcd_rec (a % b) b]
theorem com_ok : ∀ (b a q : Nat), b < q → a < 2 ^ 31 → b < 2 ^ 31 → f_X11_common_L4 F q (nI a) (nI b) = some (nI (Nat.gcd b a)) := by
  intro b
  induction b using Nat.strongRecOn with
  | _ b ih =>
    intro a q hq ha hb31
    obtain ⟨q, rfl⟩ : ∃ z, q = z + 1 := ⟨q - 1, by omega⟩
    simp only [f_X11_common_L4]
    by_cases h0 : b = 0
    · subst h0
      rw [if_pos (show nI 0 = 0 from rfl), Nat.gcd_zero_left]
    · have hr : a % b < b := Nat.mod_lt _ (by omega)
      rw [if_neg (nI_ne0 (by omega) hb31), nz_of (nI_ne0 (by omega) hb31), chk_true, rem_n ha (nI b) (d := b) rfl (by omega) hb31, ih (a % b) hr b q (by omega) hb31 (by omega), Nat.gcd_rec b a]
theorem rd_ok (hK : KSky S M nm nv) {k : Nat} (hk : k < nm) : M.2.1 7 k = nI (rd M k) ∧ 2 ≤ rd M k ∧ rd M k ≤ 999 := by
  obtain ⟨a, b, c, w1, w2, w3, w4, w5, w6, w7⟩ := hK.2.2.2.2.1 k hk
  have e : rd M k = a := by unfold rd; rw [w5, cl_nI (by omega)]
  rw [e]
  exact ⟨w5, w1, w2⟩
theorem lcP_ok (hK : KSky S M nm nv) : ∀ k, k ≤ nm → 1 ≤ lcP M k ∧ lcP M k ≤ 999 ^ k ∧ ∀ j, j < k → rd M j ∣ lcP M k := by
  intro k
  induction k with
  | zero => exact fun _ => ⟨Nat.le_refl _, Nat.le_refl _, fun j hj => absurd hj (Nat.not_lt_zero _)⟩
  | succ k ih =>
    intro hk
    obtain ⟨h1, h2, h3⟩ := ih (by omega)
    obtain ⟨r1, r2, r3⟩ := rd_ok hK (show k < nm by omega)
    have hg1 : 0 < Nat.gcd (rd M k) (lcP M k) := Nat.gcd_pos_of_pos_left _ (by omega)
    have hgd : Nat.gcd (rd M k) (lcP M k) ∣ lcP M k := Nat.gcd_dvd_right _ _
    have hgr : Nat.gcd (rd M k) (lcP M k) ∣ rd M k := Nat.gcd_dvd_left _ _
    have hq1 : 1 ≤ lcP M k / Nat.gcd (rd M k) (lcP M k) := (Nat.le_div_iff_mul_le hg1).mpr (by rw [Nat.one_mul]; exact Nat.le_of_dvd (by omega) hgd)
    have hq2 : lcP M k / Nat.gcd (rd M k) (lcP M k) ≤ lcP M k := Nat.div_le_self _ _
    have e : lcP M (k + 1) = lcP M k / Nat.gcd (rd M k) (lcP M k) * rd M k := rfl
    rw [e]
    refine ⟨?_, ?_, fun j hj => ?_⟩
    · exact Nat.le_trans hq1 (Nat.le_mul_of_pos_right _ (by omega))
    · rw [Nat.pow_succ]
      exact Nat.mul_le_mul (Nat.le_trans hq2 h2) r3
    · by_cases q : j = k
      · rw [q]
        exact Nat.dvd_mul_left _ _
      · refine Nat.dvd_trans (h3 j (by omega)) ?_
        obtain ⟨c, hc⟩ := hgr
        refine ⟨c, ?_⟩
        have e2 := Nat.div_mul_cancel hgd
        calc lcP M k / Nat.gcd (rd M k) (lcP M k) * rd M k = lcP M k / Nat.gcd (rd M k) (lcP M k) * (Nat.gcd (rd M k) (lcP M k) * c) := by rw [← hc]
          _ = lcP M k / Nat.gcd (rd M k) (lcP M k) * Nat.gcd (rd M k) (lcP M k) * c := (Nat.mul_assoc _ _ _).symm
          _ = lcP M k * c := by rw [e2]
theorem lcP_31 (hK : KSky S M nm nv) {k : Nat} (hk : k ≤ nm) : lcP M k < 1000000000 := by
  have h := (lcP_ok hK k hk).2.1
  have h3 := hK.1.2.2
  have : 999 ^ k ≤ 999 ^ 3 := Nat.pow_le_pow_right (by omega) (by omega)
  have e : 999 ^ 3 = 997002999 := rfl
  omega
theorem shared_eq (hF : 200000 ≤ F) (hK : KSky S M nm nv) {k : Nat} (hk : k < nm) : f_X7_greatestShared F (nI (lcP M k)) (nI (rd M k)) = some (nI (Nat.gcd (rd M k) (lcP M k))) ∧ f_X11_common F (nI (lcP M k)) (nI (rd M k)) = some (nI (Nat.gcd (rd M k) (lcP M k))) := by
  obtain ⟨r1, r2, r3⟩ := rd_ok hK hk
  have hl := lcP_31 hK (Nat.le_of_lt hk)
  constructor
  · exact gsh_ok 10 (lcP M k) (rd M k) 0 F (by show rd M k < 1024; omega) (by omega) (by omega) (by omega) (by omega)
  · exact com_ok (rd M k) (lcP M k) F (by omega) (by omega) (by omega)
theorem step_eq (hK : KSky S M nm nv) {k : Nat} (hk : k < nm) : nI (lcP M k) / nI (Nat.gcd (rd M k) (lcP M k)) * nI (rd M k) = nI (lcP M (k + 1)) ∧ ¬ nI (Nat.gcd (rd M k) (lcP M k)) = 0 ∧ ¬ nI (Nat.gcd (rd M k) (lcP M k)) ≤ 0 := by
  obtain ⟨r1, r2, r3⟩ := rd_ok hK hk
  have hl := lcP_31 hK (Nat.le_of_lt hk)
  have hg1 : 0 < Nat.gcd (rd M k) (lcP M k) := Nat.gcd_pos_of_pos_left _ (by omega)
  have hg2 : Nat.gcd (rd M k) (lcP M k) ≤ rd M k := Nat.le_of_dvd (by omega) (Nat.gcd_dvd_left _ _)
  refine ⟨?_, nI_ne0 hg1 (by omega), nI_nle hg1 (by omega)⟩
  rw [pk_div (by omega) hg1 (by omega), pk_mul]
  rfl
theorem roundAll_eq (hF : 200000 ≤ F) (hK : KSky S M nm nv) : f_X7_roundOfAll F Z S = some (nI (lcP M nm)) := by
  have h3 := hK.1.2.2
  have hl : ∀ (j k q : Nat), k + j = nm → j < q → f_X7_roundOfAll_L4 F Z S q (nI (lcP M k)) (nI k) = some (nI (lcP M nm)) := by
    intro j
    induction j with
    | zero =>
      intro k q hk hq
      obtain ⟨q, rfl⟩ : ∃ z, q = z + 1 := ⟨q - 1, by omega⟩
      have e : k = nm := by omega
      subst e
      simp only [f_X7_roundOfAll_L4]
      rw [hK.1.1, if_pos (nI_le (Nat.le_refl _) (by omega))]
    | succ j ih =>
      intro k q hk hq
      obtain ⟨q, rfl⟩ : ∃ z, q = z + 1 := ⟨q - 1, by omega⟩
      have hkn : k < nm := by omega
      obtain ⟨s1, s2, s3⟩ := step_eq hK hkn
      simp only [f_X7_roundOfAll_L4, f_X7_roundOf]
      rw [hK.1.1, if_neg (nI_ge hkn (by omega)), if_neg (show ¬ (3 : Int32) ≤ nI k from nI_ge (b := 3) (by omega) (by omega)), hasMoon_eq hK.1.1 h3, hx_y hkn, Option.bind_some, if_neg one0, inr_nI (show k < 3 by omega) (by omega), chk_true, cl_nI (by omega), hK.2.2.1.1, (rd_ok hK hkn).1, Option.bind_some, (shared_eq hF hK hkn).1, Option.bind_some, if_neg s3, nz_of s2, chk_true, s1, nI_1]
      exact ih (k + 1) q (by omega) (by omega)
  exact hl nm 0 F (by omega) (by omega)
theorem st_round (hF : 200000 ≤ F) : ST_round F (RR F) := by
  intro t S Z M ht hR
  have hR' := hR
  obtain ⟨nm, nv, nd, nb, hV, -⟩ := hR
  have hK := hV.1
  have h3 := hK.1.2.2
  unfold f_X10_round f_X11_round f_X7_moonCount
  rw [Option.bind_some, hK.1.1, hK.1.2.1, roundAll_eq hF hK]
  by_cases h0 : nm = 0
  · subst h0
    rw [if_pos (show nI 0 = 0 from rfl), if_pos (show nI 0 = 0 from rfl)]
    exact ⟨_, rfl, rfl, RR_idle hR'⟩
  · rw [if_neg (nI_ne0 (by omega) (by omega)), if_neg (nI_ne0 (by omega) (by omega)), Option.bind_some]
    have hl : ∀ (j k q : Nat), k + j = nm → j < q → f_X11_round_L14 F M q (nI (lcP M k)) (nI k) = some (nI (lcP M nm)) := by
      intro j
      induction j with
      | zero =>
        intro k q hk hq
        obtain ⟨q, rfl⟩ : ∃ z, q = z + 1 := ⟨q - 1, by omega⟩
        have e : k = nm := by omega
        subst e
        simp only [f_X11_round_L14]
        rw [hK.1.2.1, if_pos (nI_le (Nat.le_refl _) (by omega))]
      | succ j ih =>
        intro k q hk hq
        obtain ⟨q, rfl⟩ : ∃ z, q = z + 1 := ⟨q - 1, by omega⟩
        have hkn : k < nm := by omega
        obtain ⟨s1, s2, s3⟩ := step_eq hK hkn
        simp only [f_X11_round_L14, lti]
        rw [hK.1.2.1, if_neg (nI_ge hkn (by omega)), inr_nI (show k < 3 by omega) (by omega), chk_true, cl_nI (by omega), (rd_ok hK hkn).1, (shared_eq hF hK hkn).2, Option.bind_some, nz_of s2, chk_true, chk_true, s1, nI_1]
        exact ih (k + 1) q (by omega) (by omega)
    exact ⟨_, rfl, hl nm 0 F (by omega) (by omega), RR_idle hR'⟩
theorem stP_per (hK : KSky S M nm nv) (v h m : Nat) : ∀ k, k ≤ nm → stP M v (h + lcP M nm * m) k = stP M v h k := by
  intro k
  induction k with
  | zero => exact fun _ => rfl
  | succ k ih =>
    intro hk
    show stP M v (h + lcP M nm * m) k + (if upB M k v (h + lcP M nm * m) = true then 2 ^ k else 0) = stP M v h k + (if upB M k v h = true then 2 ^ k else 0)
    have hu : upB M k v (h + lcP M nm * m) = upB M k v h := by
      obtain ⟨c, hc⟩ := (lcP_ok hK nm (Nat.le_refl _)).2.2 k (by omega)
      obtain ⟨r1, r2, r3⟩ := rd_ok hK (show k < nm by omega)
      unfold upB
      rw [r1, nI_toInt (by omega)]
      have e : (((h + lcP M nm * m : Nat) : Int) - (M.2.1 0 (3 + k)).toInt - (M.2.1 9 (3 * v + k)).toInt) = ((h : Int) - (M.2.1 0 (3 + k)).toInt - (M.2.1 9 (3 * v + k)).toInt) + (rd M k : Int) * ((c * m : Nat) : Int) := by
        rw [hc, Nat.mul_assoc, Int.natCast_add, Int.natCast_mul]
        omega
      rw [e, Int.add_mul_emod_self_left]
    rw [ih (by omega), hu]
theorem ffR_no {p : Nat → Int32} : ∀ (K h : Nat), h + K < 2 ^ 31 → ffR p K h = -2 → ∀ x, h ≤ x → x < h + K → p x < 0 := by
  intro K
  induction K with
  | zero => exact fun h _ _ x h1 h2 => by omega
  | succ K ih =>
    intro h hh he x h1 h2
    have he' : (if p h < 0 then ffR p K (h + 1) else nI h) = -2 := he
    by_cases q : p h < 0
    · rw [if_pos q] at he'
      by_cases e : x = h
      · rw [e]; exact q
      · exact ih (h + 1) (by omega) he' x (by omega) (by omega)
    · rw [if_neg q] at he'
      have e := nI_toInt (show h < 2 ^ 31 by omega)
      rw [he'] at e
      have : (-2 : Int32).toInt = -2 := rfl
      omega
theorem ffR_yes {p : Nat → Int32} : ∀ (K h x : Nat), h + K < 2 ^ 31 → x < 2 ^ 31 → ffR p K h = nI x → ¬ p x < 0 := by
  intro K
  induction K with
  | zero =>
    intro h x _ hx he
    have e := nI_toInt hx
    have he' : (-2 : Int32) = nI x := he
    rw [← he'] at e
    have : (-2 : Int32).toInt = -2 := rfl
    omega
  | succ K ih =>
    intro h x hh hx he
    have he' : (if p h < 0 then ffR p K (h + 1) else nI h) = nI x := he
    by_cases q : p h < 0
    · rw [if_pos q] at he'
      exact ih (h + 1) x (by omega) hx he'
    · rw [if_neg q] at he'
      rw [← (nI_eq (by omega) hx).mp he']
      exact q
theorem st_next (hF : 200000 ≤ F) : ST_next F (RR F) := by
  intro t S Z M a1 a2 a3 ht hR
  have hR' := hR
  obtain ⟨nm, nv, nd, nb, hV, -⟩ := hR
  have hK := hV.1
  have hnv := hK.2.1
  unfold f_X10_next f_X11_next
  rw [isPlace_eq hnv.1 hnv.2.2, isValley_eq hnv.2.1 hnv.2.2, Option.bind_some, Option.bind_some, isHour_eq, (hasState_eq (Z := Z) hK).1, (hasState_eq (Z := Z) hK).2]
  rcases hx_01 (n := nv) (a := a1) with h0 | ⟨v, hv, rfl, h1⟩
  · rw [h0]
    exact ⟨_, rfl, rfl, RR_idle hR'⟩
  rw [h1, if_neg one0, if_neg one0, Option.bind_some]
  rcases hx_01 (n := 1000000) (a := a2) with h0 | ⟨h, hh, rfl, h2⟩
  · rw [h0]
    exact ⟨_, rfl, rfl, RR_idle hR'⟩
  rw [h2, if_neg one0, Option.bind_some, if_neg one0]
  rcases hx_01 (n := 2 ^ nm) (a := a3) with h0 | ⟨b, hb, rfl, h3⟩
  · rw [h0]
    exact ⟨_, rfl, rfl, RR_idle hR'⟩
  rw [h3, if_neg one0, Option.bind_some, if_neg one0, bind_id]
  have hp : ∃ p : Nat → Int32, ∀ x, p x = if nI (stP M v x nm) = nI b then 0 else -1 := ⟨fun x => if nI (stP M v x nm) = nI b then 0 else -1, fun _ => rfl⟩
  obtain ⟨p, hp⟩ := hp
  have hcl : ∀ (K : Nat), K ≤ 100000 → ∀ (j i q : Nat), i + j = K → j < q → f_X2_firstWith_L17 F Z S (nI v) (nI h) (nI b) q (nI K) (nI i) = some (ffR p j (h + i)) := by
    intro K hK2 j
    induction j with
    | zero =>
      intro i q hij hq
      obtain ⟨q, rfl⟩ : ∃ z, q = z + 1 := ⟨q - 1, by omega⟩
      simp only [f_X2_firstWith_L17]
      rw [if_pos (nI_le (show K ≤ i by omega) (by omega))]
      rfl
    | succ j ih =>
      intro i q hij hq
      obtain ⟨q, rfl⟩ : ∃ z, q = z + 1 := ⟨q - 1, by omega⟩
      simp only [f_X2_firstWith_L17]
      rw [if_neg (nI_ge (show i < K by omega) (by omega)), nI_add h i, upIn_eq (by omega) hK hv (by omega), Option.bind_some, nI_1]
      show _ = some (if p (h + i) < 0 then ffR p j (h + i + 1) else nI (h + i))
      rw [hp]
      by_cases hc : nI (stP M v (h + i) nm) = nI b
      · rw [if_pos hc, if_pos hc, if_neg (by decide)]
      · rw [if_neg hc, if_neg hc, if_pos (by decide)]
        exact ih (i + 1) q (by omega) (by omega)
  have hrl : ∀ (j i q : Nat), i + j = 100000 → j < q → f_X11_next_L28 F M (nI v) (nI h) (nI b) q (nI (h + i)) = some (ffR p j (h + i)) := by
    intro j
    induction j with
    | zero =>
      intro i q hij hq
      obtain ⟨q, rfl⟩ : ∃ z, q = z + 1 := ⟨q - 1, by omega⟩
      simp only [f_X11_next_L28]
      rw [show nI h + 100000 = nI (h + 100000) from nI_add h 100000, if_pos (nI_le (show h + 100000 ≤ h + i by omega) (by omega))]
      rfl
    | succ j ih =>
      intro i q hij hq
      obtain ⟨q, rfl⟩ : ∃ z, q = z + 1 := ⟨q - 1, by omega⟩
      simp only [f_X11_next_L28]
      rw [show nI h + 100000 = nI (h + 100000) from nI_add h 100000, if_neg (nI_ge (show h + i < h + 100000 by omega) (by omega)), stateOf_eq (by omega) hK hv (by omega), Option.bind_some, nI_1]
      show _ = some (if p (h + i) < 0 then ffR p j (h + i + 1) else nI (h + i))
      rw [hp]
      by_cases hc : nI (stP M v (h + i) nm) = nI b
      · rw [if_pos hc, if_pos hc, if_neg (by decide)]
      · rw [if_neg hc, if_neg hc, if_pos (by decide)]
        exact ih (i + 1) q (by omega) (by omega)
  have hR1 := (lcP_ok hK nm (Nat.le_refl _)).1
  have hR2 := lcP_31 hK (Nat.le_refl nm)
  have hmin : ∃ K, K ≤ 100000 ∧ (K = 100000 ∨ K = lcP M nm) ∧ f_J9_min_7cf53 100000 (nI (lcP M nm)) = some (nI K) := by
    unfold f_J9_min_7cf53
    by_cases q : lcP M nm < 100000
    · rw [if_pos (show nI (lcP M nm) < 100000 from nI_lt (b := 100000) q (by omega))]
      exact ⟨_, by omega, Or.inr rfl, rfl⟩
    · rw [if_neg (show ¬ nI (lcP M nm) < 100000 from nI_nlt (b := 100000) (by omega) (by omega))]
      exact ⟨100000, Nat.le_refl _, Or.inl rfl, rfl⟩
  obtain ⟨K, k1, k2, k3⟩ := hmin
  have e1 : f_X2_firstWith F Z S (nI v) (nI h) (nI b) = some (ffR p K h) := by
    unfold f_X2_firstWith
    rw [roundAll_eq hF hK, Option.bind_some, k3, Option.bind_some]
    exact hcl K k1 K 0 F (by omega) (by omega)
  have e2 : f_X11_next_L28 F M (nI v) (nI h) (nI b) F (nI h) = some (ffR p 100000 h) := hrl 100000 0 F (by omega) (by omega)
  have e3 : ffR p K h = ffR p 100000 h := by
    rcases ffR_cut p K 100000 h k1 with ⟨x, x1, x2, x3, x4⟩ | ⟨y1, y2 | ⟨x, x1, x2, x3⟩⟩
    · rw [x3, x4]
    · rw [y1, y2]
    · rcases k2 with rfl | k2
      · omega
      · have hpx := ffR_yes 100000 h x (by omega) (by omega) x3
        have hdm := Nat.div_add_mod (x - h) (lcP M nm)
        have hml := Nat.mod_lt (x - h) (show 0 < lcP M nm by omega)
        have hx : x = (h + (x - h) % lcP M nm) + lcP M nm * ((x - h) / lcP M nm) := by omega
        have hsame : p x = p (h + (x - h) % lcP M nm) := by
          rw [hp, hp, hx, stP_per hK _ _ _ nm (Nat.le_refl _), ← hx]
        have hno := ffR_no K h (by omega) y1 (h + (x - h) % lcP M nm) (by omega) (by omega)
        rw [← hsame] at hno
        exact absurd hno hpx
  rw [e1, e2, e3]
  exact ⟨_, rfl, rfl, RR_idle hR'⟩
end
