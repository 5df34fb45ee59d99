/-! reading: rows of | & + - * / % and what is compared -/
theorem jn_or (v w : Int32) : jn 124 v w = if v = 0 then (if w = 0 then 0 else 1) else 1 := by
  unfold jn f_X8_joined
  by_cases hv : v = 0 <;> by_cases hw : w = 0 <;> simp [hv, hw]
theorem jn_and (v w : Int32) : jn 38 v w = if v = 0 then 0 else if w = 0 then 0 else 1 := by
  unfold jn f_X8_joined
  by_cases hv : v = 0 <;> by_cases hw : w = 0 <;> simp [hv, hw]
theorem jn_add (v w : Int32) : jn 43 v w = v + w := by
  unfold jn f_X8_joined
  simp
theorem jn_sub (v w : Int32) : jn 45 v w = v - w := by
  unfold jn f_X8_joined
  simp
theorem jn_mul (v w : Int32) : jn 42 v w = v * w := by
  unfold jn f_X8_joined
  simp
theorem jn_div (v w : Int32) : jn 47 v w = if w = 0 then 0 else v / w := by
  unfold jn f_X8_joined
  by_cases hw : w = 0
  · simp [hw]
  · rw [if_neg (by decide), if_neg (by decide), if_neg (by decide), if_neg (by decide), if_neg (by decide), if_neg (by decide), if_pos rfl, if_neg hw, if_neg hw, nz_of hw]
    rfl
theorem jn_rem (v w : Int32) : jn 37 v w = if w = 0 then 0 else jrem v w := by
  unfold jn f_X8_joined
  by_cases hw : w = 0
  · simp [hw]
  · rw [if_neg (by decide), if_pos rfl, if_neg hw, if_neg hw, nz_of hw]
    rfl
theorem jn_lt (v w : Int32) : jn 60 v w = if w ≤ v then 0 else 1 := by
  unfold jn f_X8_joined
  by_cases hw : w ≤ v <;> simp [hw]
theorem jn_eq (v w : Int32) : jn 61 v w = if v = w then 1 else 0 := by
  unfold jn f_X8_joined
  by_cases hw : v = w <;> simp [hw]
theorem jn_gt (v w : Int32) : jn 62 v w = if v ≤ w then 0 else 1 := by
  unfold jn f_X8_joined
  by_cases hw : v ≤ w <;> simp [hw]
theorem jn_not (v : Int32) : jn 33 v 0 = if v = 0 then 1 else 0 := by
  unfold jn f_X8_joined
  by_cases hv : v = 0 <;> simp [hv]
theorem jn_neg (v : Int32) : jn 126 v 0 = -v := by
  unfold jn f_X8_joined
  simp
section
variable {F : Nat} {Z : Zt} {tx : Nat → Int32} {L o p s : Nat} {S M : St}
theorem hd_ne {c : Int32} (hx : ¬ nxt tx L S p = some c) (hc : ¬ (-2) = c) : ¬ (nxt tx L S p).getD (-2) = c := by
  cases hy : nxt tx L S p with
  | none => exact hc
  | some d => exact fun q => hx (by rw [hy, ← q]; rfl)
theorem hd_eq {c : Int32} (hx : nxt tx L S p = some c) : (nxt tx L S p).getD (-2) = c := by rw [hx]; rfl
theorem by_ne {c : Int32} (hf : S.1 103 = -1) (hx : ¬ nxt tx L S p = some c) (hc : ¬ 0 = c) : ¬ (if p < L then tx p else 0) = c := by
  by_cases hp : p < L
  · rw [if_pos hp]
    exact fun q => hx (by unfold nxt; rw [if_pos ⟨hf, hp⟩, q])
  · rw [if_neg hp]
    exact hc
theorem by_eq {c : Int32} (hx : nxt tx L S p = some c) : (if p < L then tx p else 0) = c := by
  obtain ⟨a1, a2, a3⟩ := nxt_some hx
  rw [if_pos a2, a3]
theorem i120 {i : Nat} (hi : i < 120) : ¬ (120 : Int32) ≤ nI i := by
  rw [show (120 : Int32) = nI 120 from rfl]
  exact nI_ge hi (by omega)
theorem pl_eq (hI : RdI tx L S p s) : S.1 102 + 1 = nI (p + 1) := by rw [hI.2.2.2.1, nI_1]
theorem at_eq (hI : RdI tx L S p s) (hM : RdM tx L S M) : M.1 17 + 1 = nI (p + 1) := by rw [hM.1, pl_eq hI]
variable {g : Nat → St → Int32 → Int32 → Option (Int32 × St)} {gm : Nat → St → Option (Int32 × St)}
theorem any_loop (hg : ∀ S p s, RdI tx L S p s → Spec tx L o S p s (g 1 S (nI o) 0) (gm 1)) : ∀ (k : Nat) (S : St) (p s : Nat) (r : Int32) (i n n' : Nat), RdI tx L S p s → Ent S s r → L - p = k → i ≤ p → k < n → k < n' → LSpec tx L o S p s r (f_X5_anyOf_L8 F Z g (nI o) n S r (nI i)) (fun M v => f_X11_either_L5 F gm n' M v) := by
  intro k
  induction k using Nat.strongRecOn with
  | _ k ih =>
    intro S p s r i n n' hI hE hk hi hn hn'
    obtain ⟨n, rfl⟩ : ∃ q, n = q + 1 := ⟨n - 1, by omega⟩
    obtain ⟨n', rfl⟩ : ∃ q, n' = q + 1 := ⟨n' - 1, by omega⟩
    have hL := hI.2.2.1
    by_cases hx : nxt tx L S p = some 124
    · obtain ⟨hfl, hp, htx⟩ := nxt_some hx
      obtain ⟨r3, S3, p3, s3, e3, e4, hI4, b1, b2, b3, hF, hG, hE4, hm⟩ := bin_step (op := 124) hI hE hx (by decide) (hg _ _ _ (hI.pl (p + 1) (by omega) (by omega)))
      refine LSpec.step (c4 := f_X5_anyOf_L8 F Z g (nI o) n (stp S3 s3 124 r r3) (nI s3) (nI (i + 1))) (m4 := fun M v => f_X11_either_L5 F gm n' M v) ?_ (Nat.le_of_succ_le b1) b2 b3 hF hG (fun M v hM hV => ?_) (ih (L - p3) (by omega) _ _ _ _ _ _ _ hI4 hE4 rfl (by omega) (by omega) (by omega))
      · simp only [f_X5_anyOf_L8]
        rw [if_neg (i120 (by omega)), took_eq hI (by decide), if_pos hx]
        show Option.bind (g 1 (sf S 102 (nI (p + 1))) (nI o) 0) _ = _
        rw [e3]
        show Option.bind (f_X8_addStep 1060 Z S3 124 r r3) _ = _
        rw [e4, ← nI_1]
        rfl
      · obtain ⟨w, M3, w1, hM3, fr3, hV3⟩ := hm M v hM hV
        refine ⟨M3, jn 124 v w, ?_, hM3, fr3, hV3⟩
        simp only [f_X11_either_L5]
        rw [takes_eq hI hM (by decide), if_pos hx]
        show Option.bind (gm 1 (sf M 17 (nI (p + 1)))) _ = _
        rw [w1, jn_or]
        show (if v = 0 then _ else _) = _
        by_cases hv : v = 0 <;> by_cases hw : w = 0 <;> simp [hv, hw]
    · refine LSpec.stop hI hE ?_ (fun M v hM => ?_)
      · simp only [f_X5_anyOf_L8]
        split
        · rfl
        · rw [took_eq hI (by decide), if_neg hx]; rfl
      · simp only [f_X11_either_L5]
        rw [takes_eq hI hM (by decide), if_neg hx]; rfl
theorem all_loop (hg : ∀ S p s, RdI tx L S p s → Spec tx L o S p s (g 2 S (nI o) 0) (gm 2)) : ∀ (k : Nat) (S : St) (p s : Nat) (r : Int32) (i n n' : Nat), RdI tx L S p s → Ent S s r → L - p = k → i ≤ p → k < n → k < n' → LSpec tx L o S p s r (f_X5_allOf_L8 F Z g (nI o) n S r (nI i)) (fun M v => f_X11_both_L5 F gm n' M v) := by
  intro k
  induction k using Nat.strongRecOn with
  | _ k ih =>
    intro S p s r i n n' hI hE hk hi hn hn'
    obtain ⟨n, rfl⟩ : ∃ q, n = q + 1 := ⟨n - 1, by omega⟩
    obtain ⟨n', rfl⟩ : ∃ q, n' = q + 1 := ⟨n' - 1, by omega⟩
    have hL := hI.2.2.1
    by_cases hx : nxt tx L S p = some 38
    · obtain ⟨hfl, hp, htx⟩ := nxt_some hx
      obtain ⟨r3, S3, p3, s3, e3, e4, hI4, b1, b2, b3, hF, hG, hE4, hm⟩ := bin_step (op := 38) hI hE hx (by decide) (hg _ _ _ (hI.pl (p + 1) (by omega) (by omega)))
      refine LSpec.step (c4 := f_X5_allOf_L8 F Z g (nI o) n (stp S3 s3 38 r r3) (nI s3) (nI (i + 1))) (m4 := fun M v => f_X11_both_L5 F gm n' M v) ?_ (Nat.le_of_succ_le b1) b2 b3 hF hG (fun M v hM hV => ?_) (ih (L - p3) (by omega) _ _ _ _ _ _ _ hI4 hE4 rfl (by omega) (by omega) (by omega))
      · simp only [f_X5_allOf_L8]
        rw [if_neg (i120 (by omega)), took_eq hI (by decide), if_pos hx]
        show Option.bind (g 2 (sf S 102 (nI (p + 1))) (nI o) 0) _ = _
        rw [e3]
        show Option.bind (f_X8_addStep 1060 Z S3 38 r r3) _ = _
        rw [e4, ← nI_1]
        rfl
      · obtain ⟨w, M3, w1, hM3, fr3, hV3⟩ := hm M v hM hV
        refine ⟨M3, jn 38 v w, ?_, hM3, fr3, hV3⟩
        simp only [f_X11_both_L5]
        rw [takes_eq hI hM (by decide), if_pos hx]
        show Option.bind (gm 2 (sf M 17 (nI (p + 1)))) _ = _
        rw [w1, jn_and]
        show (if v = 0 then _ else _) = _
        by_cases hv : v = 0 <;> by_cases hw : w = 0 <;> simp [hv, hw]
    · refine LSpec.stop hI hE ?_ (fun M v hM => ?_)
      · simp only [f_X5_allOf_L8]
        split
        · rfl
        · rw [took_eq hI (by decide), if_neg hx]; rfl
      · simp only [f_X11_both_L5]
        rw [takes_eq hI hM (by decide), if_neg hx]; rfl
theorem sum_loop (hg : ∀ S p s, RdI tx L S p s → Spec tx L o S p s (g 4 S (nI o) 0) (gm 4)) : ∀ (k : Nat) (S : St) (p s : Nat) (r : Int32) (i n n' : Nat), RdI tx L S p s → Ent S s r → L - p = k → i ≤ p → k < n → k < n' → LSpec tx L o S p s r (f_X5_sum_L8 F Z g (nI o) n S r (nI i)) (fun M v => f_X11_sums_L5 F gm n' M v) := by
  intro k
  induction k using Nat.strongRecOn with
  | _ k ih =>
    intro S p s r i n n' hI hE hk hi hn hn'
    obtain ⟨n, rfl⟩ : ∃ q, n = q + 1 := ⟨n - 1, by omega⟩
    obtain ⟨n', rfl⟩ : ∃ q, n' = q + 1 := ⟨n' - 1, by omega⟩
    have hL := hI.2.2.1
    by_cases hx : nxt tx L S p = some 43
    · obtain ⟨hfl, hp, htx⟩ := nxt_some hx
      obtain ⟨r3, S3, p3, s3, e3, e4, hI4, b1, b2, b3, hF, hG, hE4, hm⟩ := bin_step (op := 43) hI hE hx (by decide) (hg _ _ _ (hI.pl (p + 1) (by omega) (by omega)))
      refine LSpec.step (c4 := f_X5_sum_L8 F Z g (nI o) n (stp S3 s3 43 r r3) (nI s3) (nI (i + 1))) (m4 := fun M v => f_X11_sums_L5 F gm n' M v) ?_ (Nat.le_of_succ_le b1) b2 b3 hF hG (fun M v hM hV => ?_) (ih (L - p3) (by omega) _ _ _ _ _ _ _ hI4 hE4 rfl (by omega) (by omega) (by omega))
      · simp only [f_X5_sum_L8]
        rw [if_neg (i120 (by omega)), ahead_eq hI, hx]
        show f_X5_sum_B32 F Z g (nI o) _ S r (nI i) = _
        unfold f_X5_sum_B32
        rw [ahead_eq hI, hx, pl_eq hI]
        show Option.bind (g 4 (sf S 102 (nI (p + 1))) (nI o) 0) _ = _
        rw [e3]
        show Option.bind (f_X8_addStep 1060 Z S3 43 r r3) _ = _
        rw [e4, ← nI_1]
        rfl
      · obtain ⟨w, M3, w1, hM3, fr3, hV3⟩ := hm M v hM hV
        refine ⟨M3, jn 43 v w, ?_, hM3, fr3, hV3⟩
        simp only [f_X11_sums_L5]
        rw [if_neg (flt_no hM hfl).2, byte_eq hI hM, by_eq hx]
        show f_X11_sums_B30 F gm _ M v = _
        unfold f_X11_sums_B30
        rw [byte_eq hI hM, by_eq hx]
        show f_X11_sums_B44 F gm _ M v 1 = _
        unfold f_X11_sums_B44
        rw [at_eq hI hM, w1, jn_add]
        rfl
    · by_cases hx2 : nxt tx L S p = some 45
      · obtain ⟨hfl, hp, htx⟩ := nxt_some hx2
        obtain ⟨r3, S3, p3, s3, e3, e4, hI4, b1, b2, b3, hF, hG, hE4, hm⟩ := bin_step (op := 45) hI hE hx2 (by decide) (hg _ _ _ (hI.pl (p + 1) (by omega) (by omega)))
        refine LSpec.step (c4 := f_X5_sum_L8 F Z g (nI o) n (stp S3 s3 45 r r3) (nI s3) (nI (i + 1))) (m4 := fun M v => f_X11_sums_L5 F gm n' M v) ?_ (Nat.le_of_succ_le b1) b2 b3 hF hG (fun M v hM hV => ?_) (ih (L - p3) (by omega) _ _ _ _ _ _ _ hI4 hE4 rfl (by omega) (by omega) (by omega))
        · simp only [f_X5_sum_L8]
          rw [if_neg (i120 (by omega)), ahead_eq hI, hx2]
          show f_X5_sum_B32 F Z g (nI o) _ S r (nI i) = _
          unfold f_X5_sum_B32
          rw [ahead_eq hI, hx2, pl_eq hI]
          show Option.bind (g 4 (sf S 102 (nI (p + 1))) (nI o) 0) _ = _
          rw [e3]
          show Option.bind (f_X8_addStep 1060 Z S3 45 r r3) _ = _
          rw [e4, ← nI_1]
          rfl
        · obtain ⟨w, M3, w1, hM3, fr3, hV3⟩ := hm M v hM hV
          refine ⟨M3, jn 45 v w, ?_, hM3, fr3, hV3⟩
          simp only [f_X11_sums_L5]
          rw [if_neg (flt_no hM hfl).2, byte_eq hI hM, by_eq hx2]
          show f_X11_sums_B30 F gm _ M v = _
          unfold f_X11_sums_B30
          rw [byte_eq hI hM, by_eq hx2]
          show f_X11_sums_B44 F gm _ M v 0 = _
          unfold f_X11_sums_B44
          rw [at_eq hI hM, w1, jn_sub]
          rfl
      · refine LSpec.stop hI hE ?_ (fun M v hM => ?_)
        · simp only [f_X5_sum_L8]
          split
          · rfl
          · simp only [ahead_eq hI, Option.bind_some, if_neg (hd_ne hx (by decide)), if_neg (hd_ne hx2 (by decide))]
        · simp only [f_X11_sums_L5]
          split
          · rfl
          · rename_i hnf
            have hfl : S.1 103 = -1 := Classical.byContradiction fun q => hnf (flt_yes hI hM q).2
            simp only [byte_eq hI hM, Option.bind_some, if_neg (by_ne hfl hx (by decide)), if_neg (by_ne hfl hx2 (by decide))]
theorem prod_stepC {sg : Int32} {n i : Nat} {r r3 : Int32} {S3 : St} {s3 : Nat} (hI : RdI tx L S p s) (hx : nxt tx L S p = some sg) (hs : sg = 42 ∨ sg = 47 ∨ sg = 37) (hi : i < 120) (e3 : g 5 (sf S 102 (nI (p + 1))) (nI o) 0 = some (r3, S3)) (e4 : f_X8_addStep 1060 Z S3 sg r r3 = some (nI s3, stp S3 s3 sg r r3)) : f_X5_product_L8 F Z g (nI o) (n + 1) S r (nI i) = f_X5_product_L8 F Z g (nI o) n (stp S3 s3 sg r r3) (nI s3) (nI (i + 1)) := by
  have hB : f_X5_product_B41 F Z g (nI o) (f_X5_product_L8 F Z g (nI o) n) S r (nI i) = f_X5_product_L8 F Z g (nI o) n (stp S3 s3 sg r r3) (nI s3) (nI (i + 1)) := by
    unfold f_X5_product_B41
    rw [ahead_eq hI, hx, pl_eq hI]
    show Option.bind (g 5 (sf S 102 (nI (p + 1))) (nI o) 0) _ = _
    rw [e3]
    show Option.bind (f_X8_addStep 1060 Z S3 sg r r3) _ = _
    rw [e4, ← nI_1]
    rfl
  simp only [f_X5_product_L8]
  rw [if_neg (i120 hi), ahead_eq hI, hd_eq hx, Option.bind_some]
  rcases hs with q | q | q
  · rw [if_pos q]; exact hB
  · rw [if_neg (by rw [q]; decide), Option.bind_some, if_pos q]; exact hB
  · rw [if_neg (by rw [q]; decide), Option.bind_some, if_neg (by rw [q]; decide), Option.bind_some, if_pos q]; exact hB
theorem prod_stepM {sg : Int32} {n : Nat} {v w : Int32} {M3 : St} {S3 : St} {p3 s3 : Nat} (hI : RdI tx L S p s) (hM : RdM tx L S M) (hx : nxt tx L S p = some sg) (hs : sg = 42 ∨ sg = 47 ∨ sg = 37) (w1 : gm 5 (sf M 17 (nI (p + 1))) = some (w, M3)) (hI3 : RdI tx L S3 p3 s3) (hM3 : RdM tx L S3 M3) : ((f_X11_byteAt M).bind fun r2 => f_X11_product_L10 F gm (n + 1) M v r2) = (f_X11_byteAt M3).bind fun r2 => f_X11_product_L10 F gm n M3 (jn sg v w) r2 := by
  have hfl := (nxt_some hx).1
  have hB : f_X11_product_B35 F gm (f_X11_product_L10 F gm n) M v sg = (f_X11_byteAt M3).bind fun r2 => f_X11_product_L10 F gm n M3 (jn sg v w) r2 := by
    unfold f_X11_product_B35
    rw [at_eq hI hM, w1, Option.bind_some]
    show (if sg = 42 then _ else _) = _
    rcases hs with q | q | q
    · subst q
      rw [if_pos rfl, jn_mul]
    · subst q
      rw [if_neg (by decide), jn_div]
      by_cases hw : w = 0
      · rw [if_pos hw, if_pos hw]
      · rw [if_neg hw, if_neg hw, if_pos rfl, nz_of hw, chk_true]
    · subst q
      rw [if_neg (by decide), jn_rem]
      by_cases hw : w = 0
      · rw [if_pos hw, if_pos hw]
      · rw [if_neg hw, if_neg hw, if_neg (by decide), nz_of hw, chk_true]
  rw [byte_eq hI hM, by_eq hx, Option.bind_some]
  simp only [f_X11_product_L10]
  rw [if_neg (flt_no hM hfl).2]
  rcases hs with q | q | q
  · rw [if_pos q]; exact hB
  · rw [if_neg (by rw [q]; decide), if_pos q]; exact hB
  · rw [if_neg (by rw [q]; decide), if_neg (by rw [q]; decide), if_pos q]; exact hB
theorem prod_loop (hg : ∀ S p s, RdI tx L S p s → Spec tx L o S p s (g 5 S (nI o) 0) (gm 5)) : ∀ (k : Nat) (S : St) (p s : Nat) (r : Int32) (i n n' : Nat), RdI tx L S p s → Ent S s r → L - p = k → i ≤ p → k < n → k < n' → LSpec tx L o S p s r (f_X5_product_L8 F Z g (nI o) n S r (nI i)) (fun M v => (f_X11_byteAt M).bind fun r2 => f_X11_product_L10 F gm n' M v r2) := by
  intro k
  induction k using Nat.strongRecOn with
  | _ k ih =>
    intro S p s r i n n' hI hE hk hi hn hn'
    obtain ⟨n, rfl⟩ : ∃ q, n = q + 1 := ⟨n - 1, by omega⟩
    obtain ⟨n', rfl⟩ : ∃ q, n' = q + 1 := ⟨n' - 1, by omega⟩
    have hL := hI.2.2.1
    by_cases hsg : ∃ sg, nxt tx L S p = some sg ∧ (sg = 42 ∨ sg = 47 ∨ sg = 37)
    · obtain ⟨sg, hx, hs⟩ := hsg
      obtain ⟨hfl, hp, htx⟩ := nxt_some hx
      obtain ⟨r3, S3, p3, s3, e3, e4, hI4, b1, b2, b3, hF, hG, hE4, hm⟩ := bin_step (op := sg) hI hE hx (by rcases hs with q | q | q <;> rw [q] <;> decide) (hg _ _ _ (hI.pl (p + 1) (by omega) (by omega)))
      refine LSpec.step (c4 := f_X5_product_L8 F Z g (nI o) n (stp S3 s3 sg r r3) (nI s3) (nI (i + 1))) (m4 := fun M v => (f_X11_byteAt M).bind fun r2 => f_X11_product_L10 F gm n' M v r2) (prod_stepC hI hx hs (by omega) e3 e4) (Nat.le_of_succ_le b1) b2 b3 hF hG (fun M v hM hV => ?_) (ih (L - p3) (by omega) _ _ _ _ _ _ _ hI4 hE4 rfl (by omega) (by omega) (by omega))
      obtain ⟨w, M3, w1, hM3, fr3, hV3⟩ := hm M v hM hV
      exact ⟨M3, jn sg v w, prod_stepM hI hM hx hs w1 hI4 hM3, hM3, fr3, hV3⟩
    · have hx1 : ¬ nxt tx L S p = some 42 := fun q => hsg ⟨42, q, Or.inl rfl⟩
      have hx2 : ¬ nxt tx L S p = some 47 := fun q => hsg ⟨47, q, Or.inr (Or.inl rfl)⟩
      have hx3 : ¬ nxt tx L S p = some 37 := fun q => hsg ⟨37, q, Or.inr (Or.inr rfl)⟩
      refine LSpec.stop hI hE ?_ (fun M v hM => ?_)
      · simp only [f_X5_product_L8]
        split
        · rfl
        · simp only [ahead_eq hI, Option.bind_some, if_neg (hd_ne hx1 (by decide)), if_neg (hd_ne hx2 (by decide)), if_neg (hd_ne hx3 (by decide))]
      · rw [byte_eq hI hM, Option.bind_some]
        simp only [f_X11_product_L10]
        split
        · rfl
        · rename_i hnf
          have hfl : S.1 103 = -1 := Classical.byContradiction fun q => hnf (flt_yes hI hM q).2
          rw [if_neg (by_ne hfl hx1 (by decide)), if_neg (by_ne hfl hx2 (by decide)), if_neg (by_ne hfl hx3 (by decide))]
theorem cmp_one (hg : ∀ S p s, RdI tx L S p s → Spec tx L o S p s (g 3 S (nI o) 0) (gm 3)) {r : Int32} (hI : RdI tx L S p s) (hE : Ent S s r) : LSpec tx L o S p s r ((f_X5_ahead Z S).bind fun r2 => (if r2 = 60 then f_X5_compared_B29 F Z g (nI o) S r r2 else if r2 = 61 then f_X5_compared_B29 F Z g (nI o) S r r2 else if r2 = 62 then f_X5_compared_B29 F Z g (nI o) S r r2 else some (r, S))) (fun M v => (f_X11_byteAt M).bind fun r2 => (if (0 : Int32) ≤ (M.1 19) then some (v, M) else if r2 = 60 then f_X11_compared_B37 F gm M v r2 else if r2 = 61 then f_X11_compared_B37 F gm M v r2 else if r2 = 62 then f_X11_compared_B37 F gm M v r2 else some (v, M))) := by
  have hL := hI.2.2.1
  by_cases hsg : ∃ sg, nxt tx L S p = some sg ∧ (sg = 60 ∨ sg = 61 ∨ sg = 62)
  · obtain ⟨sg, hx, hs⟩ := hsg
    obtain ⟨hfl, hp, htx⟩ := nxt_some hx
    obtain ⟨r3, S3, p3, s3, e3, e4, hI4, b1, b2, b3, hF, hG, hE4, hm⟩ := bin_step (op := sg) hI hE hx (by rcases hs with q | q | q <;> rw [q] <;> decide) (hg _ _ _ (hI.pl (p + 1) (by omega) (by omega)))
    refine LSpec.step (c4 := some (nI s3, stp S3 s3 sg r r3)) (m4 := fun M v => some (v, M)) ?_ (Nat.le_of_succ_le b1) b2 b3 hF hG (fun M v hM hV => ?_) (LSpec.stop hI4 hE4 rfl (fun _ _ _ => rfl))
    · have hB : f_X5_compared_B29 F Z g (nI o) S r sg = some (nI s3, stp S3 s3 sg r r3) := by
        unfold f_X5_compared_B29
        rw [pl_eq hI, e3]
        show Option.bind (f_X8_addStep 1060 Z S3 sg r r3) _ = _
        rw [e4]
        rfl
      rw [ahead_eq hI, hd_eq hx, Option.bind_some]
      rcases hs with q | q | q
      · rw [if_pos q]; exact hB
      · rw [if_neg (by rw [q]; decide), if_pos q]; exact hB
      · rw [if_neg (by rw [q]; decide), if_neg (by rw [q]; decide), if_pos q]; exact hB
    · obtain ⟨w, M3, w1, hM3, fr3, hV3⟩ := hm M v hM hV
      refine ⟨M3, jn sg v w, ?_, hM3, fr3, hV3⟩
      have hB : f_X11_compared_B37 F gm M v sg = some (jn sg v w, M3) := by
        unfold f_X11_compared_B37
        rw [at_eq hI hM, w1, Option.bind_some]
        show (if sg = 60 then _ else _) = _
        rcases hs with q | q | q
        · subst q
          rw [if_pos rfl, jn_lt]
          show (if w ≤ v then _ else _) = _
          split <;> rfl
        · subst q
          rw [if_neg (by decide), if_pos rfl, jn_eq]
          show (if v = w then _ else _) = _
          split <;> rfl
        · subst q
          rw [if_neg (by decide), if_neg (by decide), jn_gt]
          show (if v ≤ w then _ else _) = _
          split <;> rfl
      rw [byte_eq hI hM, by_eq hx, Option.bind_some, if_neg (flt_no hM hfl).2]
      rcases hs with q | q | q
      · rw [if_pos q]; exact hB
      · rw [if_neg (by rw [q]; decide), if_pos q]; exact hB
      · rw [if_neg (by rw [q]; decide), if_neg (by rw [q]; decide), if_pos q]; exact hB
  · have hx1 : ¬ nxt tx L S p = some 60 := fun q => hsg ⟨60, q, Or.inl rfl⟩
    have hx2 : ¬ nxt tx L S p = some 61 := fun q => hsg ⟨61, q, Or.inr (Or.inl rfl)⟩
    have hx3 : ¬ nxt tx L S p = some 62 := fun q => hsg ⟨62, q, Or.inr (Or.inr rfl)⟩
    refine LSpec.stop hI hE ?_ (fun M v hM => ?_)
    · simp only [ahead_eq hI, Option.bind_some, if_neg (hd_ne hx1 (by decide)), if_neg (hd_ne hx2 (by decide)), if_neg (hd_ne hx3 (by decide))]
    · rw [byte_eq hI hM, Option.bind_some]
      split
      · rfl
      · rename_i hnf
        have hfl : S.1 103 = -1 := Classical.byContradiction fun q => hnf (flt_yes hI hM q).2
        rw [if_neg (by_ne hfl hx1 (by decide)), if_neg (by_ne hfl hx2 (by decide)), if_neg (by_ne hfl hx3 (by decide))]
end
