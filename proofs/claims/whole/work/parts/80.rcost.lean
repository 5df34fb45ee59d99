/-! what an hour of a deed costs: the reference -/
def cstL (W : Nat → Option ((Nat → Int32) → Int32)) (set : Nat) (nm : Nat → Int32) : Nat → Nat → Int32 → Int32
  | 0, _, m => m
  | j + 1, k, m => if one3 W k set nm < 0 then -2 else cstL W set nm j (k + 1) (mxx m (one3 W k set nm))
theorem cst_L (W : Nat → Option ((Nat → Int32) → Int32)) (so hr wh : Int32) (v n h set : Nat) : cst W so hr wh v n h set = cstL W set (nms so hr wh v n h set) 3 0 0 := rfl
def WM (M M' : St) : Prop := (∀ j, (j < 16 ∨ 20 < j) → M'.1 j = M.1 j) ∧ (∀ j, j ≠ 21 → M'.2.1 j = M.2.1 j) ∧ M'.2.2 = M.2.2
theorem WM.rf {M : St} : WM M M := ⟨fun _ _ => rfl, fun _ _ => rfl, rfl⟩
theorem WM.tr {M M1 M' : St} (a : WM M M1) (b : WM M1 M') : WM M M' := ⟨fun j p => (b.1 j p).trans (a.1 j p), fun j p => (b.2.1 j p).trans (a.2.1 j p), b.2.2.trans a.2.2⟩
theorem WM.mc {M M' : St} (a : WM M M') : MC M M' := ⟨fun j p _ => a.1 j p, fun j _ p _ => a.2.1 j p, a.2.2⟩
theorem bit_eq : ∀ set, set < 8 → ∀ k, k < 3 → ((nI set >>> (nI k &&& 31)) &&& 1) = nI (set / 2 ^ k % 2) := by decide
theorem bts_step : ∀ s, s < 8 → s ≠ 0 → (nI s &&& (nI s - 1) = nI (s &&& (s - 1)) ∧ (s &&& (s - 1)) < s ∧ bts s = bts (s &&& (s - 1)) + 1) := by decide
theorem bts_le : ∀ s, s < 8 → bts s ≤ 3 := by decide
theorem mxx_ge {m c : Int32} (h : 0 ≤ m) : 0 ≤ mxx m c ∧ (m ≤ 9999 → mxx m c ≤ 9999) := by
  unfold mxx
  have e0 : (0 : Int32).toInt = 0 := rfl
  have e9 : (9999 : Int32).toInt = 9999 := rfl
  by_cases q1 : 9999 < c
  · rw [if_pos q1]
    by_cases q2 : m < 9999
    · rw [if_pos q2]; exact ⟨by decide, fun _ => by decide⟩
    · rw [if_neg q2]; exact ⟨h, id⟩
  · rw [if_neg q1]
    by_cases q2 : m < c
    · rw [if_pos q2]
      refine ⟨?_, fun _ => nlt_le q1⟩
      rw [lt_i] at q2
      rw [le_i] at h ⊢
      omega
    · rw [if_neg q2]; exact ⟨h, id⟩
theorem mxx_0 {m : Int32} (h : 0 ≤ m) : mxx m 0 = m := by
  unfold mxx
  rw [if_neg (show ¬ (9999 : Int32) < 0 by decide), if_neg (fun z => gt_nle z h)]
theorem cstL_rng {W : Nat → Option ((Nat → Int32) → Int32)} {set : Nat} {nm : Nat → Int32} : ∀ j k m, 0 ≤ m → m ≤ 9999 → cstL W set nm j k m = -2 ∨ ∃ c : Nat, c ≤ 9999 ∧ cstL W set nm j k m = nI c := by
  intro j
  induction j with
  | zero =>
    intro k m h1 h2
    obtain ⟨c, -, hc, e⟩ := rngD 0 9999 (by omega) (by omega) (fun z => gt_nle z h1) (fun z => gt_nle z h2)
    exact Or.inr ⟨c, hc, e⟩
  | succ j ih =>
    intro k m h1 h2
    show (if one3 W k set nm < 0 then (-2 : Int32) else cstL W set nm j (k + 1) (mxx m (one3 W k set nm))) = -2 ∨ ∃ c : Nat, c ≤ 9999 ∧ (if one3 W k set nm < 0 then (-2 : Int32) else cstL W set nm j (k + 1) (mxx m (one3 W k set nm))) = nI c
    by_cases q : one3 W k set nm < 0
    · rw [if_pos q]; exact Or.inl rfl
    · rw [if_neg q]
      exact ih (k + 1) _ (mxx_ge h1).1 ((mxx_ge h1).2 h2)
theorem cst_rng (W : Nat → Option ((Nat → Int32) → Int32)) (so hr wh : Int32) (v n h set : Nat) : cst W so hr wh v n h set = -2 ∨ ∃ c : Nat, c ≤ 9999 ∧ cst W so hr wh v n h set = nI c := cstL_rng 3 0 0 (by decide) (by decide)
theorem ansF_nm {sg lf rt wt rs nm nm' : Nat → Int32} {s l : Nat} (h : ∀ j, j < 7 → nm' j = nm j) : ansF sg lf rt wt rs s l nm' = ansF sg lf rt wt rs s l nm := by
  unfold ansF
  rw [vs_ext (fun _ _ => ⟨rfl, rfl, rfl⟩) h]
section
variable {F : Nat} {Z : Zt} {S S' M M' : St} {nm nv nd nb B : Nat}
theorem bitsOf_eq (hF : 200 ≤ F) {s : Nat} (hs : s < 8) : f_X11_bitsOf F (nI s) = some (nI (bts s)) := by
  have hl : ∀ s, s < 8 → ∀ n c, s < n → f_X11_bitsOf_L4 F n (nI c) (nI s) = some (nI (c + bts s)) := by
    intro s
    induction s using Nat.strongRecOn with
    | _ s ih =>
      intro hs n c hn
      obtain ⟨n, rfl⟩ : ∃ q, n = q + 1 := ⟨n - 1, by omega⟩
      simp only [f_X11_bitsOf_L4]
      by_cases h0 : s = 0
      · subst h0
        rw [if_pos (show nI 0 = 0 from rfl)]
        rfl
      · obtain ⟨b1, b2, b3⟩ := bts_step s hs h0
        rw [if_neg (nI_ne0 (by omega) (by omega)), b1, nI_1, ih _ b2 (by omega) n (c + 1) (by omega), b3]
        congr 2
        omega
  have := hl s hs F 0 (by omega)
  rw [Nat.zero_add] at this
  exact this
/-- a law's answer, where there is one -/
theorem LW_none {k : Nat} (hz : Z.2 k = false) : LW S Z k = none := by
  unfold LW
  rw [hz, if_neg (by decide)]
theorem LW_some {k s l : Nat} (hz : Z.2 k = true) (h1 : S.1 (1005 + 20 * k) = nI s) (h2 : S.1 (1006 + 20 * k) = nI l) (hs : s ≤ 120) (hl : l ≤ 120) : LW S Z k = some (ansS k S s l) := by
  unfold LW
  rw [if_pos hz, h1, h2, cl_nI (by omega), cl_nI (by omega)]
theorem worksOut_ok (hF : 200 ≤ F) (hL : KLaw F S Z M nm) (hnm : M.1 6 = nI nm) (h3 : nm ≤ 3) {set d v n H : Nat} (hset : set < 8) (hd : d < 12) (hH : H < 2 ^ 31) : ∃ M', f_X11_worksOut F M (nI set) (nI d) (nI v) (nI n) (nI H) = some (cst (LW S Z) (M.2.1 23 d) (M.2.1 0 (6 + d)) (M.2.1 24 d) v n (H % 24) set, M') ∧ WM M M' := by
  have hloop : ∀ (j k q : Nat) (T : St) (m : Int32), k + j = 3 → j < q → 0 ≤ m → WM M T → ∃ M', f_X11_worksOut_L6 F (nI set) (nI d) (nI v) (nI n) (nI H) q T m (nI k) = some (cstL (LW S Z) set (nms (M.2.1 23 d) (M.2.1 0 (6 + d)) (M.2.1 24 d) v n (H % 24) set) j k m, M') ∧ WM M M' := by
    intro j
    induction j with
    | zero =>
      intro k q T m hk hq hm hT
      obtain ⟨q, rfl⟩ : ∃ z, q = z + 1 := ⟨q - 1, by omega⟩
      have e : k = 3 := by omega
      subst e
      refine ⟨T, ?_, hT⟩
      simp only [f_X11_worksOut_L6]
      rw [hT.1 6 (by omega), hnm, if_pos (nI_le h3 (by omega))]
      rfl
    | succ j ih =>
      intro k q T m hk hq hm hT
      obtain ⟨q, rfl⟩ : ∃ z, q = z + 1 := ⟨q - 1, by omega⟩
      have hk3 : k < 3 := by omega
      have hlw := hL k hk3
      have hnext := ih (k + 1) q
      show ∃ M', f_X11_worksOut_L6 F (nI set) (nI d) (nI v) (nI n) (nI H) (q + 1) T m (nI k) = some (if one3 (LW S Z) k set (nms (M.2.1 23 d) (M.2.1 0 (6 + d)) (M.2.1 24 d) v n (H % 24) set) < 0 then -2 else cstL (LW S Z) set (nms (M.2.1 23 d) (M.2.1 0 (6 + d)) (M.2.1 24 d) v n (H % 24) set) j (k + 1) (mxx m (one3 (LW S Z) k set (nms (M.2.1 23 d) (M.2.1 0 (6 + d)) (M.2.1 24 d) v n (H % 24) set))), M') ∧ WM M M'
      have hzero : one3 (LW S Z) k set (nms (M.2.1 23 d) (M.2.1 0 (6 + d)) (M.2.1 24 d) v n (H % 24) set) = 0 → f_X11_worksOut_L6 F (nI set) (nI d) (nI v) (nI n) (nI H) (q + 1) T m (nI k) = f_X11_worksOut_L6 F (nI set) (nI d) (nI v) (nI n) (nI H) q T m (nI (k + 1)) → ∃ M', f_X11_worksOut_L6 F (nI set) (nI d) (nI v) (nI n) (nI H) (q + 1) T m (nI k) = some (if one3 (LW S Z) k set (nms (M.2.1 23 d) (M.2.1 0 (6 + d)) (M.2.1 24 d) v n (H % 24) set) < 0 then -2 else cstL (LW S Z) set (nms (M.2.1 23 d) (M.2.1 0 (6 + d)) (M.2.1 24 d) v n (H % 24) set) j (k + 1) (mxx m (one3 (LW S Z) k set (nms (M.2.1 23 d) (M.2.1 0 (6 + d)) (M.2.1 24 d) v n (H % 24) set))), M') ∧ WM M M' := by
        intro e1 e2
        rw [e1, e2, if_neg (by decide), mxx_0 hm]
        exact hnext T m (by omega) (by omega) hm hT
      by_cases hend : nm ≤ k
      · -- nothing behind the moons that there are
        have hz : Z.2 k = false := by
          rcases hlw with h | h
          · exact h.1
          · omega
        have e1 : one3 (LW S Z) k set (nms (M.2.1 23 d) (M.2.1 0 (6 + d)) (M.2.1 24 d) v n (H % 24) set) = 0 := by
          unfold one3
          rw [LW_none hz]
          split <;> rfl
        have hstop : ∀ q' k', nm ≤ k' → k' < 2 ^ 31 → f_X11_worksOut_L6 F (nI set) (nI d) (nI v) (nI n) (nI H) (q' + 1) T m (nI k') = some (m, T) := by
          intro q' k' g1 g2
          simp only [f_X11_worksOut_L6]
          rw [hT.1 6 (by omega), hnm, if_pos (nI_le g1 g2)]
        refine hzero e1 ?_
        obtain ⟨q, rfl⟩ : ∃ z, q = z + 1 := ⟨q - 1, by omega⟩
        rw [hstop _ k hend (by omega), hstop _ (k + 1) (by omega) (by omega)]
      · by_cases hbit : set / 2 ^ k % 2 = 0
        · refine hzero (if_pos hbit) ?_
          simp only [f_X11_worksOut_L6]
          rw [hT.1 6 (by omega), hnm, if_neg (nI_ge (by omega) (by omega)), bit_eq set hset k hk3, hbit, if_pos (show nI 0 = 0 from rfl), nI_1]
        · have hb1 : set / 2 ^ k % 2 = 1 := by omega
          rcases hlw with ⟨z1, z2⟩ | ⟨z1, z2, L, s, l, g1, g2, g3, g4, g5, g6, g7, g8⟩
          · refine hzero ?_ ?_
            · unfold one3
              rw [if_neg hbit, LW_none z1]
            · simp only [f_X11_worksOut_L6]
              rw [hT.1 6 (by omega), hnm, if_neg (nI_ge (by omega) (by omega)), bit_eq set hset k hk3, hb1, if_neg (show ¬ nI 1 = 0 by decide), inr_nI hk3 (by omega), chk_true, cl_nI (by omega), hT.2.1 15 (by omega), z2, if_neg (by decide), nI_1]
          · have hone : one3 (LW S Z) k set (nms (M.2.1 23 d) (M.2.1 0 (6 + d)) (M.2.1 24 d) v n (H % 24) set) = ansS k S s l (nms (M.2.1 23 d) (M.2.1 0 (6 + d)) (M.2.1 24 d) v n (H % 24) set) := by
              unfold one3
              rw [if_neg hbit, LW_some z1 g5 g6 g2 g3]
            simp only [f_X11_worksOut_L6]
            rw [hT.1 6 (by omega), hnm, if_neg (nI_ge (by omega) (by omega)), bit_eq set hset k hk3, hb1, if_neg (show ¬ nI 1 = 0 by decide), inr_nI hk3 (by omega), chk_true, cl_nI (by omega), hT.2.1 15 (by omega), g4, if_pos (nI_pos' (by omega)), show (6 : Int32) + nI d = nI (6 + d) from nI_add 6 d, bitsOf_eq hF hset, rem_n hH 24 (d := 24) rfl (by omega) (by omega), show (120 : Int32) * nI k = nI (120 * k) from pk_mul 120 k]
            rw [inr_nI hd (by omega), inr_nI (show 6 + d < 30 by omega) (by omega), cl_nI (show d < 2 ^ 31 by omega), cl_nI (show 6 + d < 2 ^ 31 by omega), hT.2.1 23 (by omega), hT.2.1 24 (by omega), hT.2.1 0 (by omega)]
            have hT7 : ∃ T7, T7 = sa (sa (sa (sa (sa (sa (sa T 21 ((0 : Int32)).toNatClampNeg (M.2.1 23 d)) 21 ((1 : Int32)).toNatClampNeg (nI n)) 21 ((2 : Int32)).toNatClampNeg (M.2.1 0 (6 + d))) 21 ((3 : Int32)).toNatClampNeg (nI (H % 24))) 21 ((4 : Int32)).toNatClampNeg (nI v)) 21 ((5 : Int32)).toNatClampNeg (M.2.1 24 d)) 21 ((6 : Int32)).toNatClampNeg (nI (bts set)) := ⟨_, rfl⟩
            obtain ⟨T7, e7⟩ := hT7
            have hW7 : WM T T7 := by
              subst e7
              exact ⟨fun _ _ => rfl, fun j hj => by
                rw [sa21, if_neg hj, sa21, if_neg hj, sa21, if_neg hj, sa21, if_neg hj, sa21, if_neg hj, sa21, if_neg hj, sa21, if_neg hj], rfl⟩
            have hN7 : ∀ j, j < 7 → T7.2.1 21 j = nms (M.2.1 23 d) (M.2.1 0 (6 + d)) (M.2.1 24 d) v n (H % 24) set j := by
              subst e7
              intro j hj
              match j, hj with
              | 0, _ => rfl
              | 1, _ => rfl
              | 2, _ => rfl
              | 3, _ => rfl
              | 4, _ => rfl
              | 5, _ => rfl
              | 6, _ => rfl
            obtain ⟨T8, w1, w2⟩ := g8 T7 (120 * k) (by omega) (fun i hi => by rw [hW7.2.1 14 (by omega), hT.2.1 14 (by omega)])
            have hW8 : WM M T8 := hT.tr (hW7.tr ⟨fun j hj => w2.2 j hj, fun j _ => by rw [w2.1], by rw [w2.1]⟩)
            have hval : ansS k S s l (T7.2.1 21) = ansS k S s l (nms (M.2.1 23 d) (M.2.1 0 (6 + d)) (M.2.1 24 d) v n (H % 24) set) := ansF_nm hN7
            rw [hone, ← hval]
            simp only [Option.bind_some, chk_true, show inr (0 : Int32) 7 = true from rfl, show inr (1 : Int32) 7 = true from rfl, show inr (2 : Int32) 7 = true from rfl, show inr (3 : Int32) 7 = true from rfl, show inr (4 : Int32) 7 = true from rfl, show inr (5 : Int32) 7 = true from rfl, show inr (6 : Int32) 7 = true from rfl]
            rw [← e7, w1, Option.bind_some]
            generalize ansS k S s l (T7.2.1 21) = r
            by_cases hr : r < 0
            · rw [if_pos hr, if_neg (n0_le hr)]
              exact ⟨T8, rfl, hW8⟩
            · rw [if_neg hr, if_pos (nlt_le hr)]
              have hfin : ∀ x : Int32, mxx m r = (if x ≤ m then m else x) → ∃ M', f_X11_worksOut_B155 F (nI set) (nI d) (nI v) (nI n) (nI H) (f_X11_worksOut_L6 F (nI set) (nI d) (nI v) (nI n) (nI H) q) T8 m (nI k) x = some (cstL (LW S Z) set (nms (M.2.1 23 d) (M.2.1 0 (6 + d)) (M.2.1 24 d) v n (H % 24) set) j (k + 1) (mxx m r), M') ∧ WM M M' := by
                intro x hx
                have hge := (mxx_ge (c := r) hm).1
                unfold f_X11_worksOut_B155
                rw [nI_1]
                by_cases hxm : x ≤ m
                · rw [if_pos hxm]
                  rw [if_pos hxm] at hx
                  rw [hx] at hge ⊢
                  exact hnext T8 m (by omega) (by omega) hge hW8
                · rw [if_neg hxm]
                  rw [if_neg hxm] at hx
                  rw [hx] at hge ⊢
                  exact hnext T8 x (by omega) (by omega) hge hW8
              have hlt : ∀ x y : Int32, (if x < y then y else x) = if y ≤ x then x else y := fun x y => by
                by_cases z : x < y
                · rw [if_pos z, if_neg (gt_nle z)]
                · rw [if_neg z, if_pos (nlt_le z)]
              by_cases h9 : r ≤ 9999
              · rw [if_pos h9]
                refine hfin r ?_
                unfold mxx
                rw [if_neg (fun z => gt_nle z h9), hlt]
              · rw [if_neg h9]
                refine hfin 9999 ?_
                have h9' : 9999 < r := by
                  rw [le_i] at h9
                  rw [lt_i]
                  omega
                unfold mxx
                rw [if_pos h9', hlt]
  exact hloop 3 0 F M 0 rfl (by omega) (by decide) WM.rf
theorem mmK_inj {d d' set set' n n' h h' : Nat} (a : set < 8) (a' : set' < 8) (b : n < 48) (b' : n' < 48) (c : h < 24) (c' : h' < 24) (e : mmK d set n h = mmK d' set' n' h') : d = d' ∧ set = set' ∧ n = n' ∧ h = h' := by
  unfold mmK at e
  omega
/-- the second half: the stamp stands -/
theorem costBy_2 (hF : 200 ≤ F) (hL : KLaw F S Z M nm) (hnm : M.1 6 = nI nm) (h3 : nm ≤ 3) (hm : KMemo S Z M nd B) (hB : B < 1000000000) {set d v n H : Nat} (h12 : nd ≤ 12) (hset : set < 8) (hd : d < nd) (hv : v < 5) (hn : n < 48) (hH : H < 2 ^ 31) (hst : ¬ M.2.1 27 d = 0) (hsv : M.2.1 28 d = nI v) : ∃ M', f_X11_costBy_B46 F (nI set) (nI d) (nI v) (nI n) (nI H) M = some (cst (LW S Z) (M.2.1 23 d) (M.2.1 0 (6 + d)) (M.2.1 24 d) v n (H % 24) set, M') ∧ KMemo S Z M' nd B ∧ MC M M' := by
  have hm' := hm
  obtain ⟨st, w1, w2, w3, w4, w5⟩ := hm
  obtain ⟨v', hv', ev', hk⟩ := w5 d hd hst
  have evv : v' = v := by rw [ev'] at hsv; exact (nI_eq (by omega) (by omega)).mp hsv
  subst evv
  have hi : mmK d set n (H % 24) < 110592 := by unfold mmK; omega
  unfold f_X11_costBy_B46
  rw [rem_n hH 24 (d := 24) rfl (by omega) (by omega), show ((9216 : Int32) * nI d + (48 * nI set + nI n) * 24) + nI (H % 24) = nI (mmK d set n (H % 24)) by
    rw [show (9216 : Int32) = nI 9216 from rfl, show (48 : Int32) = nI 48 from rfl, show (24 : Int32) = nI 24 from rfl, pk_mul, pk_mul, nI_add, pk_mul, nI_add, nI_add]
    rfl]
  simp only [lti]
  rw [inr_nI hi (by omega), inr_nI (show d < 12 by omega) (by omega), chk_true, chk_true, cl_nI (show mmK d set n (H % 24) < 2 ^ 31 by omega), cl_nI (show d < 2 ^ 31 by omega)]
  by_cases hq : M.2.1 26 (mmK d set n (H % 24)) = M.2.1 27 d
  · rw [if_pos hq, chk_true, hk set n (H % 24) hset hn (Nat.mod_lt _ (by omega)) hq]
    exact ⟨M, rfl, hm', MC.rf⟩
  · rw [if_neg hq, chk_true, chk_true]
    obtain ⟨M3, e3, hW3⟩ := worksOut_ok (S := S) (Z := Z) (M := sa M 26 (mmK d set n (H % 24)) (M.2.1 27 d)) hF (hL.fr (Nat.le_refl _) ⟨⟨rfl, rfl, rfl, rfl, rfl, rfl, rfl, rfl⟩, ⟨rfl, rfl, rfl, rfl, rfl, rfl, rfl, rfl⟩, ⟨rfl, rfl, rfl, rfl, rfl, rfl, rfl, rfl⟩⟩ ⟨rfl, rfl⟩) hnm h3 (v := v') (n := n) hset (show d < 12 by omega) hH
    rw [e3, Option.bind_some, chk_true, chk_true]
    have e23 : (sa M 26 (mmK d set n (H % 24)) (M.2.1 27 d)).2.1 23 = M.2.1 23 := rfl
    have e24 : (sa M 26 (mmK d set n (H % 24)) (M.2.1 27 d)).2.1 24 = M.2.1 24 := rfl
    have e0 : (sa M 26 (mmK d set n (H % 24)) (M.2.1 27 d)).2.1 0 = M.2.1 0 := rfl
    rw [e23, e24, e0]
    generalize hr : cst (LW S Z) (M.2.1 23 d) (M.2.1 0 (6 + d)) (M.2.1 24 d) v' n (H % 24) set = r
    refine ⟨sa M3 25 (mmK d set n (H % 24)) r, ?_, ⟨st, w1, ?_, ?_, ?_, ?_⟩, ?_⟩
    · show some (upd (M3.2.1 25) (mmK d set n (H % 24)) r (mmK d set n (H % 24)), _) = _
      rw [pk_us]
    · show M3.1 29 = nI st
      rw [hW3.1 29 (by omega)]
      exact w2
    · intro e he
      show ∃ x, x ≤ st ∧ M3.2.1 27 e = nI x ∧ (nd ≤ e → x = 0)
      rw [hW3.2.1 27 (by omega)]
      exact w3 e he
    · intro k hk'
      show ∃ x, x ≤ st ∧ M3.2.1 26 k = nI x
      rw [hW3.2.1 26 (by omega)]
      show ∃ x, x ≤ st ∧ upd (M.2.1 26) (mmK d set n (H % 24)) (M.2.1 27 d) k = nI x
      by_cases q : k = mmK d set n (H % 24)
      · rw [q, pk_us]
        obtain ⟨x, x1, x2, -⟩ := w3 d (by omega)
        exact ⟨x, x1, x2⟩
      · rw [pk_un q]
        exact w4 k hk'
    · intro e he hne
      have r27 : (sa M3 25 (mmK d set n (H % 24)) r).2.1 27 = M.2.1 27 := hW3.2.1 27 (by omega)
      have r28 : (sa M3 25 (mmK d set n (H % 24)) r).2.1 28 = M.2.1 28 := hW3.2.1 28 (by omega)
      have r23 : (sa M3 25 (mmK d set n (H % 24)) r).2.1 23 = M.2.1 23 := hW3.2.1 23 (by omega)
      have r24 : (sa M3 25 (mmK d set n (H % 24)) r).2.1 24 = M.2.1 24 := hW3.2.1 24 (by omega)
      have r0 : (sa M3 25 (mmK d set n (H % 24)) r).2.1 0 = M.2.1 0 := hW3.2.1 0 (by omega)
      have r26 : (sa M3 25 (mmK d set n (H % 24)) r).2.1 26 = upd (M.2.1 26) (mmK d set n (H % 24)) (M.2.1 27 d) := hW3.2.1 26 (by omega)
      have r25 : (sa M3 25 (mmK d set n (H % 24)) r).2.1 25 = upd (M.2.1 25) (mmK d set n (H % 24)) r := by
        show upd (M3.2.1 25) _ _ = _
        rw [hW3.2.1 25 (by omega)]
        rfl
      rw [r27] at hne
      obtain ⟨u, u1, u2, u3⟩ := w5 e he hne
      rw [r27, r28, r23, r24, r0, r26, r25]
      refine ⟨u, u1, u2, fun set' n' h' a1 a2 a3 a4 => ?_⟩
      by_cases q : mmK e set' n' h' = mmK d set n (H % 24)
      · obtain ⟨y1, y2, y3, y4⟩ := mmK_inj a1 hset a2 hn a3 (Nat.mod_lt _ (by omega)) q
        subst y1 y2 y3 y4
        have eu : u = v' := by rw [u2] at ev'; exact (nI_eq (by omega) (by omega)).mp ev'
        rw [pk_us, ← hr, eu]
      · rw [pk_un q]
        rw [pk_un q] at a4
        exact u3 set' n' h' a1 a2 a3 a4
    · refine ⟨fun j p q => ?_, fun j p q r' => ?_, ?_⟩
      · show M3.1 j = _
        rw [hW3.1 j p]
        rfl
      · show (if j = 25 then _ else M3.2.1 j) = _
        rw [if_neg (by omega), hW3.2.1 j q, sa21, if_neg (by omega)]
      · show M3.2.2 = _
        rw [hW3.2.2]
        rfl
theorem costBy_ok (hF : 200 ≤ F) (hL : KLaw F S Z M nm) (hnm : M.1 6 = nI nm) (h3 : nm ≤ 3) (hm : KMemo S Z M nd B) (hB : B + 1 < 1000000000) {set d v n H : Nat} (h12 : nd ≤ 12) (hset : set < 8) (hd : d < nd) (hv : v < 5) (hn : n < 48) (hH : H < 2 ^ 31) : ∃ M', f_X11_costBy F M (nI set) (nI d) (nI v) (nI n) (nI H) = some (cst (LW S Z) (M.2.1 23 d) (M.2.1 0 (6 + d)) (M.2.1 24 d) v n (H % 24) set, M') ∧ KMemo S Z M' nd (B + 1) ∧ MC M M' := by
  have hnew : ∃ M', f_X11_costBy_B19 F (nI set) (nI d) (nI v) (nI n) (nI H) M = some (cst (LW S Z) (M.2.1 23 d) (M.2.1 0 (6 + d)) (M.2.1 24 d) v n (H % 24) set, M') ∧ KMemo S Z M' nd (B + 1) ∧ MC M M' := by
    obtain ⟨st, w1, w2, w3, w4, w5⟩ := hm
    unfold f_X11_costBy_B19
    rw [inr_nI (show d < 12 by omega) (by omega), chk_true, chk_true, cl_nI (show d < 2 ^ 31 by omega), w2, nI_1]
    have hM1 : KMemo S Z (sa (sa (sf M 29 (nI (st + 1))) 27 d (nI (st + 1))) 28 d (nI v)) nd (B + 1) := by
      refine ⟨st + 1, by omega, rfl, fun e he => ?_, fun k hk => ?_, fun e he hne => ?_⟩
      · show ∃ x, x ≤ st + 1 ∧ upd (M.2.1 27) d (nI (st + 1)) e = nI x ∧ (nd ≤ e → x = 0)
        by_cases q : e = d
        · rw [q, pk_us]
          exact ⟨st + 1, Nat.le_refl _, rfl, fun z => by omega⟩
        · rw [pk_un q]
          obtain ⟨x, x1, x2, x3⟩ := w3 e he
          exact ⟨x, by omega, x2, x3⟩
      · obtain ⟨x, x1, x2⟩ := w4 k hk
        exact ⟨x, by omega, x2⟩
      · have hne' : ¬ upd (M.2.1 27) d (nI (st + 1)) e = 0 := hne
        show ∃ v', v' < 5 ∧ upd (M.2.1 28) d (nI v) e = nI v' ∧ ∀ set n h, set < 8 → n < 48 → h < 24 → M.2.1 26 (mmK e set n h) = upd (M.2.1 27) d (nI (st + 1)) e → M.2.1 25 (mmK e set n h) = cst (LW S Z) (M.2.1 23 e) (M.2.1 0 (6 + e)) (M.2.1 24 e) v' n h set
        by_cases q : e = d
        · rw [q, pk_us, pk_us]
          refine ⟨v, hv, rfl, fun set' n' h' a1 a2 a3 a4 => ?_⟩
          obtain ⟨x, x1, x2⟩ := w4 (mmK d set' n' h') (by unfold mmK; omega)
          rw [x2] at a4
          have := (nI_eq (by omega) (by omega)).mp a4
          omega
        · rw [pk_un q] at hne'
          rw [pk_un q, pk_un q]
          exact w5 e he hne'
    obtain ⟨M', e1, e2, e3⟩ := costBy_2 (M := sa (sa (sf M 29 (nI (st + 1))) 27 d (nI (st + 1))) 28 d (nI v)) hF (hL.fr (Nat.le_refl _) ⟨⟨rfl, rfl, rfl, rfl, rfl, rfl, rfl, rfl⟩, ⟨rfl, rfl, rfl, rfl, rfl, rfl, rfl, rfl⟩, ⟨rfl, rfl, rfl, rfl, rfl, rfl, rfl, rfl⟩⟩ ⟨rfl, rfl⟩) hnm h3 hM1 (by omega) (v := v) h12 hset hd hv hn hH (by
      show ¬ upd (M.2.1 27) d (nI (st + 1)) d = 0
      rw [pk_us]
      exact nI_ne0 (by omega) (by omega)) (by
      show upd (M.2.1 28) d (nI v) d = nI v
      rw [pk_us])
    have hc : MC M (sa (sa (sf M 29 (nI (st + 1))) 27 d (nI (st + 1))) 28 d (nI v)) := ⟨fun j p q => by
      show (if j = 29 then _ else M.1 j) = _
      rw [if_neg q], fun j p q r => by
      show (if j = 28 then _ else if j = 27 then _ else M.2.1 j) = _
      rw [if_neg (by omega), if_neg (by omega)], rfl⟩
    exact ⟨M', e1, e2, hc.tr e3⟩
  unfold f_X11_costBy
  rw [inr_nI (show d < 12 by omega) (by omega), chk_true, chk_true, cl_nI (show d < 2 ^ 31 by omega)]
  by_cases q1 : M.2.1 27 d = 0
  · rw [if_pos q1]; exact hnew
  · rw [if_neg q1]
    by_cases q2 : M.2.1 28 d = nI v
    · rw [if_pos q2]
      obtain ⟨M', e1, e2, e3⟩ := costBy_2 hF hL hnm h3 hm (by omega) (n := n) h12 hset hd hv hn hH q1 q2
      exact ⟨M', e1, e2.le (by omega), e3⟩
    · rw [if_neg q2]; exact hnew
end
