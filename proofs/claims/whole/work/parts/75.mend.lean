/-! mend, undo, redo -/
def ntS (S : St) (m : Nat) (a b c d : Int32) : St := sf (sf (sa (sa (sa (sa S 62 m a) 63 m b) 64 m c) 65 m d) 66 (nI (m + 1))) 67 (nI (m + 1))
def ntM (M : St) (m : Nat) (x y z : Int32) : St := sf (sf (sa (sa (sa M 1 m x) 2 m y) 3 m z) 5 (nI (m + 1))) 4 (nI (m + 1))
section
variable {F : Nat} {Z : Zt} {S S' M M' : St} {nm nv nd nb n w v : Nat}
theorem RV_h (h : RV F S Z M nm nv nd nb) (a : SH S S') (b : MH M M') (hc : KChg S' M' nm nd) : RV F S' Z M' nm nv nd nb := by
  obtain ⟨h1, h2, h3, h4, h5, h6, h7, h8⟩ := h
  have A := a.1
  have A2 := a.2.1
  have B := b.1
  have B2 := b.2.1
  have e0 : M'.2.1 0 = M.2.1 0 := B2 0 (Or.inl rfl) (by omega)
  have hl : ∀ k, lwS S Z S' Z k := fun k => ⟨rfl, A _ (by omega), A _ (by omega), A2 _ (by omega), A2 _ (by omega), A2 _ (by omega), A2 _ (by omega), A2 _ (by omega)⟩
  refine ⟨h1.fr ⟨A _ (by omega), A _ (by omega), A2 _ (by omega), A2 _ (by omega), A2 _ (by omega), A2 _ (by omega), A2 _ (by omega), A2 _ (by omega)⟩ ⟨B _ (by omega), B _ (by omega), B2 _ (by omega) (by omega), B2 _ (by omega) (by omega), B2 _ (by omega) (by omega), B2 _ (by omega) (by omega)⟩ (fun k _ => by rw [e0]), ?_, ?_, ?_, hc, ?_, ?_, ?_⟩
  · exact h2.fr ⟨A _ (by omega), A2 _ (by omega), A2 _ (by omega), A2 _ (by omega), A2 _ (by omega)⟩ ⟨B _ (by omega), B2 _ (by omega) (by omega), B2 _ (by omega) (by omega)⟩ (fun k _ _ => by rw [e0])
  · exact h3.fr ⟨A2 _ (by omega), A _ (by omega)⟩ ⟨B2 _ (by omega) (by omega), B _ (by omega)⟩
  · exact h4.fr ⟨A _ (by omega), A2 _ (by omega), A2 _ (by omega), A2 _ (by omega)⟩ ⟨B _ (by omega), B2 _ (by omega) (by omega), B2 _ (by omega) (by omega)⟩ (Nat.le_refl _) (Nat.le_refl _)
  · exact h6.fr ⟨A _ (by omega), A _ (by omega), A2 _ (by omega), A2 _ (by omega)⟩ ⟨B _ (by omega), B _ (by omega), B2 _ (by omega) (by omega), B2 _ (by omega) (by omega)⟩
  · exact h7.fr (Nat.le_refl _) ⟨A2 _ (by omega), A2 _ (by omega), A2 _ (by omega), by rw [a.2.2]⟩ ⟨B2 _ (by omega) (by omega), B2 _ (by omega) (by omega), by rw [b.2.2]⟩
  · exact h8.fr (Nat.le_refl _) ⟨hl 0, hl 1, hl 2⟩ ⟨B2 _ (by omega) (by omega), B2 _ (by omega) (by omega)⟩
theorem b47 {a b c d : Int32} {m : Nat} (h : S.1 66 = nI m) (hm : m < 40) : f_X3_note_B47 F Z a b c d S = some (ntS S m a b c d) := by
  unfold f_X3_note_B47
  rw [h]
  simp only [inr_nI (show m < 40 from hm) (by omega), chk_true, cl_nI (show m < 2 ^ 31 by omega), nI_1]
  rfl
theorem b101 {y z : Int32} {m p : Nat} (h : M.1 5 = nI m) (hm : m < 40) (hp : p < 30) : f_X11_becomes_B101 F (nI p) z M y = some (y, sa (ntM M m (nI p) y z) 0 p z) := by
  unfold f_X11_becomes_B101
  rw [h]
  simp only [inr_nI (show m < 40 from hm) (by omega), inr_nI (show p < 30 from hp) (by omega), chk_true, cl_nI (show m < 2 ^ 31 by omega), cl_nI (show p < 2 ^ 31 by omega), nI_1]
  rfl
theorem SH.tr {S1 : St} (a : SH S S1) (b : SH S1 S') : SH S S' := ⟨fun j p => (b.1 j p).trans (a.1 j p), fun j p => (b.2.1 j p).trans (a.2.1 j p), b.2.2.trans a.2.2⟩
theorem SH.nt {m : Nat} {a b c d : Int32} : SH S (ntS S m a b c d) := ⟨fun j p => by
  show (if j = 67 then _ else if j = 66 then _ else S.1 j) = _
  rw [if_neg (by omega), if_neg (by omega)], fun j p => by
  show (if j = 65 then _ else if j = 64 then _ else if j = 63 then _ else if j = 62 then _ else S.2.1 j) = _
  rw [if_neg (by omega), if_neg (by omega), if_neg (by omega), if_neg (by omega)], rfl⟩
theorem MH.nt {m : Nat} {x y z : Int32} (a : MH M M') : MH M (ntM M' m x y z) := ⟨fun j p => by
  show (if j = 4 then _ else if j = 5 then _ else M'.1 j) = _
  rw [if_neg (by omega), if_neg (by omega)]; exact a.1 j p, fun j p q => by
  show (if j = 3 then _ else if j = 2 then _ else if j = 1 then _ else M'.2.1 j) = _
  rw [if_neg (by omega), if_neg (by omega), if_neg (by omega)]; exact a.2.1 j p q, a.2.2⟩
theorem KChg_nt {m v1 v2 : Nat} (hm : m < 40) (h : ∀ i, i < m → chOK M nm nd (S.2.1 62 i) (S.2.1 63 i) (S.2.1 64 i) (S.2.1 65 i) (M.2.1 1 i) (M.2.1 2 i) (M.2.1 3 i)) (h1 : chV M nm nd w n v1) (h2 : chV M nm nd w n v2) : KChg (ntS S m (nI n) (nI w) (nI v1) (nI v2)) (ntM M m (nI (plW w + n)) (nI v1) (nI v2)) nm nd := by
  refine ⟨m + 1, m + 1, Nat.le_refl _, by omega, rfl, rfl, rfl, rfl, fun i hi => ?_⟩
  show chOK (ntM M m (nI (plW w + n)) (nI v1) (nI v2)) nm nd (upd (S.2.1 62) m (nI n) i) (upd (S.2.1 63) m (nI w) i) (upd (S.2.1 64) m (nI v1) i) (upd (S.2.1 65) m (nI v2) i) (upd (M.2.1 1) m (nI (plW w + n)) i) (upd (M.2.1 2) m (nI v1) i) (upd (M.2.1 3) m (nI v2) i)
  by_cases e : i = m
  · subst e
    rw [pk_us, pk_us, pk_us, pk_us, pk_us, pk_us, pk_us]
    exact ⟨n, w, v1, v2, rfl, rfl, rfl, rfl, rfl, rfl, rfl, h1.fr (fun _ _ => rfl) (Nat.le_refl _) (Nat.le_refl _), h2.fr (fun _ _ => rfl) (Nat.le_refl _) (Nat.le_refl _)⟩
  · rw [pk_un e, pk_un e, pk_un e, pk_un e, pk_un e, pk_un e, pk_un e]
    obtain ⟨n', w', x1, x2, q1, q2, q3, q4, q5, q6, q7, q8, q9⟩ := h i (by omega)
    exact ⟨n', w', x1, x2, q1, q2, q3, q4, q5, q6, q7, q8.fr (fun _ _ => rfl) (Nat.le_refl _) (Nat.le_refl _), q9.fr (fun _ _ => rfl) (Nat.le_refl _) (Nat.le_refl _)⟩
theorem chOK.mv {a b c d x y z : Int32} (h : chOK M nm nd a b c d x y z) (hr : ∀ k, k < nm → M'.2.1 7 k = M.2.1 7 k) : chOK M' nm nd a b c d x y z := by
  obtain ⟨n', w', x1, x2, q1, q2, q3, q4, q5, q6, q7, q8, q9⟩ := h
  exact ⟨n', w', x1, x2, q1, q2, q3, q4, q5, q6, q7, q8.fr hr (Nat.le_refl _) (Nat.le_refl _), q9.fr hr (Nat.le_refl _) (Nat.le_refl _)⟩
theorem note_ok (hF : 200 ≤ F) (hC : KChg S M nm nd) {v1 v2 : Nat} (hc1 : chV M nm nd w n v1) (hc2 : chV M nm nd w n v2) (hp : plW w + n < 30) {M0 : St} (m1 : M0.1 = M.1) (m2 : M0.2.2 = M.2.2) (m3 : ∀ j, j ≠ 27 → M0.2.1 j = M.2.1 j) :
    ∃ S1 M1, f_X3_note F Z S (nI n) (nI w) (nI v1) (nI v2) = some S1 ∧ SH S S1 ∧ (if (M0.1 5) = 40 then f_X11_becomes_L30 F (nI (plW w + n)) (nI v2) F M0 (nI v1) 1 else f_X11_becomes_B101 F (nI (plW w + n)) (nI v2) M0 (nI v1)) = some (nI v1, sa M1 0 (plW w + n) (nI v2)) ∧ MH M M1 ∧ M1.2.1 27 = M0.2.1 27 ∧ KChg S1 M1 nm nd := by
  obtain ⟨dn, kp, q1, q2, q3, q4, q5, q6, q7⟩ := hC
  have hMH : MH M M0 := ⟨fun j _ => by rw [m1], fun j _ q => m3 j q, m2⟩
  have h7 : ∀ k, k < nm → M0.2.1 7 k = M.2.1 7 k := fun k _ => by rw [m3 7 (by omega)]
  unfold f_X3_note
  rw [m1, q3, q4]
  by_cases h : dn < 40
  · rw [if_pos (show nI dn < 40 from nI_lt (b := 40) h (by omega)), if_neg (show ¬ nI dn = 40 from ne_n (b := 40) (by omega) (by omega) (by omega)), b47 q3 h, b101 (show M0.1 5 = nI dn by rw [m1]; exact q4) h hp]
    refine ⟨_, _, rfl, SH.nt, rfl, hMH.nt, rfl, KChg_nt h (fun i hi => ?_) (hc1.fr h7 (Nat.le_refl _) (Nat.le_refl _)) (hc2.fr h7 (Nat.le_refl _) (Nat.le_refl _))⟩
    rw [m3 1 (by omega), m3 2 (by omega), m3 3 (by omega)]
    exact (q7 i (by omega)).mv h7
  · have e : dn = 40 := by omega
    subst e
    have e2 : kp = 40 := by omega
    subst e2
    obtain ⟨T1, t1, t2, t3, t4, t5⟩ := drop_ok (F := F) (Z := Z) hF (p1 := 62) rfl S
    obtain ⟨T2, u1, u2, u3, u4, u5⟩ := drop_ok (F := F) (Z := Z) hF (p1 := 63) rfl T1
    obtain ⟨T3, w1, w2, w3, w4, w5⟩ := drop_ok (F := F) (Z := Z) hF (p1 := 64) rfl T2
    obtain ⟨T4, x1, x2, x3, x4, x5⟩ := drop_ok (F := F) (Z := Z) hF (p1 := 65) rfl T3
    obtain ⟨M2, y1, y2, y3, y4, y5⟩ := shift_ok hF M0 (nI (plW w + n)) (nI v2) (nI v1)
    have e5 : M2.1 5 = nI 40 := by rw [y2, m1]; exact q4
    have hs : SH S (sf T4 66 39) := ⟨fun j p => by
      show (if j = 66 then _ else T4.1 j) = _
      rw [if_neg (by omega), x2, w2, u2, t2], fun j p => by
      show T4.2.1 j = _
      rw [x4 j (by omega), w4 j (by omega), u4 j (by omega), t4 j (by omega)], by
      show T4.2.2 = _
      rw [x3, w3, u3, t3]⟩
    have hM2 : MH M (sf M2 5 ((M2.1 5) - 1)) := ⟨fun j p => by
      show (if j = 5 then _ else M2.1 j) = _
      rw [if_neg (by omega), y2, m1], fun j p q => by
      show M2.2.1 j = _
      rw [y4 j p, m3 j q], by
      show M2.2.2 = _
      rw [y3, m2]⟩
    rw [if_neg (show ¬ nI 40 < 40 by decide), if_pos (show nI 40 = 40 from rfl), t1, Option.bind_some, u1, Option.bind_some, w1, Option.bind_some, x1, Option.bind_some, y1, b47 (m := 39) rfl (by omega), b101 (m := 39) (by rw [e5]; rfl) (by omega) hp]
    have h72 : ∀ k, k < nm → (sf M2 5 ((M2.1 5) - 1)).2.1 7 k = M.2.1 7 k := fun k _ => by
      show M2.2.1 7 k = _
      rw [y4 7 (by omega), m3 7 (by omega)]
    refine ⟨_, _, rfl, hs.tr SH.nt, rfl, hM2.nt, y4 27 (by omega), KChg_nt (by omega) (fun i hi => ?_) (hc1.fr h72 (Nat.le_refl _) (Nat.le_refl _)) (hc2.fr h72 (Nat.le_refl _) (Nat.le_refl _))⟩
    show chOK _ nm nd (T4.2.1 62 i) (T4.2.1 63 i) (T4.2.1 64 i) (T4.2.1 65 i) (M2.2.1 1 i) (M2.2.1 2 i) (M2.2.1 3 i)
    rw [x4 62 (by omega), w4 62 (by omega), u4 62 (by omega), t5 i hi, x4 63 (by omega), w4 63 (by omega), u5 i hi, t4 63 (by omega), x4 64 (by omega), w5 i hi, u4 64 (by omega), t4 64 (by omega), x5 i hi, w4 65 (by omega), u4 65 (by omega), t4 65 (by omega), (y5 i hi).1, (y5 i hi).2.1, (y5 i hi).2.2, m3 1 (by omega), m3 2 (by omega), m3 3 (by omega)]
    exact (q7 (i + 1) (by omega)).mv h72
theorem plS_ne : plS w ≠ 86 ∧ plS w ≠ 306 := by
  unfold plS
  (repeat' split) <;> decide
theorem KCt_s {b : Nat} {x : Int32} (hb : b = 80 ∨ b = 300) (h : KCt S Z b) (a : SH S S') : KCt (sa S' (plS w) n x) Z b := by
  refine h.fr ⟨rfl, a.1 _ (by omega), ?_⟩
  have := plS_ne (w := w)
  rw [sa21, if_neg (by omega)]
  exact a.2.1 _ (by omega)
theorem tell_ok {t : Nat} (hF : 200 ≤ F) (hRV : RV F S Z M nm nv nd nb) (c1 : KCt S Z 80) (c2 : KCt S Z 300) (hm : KMemo S Z M nd (1000000 * t)) (hc : chV M nm nd w n v) : ∃ r S1 M1, f_X3_tell F Z S (nI n) (nI w) (nI v) = some (r, S1) ∧ f_X11_becomes F M (nI (plW w + n)) (nI v) = some (r, M1) ∧ RR F (t + 1) S1 Z M1 := by
  obtain ⟨v1, e1, hc1, e2, hp, hn⟩ := pl_old (Z := Z) hRV.1 hRV.2.1 hc
  have hv := chV_le hc
  have hv1 := chV_le hc1
  unfold f_X3_tell f_X11_becomes
  rw [e2, Option.bind_some, inr_nI hp (by omega), chk_true, cl_nI (by omega), e1]
  simp only [lti]
  by_cases h : v1 = v
  · subst h
    rw [if_pos rfl, if_pos rfl]
    exact ⟨_, _, _, rfl, rfl, nm, nv, nd, nb, hRV, c1, c2, hm.le (by omega)⟩
  · obtain ⟨M0, f1, f2, f3, f4, f5⟩ := forgets_ok hF M
    obtain ⟨S1, M1, g1, g2, g3, g4, g5, g6⟩ := note_ok (Z := Z) hF hRV.2.2.2.2.1 hc1 hc hp f2 f3 f4
    rw [if_neg (ne_n h (by omega) (by omega)), if_neg (ne_n h (by omega) (by omega)), f1, Option.bind_some, g1, Option.bind_some, g3]
    have hRV1 := RV_h hRV g2 g4 g6
    have hc' : chV M1 nm nd w n v := hc.fr (fun k _ => by rw [g4.2.1 7 (by omega) (by omega)]) (Nat.le_refl _) (Nat.le_refl _)
    rw [set_ok ⟨hRV1.1.1.1, hRV1.1.1.2.2⟩ ⟨hRV1.2.1.1.1, hRV1.2.1.1.2.2⟩ hc', Option.bind_some]
    have h12 := hRV.2.1.1.2.2
    refine ⟨_, _, _, rfl, rfl, RR_mk (RV_set hRV1 hc') (KCt_s (Or.inl rfl) c1 g2) (KCt_s (Or.inr rfl) c2 g2) (hm.zero h12 ⟨g4.1 29 (by omega), g4.2.1 26 (by omega) (by omega)⟩ (fun d hd => ?_)) (by omega)⟩
    show M1.2.1 27 d = 0
    rw [g5]
    exact f5 d hd
theorem st_mend (hF : 200 ≤ F) : ST_mend F (RR F) := by
  intro t S Z M a1 a2 a3 ht hR
  have hR' := hR
  obtain ⟨nm, nv, nd, nb, hRV, c1, c2, hm⟩ := hR
  have hK := hRV.1
  have hB := hRV.2.1
  have h3 := hK.1.2.2
  have h12 := hB.1.2.2
  have idle : ∀ (r : Int32), ∃ (r' : Int32) (S1 M1 : St), (some (r, S) : Option (Int32 × St)) = some (r', S1) ∧ (some (r, M) : Option (Int32 × St)) = some (r', M1) ∧ RR F (t + 1) S1 Z M1 := fun r => ⟨r, S, M, rfl, rfl, RR_idle hR'⟩
  unfold f_X10_mend f_X11_mend f_X3_isSo
  rcases of_cases (a2 := a2) with rfl | rfl | rfl | rfl | ⟨hq, q0, q1, q2, q3⟩
  · rw [if_pos rfl, if_pos rfl, hasMoon_eq hK.1.1 h3, isMoon_eq hK.1.2.1 h3, Option.bind_some, Option.bind_some]
    rcases hx_01 (n := nm) (a := a1) with h0 | ⟨n, hn, rfl, h1⟩
    · rw [h0]; exact idle _
    obtain ⟨a, b, c, w1, w2, w3, w4, w5, w6, w7⟩ := hK.2.2.2.2.1 n hn
    unfold f_X7_roundOf
    rw [h1, if_neg one0, if_neg one0, hasMoon_eq hK.1.1 h3, h1, Option.bind_some, if_neg one0, inr_nI (show n < 3 by omega) (by omega), chk_true, chk_true, cl_nI (by omega), hK.2.2.1.1, w5, show (0 : Int64) = (nI 0).toInt64 from rfl, Option.bind_some]
    rcases rng (x := a3) 0 a (by omega) (by omega) with ⟨hq, hw⟩ | ⟨v, n1, n2, rfl, q1, q2, hw⟩
    · rw [hw]
      rcases hq with hq | ⟨hq1, hq2⟩
      · rw [if_pos (show a3 < 0 from hq)]; exact idle _
      · rw [if_neg (show ¬ a3 < 0 from hq1), if_pos hq2]; exact idle _
    · rw [hw, if_neg (show ¬ nI v < 0 from q1), if_neg q2, Option.bind_some, Option.bind_some, if_neg one0, if_neg one0, bind_id2, bind_id2]
      have := tell_ok (t := t) hF hRV c1 c2 hm (w := 0) (n := n) (v := v) (Or.inl ⟨rfl, hn, a, w5, w2, n2⟩)
      rw [show plW 0 + n = n from Nat.zero_add n] at this
      exact this
  · rw [if_neg (show ¬ (1 : Int32) = 0 by decide), if_neg (show ¬ (1 : Int32) = 0 by decide), if_pos rfl, if_pos rfl, hasMoon_eq hK.1.1 h3, isMoon_eq hK.1.2.1 h3, Option.bind_some, Option.bind_some]
    rcases hx_01 (n := nm) (a := a1) with h0 | ⟨n, hn, rfl, h1⟩
    · rw [h0]; exact idle _
    obtain ⟨a, b, c, w1, w2, w3, w4, w5, w6, w7⟩ := hK.2.2.2.2.1 n hn
    obtain ⟨a', rfl⟩ : ∃ a', a = a' + 1 := ⟨a - 1, by omega⟩
    unfold f_X7_roundOf
    rw [h1, if_neg one0, if_neg one0, hasMoon_eq hK.1.1 h3, h1, Option.bind_some, if_neg one0, inr_nI (show n < 3 by omega) (by omega), chk_true, chk_true, cl_nI (by omega), hK.2.2.1.1, w5, nI_pred, show (0 : Int64) = (nI 0).toInt64 from rfl, Option.bind_some]
    rcases rng (x := a3) 0 a' (by omega) (by omega) with ⟨hq, hw⟩ | ⟨v, n1, n2, rfl, q1, q2, hw⟩
    · rw [hw]
      rcases hq with hq | ⟨hq1, hq2⟩
      · rw [if_pos (show a3 < 0 from hq)]; exact idle _
      · rw [if_neg (show ¬ a3 < 0 from hq1), if_pos (show nI (a' + 1) ≤ a3 by
          rw [le_i, nI_toInt (by omega)]
          rw [lt_i, nI_toInt (by omega)] at hq2
          omega)]; exact idle _
    · rw [hw, if_neg (show ¬ nI v < 0 from q1), if_neg (nI_ge (show v < a' + 1 by omega) (by omega)), Option.bind_some, Option.bind_some, if_neg one0, if_neg one0, bind_id2, bind_id2, show (3 : Int32) + nI n = nI (3 + n) from nI_add 3 n]
      exact tell_ok (t := t) hF hRV c1 c2 hm (w := 1) (n := n) (v := v) (Or.inr (Or.inl ⟨rfl, hn, a' + 1, w5, w2, by omega⟩))
  · rw [if_neg (show ¬ (2 : Int32) = 0 by decide), if_neg (show ¬ (2 : Int32) = 0 by decide), if_neg (show ¬ (2 : Int32) = 1 by decide), if_neg (show ¬ (2 : Int32) = 1 by decide), if_pos rfl, if_pos rfl, hasDeed_eq hB.1.1 h12, isDeed_eq hB.1.2.1 h12, Option.bind_some, Option.bind_some]
    rcases hx_01 (n := nd) (a := a1) with h0 | ⟨n, hn, rfl, h1⟩
    · rw [h0]; exact idle _
    rw [h1, if_neg one0, if_neg one0, show (1 : Int64) = (nI 1).toInt64 from rfl, show (48 : Int64) = (nI 48).toInt64 from rfl]
    rcases rng (x := a3) 1 48 (by omega) (by omega) with ⟨hq, hw⟩ | ⟨v, n1, n2, rfl, q1, q2, hw⟩
    · rw [hw]
      rcases hq with hq | ⟨hq1, hq2⟩
      · rw [if_pos (show a3 < 1 from hq)]; exact idle _
      · rw [if_neg (show ¬ a3 < 1 from hq1), if_pos (show 48 < a3 from hq2)]; exact idle _
    · rw [hw, if_neg (show ¬ nI v < 1 from q1), if_neg (show ¬ 48 < nI v from q2), Option.bind_some, Option.bind_some, if_neg one0, if_neg one0, bind_id2, bind_id2, show (6 : Int32) + nI n = nI (6 + n) from nI_add 6 n]
      exact tell_ok (t := t) hF hRV c1 c2 hm (w := 2) (n := n) (v := v) (Or.inr (Or.inr (Or.inl ⟨rfl, hn, n1, n2⟩)))
  · rw [if_neg (show ¬ (3 : Int32) = 0 by decide), if_neg (show ¬ (3 : Int32) = 0 by decide), if_neg (show ¬ (3 : Int32) = 1 by decide), if_neg (show ¬ (3 : Int32) = 1 by decide), if_neg (show ¬ (3 : Int32) = 2 by decide), if_neg (show ¬ (3 : Int32) = 2 by decide), if_pos rfl, if_pos rfl, hasDeed_eq hB.1.1 h12, isDeed_eq hB.1.2.1 h12, Option.bind_some, Option.bind_some]
    rcases hx_01 (n := nd) (a := a1) with h0 | ⟨n, hn, rfl, h1⟩
    · rw [h0]; exact idle _
    rw [h1, if_neg one0, if_neg one0, show (0 : Int64) = (nI 0).toInt64 from rfl, show (3 : Int64) = (nI 3).toInt64 from rfl]
    rcases rng (x := a3) 0 3 (by omega) (by omega) with ⟨hq, hw⟩ | ⟨v, n1, n2, rfl, q1, q2, hw⟩
    · rw [hw]
      rcases hq with hq | ⟨hq1, hq2⟩
      · rw [if_pos (show a3 < 0 from hq)]; exact idle _
      · rw [if_neg (show ¬ a3 < 0 from hq1), if_pos (show 3 < a3 from hq2)]; exact idle _
    · rw [hw, if_neg (show ¬ nI v < 0 from q1), if_neg (show ¬ 3 < nI v from q2), Option.bind_some, Option.bind_some, if_neg one0, if_neg one0, bind_id2, bind_id2, show (18 : Int32) + nI n = nI (18 + n) from nI_add 18 n]
      exact tell_ok (t := t) hF hRV c1 c2 hm (w := 3) (n := n) (v := v) (Or.inr (Or.inr (Or.inr ⟨rfl, hn, n2⟩)))
  · rw [if_neg q0, if_neg q0, if_neg q1, if_neg q1, if_neg q2, if_neg q2, if_neg q3, if_neg q3]
    exact idle _
theorem st_undo (hF : 200 ≤ F) : ST_undo F (RR F) := by
  intro t S Z M ht hR
  have hR' := hR
  obtain ⟨nm, nv, nd, nb, hRV, c1, c2, hm⟩ := hR
  have h12 := hRV.2.1.1.2.2
  obtain ⟨dn, kp, q1, q2, q3, q4, q5, q6, q7⟩ := hRV.2.2.2.2.1
  unfold f_X10_undo f_X11_undo f_X3_takeBack
  rw [bind_id2, q3, q4]
  rcases dn with _ | k
  · rw [if_pos (show nI 0 ≤ 0 by decide), if_pos (show nI 0 = 0 from rfl)]
    exact ⟨_, _, _, rfl, rfl, RR_idle hR'⟩
  obtain ⟨n, w, v1, v2, e1, e2, e3, e4, e5, e6, e7, e8, e9⟩ := q7 k (by omega)
  obtain ⟨v0, y1, y2, y3, hp, hn⟩ := pl_old (Z := Z) hRV.1 hRV.2.1 e8
  obtain ⟨R, f1, f2, f3, f4, f5⟩ := forgets_ok hF (sf M 5 (nI k))
  rw [if_neg (nI_nle (by omega) (by omega)), if_pos (show nI (k + 1) ≤ 40 from nI_le (b := 40) (by omega) (by omega)), if_neg (nI_ne0 (by omega) (by omega)), nI_pred, inr_nI (show k < 40 by omega) (by omega), chk_true, chk_true, chk_true, cl_nI (show k < 2 ^ 31 by omega), f1, Option.bind_some, e1, e2, e3]
  have r5 : R.1 5 = nI k := by rw [f2]; rfl
  have rr1 : R.2.1 1 k = nI (plW w + n) := by rw [f4 1 (by omega)]; exact e5
  have rr2 : R.2.1 2 k = nI v1 := by rw [f4 2 (by omega)]; exact e6
  have hs : SH S (sf S 66 (nI k)) := ⟨fun j p => by
    show (if j = 66 then _ else S.1 j) = _
    rw [if_neg (by omega)], fun _ _ => rfl, rfl⟩
  have hM : MH M R := ⟨fun j p => by
    rw [f2]
    show (if j = 5 then _ else M.1 j) = _
    rw [if_neg (by omega)], fun j _ p => f4 j p, f3⟩
  have hc' : chV R nm nd w n v1 := e8.fr (fun j _ => by rw [f4 7 (by omega)]; rfl) (Nat.le_refl _) (Nat.le_refl _)
  have hRV1 : RV F (sf S 66 (nI k)) Z R nm nv nd nb := RV_h hRV hs hM ⟨k, kp, by omega, q2, rfl, r5, q5, by rw [f2]; exact q6, fun i hi => by
    rw [f4 1 (by omega), f4 2 (by omega), f4 3 (by omega)]
    exact (q7 i hi).mv (fun j _ => by rw [f4 7 (by omega)]; rfl)⟩
  rw [set_ok ⟨hRV1.1.1.1, hRV1.1.1.2.2⟩ ⟨hRV1.2.1.1.1, hRV1.2.1.1.2.2⟩ hc', Option.bind_some, r5, inr_nI (show k < 40 by omega) (by omega), chk_true, chk_true, cl_nI (show k < 2 ^ 31 by omega), rr1, rr2, inr_nI hp (by omega), chk_true, cl_nI (by omega)]
  exact ⟨nI k, _, _, rfl, rfl, RR_mk (RV_set hRV1 hc') (KCt_s (Or.inl rfl) c1 hs) (KCt_s (Or.inr rfl) c2 hs) (hm.zero h12 ⟨hM.1 29 (by omega), hM.2.1 26 (by omega) (by omega)⟩ (fun d hd => f5 d hd)) (by omega)⟩
theorem st_redo (hF : 200 ≤ F) : ST_redo F (RR F) := by
  intro t S Z M ht hR
  have hR' := hR
  obtain ⟨nm, nv, nd, nb, hRV, c1, c2, hm⟩ := hR
  have h12 := hRV.2.1.1.2.2
  obtain ⟨dn, kp, q1, q2, q3, q4, q5, q6, q7⟩ := hRV.2.2.2.2.1
  unfold f_X10_redo f_X11_redo f_X3_doAgain
  rw [bind_id2, q3, q4, q5, q6]
  by_cases h : dn = kp
  · subst h
    rw [if_pos (nI_le (Nat.le_refl _) (by omega)), if_pos rfl]
    exact ⟨_, _, _, rfl, rfl, RR_idle hR'⟩
  obtain ⟨n, w, v1, v2, e1, e2, e3, e4, e5, e6, e7, e8, e9⟩ := q7 dn (by omega)
  obtain ⟨v0, y1, y2, y3, hp, hn⟩ := pl_old (Z := Z) hRV.1 hRV.2.1 e9
  rw [if_neg (nI_ge (show dn < kp by omega) (by omega)), if_neg (ne_n h (by omega) (by omega)), if_pos (show nI dn < 40 from nI_lt (b := 40) (by omega) (by omega)), inr_nI (show dn < 40 by omega) (by omega), chk_true, chk_true, chk_true, chk_true, chk_true, cl_nI (show dn < 2 ^ 31 by omega), e1, e2, e4, e5, e7, inr_nI hp (by omega), chk_true, cl_nI (by omega), nI_1]
  obtain ⟨R, f1, f2, f3, f4, f5⟩ := forgets_ok hF (sf (sa M 0 (plW w + n) (nI v2)) 5 (nI (dn + 1)))
  rw [set_ok ⟨hRV.1.1.1, hRV.1.1.2.2⟩ ⟨hRV.2.1.1.1, hRV.2.1.1.2.2⟩ e9, f1, Option.bind_some, Option.bind_some]
  have hRV1 := RV_set hRV e9
  have r4 : R.1 4 = nI kp := by rw [f2]; exact q6
  have r5 : R.1 5 = nI (dn + 1) := by rw [f2]; rfl
  have hs : SH (sa S (plS w) n (nI v2)) (sf (sa S (plS w) n (nI v2)) 66 (nI (dn + 1))) := ⟨fun j p => by
    show (if j = 66 then _ else S.1 j) = S.1 j
    rw [if_neg (by omega)], fun _ _ => rfl, rfl⟩
  have hM : MH (sa M 0 (plW w + n) (nI v2)) R := ⟨fun j p => by
    rw [f2]
    show (if j = 5 then _ else M.1 j) = M.1 j
    rw [if_neg (by omega)], fun j _ p => f4 j p, f3⟩
  have hC1 := hRV1.2.2.2.2.1
  obtain ⟨dn', kp', z1, z2, z3, z4, z5, z6, z7⟩ := hC1
  have k1 : (sa S (plS w) n (nI v2)).1 67 = nI kp := q5
  have ekp : kp' = kp := by rw [k1] at z5; exact ((nI_eq (by omega) (by omega)).mp z5).symm
  subst ekp
  have hRV2 : RV F (sf (sa S (plS w) n (nI v2)) 66 (nI (dn + 1))) Z R nm nv nd nb := RV_h hRV1 hs hM ⟨dn + 1, kp', by omega, q2, rfl, r5, q5, r4, fun i hi => by
    rw [f4 1 (by omega), f4 2 (by omega), f4 3 (by omega)]
    exact (z7 i hi).mv (fun j _ => by rw [f4 7 (by omega)]; rfl)⟩
  have k3 : (sa S (plS w) n (nI v2)).1 66 = nI dn := q3
  rw [r4, r5, k1, k3, nI_1]
  refine ⟨_, _, _, rfl, rfl, RR_mk hRV2 (KCt.fr (KCt_s (w := w) (n := n) (x := nI v2) (Or.inl rfl) c1 ⟨fun _ _ => rfl, fun _ _ => rfl, rfl⟩) ⟨rfl, rfl, rfl⟩) (KCt.fr (KCt_s (w := w) (n := n) (x := nI v2) (Or.inr rfl) c2 ⟨fun _ _ => rfl, fun _ _ => rfl, rfl⟩) ⟨rfl, rfl, rfl⟩) (hm.zero h12 ⟨hM.1 29 (by omega), hM.2.1 26 (by omega) (by omega)⟩ (fun d hd => f5 d hd)) (by omega)⟩
end
