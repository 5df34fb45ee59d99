theorem Dk.plsub {τ : Type} {E : GE} {T : τ → State → Prop} {k n : Nat} {ws : va_W} {lv : List (Nat × Value)} {st : List Value} {pc : Nat} {e : Option τ} {ad ad' : Nat → Nat} {L L' : List Nat} {g g' : Nat → va_E} (σ : Nat → Nat) (hw : ws = pl ad L g) (hL : L.Nodup) (hL' : L'.Nodup) (hσ : ∀ i ∈ L', σ i ∈ L) (hinj : ∀ i ∈ L', ∀ j ∈ L', σ i = σ j → i = j) (ha : ∀ i ∈ L', ad' i = ad (σ i)) (hg : ∀ i ∈ L', g' i = g (σ i)) (kk : Dk E T k n (pl ad' L' g') lv st pc e) : Dk E T k n ws lv st pc e := by
  subst hw
  intro r hr H locs ls hP hD hS hv
  obtain ⟨h1, h2⟩ := pl_sub σ hL hL' hσ hinj ha hg hP hD
  exact kk r hr H locs ls h1 h2 hS hv
theorem cellC_2k {θ : TH} {ad Y Y2 : Nat → Nat} {S : St} {Z : Zt} (hY : ∀ j, j < 2000 → Y2 j = Y j) : ∀ i, i < 2000 → i ≠ 143 → cellC θ ad Y2 (S2k S) Z i = cellC θ ad Y S Z i := by
  intro i hi h143
  unfold cellC
  by_cases ho : i % 20 = 19
  · rw [if_pos ho, if_pos ho]
    congr 2
    unfold objC
    refine List.map_congr_left (fun kf hkf => ?_)
    have h3 := List.mem_range.mp hkf
    have h4 := KT_len (clC i)
    have h5 : ¬ 2000 ≤ i - 19 + kf := by omega
    have h6 := hY (i - 19 + kf) (by omega)
    unfold fvC
    simp only [S2k, h5, if_false, h6, hY 1079 (by decide)]
  · rw [if_neg ho, if_neg ho, if_neg h143, if_neg h143]
    have h5 : ¬ 2000 ≤ i := by omega
    simp only [S2k, h5, if_false]
theorem k_aload_nN {τ : Type} {E : GE} {own : String} {cc : ByteArray} {ret : Option FieldType} {h mc ms : Nat} {T : τ → State → Prop} {k n : Nat} {ws : va_W} {lv : List (Nat × Value)} {st : List Value} {pc : Nat} {e : Option τ} (C : CX E own cc ret h mc ms) {i : Fin 4} {j q : Nat} (d : decode cc pc = .ok (.aload_n i, 1)) (hi : (i : Nat) = j) (hl : lv[q]? = some (j, .null)) (kk : Dk E T k n ws lv (.null :: st) (pc + 1) e) : Dk E T k n ws lv st pc e := fun r hr H locs ls hP hD hS hv => lv_aload_nN C.x C.b d hi (lv_at hv q hl) (kk r hr H locs ls hP hD hS hv)
/-- what the maker of a law is handed: what held, and what comes behind -/
abbrev PH (θ : TH) (ad Y : Nat → Nat) (Z : Zt) (S : St) (m : Nat) : Option Value → va_W → Prop := fun v w => ∃ Y' : Nat → Nat, (∀ k, k < 3 → k ≠ m → Y' (1019 + 20 * k) = Y (1019 + 20 * k)) ∧ v = some (.ref (Y' (1019 + 20 * m))) ∧ w = pl (adr ad Y') (LC (zm m Z)) (gL θ ad Y' (hand m (Z.2 m) S) (zm m Z) (lawR Y Z))
set_option maxRecDepth 20000 in
theorem ho_A {l : Launch} {θ : TH} {ad Y : Nat → Nat} {S : St} {Z : Zt} {m : Nat} (hm : m < 3) (hz : Z.2 m = true) : Ct l θ yX5_handOut cX5_handOut 3 (some (.object "TwoMoons$Statute")) 2 6 607 [.ref (ad 119), .ref (Y (1019 + 20 * m))] (wdC θ ad Y Z S) (PH θ ad Y Z S m) :=
  Ct.of (by decide) (Nat.le_of_ble_eq_true rfl) (fun X hX C hin => by
    subst hX
    suffices h : Dk (mE X θ (wdC θ ad Y Z S) 3) (fun _ : Unit => MR (mE X θ (wdC θ ad Y Z S) 3) (wdC θ ad Y Z S) (PH θ ad Y Z S m) 6 607) 0 0 (wdC θ ad Y Z S) [(0, .ref (ad 119)), (1, .ref (Y (1019 + 20 * m)))] [] 0 (some ()) from h () rfl
    refine k_aload_n (q := 0) C dX5_handOut_0 rfl rfl ?_
    refine c_get (b := 100) (ci := 5) (kf := 4) (N := 5) C rfl ⟨rfl, rfl⟩ am_119 rfl lay_5 kk_5_4 fl_5_28 rfl dX5_handOut_1 ?_
    refine k_astore_n (lv' := [(2, .ref (Y 1079)), (0, .ref (ad 119)), (1, .ref (Y (1019 + 20 * m)))]) C dX5_handOut_4 rfl (Nat.le_of_ble_eq_true rfl) rfl ?_
    refine k_aload_n (q := 1) C dX5_handOut_5 rfl rfl ?_
    refine k_aload_n (q := 2) C dX5_handOut_6 rfl rfl ?_
    refine k_ifnonnull (tgt := 20) C dX5_handOut_7 (by decide) ?_
    refine k_aload_n (q := 2) C dX5_handOut_20 rfl rfl ?_
    refine k_put (kf := 4) (N := 5) (ci := 5) (L := LC Z) (ad := adr ad Y) (i := 119) (g' := fun j => if j = 119 then .inr (5, (objC ad Y S 100 5).set 4 (.ref (Y (1019 + 20 * m)))) else cellC θ ad Y S Z j) (ty := .object "TwoMoons$Statute") C (LC_nd Z) am_119 (cC_o (b := 100) ⟨rfl, rfl⟩) rfl lay_5 tyX5 tyX5_ok nmX5 (by decide) fl_5_28 rfl (by decide +kernel) rfl rfl (Nat.le_of_ble_eq_true rfl) (fun _ _ => rfl) dX5_handOut_21 ?_
    have hlt : ∀ i ∈ LC (zm m Z), i < 2000 := LC_lt
    have hLz : LC (zm m Z) = LC Z := by
      have e : ∀ j, (zm m Z).2 j = Z.2 j := fun j => by
        show (if j = m then true else Z.2 j) = Z.2 j
        split
        · rename_i h; rw [h, hz]
        · rfl
      rw [LC_b, LC_b, e, e, e]
    obtain ⟨p1, p2⟩ := pmA m hm (Z.2 0) (Z.2 1) (Z.2 2) (by
      have h3 : m = 0 ∨ m = 1 ∨ m = 2 := by omega
      rcases h3 with rfl | rfl | rfl <;> simpa using hz)
    refine Dk.plsub (ad' := adr ad (fun j => Y (pm m (1000 + 20 * m) j))) (L' := LC (zm m Z)) (g' := gL θ ad (fun j => Y (pm m (1000 + 20 * m) j)) (fun j => (S2k S).1 (pm m (1000 + 20 * m) j), fun j => (S2k S).2.1 (pm m (1000 + 20 * m) j), (S2k S).2.2) (zm m Z) (lawR Y Z)) (g := gH θ ad Y (S2k S) Z (1000 + 20 * m + 19) (lawR Y Z)) (pm m (1000 + 20 * m)) (pl_congr (fun i hi => ?_)) (LC_nd Z) (LC_nd _) (fun i hi => by rw [hLz] at hi; exact p1 i hi) (fun i hi j hj => by rw [hLz] at hi hj; exact p2 i hi j hj) (fun i hi => ?_) (fun i hi => ?_) ?_
    · unfold gH
      by_cases h1 : i = 119
      · subst h1
        rw [if_pos rfl, if_pos rfl, objC_5, objC_5, show 1000 + 20 * m + 19 = 1019 + 20 * m by omega]
        rfl
      · rw [if_neg h1, if_neg h1]
        by_cases h2 : i = 143
        · subst h2
          rfl
        · rw [if_neg h2, cellC_2k (fun _ _ => rfl) i (LC_lt i hi) h2]
    · unfold adr dynC
      by_cases h1 : i < 1000
      · rw [pm_lt hm h1]
        simp [pm_lt hm h1]
      · have h2 := pm_hi (m := m) hm (Or.inl rfl) (Nat.le_of_not_lt h1) (hlt i hi)
        rw [if_pos (by simp; omega), if_pos (by simp; omega)]
    · exact gH_gL (S := S2k S) (Z := Z) (Z' := zm m Z) hm (Or.inl rfl) rfl i (hlt i hi)
    · refine k_aload_n (q := 0) C dX5_handOut_24 rfl rfl ?_
      refine Dk.wide (k1 := 6) (n1 := 607) (Nat.zero_le _) (Nat.zero_le _) ?_
      refine k_aret (P := fun _ : Unit => PH θ ad Y Z S m) C (Or.inl ⟨_, rfl⟩) (Or.inr ⟨_, rfl⟩) ⟨fun j => Y (pm m (1000 + 20 * m) j), fun k hk hkm => ?_, ?_, ?_⟩ dX5_handOut_25
      · have e : pm m (1000 + 20 * m) (1019 + 20 * k) = 1019 + 20 * k := by unfold pm; rw [if_neg (by omega), if_neg (by omega)]
        show Y (pm m (1000 + 20 * m) (1019 + 20 * k)) = _
        rw [e]
      · have e : pm m (1000 + 20 * m) (1019 + 20 * m) = 1079 := by unfold pm; rw [if_pos (by omega)]; omega
        show some (Value.ref (Y 1079)) = some (Value.ref (Y (pm m (1000 + 20 * m) (1019 + 20 * m))))
        rw [e]
      · rw [hz]
        rfl)
set_option maxRecDepth 20000 in
theorem ho_B {l : Launch} {θ : TH} {ad Y : Nat → Nat} {S : St} {Z : Zt} {m : Nat} (hm : m < 3) (hz : Z.2 m = false) : Ct l θ yX5_handOut cX5_handOut 3 (some (.object "TwoMoons$Statute")) 2 6 607 [.ref (ad 119), .null] (wdC θ ad Y Z S) (PH θ ad Y Z S m) :=
  Ct.of (by decide) (Nat.le_of_ble_eq_true rfl) (fun X hX C hin => by
    subst hX
    suffices h : Dk (mE X θ (wdC θ ad Y Z S) 3) (fun _ : Unit => MR (mE X θ (wdC θ ad Y Z S) 3) (wdC θ ad Y Z S) (PH θ ad Y Z S m) 6 607) 0 0 (wdC θ ad Y Z S) [(0, .ref (ad 119)), (1, .null)] [] 0 (some ()) from h () rfl
    refine k_aload_n (q := 0) C dX5_handOut_0 rfl rfl ?_
    refine c_get (b := 100) (ci := 5) (kf := 4) (N := 5) C rfl ⟨rfl, rfl⟩ am_119 rfl lay_5 kk_5_4 fl_5_28 rfl dX5_handOut_1 ?_
    refine k_astore_n (lv' := [(2, .ref (Y 1079)), (0, .ref (ad 119)), (1, .null)]) C dX5_handOut_4 rfl (Nat.le_of_ble_eq_true rfl) rfl ?_
    refine k_aload_n (q := 1) C dX5_handOut_5 rfl rfl ?_
    refine k_aload_nN (q := 2) C dX5_handOut_6 rfl rfl ?_
    refine k_ifnonnullN C dX5_handOut_7 ?_
    refine l_new (ci := 8) (fs := [.null, .null, .null, .null, .null, .int 0, .int 0]) C rfl lay_8 tyX8 tyX8_ok cl_5_25 ins_8 ini_8 (fun j hj => by match j, hj with | 0, _ => rfl | 1, _ => rfl | 2, _ => rfl | 3, _ => rfl | 4, _ => rfl | 5, _ => rfl | 6, _ => rfl) ⟨Nat.le_of_ble_eq_true rfl, Nat.le_of_ble_eq_true rfl⟩ dX5_handOut_10 (fun q0 => ?_)
    refine k_dup C dX5_handOut_13 rfl ?_
    refine k_cI C (wdC θ ad Y Z S) (ci_8 q0) my_8_init ml_5_27 rfl ⟨Nat.le_of_ble_eq_true rfl, Nat.le_of_ble_eq_true rfl⟩ rfl rfl (Nat.le_of_ble_eq_true rfl) dX5_handOut_14 ⟨Nat.le_of_ble_eq_true rfl, Nat.le_of_ble_eq_true rfl⟩ (fun w hw => ?_)
    obtain ⟨q1, q2, q3, q4, q5, rfl⟩ := hw
    refine k_goto (tgt := 21) C dX5_handOut_17 (by decide) ?_
    obtain ⟨p, hpi, hp⟩ := pl_get (ad := adr ad Y) (g := cellC θ ad Y S Z) (show 119 ∈ LC Z from am_119)
    have hp' : (wdC θ ad Y Z S)[p]? = some (ad 119, .inr (5, objC ad Y S 100 5)) := hp
    have hlt : p < (wdC θ ad Y Z S).length := (List.getElem?_eq_some_iff.mp hp).1
    refine l_put (kf := 4) (N := 5) (ci := 5) (ty := .object "TwoMoons$Statute") C p (by rw [List.getElem?_append_left hlt]; exact hp') rfl lay_5 tyX5 tyX5_ok nmX5 (by decide) fl_5_28 rfl rfl ⟨rfl, rfl⟩ (Nat.le_of_ble_eq_true rfl) rfl dX5_handOut_21 ?_
    obtain ⟨Yx, hYx⟩ : ∃ Yx : Nat → Nat, Yx = fun j => if j = 2019 then q0 else if j = 2000 then q1 else if j = 2001 then q2 else if j = 2002 then q3 else if j = 2003 then q4 else if j = 2004 then q5 else Y j := ⟨_, rfl⟩
    have hYl : ∀ j, j < 2000 → Yx j = Y j := fun j hj => by
      rw [hYx]
      show (if j = 2019 then _ else _) = _
      rw [if_neg (by omega), if_neg (by omega), if_neg (by omega), if_neg (by omega), if_neg (by omega), if_neg (by omega)]
    have hlt2 : ∀ i ∈ LC (zm m Z), i < 2000 := LC_lt
    obtain ⟨p1, p2, p3⟩ := pmB m hm (Z.2 0) (Z.2 1) (Z.2 2) (by
      have h3 : m = 0 ∨ m = 1 ∨ m = 2 := by omega
      rcases h3 with rfl | rfl | rfl <;> simpa using hz)
    have hLz : LC (zm m Z) = LCb (bm m 0 (Z.2 0)) (bm m 1 (Z.2 1)) (bm m 2 (Z.2 2)) := by
      rw [LC_b]
      unfold zm bm
      simp only [eq_comm]
    refine Dk.plsub (ad := adr ad Yx) (L := LC Z ++ LN) (ad' := adr ad (fun j => Yx (pm m 2000 j))) (L' := LC (zm m Z)) (g' := gL θ ad (fun j => Yx (pm m 2000 j)) (fun j => (S2k S).1 (pm m 2000 j), fun j => (S2k S).2.1 (pm m 2000 j), (S2k S).2.2) (zm m Z) (lawR Y Z)) (g := gH θ ad Yx (S2k S) Z (2000 + 19) (lawR Y Z)) (pm m 2000) ?_ p3 (LC_nd _) (fun i hi => by rw [hLz] at hi; exact p1 i hi) (fun i hi j hj => by rw [hLz] at hi hj; exact p2 i hi j hj) (fun i hi => ?_) (fun i hi => ?_) ?_
    · rw [List.set_append_left _ _ hlt]
      unfold pl
      rw [List.map_append]
      congr 1
      · have e1 : (wdC θ ad Y Z S).set p (adr ad Y 119, .inr (5, (objC ad Y S 100 5).set 4 (.ref q0))) = pl (adr ad Y) (LC Z) (fun j => if j = 119 then .inr (5, (objC ad Y S 100 5).set 4 (.ref q0)) else cellC θ ad Y S Z j) := pl_set (LC_nd Z) hpi
        refine Eq.trans (show _ = _ from e1) ?_
        unfold pl
        refine List.map_congr_left (fun i hi => ?_)
        have hi2 := LC_lt i hi
        congr 1
        · unfold adr
          split
          · exact (hYl i hi2).symm
          · rfl
        · unfold gH
          dsimp only
          by_cases h1 : i = 119
          · subst h1
            rw [if_pos rfl, if_pos rfl, objC_5, objC_5, hYl 1079 (by decide), hYx]
            rfl
          · rw [if_neg h1, if_neg h1]
            by_cases h2 : i = 143
            · subst h2
              rfl
            · rw [if_neg h2, cellC_2k hYl i hi2 h2]
      · subst hYx
        rfl
    · unfold adr dynC
      by_cases h1 : i < 1000
      · rw [pm_lt hm h1]
        simp [pm_lt hm h1]
      · have h2 := pm_hi (m := m) hm (Or.inr rfl) (Nat.le_of_not_lt h1) (hlt2 i hi)
        rw [if_pos (by simp; omega), if_pos (by simp; omega)]
    · exact gH_gL (S := S2k S) (Z := Z) (Z' := zm m Z) hm (Or.inr rfl) rfl i (hlt2 i hi)
    · refine k_aload_n (q := 0) C dX5_handOut_24 rfl rfl ?_
      refine Dk.wide (k1 := 6) (n1 := 607) (Nat.le_of_ble_eq_true rfl) (Nat.le_of_ble_eq_true rfl) ?_
      refine k_aret (P := fun _ : Unit => PH θ ad Y Z S m) C (Or.inl ⟨_, rfl⟩) (Or.inr ⟨_, rfl⟩) ⟨fun j => Yx (pm m 2000 j), fun k hk hkm => ?_, ?_, ?_⟩ dX5_handOut_25
      · have e : pm m 2000 (1019 + 20 * k) = 1019 + 20 * k := by unfold pm; rw [if_neg (by omega), if_neg (by omega)]
        show Yx (pm m 2000 (1019 + 20 * k)) = _
        rw [e, hYl _ (by omega)]
      · have e : pm m 2000 (1019 + 20 * m) = 1079 := by unfold pm; rw [if_pos (by omega)]; omega
        show some (Value.ref (Y 1079)) = some (Value.ref (Yx (pm m 2000 (1019 + 20 * m))))
        rw [e, hYl 1079 (by decide)]
      · rw [hz]
        rfl)
/-- the sky's law becomes what was read -/
def f_X7_setLaw (S : St) (Z : Zt) (a1 : Int32) : Option (St × Zt) := (f_X7_hasMoon Z S a1).bind fun r1 => if r1 = 0 then some (S, Z) else chk (inr a1 3) (some (hand a1.toNatClampNeg (Z.2 a1.toNatClampNeg) S, zm a1.toNatClampNeg Z))
theorem gL_set {θ : TH} {ad Y' : Nat → Nat} {S : St} {Z : Zt} {lw : Nat → Option Nat} {m : Nat} (hm : m < 3) (hl : ∀ k, k < 3 → k ≠ m → lw k = lawR Y' (zm m Z) k) : ∀ j, cellC θ ad Y' S (zm m Z) j = if j = 143 then lawcell θ (fun k => if k < 3 then (va_up lw m (some (Y' (1019 + 20 * m)))) k else none) else gL θ ad Y' S (zm m Z) lw j := by
  intro j
  by_cases hj : j = 143
  · subst hj
    rw [if_pos rfl]
    show lawcell θ (lawR Y' (zm m Z)) = _
    congr 1
    funext k
    unfold va_up
    by_cases hk : k < 3
    · rw [if_pos hk]
      by_cases hkm : k = m
      · subst hkm
        rw [if_pos rfl]
        simp [lawR, zm, hk]
      · rw [if_neg hkm, hl k hk hkm]
    · rw [if_neg hk]
      simp [lawR, hk]
  · rw [if_neg hj]
    unfold gL
    rw [if_neg hj]
theorem ho_c {l : Launch} {θ : TH} {ad Y : Nat → Nat} {S : St} {Z : Zt} {a1 : Int32} (hm : a1.toNatClampNeg < 3) : Ct l θ yX5_handOut cX5_handOut 3 (some (.object "TwoMoons$Statute")) 2 6 607 [.ref (ad 119), lawV Y (lawQ Z a1)] (wdC θ ad Y Z S) (PH θ ad Y Z S a1.toNatClampNeg) := by
  cases hz : Z.2 a1.toNatClampNeg with
  | true =>
    have e : lawQ Z a1 = some a1.toNatClampNeg := if_pos ⟨hm, hz⟩
    rw [e]
    exact ho_A hm hz
  | false =>
    have e : lawQ Z a1 = none := if_neg (fun q => by rw [hz] at q; exact absurd q.2 (by decide))
    rw [e]
    exact ho_B hm hz
set_option maxRecDepth 20000 in
theorem kw_X7_setLaw {X : GX} {θ : TH} {ad Y : Nat → Nat} {S : St} {Z : Zt} {a1 : Int32} (C : CX (mE X θ (wdC θ ad Y Z S) 3) RX7 cX7_setLaw none 3 6 607) : Dk (mE X θ (wdC θ ad Y Z S) 3) (mTa X θ (wdC θ ad Y Z S) 3 6 607 (PVA θ ad)) 0 0 (wdC θ ad Y Z S) [(0, .ref (ad 159)), (1, .int a1), (2, .ref (ad 119))] [] 0 (f_X7_setLaw S Z a1) := by
  have hb : BE 0 0 6 607 := ⟨Nat.zero_le _, Nat.zero_le _⟩
  refine k_aload_n (q := 0) C dX7_setLaw_0 rfl rfl ?_
  refine k_iload_n (q := 1) C dX7_setLaw_1 rfl rfl ?_
  refine k_cVI C ct_X7_hasMoon my_7_hasMoon ml_7_50 rfl ⟨Nat.le_of_ble_eq_true rfl, Nat.le_of_ble_eq_true rfl⟩ (recvC (b := 140) (ci := 7) rfl ⟨rfl, rfl⟩ am_159 rfl rfl) rfl (Nat.le_of_ble_eq_true rfl) dX7_setLaw_2 hb (fun r1 _ => ?_)
  refine k_if_eq (tgt := 24) C dX7_setLaw_5 (by decide) (fun _ => ?_) (fun _ => ?_)
  · exact k_vretA hb C ⟨rfl, _, rfl⟩ dX7_setLaw_24
  · refine k_aload_n (q := 0) C dX7_setLaw_8 rfl rfl ?_
    refine c_get (b := 140) (ci := 7) (kf := 3) (N := 10) C rfl ⟨rfl, rfl⟩ am_159 rfl lay_7 kk_7_3 fl_7_23 rfl dX7_setLaw_9 ?_
    refine k_iload_n (q := 1) C dX7_setLaw_12 rfl rfl ?_
    refine k_aload_n (q := 2) C dX7_setLaw_13 rfl rfl ?_
    refine k_aload_n (q := 0) C dX7_setLaw_14 rfl rfl ?_
    refine c_get (b := 140) (ci := 7) (kf := 3) (N := 10) C rfl ⟨rfl, rfl⟩ am_159 rfl lay_7 kk_7_3 fl_7_23 rfl dX7_setLaw_15 ?_
    refine k_iload_n (q := 1) C dX7_setLaw_18 rfl rfl ?_
    refine k_chk fun hx => Dk.eq (chk_t hx).symm ?_
    refine c_lawld C dX7_setLaw_19 ?_
    have hm : a1.toNatClampNeg < 3 := Nat.not_le.mp fun q => (inr_in hx) (Or.inr q)
    refine fun r hr => g_callV (fun w => w) (Or.inl ⟨rfl, rfl⟩) C (ho_c hm) my_5_handOut ml_7_53 rfl ⟨Nat.le_of_ble_eq_true rfl, Nat.le_of_ble_eq_true rfl⟩ (recvC (b := 100) (ci := 5) rfl ⟨rfl, rfl⟩ am_119 rfl rfl) rfl (Nat.le_of_ble_eq_true rfl) dX7_setLaw_20 ⟨Nat.le_of_ble_eq_true rfl, Nat.le_of_ble_eq_true rfl⟩ (fun v w hp => ?_)
    obtain ⟨Y', hY, rfl, rfl⟩ := hp
    cases hr
    have hmem : 1019 + 20 * a1.toNatClampNeg ∈ LC (zm a1.toNatClampNeg Z) := by
      have hz : (zm a1.toNatClampNeg Z).2 a1.toNatClampNeg = true := if_pos rfl
      generalize zm a1.toNatClampNeg Z = Z' at hz ⊢
      revert hz
      match a1.toNatClampNeg, hm with
      | 0, _ => exact fun hz => LC_s0 hz (by decide)
      | 1, _ => exact fun hz => LC_s1 hz (by decide)
      | 2, _ => exact fun hz => LC_s2 hz (by decide)
    intro H locs ls hP hD hS hv
    obtain ⟨q, hqi, hq⟩ := pl_get (ad := adr ad Y') (g := gL θ ad Y' (hand a1.toNatClampNeg (Z.2 a1.toNatClampNeg) S) (zm a1.toNatClampNeg Z) (lawR Y Z)) (show 143 ∈ LC (zm a1.toNatClampNeg Z) from am_143)
    obtain ⟨qk, -, hqk⟩ := pl_get (ad := adr ad Y') (g := gL θ ad Y' (hand a1.toNatClampNeg (Z.2 a1.toNatClampNeg) S) (zm a1.toNatClampNeg Z) (lawR Y Z)) hmem
    have e1 : adr ad Y' (1019 + 20 * a1.toNatClampNeg) = Y' (1019 + 20 * a1.toNatClampNeg) := by
      unfold adr dynC
      rw [if_pos (by simp; omega)]
    have e2 : gL θ ad Y' (hand a1.toNatClampNeg (Z.2 a1.toNatClampNeg) S) (zm a1.toNatClampNeg Z) (lawR Y Z) (1019 + 20 * a1.toNatClampNeg) = .inr (8, objC ad Y' (hand a1.toNatClampNeg (Z.2 a1.toNatClampNeg) S) (1000 + 20 * a1.toNatClampNeg) 8) := by
      unfold gL
      rw [if_neg (by omega), show 1019 + 20 * a1.toNatClampNeg = (1000 + 20 * a1.toNatClampNeg) + 19 by omega, cC_o ⟨by omega, by unfold clC; rw [if_pos (by omega)]⟩]
    rw [e1, e2] at hqk
    refine va_astq C.x C.b C.k hP hD hS q 2 qk 8 hq rfl hqk rfl (inr_in hx) dX7_setLaw_23 (fun H1 locs1 h1 h2 h3 => ?_)
    have es : (pl (adr ad Y') (LC (zm a1.toNatClampNeg Z)) (gL θ ad Y' (hand a1.toNatClampNeg (Z.2 a1.toNatClampNeg) S) (zm a1.toNatClampNeg Z) (lawR Y Z))).set q (adr ad Y' 143, lawcell θ (va_up (lawR Y Z) a1.toNatClampNeg (some (Y' (1019 + 20 * a1.toNatClampNeg))))) = wdC θ ad Y' (zm a1.toNatClampNeg Z) (hand a1.toNatClampNeg (Z.2 a1.toNatClampNeg) S) := by
      refine (pl_set (LC_nd _) hqi).trans (pl_congr (fun j _ => ?_))
      rw [gL_set (lw := lawR Y Z) hm (fun k hk hkm => by
        unfold lawR
        rw [hY k hk hkm]
        simp [zm, hkm]) j]
      by_cases hj : j = 143
      · rw [if_pos hj, if_pos hj]
        congr 1
        funext k
        by_cases hk : k < 3
        · rw [if_pos hk]
        · rw [if_neg hk]
          unfold va_up
          rw [if_neg (by omega)]
          simp [lawR, hk]
      · rw [if_neg hj, if_neg hj]
    have h1 : va_P θ.1 vwCl (wdC θ ad Y' (zm a1.toNatClampNeg Z) (hand a1.toNatClampNeg (Z.2 a1.toNatClampNeg) S)) H1 := by rw [← es]; exact h1
    have h2 : va_D (va_A (wdC θ ad Y Z S) X.2.2.2.2.1.heap.size) (wdC θ ad Y' (zm a1.toNatClampNeg Z) (hand a1.toNatClampNeg (Z.2 a1.toNatClampNeg) S)) := by rw [← es]; exact h2
    exact k_vretA (P := PVA θ ad) (r0 := (hand a1.toNatClampNeg (Z.2 a1.toNatClampNeg) S, zm a1.toNatClampNeg Z)) ⟨Nat.le_refl _, Nat.le_refl _⟩ C ⟨rfl, _, rfl⟩ dX7_setLaw_24 _ rfl H1 locs1 ls h1 h2 h3 hv
theorem ct_X7_setLaw {l : Launch} {θ : TH} {ad Y : Nat → Nat} {S : St} {Z : Zt} {a1 : Int32} : ∀ r, f_X7_setLaw S Z a1 = some r → Ct l θ yX7_setLaw cX7_setLaw 3 none 3 6 607 [.ref (ad 159), .int a1, .ref (ad 119)] (wdC θ ad Y Z S) (PVA θ ad r) :=
  fun r hr => Ct.of (by decide) (Nat.le_of_ble_eq_true rfl) (fun X _ C _ => kw_X7_setLaw C r hr)
abbrev BDL (k n : Nat) (Z : Zt) (MC MS : Nat) : Prop := k + 6 ≤ MC ∧ n + 607 ≤ MS
theorem BDL.e {k n MC MS : Nat} {Z : Zt} (h : BDL k n Z MC MS) : BE k n MC MS := ⟨Nat.le_trans (Nat.le_add_right _ _) h.1, Nat.le_trans (Nat.le_add_right _ _) h.2⟩
theorem BDL.z {Z : Zt} : BDL 0 0 Z 6 607 := ⟨Nat.le_refl _, Nat.le_refl _⟩
