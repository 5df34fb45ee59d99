theorem ct_X4_upAt_80 {l : Launch} {θ : TH} {ad Y : Nat → Nat} {S : St} {F : Nat} {Z : Zt} {a1 : Int32}  : ∀ r, f_X4_upAt F 80 Z S a1 = some r → Ct l θ yX4_upAt cX4_upAt 3 (some .int) 2 0 0 [.ref (ad 99), .int a1] (wdC θ ad Y Z S) (PIS (wdC θ ad Y Z) r) :=
  fun r hr => Ct.of (by decide +kernel) (Nat.le_of_ble_eq_true rfl) (fun X _ C _ => kw_X4_upAt_80 C  r hr)
set_option maxRecDepth 20000 in
theorem kw_X4_upAt_300 {X : GX} {θ : TH} {ad Y : Nat → Nat} {F : Nat} {Z : Zt} {S : St} {a1 : Int32} (C : CX (mE X θ (wdC θ ad Y Z S) 3) RX4 cX4_upAt (some .int) 2 0 0)  : Dk (mE X θ (wdC θ ad Y Z S) 3) (mT X θ (wdC θ ad Y Z S) 3 (PIS (wdC θ ad Y Z))) 0 0 (wdC θ ad Y Z S) [(0, .ref (ad 319)), (1, .int a1)] [] 0 (f_X4_upAt F 300 Z S a1) := by
  show Dk _ _ _ _ _ _ _ _ (chk (inr (a1 &&& 63) 64) ((if (S.2.1 304 (a1 &&& 63).toNatClampNeg) = a1 then chk (inr (a1 &&& 63) 64) (some (S.2.1 305 (a1 &&& 63).toNatClampNeg, S)) else chk (inr (a1 &&& 63) 64) ((f_X7_upIn F Z (sa S 304 (a1 &&& 63).toNatClampNeg a1) (S.1 308) a1).bind fun r1 => chk (inr (a1 &&& 63) 64) (chk (inr (a1 &&& 63) 64) (some ((sa (sa S 304 (a1 &&& 63).toNatClampNeg a1) 305 (a1 &&& 63).toNatClampNeg r1).2.1 305 (a1 &&& 63).toNatClampNeg, sa (sa S 304 (a1 &&& 63).toNatClampNeg a1) 305 (a1 &&& 63).toNatClampNeg r1)))))))
  refine k_iload_n (q := 1) C dX4_upAt_0 rfl rfl ?_
  refine k_bipush (v := 63) C dX4_upAt_1 rfl ?_
  refine k_iand C dX4_upAt_3 ?_
  refine k_istore_n (lv' := [(2, .int (a1 &&& 63)), (0, .ref (ad 319)), (1, .int a1)]) C dX4_upAt_4 rfl (Nat.le_of_ble_eq_true rfl) rfl ?_
  refine k_aload_n (q := 1) C dX4_upAt_5 rfl rfl ?_
  refine c_get (b := 300) (ci := 4) (kf := 4) (N := 11) C rfl ⟨rfl, rfl⟩ am_319 rfl lay_4 kk_4_4 fl_4_18 rfl dX4_upAt_6 ?_
  refine k_iload_n (q := 0) C dX4_upAt_9 rfl rfl ?_
  refine c_iald (i := 304) (v := S.2.1 304 (a1 &&& 63).toNatClampNeg) C rfl am_304 ak_304 rfl rfl dX4_upAt_10 ?_
  refine k_iload_n (q := 2) C dX4_upAt_11 rfl rfl ?_
  refine k_icmp_eq (tgt := 40) C dX4_upAt_12 (by decide) (fun _ => ?_) (fun _ => ?_)
  · refine k_aload_n (q := 1) C dX4_upAt_40 rfl rfl ?_
    refine c_get (b := 300) (ci := 4) (kf := 5) (N := 11) C rfl ⟨rfl, rfl⟩ am_319 rfl lay_4 kk_4_5 fl_4_21 rfl dX4_upAt_41 ?_
    refine k_iload_n (q := 0) C dX4_upAt_44 rfl rfl ?_
    refine c_iald (i := 305) (v := S.2.1 305 (a1 &&& 63).toNatClampNeg) C rfl am_305 ak_305 rfl rfl dX4_upAt_45 ?_
    exact k_iret C rfl ⟨rfl, rfl⟩ dX4_upAt_46
  · refine k_aload_n (q := 1) C dX4_upAt_15 rfl rfl ?_
    refine c_get (b := 300) (ci := 4) (kf := 4) (N := 11) C rfl ⟨rfl, rfl⟩ am_319 rfl lay_4 kk_4_4 fl_4_18 rfl dX4_upAt_16 ?_
    refine k_iload_n (q := 0) C dX4_upAt_19 rfl rfl ?_
    refine k_iload_n (q := 2) C dX4_upAt_20 rfl rfl ?_
    refine c_iast (i := 304) C rfl am_304 ak_304 rfl dX4_upAt_21 ?_
    refine k_aload_n (q := 1) C dX4_upAt_22 rfl rfl ?_
    refine c_get (b := 300) (ci := 4) (kf := 5) (N := 11) C rfl ⟨rfl, rfl⟩ am_319 rfl lay_4 kk_4_5 fl_4_21 rfl dX4_upAt_23 ?_
    refine k_iload_n (q := 0) C dX4_upAt_26 rfl rfl ?_
    refine k_aload_n (q := 1) C dX4_upAt_27 rfl rfl ?_
    refine c_get (b := 300) (ci := 4) (kf := 0) (N := 11) C rfl ⟨rfl, rfl⟩ am_319 rfl lay_4 kk_4_0 fl_4_40 rfl dX4_upAt_28 ?_
    refine k_aload_n (q := 1) C dX4_upAt_31 rfl rfl ?_
    refine c_get (b := 300) (ci := 4) (kf := 8) (N := 11) (v := .int (S.1 308)) C rfl ⟨rfl, rfl⟩ am_319 rfl lay_4 kk_4_8 fl_4_31 rfl dX4_upAt_32 ?_
    refine k_iload_n (q := 2) C dX4_upAt_35 rfl rfl ?_
    refine k_cVI C ct_X7_upIn my_7_upIn ml_4_68 rfl ⟨Nat.le_of_ble_eq_true rfl, Nat.le_of_ble_eq_true rfl⟩ (recvC (b := 140) (ci := 7) rfl ⟨rfl, rfl⟩ am_159 rfl rfl) rfl (Nat.le_of_ble_eq_true rfl) dX4_upAt_36 ⟨Nat.le_refl _, Nat.le_refl _⟩ (fun r1 _ => ?_)
    refine c_iast (i := 305) C rfl am_305 ak_305 rfl dX4_upAt_39 ?_
    refine k_aload_n (q := 1) C dX4_upAt_40 rfl rfl ?_
    refine c_get (b := 300) (ci := 4) (kf := 5) (N := 11) C rfl ⟨rfl, rfl⟩ am_319 rfl lay_4 kk_4_5 fl_4_21 rfl dX4_upAt_41 ?_
    refine k_iload_n (q := 0) C dX4_upAt_44 rfl rfl ?_
    refine c_iald (i := 305) (v := (sa (sa S 304 (a1 &&& 63).toNatClampNeg a1) 305 (a1 &&& 63).toNatClampNeg r1).2.1 305 (a1 &&& 63).toNatClampNeg) C rfl am_305 ak_305 rfl rfl dX4_upAt_45 ?_
    exact k_iret C rfl ⟨rfl, rfl⟩ dX4_upAt_46
theorem ct_X4_upAt_300 {l : Launch} {θ : TH} {ad Y : Nat → Nat} {S : St} {F : Nat} {Z : Zt} {a1 : Int32}  : ∀ r, f_X4_upAt F 300 Z S a1 = some r → Ct l θ yX4_upAt cX4_upAt 3 (some .int) 2 0 0 [.ref (ad 319), .int a1] (wdC θ ad Y Z S) (PIS (wdC θ ad Y Z) r) :=
  fun r hr => Ct.of (by decide +kernel) (Nat.le_of_ble_eq_true rfl) (fun X _ C _ => kw_X4_upAt_300 C  r hr)
set_option maxRecDepth 20000 in
theorem kw_X7_hasMoon {X : GX} {θ : TH} {ad Y : Nat → Nat} {Z : Zt} {S : St} {a1 : Int32} (C : CX (mE X θ (wdC θ ad Y Z S) 2) RX7 cX7_hasMoon (some .boolean) 0 0 0)  : Dk (mE X θ (wdC θ ad Y Z S) 2) (mT X θ (wdC θ ad Y Z S) 2 (PI (wdC θ ad Y Z S))) 0 0 (wdC θ ad Y Z S) [(0, .ref (ad 159)), (1, .int a1)] [] 0 (f_X7_hasMoon Z S a1) := by
  show Dk _ _ _ _ _ _ _ _ (if a1 < 0 then some ((0 : Int32)) else if (S.1 148) ≤ a1 then some ((0 : Int32)) else if (3 : Int32) ≤ a1 then some ((0 : Int32)) else some ((1 : Int32)))
  refine k_iload_n (q := 1) C dX7_hasMoon_0 rfl rfl ?_
  refine k_if_lt (tgt := 21) C dX7_hasMoon_1 (by decide) (fun _ => ?_) (fun _ => ?_)
  · refine k_iconst (v := 0) C dX7_hasMoon_21 rfl ?_
    exact k_iret C rfl ⟨rfl, rfl⟩ dX7_hasMoon_22
  · refine k_iload_n (q := 1) C dX7_hasMoon_4 rfl rfl ?_
    refine k_aload_n (q := 0) C dX7_hasMoon_5 rfl rfl ?_
    refine c_get (b := 140) (ci := 7) (kf := 8) (N := 10) (v := .int (S.1 148)) C rfl ⟨rfl, rfl⟩ am_159 rfl lay_7 kk_7_8 fl_7_39 rfl dX7_hasMoon_6 ?_
    refine k_icmp_ge (tgt := 21) C dX7_hasMoon_9 (by decide) (fun _ => ?_) (fun _ => ?_)
    · refine k_iconst (v := 0) C dX7_hasMoon_21 rfl ?_
      exact k_iret C rfl ⟨rfl, rfl⟩ dX7_hasMoon_22
    · refine k_iload_n (q := 1) C dX7_hasMoon_12 rfl rfl ?_
      refine k_iconst (v := 3) C dX7_hasMoon_13 rfl ?_
      refine k_icmp_ge (tgt := 21) C dX7_hasMoon_14 (by decide) (fun _ => ?_) (fun _ => ?_)
      · refine k_iconst (v := 0) C dX7_hasMoon_21 rfl ?_
        exact k_iret C rfl ⟨rfl, rfl⟩ dX7_hasMoon_22
      · refine k_iconst (v := 1) C dX7_hasMoon_17 rfl ?_
        refine k_goto (tgt := 22) C dX7_hasMoon_18 (by decide) ?_
        exact k_iret C rfl ⟨rfl, rfl⟩ dX7_hasMoon_22
theorem ct_X7_hasMoon {l : Launch} {θ : TH} {ad Y : Nat → Nat} {S : St} {Z : Zt} {a1 : Int32}  : ∀ r, f_X7_hasMoon Z S a1 = some r → Ct l θ yX7_hasMoon cX7_hasMoon 2 (some .boolean) 0 0 0 [.ref (ad 159), .int a1] (wdC θ ad Y Z S) (PI (wdC θ ad Y Z S) r) :=
  fun r hr => Ct.of (by decide +kernel) (Nat.le_of_ble_eq_true rfl) (fun X _ C _ => kw_X7_hasMoon C  r hr)
set_option maxRecDepth 20000 in
theorem kw_X7_lawOf {X : GX} {θ : TH} {ad Y : Nat → Nat} {Z : Zt} {S : St} {a1 : Int32} (C : CX (mE X θ (wdC θ ad Y Z S) 2) RX7 cX7_lawOf (some (.object "TwoMoons$Statute")) 1 0 0)  : Dk (mE X θ (wdC θ ad Y Z S) 2) (mT X θ (wdC θ ad Y Z S) 2 (PQ Y (wdC θ ad Y Z S))) 0 0 (wdC θ ad Y Z S) [(0, .ref (ad 159)), (1, .int a1)] [] 0 (f_X7_lawOf Z S a1) := by
  show Dk _ _ _ _ _ _ _ _ ((f_X7_hasMoon Z S a1).bind fun r1 => (if r1 = 0 then some none else chk (inr a1 3) (some (lawQ Z a1))))
  refine k_aload_n (q := 0) C dX7_lawOf_0 rfl rfl ?_
  refine k_iload_n (q := 1) C dX7_lawOf_1 rfl rfl ?_
  refine k_cVI C ct_X7_hasMoon my_7_hasMoon ml_7_50 rfl ⟨Nat.le_of_ble_eq_true rfl, Nat.le_of_ble_eq_true rfl⟩ (recvC (b := 140) (ci := 7) rfl ⟨rfl, rfl⟩ am_159 rfl rfl) rfl (Nat.le_of_ble_eq_true rfl) dX7_lawOf_2 ⟨Nat.le_refl _, Nat.le_refl _⟩ (fun r1 _ => ?_)
  refine k_if_eq (tgt := 17) C dX7_lawOf_5 (by decide) (fun _ => ?_) (fun _ => ?_)
  · refine k_null C dX7_lawOf_17 ?_
    exact k_aretQ (Y := Y) (x := none) C ⟨rfl, rfl⟩ dX7_lawOf_18
  · refine k_aload_n (q := 0) C dX7_lawOf_8 rfl rfl ?_
    refine c_get (b := 140) (ci := 7) (kf := 3) (N := 10) C rfl ⟨rfl, rfl⟩ am_159 rfl lay_7 kk_7_3 fl_7_23 rfl dX7_lawOf_9 ?_
    refine k_iload_n (q := 1) C dX7_lawOf_12 rfl rfl ?_
    refine c_lawld C dX7_lawOf_13 ?_
    refine k_goto (tgt := 18) C dX7_lawOf_14 (by decide) ?_
    exact k_aretQ (Y := Y) (x := lawQ Z a1) C ⟨rfl, rfl⟩ dX7_lawOf_18
theorem ct_X7_lawOf {l : Launch} {θ : TH} {ad Y : Nat → Nat} {S : St} {Z : Zt} {a1 : Int32}  : ∀ r, f_X7_lawOf Z S a1 = some r → Ct l θ yX7_lawOf cX7_lawOf 2 (some (.object "TwoMoons$Statute")) 1 0 0 [.ref (ad 159), .int a1] (wdC θ ad Y Z S) (PQ Y (wdC θ ad Y Z S) r) :=
  fun r hr => Ct.of (by decide +kernel) (Nat.le_of_ble_eq_true rfl) (fun X _ C _ => kw_X7_lawOf C  r hr)
set_option maxRecDepth 20000 in
theorem kb_X8_firstThatCounts_B52_1000_83 {X : GX} {θ : TH} {ad Y : Nat → Nat} {F : Nat} {Z : Zt} {S : St} {K2 : Int32 → Option (Int32)} (C : CX (mE X θ (wdC θ ad Y Z S) 6) RX8 cX8_firstThatCounts (some .int) 0 0 0) (hz : Z.2 0 = true) (hK2 : ∀ (x2 : Int32), Dk (mE X θ (wdC θ ad Y Z S) 6) (mT X θ (wdC θ ad Y Z S) 6 (PI (wdC θ ad Y Z S))) 0 0 (wdC θ ad Y Z S) [(0, .ref (Y 1019)), (1, .ref (ad 83)), (2, .int x2)] [] 2 (K2 x2)) (x2 : Int32) (x4 : Int32) (t0 : Int32) : Dk (mE X θ (wdC θ ad Y Z S) 6) (mT X θ (wdC θ ad Y Z S) 6 (PI (wdC θ ad Y Z S))) 0 0 (wdC θ ad Y Z S) [(0, .ref (Y 1019)), (1, .ref (ad 83)), (2, .int x2), (4, .int x4)] [.int t0] 52 (f_X8_firstThatCounts_B52 F 1000 83 Z S K2 x2 x4 t0) := by
  show Dk _ _ _ _ _ _ _ _ (if t0 = 0 then K2 (x2 + 1) else if x4 < 0 then K2 (x2 + 1) else if (120 : Int32) ≤ x4 then K2 (x2 + 1) else chk (inr x4 120) (some (S.2.1 83 (x4).toNatClampNeg)))
  refine k_istore (lv' := [(5, .int t0), (0, .ref (Y 1019)), (1, .ref (ad 83)), (2, .int x2), (4, .int x4)]) C dX8_firstThatCounts_52 (Nat.le_of_ble_eq_true rfl) rfl ?_
  refine k_iload (q := 0) C dX8_firstThatCounts_54 rfl ?_
  refine k_if_eq (tgt := 76) C dX8_firstThatCounts_56 (by decide) (fun _ => ?_) (fun _ => ?_)
  · refine k_iinc (q := 3) (v := x2 + 1) (lv' := [(2, .int (x2 + 1)), (5, .int t0), (0, .ref (Y 1019)), (1, .ref (ad 83)), (4, .int x4)]) C dX8_firstThatCounts_76 rfl rfl (Nat.le_of_ble_eq_true rfl) rfl ?_
    refine k_goto (tgt := 2) C dX8_firstThatCounts_79 (by decide) ?_
    refine Dk.loc [2, 3, 0] rfl ?_
    exact hK2 _
  · refine k_iload (q := 4) C dX8_firstThatCounts_59 rfl ?_
    refine k_if_lt (tgt := 76) C dX8_firstThatCounts_61 (by decide) (fun _ => ?_) (fun _ => ?_)
    · refine k_iinc (q := 3) (v := x2 + 1) (lv' := [(2, .int (x2 + 1)), (5, .int t0), (0, .ref (Y 1019)), (1, .ref (ad 83)), (4, .int x4)]) C dX8_firstThatCounts_76 rfl rfl (Nat.le_of_ble_eq_true rfl) rfl ?_
      refine k_goto (tgt := 2) C dX8_firstThatCounts_79 (by decide) ?_
      refine Dk.loc [2, 3, 0] rfl ?_
      exact hK2 _
    · refine k_iload (q := 4) C dX8_firstThatCounts_64 rfl ?_
      refine k_aload_n (q := 2) C dX8_firstThatCounts_66 rfl rfl ?_
      refine c_alen (i := 83) (v := 120) C rfl am_83 ak_83 rfl dX8_firstThatCounts_67 ?_
      refine k_icmp_ge (tgt := 76) C dX8_firstThatCounts_68 (by decide) (fun _ => ?_) (fun _ => ?_)
      · refine k_iinc (q := 3) (v := x2 + 1) (lv' := [(2, .int (x2 + 1)), (5, .int t0), (0, .ref (Y 1019)), (1, .ref (ad 83)), (4, .int x4)]) C dX8_firstThatCounts_76 rfl rfl (Nat.le_of_ble_eq_true rfl) rfl ?_
        refine k_goto (tgt := 2) C dX8_firstThatCounts_79 (by decide) ?_
        refine Dk.loc [2, 3, 0] rfl ?_
        exact hK2 _
      · refine k_aload_n (q := 2) C dX8_firstThatCounts_71 rfl rfl ?_
        refine k_iload (q := 4) C dX8_firstThatCounts_72 rfl ?_
        refine c_iald (i := 83) (v := S.2.1 83 (x4).toNatClampNeg) C rfl am_83 ak_83 rfl rfl dX8_firstThatCounts_74 ?_
        exact k_iret C rfl ⟨rfl, rfl⟩ dX8_firstThatCounts_75
set_option maxRecDepth 20000 in
theorem kb_X8_firstThatCounts_B47_1000_83 {X : GX} {θ : TH} {ad Y : Nat → Nat} {F : Nat} {Z : Zt} {S : St} {K2 : Int32 → Option (Int32)} (C : CX (mE X θ (wdC θ ad Y Z S) 6) RX8 cX8_firstThatCounts (some .int) 0 0 0) (hz : Z.2 0 = true) (hK2 : ∀ (x2 : Int32), Dk (mE X θ (wdC θ ad Y Z S) 6) (mT X θ (wdC θ ad Y Z S) 6 (PI (wdC θ ad Y Z S))) 0 0 (wdC θ ad Y Z S) [(0, .ref (Y 1019)), (1, .ref (ad 83)), (2, .int x2)] [] 2 (K2 x2)) (x2 : Int32) (x4 : Int32) : Dk (mE X θ (wdC θ ad Y Z S) 6) (mT X θ (wdC θ ad Y Z S) 6 (PI (wdC θ ad Y Z S))) 0 0 (wdC θ ad Y Z S) [(0, .ref (Y 1019)), (1, .ref (ad 83)), (2, .int x2), (4, .int x4)] [] 47 (f_X8_firstThatCounts_B47 F 1000 83 Z S K2 x2 x4) := by
  show Dk _ _ _ _ _ _ _ _ (f_X8_firstThatCounts_B52 F 1000 83 Z S K2 x2 x4 1)
  refine k_iconst (v := 1) C dX8_firstThatCounts_47 rfl ?_
  refine k_goto (tgt := 52) C dX8_firstThatCounts_48 (by decide) ?_
  exact kb_X8_firstThatCounts_B52_1000_83 C hz hK2 _ _ _
set_option maxRecDepth 20000 in
theorem kb_X8_firstThatCounts_L2_1000_83 {X : GX} {θ : TH} {ad Y : Nat → Nat} {F : Nat} {Z : Zt} {S : St} (C : CX (mE X θ (wdC θ ad Y Z S) 6) RX8 cX8_firstThatCounts (some .int) 0 0 0) (hz : Z.2 0 = true) : ∀ (n : Nat) (x2 : Int32), Dk (mE X θ (wdC θ ad Y Z S) 6) (mT X θ (wdC θ ad Y Z S) 6 (PI (wdC θ ad Y Z S))) 0 0 (wdC θ ad Y Z S) [(0, .ref (Y 1019)), (1, .ref (ad 83)), (2, .int x2)] [] 2 (f_X8_firstThatCounts_L2 F 1000 83 Z S n x2) := by
  intro n
  induction n with
  | zero => intro x2; exact Dk.none
  | succ n ih =>
    intro x2
    show Dk _ _ _ _ _ _ _ _ (if (S.1 1006) ≤ x2 then some ((0 : Int32)) else if (120 : Int32) ≤ x2 then some ((0 : Int32)) else chk (inr x2 120) (lti (S.2.1 1003 (x2).toNatClampNeg) fun y1 => chk (inr x2 120) (lti (S.2.1 1004 (x2).toNatClampNeg) fun y2 => (if y1 < 0 then f_X8_firstThatCounts_B47 F 1000 83 Z S (f_X8_firstThatCounts_L2 F 1000 83 Z S n) x2 y2 else if (120 : Int32) ≤ y1 then f_X8_firstThatCounts_B47 F 1000 83 Z S (f_X8_firstThatCounts_L2 F 1000 83 Z S n) x2 y2 else chk (inr y1 120) ((if (S.2.1 83 (y1).toNatClampNeg) = 0 then f_X8_firstThatCounts_B52 F 1000 83 Z S (f_X8_firstThatCounts_L2 F 1000 83 Z S n) x2 y2 0 else f_X8_firstThatCounts_B47 F 1000 83 Z S (f_X8_firstThatCounts_L2 F 1000 83 Z S n) x2 y2))))))
    refine k_iload_n (q := 2) C dX8_firstThatCounts_2 rfl rfl ?_
    refine k_aload_n (q := 0) C dX8_firstThatCounts_3 rfl rfl ?_
    refine c_get (b := 1000) (ci := 8) (kf := 6) (N := 7) (v := .int (S.1 1006)) C rfl ⟨rfl, rfl⟩ (LC_s0 hz (by decide)) rfl lay_8 kk_8_6 fl_8_31 rfl dX8_firstThatCounts_4 ?_
    refine k_icmp_ge (tgt := 82) C dX8_firstThatCounts_7 (by decide) (fun _ => ?_) (fun _ => ?_)
    · refine k_iconst (v := 0) C dX8_firstThatCounts_82 rfl ?_
      exact k_iret C rfl ⟨rfl, rfl⟩ dX8_firstThatCounts_83
    · refine k_iload_n (q := 2) C dX8_firstThatCounts_10 rfl rfl ?_
      refine k_bipush (v := 120) C dX8_firstThatCounts_11 rfl ?_
      refine k_icmp_ge (tgt := 82) C dX8_firstThatCounts_13 (by decide) (fun _ => ?_) (fun _ => ?_)
      · refine k_iconst (v := 0) C dX8_firstThatCounts_82 rfl ?_
        exact k_iret C rfl ⟨rfl, rfl⟩ dX8_firstThatCounts_83
      · refine k_aload_n (q := 0) C dX8_firstThatCounts_16 rfl rfl ?_
        refine c_get (b := 1000) (ci := 8) (kf := 3) (N := 7) C rfl ⟨rfl, rfl⟩ (LC_s0 hz (by decide)) rfl lay_8 kk_8_3 fl_8_21 rfl dX8_firstThatCounts_17 ?_
        refine k_iload_n (q := 2) C dX8_firstThatCounts_20 rfl rfl ?_
        refine c_iald (i := 1003) (v := S.2.1 1003 (x2).toNatClampNeg) C rfl (LC_s0 hz (by decide)) ak_1003 rfl rfl dX8_firstThatCounts_21 ?_
        refine k_lti fun y1 => ?_
        refine k_istore_n (lv' := [(3, .int y1), (0, .ref (Y 1019)), (1, .ref (ad 83)), (2, .int x2)]) C dX8_firstThatCounts_22 rfl (Nat.le_of_ble_eq_true rfl) rfl ?_
        refine k_aload_n (q := 1) C dX8_firstThatCounts_23 rfl rfl ?_
        refine c_get (b := 1000) (ci := 8) (kf := 4) (N := 7) C rfl ⟨rfl, rfl⟩ (LC_s0 hz (by decide)) rfl lay_8 kk_8_4 fl_8_24 rfl dX8_firstThatCounts_24 ?_
        refine k_iload_n (q := 3) C dX8_firstThatCounts_27 rfl rfl ?_
        refine c_iald (i := 1004) (v := S.2.1 1004 (x2).toNatClampNeg) C rfl (LC_s0 hz (by decide)) ak_1004 rfl rfl dX8_firstThatCounts_28 ?_
        refine k_lti fun y2 => ?_
        refine k_istore (lv' := [(4, .int y2), (3, .int y1), (0, .ref (Y 1019)), (1, .ref (ad 83)), (2, .int x2)]) C dX8_firstThatCounts_29 (Nat.le_of_ble_eq_true rfl) rfl ?_
        refine k_iload_n (q := 1) C dX8_firstThatCounts_31 rfl rfl ?_
        refine k_if_lt (tgt := 47) C dX8_firstThatCounts_32 (by decide) (fun _ => ?_) (fun _ => ?_)
        · refine Dk.loc [2, 3, 4, 0] rfl ?_
          exact kb_X8_firstThatCounts_B47_1000_83 C hz ih _ _
        · refine k_iload_n (q := 1) C dX8_firstThatCounts_35 rfl rfl ?_
          refine k_aload_n (q := 3) C dX8_firstThatCounts_36 rfl rfl ?_
          refine c_alen (i := 83) (v := 120) C rfl am_83 ak_83 rfl dX8_firstThatCounts_37 ?_
          refine k_icmp_ge (tgt := 47) C dX8_firstThatCounts_38 (by decide) (fun _ => ?_) (fun _ => ?_)
          · refine Dk.loc [2, 3, 4, 0] rfl ?_
            exact kb_X8_firstThatCounts_B47_1000_83 C hz ih _ _
          · refine k_aload_n (q := 3) C dX8_firstThatCounts_41 rfl rfl ?_
            refine k_iload_n (q := 1) C dX8_firstThatCounts_42 rfl rfl ?_
            refine c_iald (i := 83) (v := S.2.1 83 (y1).toNatClampNeg) C rfl am_83 ak_83 rfl rfl dX8_firstThatCounts_43 ?_
            refine k_if_eq (tgt := 51) C dX8_firstThatCounts_44 (by decide) (fun _ => ?_) (fun _ => ?_)
            · refine k_iconst (v := 0) C dX8_firstThatCounts_51 rfl ?_
              refine Dk.loc [2, 3, 4, 0] rfl ?_
              exact kb_X8_firstThatCounts_B52_1000_83 C hz ih _ _ _
            · refine Dk.loc [2, 3, 4, 0] rfl ?_
              exact kb_X8_firstThatCounts_B47_1000_83 C hz ih _ _
set_option maxRecDepth 20000 in
theorem kw_X8_firstThatCounts_1000_83 {X : GX} {θ : TH} {ad Y : Nat → Nat} {F : Nat} {Z : Zt} {S : St}  (C : CX (mE X θ (wdC θ ad Y Z S) 6) RX8 cX8_firstThatCounts (some .int) 0 0 0) (hz : Z.2 0 = true) : Dk (mE X θ (wdC θ ad Y Z S) 6) (mT X θ (wdC θ ad Y Z S) 6 (PI (wdC θ ad Y Z S))) 0 0 (wdC θ ad Y Z S) [(0, .ref (Y 1019)), (1, .ref (ad 83))] [] 0 (f_X8_firstThatCounts F 1000 83 Z S) := by
  show Dk _ _ _ _ _ _ _ _ (f_X8_firstThatCounts_L2 F 1000 83 Z S F 0)
  refine k_iconst (v := 0) C dX8_firstThatCounts_0 rfl ?_
  refine k_istore_n (lv' := [(2, .int 0), (0, .ref (Y 1019)), (1, .ref (ad 83))]) C dX8_firstThatCounts_1 rfl (Nat.le_of_ble_eq_true rfl) rfl ?_
  refine Dk.loc [1, 2, 0] rfl ?_
  exact kb_X8_firstThatCounts_L2_1000_83 C hz _ _
theorem ct_X8_firstThatCounts_1000_83 {l : Launch} {θ : TH} {ad Y : Nat → Nat} {S : St} {F : Nat} {Z : Zt}  (hz : Z.2 0 = true) : ∀ r, f_X8_firstThatCounts F 1000 83 Z S = some r → Ct l θ yX8_firstThatCounts cX8_firstThatCounts 6 (some .int) 0 0 0 [.ref (Y 1019), .ref (ad 83)] (wdC θ ad Y Z S) (PI (wdC θ ad Y Z S) r) :=
  fun r hr => Ct.of (by decide +kernel) (Nat.le_of_ble_eq_true rfl) (fun X _ C _ => kw_X8_firstThatCounts_1000_83 C hz r hr)
set_option maxRecDepth 20000 in
theorem kb_X8_firstThatCounts_B52_1020_83 {X : GX} {θ : TH} {ad Y : Nat → Nat} {F : Nat} {Z : Zt} {S : St} {K2 : Int32 → Option (Int32)} (C : CX (mE X θ (wdC θ ad Y Z S) 6) RX8 cX8_firstThatCounts (some .int) 0 0 0) (hz : Z.2 1 = true) (hK2 : ∀ (x2 : Int32), Dk (mE X θ (wdC θ ad Y Z S) 6) (mT X θ (wdC θ ad Y Z S) 6 (PI (wdC θ ad Y Z S))) 0 0 (wdC θ ad Y Z S) [(0, .ref (Y 1039)), (1, .ref (ad 83)), (2, .int x2)] [] 2 (K2 x2)) (x2 : Int32) (x4 : Int32) (t0 : Int32) : Dk (mE X θ (wdC θ ad Y Z S) 6) (mT X θ (wdC θ ad Y Z S) 6 (PI (wdC θ ad Y Z S))) 0 0 (wdC θ ad Y Z S) [(0, .ref (Y 1039)), (1, .ref (ad 83)), (2, .int x2), (4, .int x4)] [.int t0] 52 (f_X8_firstThatCounts_B52 F 1020 83 Z S K2 x2 x4 t0) := by
  show Dk _ _ _ _ _ _ _ _ (if t0 = 0 then K2 (x2 + 1) else if x4 < 0 then K2 (x2 + 1) else if (120 : Int32) ≤ x4 then K2 (x2 + 1) else chk (inr x4 120) (some (S.2.1 83 (x4).toNatClampNeg)))
  refine k_istore (lv' := [(5, .int t0), (0, .ref (Y 1039)), (1, .ref (ad 83)), (2, .int x2), (4, .int x4)]) C dX8_firstThatCounts_52 (Nat.le_of_ble_eq_true rfl) rfl ?_
  refine k_iload (q := 0) C dX8_firstThatCounts_54 rfl ?_
  refine k_if_eq (tgt := 76) C dX8_firstThatCounts_56 (by decide) (fun _ => ?_) (fun _ => ?_)
  · refine k_iinc (q := 3) (v := x2 + 1) (lv' := [(2, .int (x2 + 1)), (5, .int t0), (0, .ref (Y 1039)), (1, .ref (ad 83)), (4, .int x4)]) C dX8_firstThatCounts_76 rfl rfl (Nat.le_of_ble_eq_true rfl) rfl ?_
    refine k_goto (tgt := 2) C dX8_firstThatCounts_79 (by decide) ?_
    refine Dk.loc [2, 3, 0] rfl ?_
    exact hK2 _
  · refine k_iload (q := 4) C dX8_firstThatCounts_59 rfl ?_
    refine k_if_lt (tgt := 76) C dX8_firstThatCounts_61 (by decide) (fun _ => ?_) (fun _ => ?_)
    · refine k_iinc (q := 3) (v := x2 + 1) (lv' := [(2, .int (x2 + 1)), (5, .int t0), (0, .ref (Y 1039)), (1, .ref (ad 83)), (4, .int x4)]) C dX8_firstThatCounts_76 rfl rfl (Nat.le_of_ble_eq_true rfl) rfl ?_
      refine k_goto (tgt := 2) C dX8_firstThatCounts_79 (by decide) ?_
      refine Dk.loc [2, 3, 0] rfl ?_
      exact hK2 _
    · refine k_iload (q := 4) C dX8_firstThatCounts_64 rfl ?_
      refine k_aload_n (q := 2) C dX8_firstThatCounts_66 rfl rfl ?_
      refine c_alen (i := 83) (v := 120) C rfl am_83 ak_83 rfl dX8_firstThatCounts_67 ?_
      refine k_icmp_ge (tgt := 76) C dX8_firstThatCounts_68 (by decide) (fun _ => ?_) (fun _ => ?_)
      · refine k_iinc (q := 3) (v := x2 + 1) (lv' := [(2, .int (x2 + 1)), (5, .int t0), (0, .ref (Y 1039)), (1, .ref (ad 83)), (4, .int x4)]) C dX8_firstThatCounts_76 rfl rfl (Nat.le_of_ble_eq_true rfl) rfl ?_
        refine k_goto (tgt := 2) C dX8_firstThatCounts_79 (by decide) ?_
        refine Dk.loc [2, 3, 0] rfl ?_
        exact hK2 _
      · refine k_aload_n (q := 2) C dX8_firstThatCounts_71 rfl rfl ?_
        refine k_iload (q := 4) C dX8_firstThatCounts_72 rfl ?_
        refine c_iald (i := 83) (v := S.2.1 83 (x4).toNatClampNeg) C rfl am_83 ak_83 rfl rfl dX8_firstThatCounts_74 ?_
        exact k_iret C rfl ⟨rfl, rfl⟩ dX8_firstThatCounts_75
set_option maxRecDepth 20000 in
theorem kb_X8_firstThatCounts_B47_1020_83 {X : GX} {θ : TH} {ad Y : Nat → Nat} {F : Nat} {Z : Zt} {S : St} {K2 : Int32 → Option (Int32)} (C : CX (mE X θ (wdC θ ad Y Z S) 6) RX8 cX8_firstThatCounts (some .int) 0 0 0) (hz : Z.2 1 = true) (hK2 : ∀ (x2 : Int32), Dk (mE X θ (wdC θ ad Y Z S) 6) (mT X θ (wdC θ ad Y Z S) 6 (PI (wdC θ ad Y Z S))) 0 0 (wdC θ ad Y Z S) [(0, .ref (Y 1039)), (1, .ref (ad 83)), (2, .int x2)] [] 2 (K2 x2)) (x2 : Int32) (x4 : Int32) : Dk (mE X θ (wdC θ ad Y Z S) 6) (mT X θ (wdC θ ad Y Z S) 6 (PI (wdC θ ad Y Z S))) 0 0 (wdC θ ad Y Z S) [(0, .ref (Y 1039)), (1, .ref (ad 83)), (2, .int x2), (4, .int x4)] [] 47 (f_X8_firstThatCounts_B47 F 1020 83 Z S K2 x2 x4) := by
  show Dk _ _ _ _ _ _ _ _ (f_X8_firstThatCounts_B52 F 1020 83 Z S K2 x2 x4 1)
  refine k_iconst (v := 1) C dX8_firstThatCounts_47 rfl ?_
  refine k_goto (tgt := 52) C dX8_firstThatCounts_48 (by decide) ?_
  exact kb_X8_firstThatCounts_B52_1020_83 C hz hK2 _ _ _
set_option maxRecDepth 20000 in
theorem kb_X8_firstThatCounts_L2_1020_83 {X : GX} {θ : TH} {ad Y : Nat → Nat} {F : Nat} {Z : Zt} {S : St} (C : CX (mE X θ (wdC θ ad Y Z S) 6) RX8 cX8_firstThatCounts (some .int) 0 0 0) (hz : Z.2 1 = true) : ∀ (n : Nat) (x2 : Int32), Dk (mE X θ (wdC θ ad Y Z S) 6) (mT X θ (wdC θ ad Y Z S) 6 (PI (wdC θ ad Y Z S))) 0 0 (wdC θ ad Y Z S) [(0, .ref (Y 1039)), (1, .ref (ad 83)), (2, .int x2)] [] 2 (f_X8_firstThatCounts_L2 F 1020 83 Z S n x2) := by
  intro n
  induction n with
  | zero => intro x2; exact Dk.none
  | succ n ih =>
    intro x2
    show Dk _ _ _ _ _ _ _ _ (if (S.1 1026) ≤ x2 then some ((0 : Int32)) else if (120 : Int32) ≤ x2 then some ((0 : Int32)) else chk (inr x2 120) (lti (S.2.1 1023 (x2).toNatClampNeg) fun y1 => chk (inr x2 120) (lti (S.2.1 1024 (x2).toNatClampNeg) fun y2 => (if y1 < 0 then f_X8_firstThatCounts_B47 F 1020 83 Z S (f_X8_firstThatCounts_L2 F 1020 83 Z S n) x2 y2 else if (120 : Int32) ≤ y1 then f_X8_firstThatCounts_B47 F 1020 83 Z S (f_X8_firstThatCounts_L2 F 1020 83 Z S n) x2 y2 else chk (inr y1 120) ((if (S.2.1 83 (y1).toNatClampNeg) = 0 then f_X8_firstThatCounts_B52 F 1020 83 Z S (f_X8_firstThatCounts_L2 F 1020 83 Z S n) x2 y2 0 else f_X8_firstThatCounts_B47 F 1020 83 Z S (f_X8_firstThatCounts_L2 F 1020 83 Z S n) x2 y2))))))
    refine k_iload_n (q := 2) C dX8_firstThatCounts_2 rfl rfl ?_
    refine k_aload_n (q := 0) C dX8_firstThatCounts_3 rfl rfl ?_
    refine c_get (b := 1020) (ci := 8) (kf := 6) (N := 7) (v := .int (S.1 1026)) C rfl ⟨rfl, rfl⟩ (LC_s1 hz (by decide)) rfl lay_8 kk_8_6 fl_8_31 rfl dX8_firstThatCounts_4 ?_
    refine k_icmp_ge (tgt := 82) C dX8_firstThatCounts_7 (by decide) (fun _ => ?_) (fun _ => ?_)
    · refine k_iconst (v := 0) C dX8_firstThatCounts_82 rfl ?_
      exact k_iret C rfl ⟨rfl, rfl⟩ dX8_firstThatCounts_83
    · refine k_iload_n (q := 2) C dX8_firstThatCounts_10 rfl rfl ?_
      refine k_bipush (v := 120) C dX8_firstThatCounts_11 rfl ?_
      refine k_icmp_ge (tgt := 82) C dX8_firstThatCounts_13 (by decide) (fun _ => ?_) (fun _ => ?_)
      · refine k_iconst (v := 0) C dX8_firstThatCounts_82 rfl ?_
        exact k_iret C rfl ⟨rfl, rfl⟩ dX8_firstThatCounts_83
      · refine k_aload_n (q := 0) C dX8_firstThatCounts_16 rfl rfl ?_
        refine c_get (b := 1020) (ci := 8) (kf := 3) (N := 7) C rfl ⟨rfl, rfl⟩ (LC_s1 hz (by decide)) rfl lay_8 kk_8_3 fl_8_21 rfl dX8_firstThatCounts_17 ?_
        refine k_iload_n (q := 2) C dX8_firstThatCounts_20 rfl rfl ?_
        refine c_iald (i := 1023) (v := S.2.1 1023 (x2).toNatClampNeg) C rfl (LC_s1 hz (by decide)) ak_1023 rfl rfl dX8_firstThatCounts_21 ?_
        refine k_lti fun y1 => ?_
        refine k_istore_n (lv' := [(3, .int y1), (0, .ref (Y 1039)), (1, .ref (ad 83)), (2, .int x2)]) C dX8_firstThatCounts_22 rfl (Nat.le_of_ble_eq_true rfl) rfl ?_
        refine k_aload_n (q := 1) C dX8_firstThatCounts_23 rfl rfl ?_
        refine c_get (b := 1020) (ci := 8) (kf := 4) (N := 7) C rfl ⟨rfl, rfl⟩ (LC_s1 hz (by decide)) rfl lay_8 kk_8_4 fl_8_24 rfl dX8_firstThatCounts_24 ?_
        refine k_iload_n (q := 3) C dX8_firstThatCounts_27 rfl rfl ?_
        refine c_iald (i := 1024) (v := S.2.1 1024 (x2).toNatClampNeg) C rfl (LC_s1 hz (by decide)) ak_1024 rfl rfl dX8_firstThatCounts_28 ?_
        refine k_lti fun y2 => ?_
        refine k_istore (lv' := [(4, .int y2), (3, .int y1), (0, .ref (Y 1039)), (1, .ref (ad 83)), (2, .int x2)]) C dX8_firstThatCounts_29 (Nat.le_of_ble_eq_true rfl) rfl ?_
        refine k_iload_n (q := 1) C dX8_firstThatCounts_31 rfl rfl ?_
        refine k_if_lt (tgt := 47) C dX8_firstThatCounts_32 (by decide) (fun _ => ?_) (fun _ => ?_)
        · refine Dk.loc [2, 3, 4, 0] rfl ?_
          exact kb_X8_firstThatCounts_B47_1020_83 C hz ih _ _
        · refine k_iload_n (q := 1) C dX8_firstThatCounts_35 rfl rfl ?_
          refine k_aload_n (q := 3) C dX8_firstThatCounts_36 rfl rfl ?_
          refine c_alen (i := 83) (v := 120) C rfl am_83 ak_83 rfl dX8_firstThatCounts_37 ?_
          refine k_icmp_ge (tgt := 47) C dX8_firstThatCounts_38 (by decide) (fun _ => ?_) (fun _ => ?_)
          · refine Dk.loc [2, 3, 4, 0] rfl ?_
            exact kb_X8_firstThatCounts_B47_1020_83 C hz ih _ _
          · refine k_aload_n (q := 3) C dX8_firstThatCounts_41 rfl rfl ?_
            refine k_iload_n (q := 1) C dX8_firstThatCounts_42 rfl rfl ?_
            refine c_iald (i := 83) (v := S.2.1 83 (y1).toNatClampNeg) C rfl am_83 ak_83 rfl rfl dX8_firstThatCounts_43 ?_
            refine k_if_eq (tgt := 51) C dX8_firstThatCounts_44 (by decide) (fun _ => ?_) (fun _ => ?_)
            · refine k_iconst (v := 0) C dX8_firstThatCounts_51 rfl ?_
              refine Dk.loc [2, 3, 4, 0] rfl ?_
              exact kb_X8_firstThatCounts_B52_1020_83 C hz ih _ _ _
            · refine Dk.loc [2, 3, 4, 0] rfl ?_
              exact kb_X8_firstThatCounts_B47_1020_83 C hz ih _ _
set_option maxRecDepth 20000 in
theorem kw_X8_firstThatCounts_1020_83 {X : GX} {θ : TH} {ad Y : Nat → Nat} {F : Nat} {Z : Zt} {S : St}  (C : CX (mE X θ (wdC θ ad Y Z S) 6) RX8 cX8_firstThatCounts (some .int) 0 0 0) (hz : Z.2 1 = true) : Dk (mE X θ (wdC θ ad Y Z S) 6) (mT X θ (wdC θ ad Y Z S) 6 (PI (wdC θ ad Y Z S))) 0 0 (wdC θ ad Y Z S) [(0, .ref (Y 1039)), (1, .ref (ad 83))] [] 0 (f_X8_firstThatCounts F 1020 83 Z S) := by
  show Dk _ _ _ _ _ _ _ _ (f_X8_firstThatCounts_L2 F 1020 83 Z S F 0)
  refine k_iconst (v := 0) C dX8_firstThatCounts_0 rfl ?_
  refine k_istore_n (lv' := [(2, .int 0), (0, .ref (Y 1039)), (1, .ref (ad 83))]) C dX8_firstThatCounts_1 rfl (Nat.le_of_ble_eq_true rfl) rfl ?_
  refine Dk.loc [1, 2, 0] rfl ?_
  exact kb_X8_firstThatCounts_L2_1020_83 C hz _ _
theorem ct_X8_firstThatCounts_1020_83 {l : Launch} {θ : TH} {ad Y : Nat → Nat} {S : St} {F : Nat} {Z : Zt}  (hz : Z.2 1 = true) : ∀ r, f_X8_firstThatCounts F 1020 83 Z S = some r → Ct l θ yX8_firstThatCounts cX8_firstThatCounts 6 (some .int) 0 0 0 [.ref (Y 1039), .ref (ad 83)] (wdC θ ad Y Z S) (PI (wdC θ ad Y Z S) r) :=
  fun r hr => Ct.of (by decide +kernel) (Nat.le_of_ble_eq_true rfl) (fun X _ C _ => kw_X8_firstThatCounts_1020_83 C hz r hr)
set_option maxRecDepth 20000 in
theorem kb_X8_firstThatCounts_B52_1040_83 {X : GX} {θ : TH} {ad Y : Nat → Nat} {F : Nat} {Z : Zt} {S : St} {K2 : Int32 → Option (Int32)} (C : CX (mE X θ (wdC θ ad Y Z S) 6) RX8 cX8_firstThatCounts (some .int) 0 0 0) (hz : Z.2 2 = true) (hK2 : ∀ (x2 : Int32), Dk (mE X θ (wdC θ ad Y Z S) 6) (mT X θ (wdC θ ad Y Z S) 6 (PI (wdC θ ad Y Z S))) 0 0 (wdC θ ad Y Z S) [(0, .ref (Y 1059)), (1, .ref (ad 83)), (2, .int x2)] [] 2 (K2 x2)) (x2 : Int32) (x4 : Int32) (t0 : Int32) : Dk (mE X θ (wdC θ ad Y Z S) 6) (mT X θ (wdC θ ad Y Z S) 6 (PI (wdC θ ad Y Z S))) 0 0 (wdC θ ad Y Z S) [(0, .ref (Y 1059)), (1, .ref (ad 83)), (2, .int x2), (4, .int x4)] [.int t0] 52 (f_X8_firstThatCounts_B52 F 1040 83 Z S K2 x2 x4 t0) := by
  show Dk _ _ _ _ _ _ _ _ (if t0 = 0 then K2 (x2 + 1) else if x4 < 0 then K2 (x2 + 1) else if (120 : Int32) ≤ x4 then K2 (x2 + 1) else chk (inr x4 120) (some (S.2.1 83 (x4).toNatClampNeg)))
  refine k_istore (lv' := [(5, .int t0), (0, .ref (Y 1059)), (1, .ref (ad 83)), (2, .int x2), (4, .int x4)]) C dX8_firstThatCounts_52 (Nat.le_of_ble_eq_true rfl) rfl ?_
  refine k_iload (q := 0) C dX8_firstThatCounts_54 rfl ?_
  refine k_if_eq (tgt := 76) C dX8_firstThatCounts_56 (by decide) (fun _ => ?_) (fun _ => ?_)
  · refine k_iinc (q := 3) (v := x2 + 1) (lv' := [(2, .int (x2 + 1)), (5, .int t0), (0, .ref (Y 1059)), (1, .ref (ad 83)), (4, .int x4)]) C dX8_firstThatCounts_76 rfl rfl (Nat.le_of_ble_eq_true rfl) rfl ?_
    refine k_goto (tgt := 2) C dX8_firstThatCounts_79 (by decide) ?_
    refine Dk.loc [2, 3, 0] rfl ?_
    exact hK2 _
  · refine k_iload (q := 4) C dX8_firstThatCounts_59 rfl ?_
    refine k_if_lt (tgt := 76) C dX8_firstThatCounts_61 (by decide) (fun _ => ?_) (fun _ => ?_)
    · refine k_iinc (q := 3) (v := x2 + 1) (lv' := [(2, .int (x2 + 1)), (5, .int t0), (0, .ref (Y 1059)), (1, .ref (ad 83)), (4, .int x4)]) C dX8_firstThatCounts_76 rfl rfl (Nat.le_of_ble_eq_true rfl) rfl ?_
      refine k_goto (tgt := 2) C dX8_firstThatCounts_79 (by decide) ?_
      refine Dk.loc [2, 3, 0] rfl ?_
      exact hK2 _
    · refine k_iload (q := 4) C dX8_firstThatCounts_64 rfl ?_
      refine k_aload_n (q := 2) C dX8_firstThatCounts_66 rfl rfl ?_
      refine c_alen (i := 83) (v := 120) C rfl am_83 ak_83 rfl dX8_firstThatCounts_67 ?_
      refine k_icmp_ge (tgt := 76) C dX8_firstThatCounts_68 (by decide) (fun _ => ?_) (fun _ => ?_)
      · refine k_iinc (q := 3) (v := x2 + 1) (lv' := [(2, .int (x2 + 1)), (5, .int t0), (0, .ref (Y 1059)), (1, .ref (ad 83)), (4, .int x4)]) C dX8_firstThatCounts_76 rfl rfl (Nat.le_of_ble_eq_true rfl) rfl ?_
        refine k_goto (tgt := 2) C dX8_firstThatCounts_79 (by decide) ?_
        refine Dk.loc [2, 3, 0] rfl ?_
        exact hK2 _
      · refine k_aload_n (q := 2) C dX8_firstThatCounts_71 rfl rfl ?_
        refine k_iload (q := 4) C dX8_firstThatCounts_72 rfl ?_
        refine c_iald (i := 83) (v := S.2.1 83 (x4).toNatClampNeg) C rfl am_83 ak_83 rfl rfl dX8_firstThatCounts_74 ?_
        exact k_iret C rfl ⟨rfl, rfl⟩ dX8_firstThatCounts_75
set_option maxRecDepth 20000 in
theorem kb_X8_firstThatCounts_B47_1040_83 {X : GX} {θ : TH} {ad Y : Nat → Nat} {F : Nat} {Z : Zt} {S : St} {K2 : Int32 → Option (Int32)} (C : CX (mE X θ (wdC θ ad Y Z S) 6) RX8 cX8_firstThatCounts (some .int) 0 0 0) (hz : Z.2 2 = true) (hK2 : ∀ (x2 : Int32), Dk (mE X θ (wdC θ ad Y Z S) 6) (mT X θ (wdC θ ad Y Z S) 6 (PI (wdC θ ad Y Z S))) 0 0 (wdC θ ad Y Z S) [(0, .ref (Y 1059)), (1, .ref (ad 83)), (2, .int x2)] [] 2 (K2 x2)) (x2 : Int32) (x4 : Int32) : Dk (mE X θ (wdC θ ad Y Z S) 6) (mT X θ (wdC θ ad Y Z S) 6 (PI (wdC θ ad Y Z S))) 0 0 (wdC θ ad Y Z S) [(0, .ref (Y 1059)), (1, .ref (ad 83)), (2, .int x2), (4, .int x4)] [] 47 (f_X8_firstThatCounts_B47 F 1040 83 Z S K2 x2 x4) := by
  show Dk _ _ _ _ _ _ _ _ (f_X8_firstThatCounts_B52 F 1040 83 Z S K2 x2 x4 1)
  refine k_iconst (v := 1) C dX8_firstThatCounts_47 rfl ?_
  refine k_goto (tgt := 52) C dX8_firstThatCounts_48 (by decide) ?_
  exact kb_X8_firstThatCounts_B52_1040_83 C hz hK2 _ _ _
set_option maxRecDepth 20000 in
theorem kb_X8_firstThatCounts_L2_1040_83 {X : GX} {θ : TH} {ad Y : Nat → Nat} {F : Nat} {Z : Zt} {S : St} (C : CX (mE X θ (wdC θ ad Y Z S) 6) RX8 cX8_firstThatCounts (some .int) 0 0 0) (hz : Z.2 2 = true) : ∀ (n : Nat) (x2 : Int32), Dk (mE X θ (wdC θ ad Y Z S) 6) (mT X θ (wdC θ ad Y Z S) 6 (PI (wdC θ ad Y Z S))) 0 0 (wdC θ ad Y Z S) [(0, .ref (Y 1059)), (1, .ref (ad 83)), (2, .int x2)] [] 2 (f_X8_firstThatCounts_L2 F 1040 83 Z S n x2) := by
  intro n
  induction n with
  | zero => intro x2; exact Dk.none
  | succ n ih =>
    intro x2
    show Dk _ _ _ _ _ _ _ _ (if (S.1 1046) ≤ x2 then some ((0 : Int32)) else if (120 : Int32) ≤ x2 then some ((0 : Int32)) else chk (inr x2 120) (lti (S.2.1 1043 (x2).toNatClampNeg) fun y1 => chk (inr x2 120) (lti (S.2.1 1044 (x2).toNatClampNeg) fun y2 => (if y1 < 0 then f_X8_firstThatCounts_B47 F 1040 83 Z S (f_X8_firstThatCounts_L2 F 1040 83 Z S n) x2 y2 else if (120 : Int32) ≤ y1 then f_X8_firstThatCounts_B47 F 1040 83 Z S (f_X8_firstThatCounts_L2 F 1040 83 Z S n) x2 y2 else chk (inr y1 120) ((if (S.2.1 83 (y1).toNatClampNeg) = 0 then f_X8_firstThatCounts_B52 F 1040 83 Z S (f_X8_firstThatCounts_L2 F 1040 83 Z S n) x2 y2 0 else f_X8_firstThatCounts_B47 F 1040 83 Z S (f_X8_firstThatCounts_L2 F 1040 83 Z S n) x2 y2))))))
    refine k_iload_n (q := 2) C dX8_firstThatCounts_2 rfl rfl ?_
    refine k_aload_n (q := 0) C dX8_firstThatCounts_3 rfl rfl ?_
    refine c_get (b := 1040) (ci := 8) (kf := 6) (N := 7) (v := .int (S.1 1046)) C rfl ⟨rfl, rfl⟩ (LC_s2 hz (by decide)) rfl lay_8 kk_8_6 fl_8_31 rfl dX8_firstThatCounts_4 ?_
    refine k_icmp_ge (tgt := 82) C dX8_firstThatCounts_7 (by decide) (fun _ => ?_) (fun _ => ?_)
    · refine k_iconst (v := 0) C dX8_firstThatCounts_82 rfl ?_
      exact k_iret C rfl ⟨rfl, rfl⟩ dX8_firstThatCounts_83
    · refine k_iload_n (q := 2) C dX8_firstThatCounts_10 rfl rfl ?_
      refine k_bipush (v := 120) C dX8_firstThatCounts_11 rfl ?_
      refine k_icmp_ge (tgt := 82) C dX8_firstThatCounts_13 (by decide) (fun _ => ?_) (fun _ => ?_)
      · refine k_iconst (v := 0) C dX8_firstThatCounts_82 rfl ?_
        exact k_iret C rfl ⟨rfl, rfl⟩ dX8_firstThatCounts_83
      · refine k_aload_n (q := 0) C dX8_firstThatCounts_16 rfl rfl ?_
        refine c_get (b := 1040) (ci := 8) (kf := 3) (N := 7) C rfl ⟨rfl, rfl⟩ (LC_s2 hz (by decide)) rfl lay_8 kk_8_3 fl_8_21 rfl dX8_firstThatCounts_17 ?_
        refine k_iload_n (q := 2) C dX8_firstThatCounts_20 rfl rfl ?_
        refine c_iald (i := 1043) (v := S.2.1 1043 (x2).toNatClampNeg) C rfl (LC_s2 hz (by decide)) ak_1043 rfl rfl dX8_firstThatCounts_21 ?_
        refine k_lti fun y1 => ?_
        refine k_istore_n (lv' := [(3, .int y1), (0, .ref (Y 1059)), (1, .ref (ad 83)), (2, .int x2)]) C dX8_firstThatCounts_22 rfl (Nat.le_of_ble_eq_true rfl) rfl ?_
        refine k_aload_n (q := 1) C dX8_firstThatCounts_23 rfl rfl ?_
        refine c_get (b := 1040) (ci := 8) (kf := 4) (N := 7) C rfl ⟨rfl, rfl⟩ (LC_s2 hz (by decide)) rfl lay_8 kk_8_4 fl_8_24 rfl dX8_firstThatCounts_24 ?_
        refine k_iload_n (q := 3) C dX8_firstThatCounts_27 rfl rfl ?_
        refine c_iald (i := 1044) (v := S.2.1 1044 (x2).toNatClampNeg) C rfl (LC_s2 hz (by decide)) ak_1044 rfl rfl dX8_firstThatCounts_28 ?_
        refine k_lti fun y2 => ?_
        refine k_istore (lv' := [(4, .int y2), (3, .int y1), (0, .ref (Y 1059)), (1, .ref (ad 83)), (2, .int x2)]) C dX8_firstThatCounts_29 (Nat.le_of_ble_eq_true rfl) rfl ?_
        refine k_iload_n (q := 1) C dX8_firstThatCounts_31 rfl rfl ?_
        refine k_if_lt (tgt := 47) C dX8_firstThatCounts_32 (by decide) (fun _ => ?_) (fun _ => ?_)
        · refine Dk.loc [2, 3, 4, 0] rfl ?_
          exact kb_X8_firstThatCounts_B47_1040_83 C hz ih _ _
        · refine k_iload_n (q := 1) C dX8_firstThatCounts_35 rfl rfl ?_
          refine k_aload_n (q := 3) C dX8_firstThatCounts_36 rfl rfl ?_
          refine c_alen (i := 83) (v := 120) C rfl am_83 ak_83 rfl dX8_firstThatCounts_37 ?_
          refine k_icmp_ge (tgt := 47) C dX8_firstThatCounts_38 (by decide) (fun _ => ?_) (fun _ => ?_)
          · refine Dk.loc [2, 3, 4, 0] rfl ?_
            exact kb_X8_firstThatCounts_B47_1040_83 C hz ih _ _
          · refine k_aload_n (q := 3) C dX8_firstThatCounts_41 rfl rfl ?_
            refine k_iload_n (q := 1) C dX8_firstThatCounts_42 rfl rfl ?_
            refine c_iald (i := 83) (v := S.2.1 83 (y1).toNatClampNeg) C rfl am_83 ak_83 rfl rfl dX8_firstThatCounts_43 ?_
            refine k_if_eq (tgt := 51) C dX8_firstThatCounts_44 (by decide) (fun _ => ?_) (fun _ => ?_)
            · refine k_iconst (v := 0) C dX8_firstThatCounts_51 rfl ?_
              refine Dk.loc [2, 3, 4, 0] rfl ?_
              exact kb_X8_firstThatCounts_B52_1040_83 C hz ih _ _ _
            · refine Dk.loc [2, 3, 4, 0] rfl ?_
              exact kb_X8_firstThatCounts_B47_1040_83 C hz ih _ _
set_option maxRecDepth 20000 in
theorem kw_X8_firstThatCounts_1040_83 {X : GX} {θ : TH} {ad Y : Nat → Nat} {F : Nat} {Z : Zt} {S : St}  (C : CX (mE X θ (wdC θ ad Y Z S) 6) RX8 cX8_firstThatCounts (some .int) 0 0 0) (hz : Z.2 2 = true) : Dk (mE X θ (wdC θ ad Y Z S) 6) (mT X θ (wdC θ ad Y Z S) 6 (PI (wdC θ ad Y Z S))) 0 0 (wdC θ ad Y Z S) [(0, .ref (Y 1059)), (1, .ref (ad 83))] [] 0 (f_X8_firstThatCounts F 1040 83 Z S) := by
  show Dk _ _ _ _ _ _ _ _ (f_X8_firstThatCounts_L2 F 1040 83 Z S F 0)
  refine k_iconst (v := 0) C dX8_firstThatCounts_0 rfl ?_
  refine k_istore_n (lv' := [(2, .int 0), (0, .ref (Y 1059)), (1, .ref (ad 83))]) C dX8_firstThatCounts_1 rfl (Nat.le_of_ble_eq_true rfl) rfl ?_
  refine Dk.loc [1, 2, 0] rfl ?_
  exact kb_X8_firstThatCounts_L2_1040_83 C hz _ _
theorem ct_X8_firstThatCounts_1040_83 {l : Launch} {θ : TH} {ad Y : Nat → Nat} {S : St} {F : Nat} {Z : Zt}  (hz : Z.2 2 = true) : ∀ r, f_X8_firstThatCounts F 1040 83 Z S = some r → Ct l θ yX8_firstThatCounts cX8_firstThatCounts 6 (some .int) 0 0 0 [.ref (Y 1059), .ref (ad 83)] (wdC θ ad Y Z S) (PI (wdC θ ad Y Z S) r) :=
  fun r hr => Ct.of (by decide +kernel) (Nat.le_of_ble_eq_true rfl) (fun X _ C _ => kw_X8_firstThatCounts_1040_83 C hz r hr)
set_option maxRecDepth 20000 in
theorem kb_X8_firstThatCounts_B52_1000_303 {X : GX} {θ : TH} {ad Y : Nat → Nat} {F : Nat} {Z : Zt} {S : St} {K2 : Int32 → Option (Int32)} (C : CX (mE X θ (wdC θ ad Y Z S) 6) RX8 cX8_firstThatCounts (some .int) 0 0 0) (hz : Z.2 0 = true) (hK2 : ∀ (x2 : Int32), Dk (mE X θ (wdC θ ad Y Z S) 6) (mT X θ (wdC θ ad Y Z S) 6 (PI (wdC θ ad Y Z S))) 0 0 (wdC θ ad Y Z S) [(0, .ref (Y 1019)), (1, .ref (ad 303)), (2, .int x2)] [] 2 (K2 x2)) (x2 : Int32) (x4 : Int32) (t0 : Int32) : Dk (mE X θ (wdC θ ad Y Z S) 6) (mT X θ (wdC θ ad Y Z S) 6 (PI (wdC θ ad Y Z S))) 0 0 (wdC θ ad Y Z S) [(0, .ref (Y 1019)), (1, .ref (ad 303)), (2, .int x2), (4, .int x4)] [.int t0] 52 (f_X8_firstThatCounts_B52 F 1000 303 Z S K2 x2 x4 t0) := by
  show Dk _ _ _ _ _ _ _ _ (if t0 = 0 then K2 (x2 + 1) else if x4 < 0 then K2 (x2 + 1) else if (120 : Int32) ≤ x4 then K2 (x2 + 1) else chk (inr x4 120) (some (S.2.1 303 (x4).toNatClampNeg)))
  refine k_istore (lv' := [(5, .int t0), (0, .ref (Y 1019)), (1, .ref (ad 303)), (2, .int x2), (4, .int x4)]) C dX8_firstThatCounts_52 (Nat.le_of_ble_eq_true rfl) rfl ?_
  refine k_iload (q := 0) C dX8_firstThatCounts_54 rfl ?_
  refine k_if_eq (tgt := 76) C dX8_firstThatCounts_56 (by decide) (fun _ => ?_) (fun _ => ?_)
  · refine k_iinc (q := 3) (v := x2 + 1) (lv' := [(2, .int (x2 + 1)), (5, .int t0), (0, .ref (Y 1019)), (1, .ref (ad 303)), (4, .int x4)]) C dX8_firstThatCounts_76 rfl rfl (Nat.le_of_ble_eq_true rfl) rfl ?_
    refine k_goto (tgt := 2) C dX8_firstThatCounts_79 (by decide) ?_
    refine Dk.loc [2, 3, 0] rfl ?_
    exact hK2 _
  · refine k_iload (q := 4) C dX8_firstThatCounts_59 rfl ?_
    refine k_if_lt (tgt := 76) C dX8_firstThatCounts_61 (by decide) (fun _ => ?_) (fun _ => ?_)
    · refine k_iinc (q := 3) (v := x2 + 1) (lv' := [(2, .int (x2 + 1)), (5, .int t0), (0, .ref (Y 1019)), (1, .ref (ad 303)), (4, .int x4)]) C dX8_firstThatCounts_76 rfl rfl (Nat.le_of_ble_eq_true rfl) rfl ?_
      refine k_goto (tgt := 2) C dX8_firstThatCounts_79 (by decide) ?_
      refine Dk.loc [2, 3, 0] rfl ?_
      exact hK2 _
    · refine k_iload (q := 4) C dX8_firstThatCounts_64 rfl ?_
      refine k_aload_n (q := 2) C dX8_firstThatCounts_66 rfl rfl ?_
      refine c_alen (i := 303) (v := 120) C rfl am_303 ak_303 rfl dX8_firstThatCounts_67 ?_
      refine k_icmp_ge (tgt := 76) C dX8_firstThatCounts_68 (by decide) (fun _ => ?_) (fun _ => ?_)
      · refine k_iinc (q := 3) (v := x2 + 1) (lv' := [(2, .int (x2 + 1)), (5, .int t0), (0, .ref (Y 1019)), (1, .ref (ad 303)), (4, .int x4)]) C dX8_firstThatCounts_76 rfl rfl (Nat.le_of_ble_eq_true rfl) rfl ?_
        refine k_goto (tgt := 2) C dX8_firstThatCounts_79 (by decide) ?_
        refine Dk.loc [2, 3, 0] rfl ?_
        exact hK2 _
      · refine k_aload_n (q := 2) C dX8_firstThatCounts_71 rfl rfl ?_
        refine k_iload (q := 4) C dX8_firstThatCounts_72 rfl ?_
        refine c_iald (i := 303) (v := S.2.1 303 (x4).toNatClampNeg) C rfl am_303 ak_303 rfl rfl dX8_firstThatCounts_74 ?_
        exact k_iret C rfl ⟨rfl, rfl⟩ dX8_firstThatCounts_75
set_option maxRecDepth 20000 in
theorem kb_X8_firstThatCounts_B47_1000_303 {X : GX} {θ : TH} {ad Y : Nat → Nat} {F : Nat} {Z : Zt} {S : St} {K2 : Int32 → Option (Int32)} (C : CX (mE X θ (wdC θ ad Y Z S) 6) RX8 cX8_firstThatCounts (some .int) 0 0 0) (hz : Z.2 0 = true) (hK2 : ∀ (x2 : Int32), Dk (mE X θ (wdC θ ad Y Z S) 6) (mT X θ (wdC θ ad Y Z S) 6 (PI (wdC θ ad Y Z S))) 0 0 (wdC θ ad Y Z S) [(0, .ref (Y 1019)), (1, .ref (ad 303)), (2, .int x2)] [] 2 (K2 x2)) (x2 : Int32) (x4 : Int32) : Dk (mE X θ (wdC θ ad Y Z S) 6) (mT X θ (wdC θ ad Y Z S) 6 (PI (wdC θ ad Y Z S))) 0 0 (wdC θ ad Y Z S) [(0, .ref (Y 1019)), (1, .ref (ad 303)), (2, .int x2), (4, .int x4)] [] 47 (f_X8_firstThatCounts_B47 F 1000 303 Z S K2 x2 x4) := by
  show Dk _ _ _ _ _ _ _ _ (f_X8_firstThatCounts_B52 F 1000 303 Z S K2 x2 x4 1)
  refine k_iconst (v := 1) C dX8_firstThatCounts_47 rfl ?_
  refine k_goto (tgt := 52) C dX8_firstThatCounts_48 (by decide) ?_
  exact kb_X8_firstThatCounts_B52_1000_303 C hz hK2 _ _ _
set_option maxRecDepth 20000 in
theorem kb_X8_firstThatCounts_L2_1000_303 {X : GX} {θ : TH} {ad Y : Nat → Nat} {F : Nat} {Z : Zt} {S : St} (C : CX (mE X θ (wdC θ ad Y Z S) 6) RX8 cX8_firstThatCounts (some .int) 0 0 0) (hz : Z.2 0 = true) : ∀ (n : Nat) (x2 : Int32), Dk (mE X θ (wdC θ ad Y Z S) 6) (mT X θ (wdC θ ad Y Z S) 6 (PI (wdC θ ad Y Z S))) 0 0 (wdC θ ad Y Z S) [(0, .ref (Y 1019)), (1, .ref (ad 303)), (2, .int x2)] [] 2 (f_X8_firstThatCounts_L2 F 1000 303 Z S n x2) := by
  intro n
  induction n with
  | zero => intro x2; exact Dk.none
  | succ n ih =>
    intro x2
    show Dk _ _ _ _ _ _ _ _ (if (S.1 1006) ≤ x2 then some ((0 : Int32)) else if (120 : Int32) ≤ x2 then some ((0 : Int32)) else chk (inr x2 120) (lti (S.2.1 1003 (x2).toNatClampNeg) fun y1 => chk (inr x2 120) (lti (S.2.1 1004 (x2).toNatClampNeg) fun y2 => (if y1 < 0 then f_X8_firstThatCounts_B47 F 1000 303 Z S (f_X8_firstThatCounts_L2 F 1000 303 Z S n) x2 y2 else if (120 : Int32) ≤ y1 then f_X8_firstThatCounts_B47 F 1000 303 Z S (f_X8_firstThatCounts_L2 F 1000 303 Z S n) x2 y2 else chk (inr y1 120) ((if (S.2.1 303 (y1).toNatClampNeg) = 0 then f_X8_firstThatCounts_B52 F 1000 303 Z S (f_X8_firstThatCounts_L2 F 1000 303 Z S n) x2 y2 0 else f_X8_firstThatCounts_B47 F 1000 303 Z S (f_X8_firstThatCounts_L2 F 1000 303 Z S n) x2 y2))))))
    refine k_iload_n (q := 2) C dX8_firstThatCounts_2 rfl rfl ?_
    refine k_aload_n (q := 0) C dX8_firstThatCounts_3 rfl rfl ?_
    refine c_get (b := 1000) (ci := 8) (kf := 6) (N := 7) (v := .int (S.1 1006)) C rfl ⟨rfl, rfl⟩ (LC_s0 hz (by decide)) rfl lay_8 kk_8_6 fl_8_31 rfl dX8_firstThatCounts_4 ?_
    refine k_icmp_ge (tgt := 82) C dX8_firstThatCounts_7 (by decide) (fun _ => ?_) (fun _ => ?_)
    · refine k_iconst (v := 0) C dX8_firstThatCounts_82 rfl ?_
      exact k_iret C rfl ⟨rfl, rfl⟩ dX8_firstThatCounts_83
    · refine k_iload_n (q := 2) C dX8_firstThatCounts_10 rfl rfl ?_
      refine k_bipush (v := 120) C dX8_firstThatCounts_11 rfl ?_
      refine k_icmp_ge (tgt := 82) C dX8_firstThatCounts_13 (by decide) (fun _ => ?_) (fun _ => ?_)
      · refine k_iconst (v := 0) C dX8_firstThatCounts_82 rfl ?_
        exact k_iret C rfl ⟨rfl, rfl⟩ dX8_firstThatCounts_83
      · refine k_aload_n (q := 0) C dX8_firstThatCounts_16 rfl rfl ?_
        refine c_get (b := 1000) (ci := 8) (kf := 3) (N := 7) C rfl ⟨rfl, rfl⟩ (LC_s0 hz (by decide)) rfl lay_8 kk_8_3 fl_8_21 rfl dX8_firstThatCounts_17 ?_
        refine k_iload_n (q := 2) C dX8_firstThatCounts_20 rfl rfl ?_
        refine c_iald (i := 1003) (v := S.2.1 1003 (x2).toNatClampNeg) C rfl (LC_s0 hz (by decide)) ak_1003 rfl rfl dX8_firstThatCounts_21 ?_
        refine k_lti fun y1 => ?_
        refine k_istore_n (lv' := [(3, .int y1), (0, .ref (Y 1019)), (1, .ref (ad 303)), (2, .int x2)]) C dX8_firstThatCounts_22 rfl (Nat.le_of_ble_eq_true rfl) rfl ?_
        refine k_aload_n (q := 1) C dX8_firstThatCounts_23 rfl rfl ?_
        refine c_get (b := 1000) (ci := 8) (kf := 4) (N := 7) C rfl ⟨rfl, rfl⟩ (LC_s0 hz (by decide)) rfl lay_8 kk_8_4 fl_8_24 rfl dX8_firstThatCounts_24 ?_
        refine k_iload_n (q := 3) C dX8_firstThatCounts_27 rfl rfl ?_
        refine c_iald (i := 1004) (v := S.2.1 1004 (x2).toNatClampNeg) C rfl (LC_s0 hz (by decide)) ak_1004 rfl rfl dX8_firstThatCounts_28 ?_
        refine k_lti fun y2 => ?_
        refine k_istore (lv' := [(4, .int y2), (3, .int y1), (0, .ref (Y 1019)), (1, .ref (ad 303)), (2, .int x2)]) C dX8_firstThatCounts_29 (Nat.le_of_ble_eq_true rfl) rfl ?_
        refine k_iload_n (q := 1) C dX8_firstThatCounts_31 rfl rfl ?_
        refine k_if_lt (tgt := 47) C dX8_firstThatCounts_32 (by decide) (fun _ => ?_) (fun _ => ?_)
        · refine Dk.loc [2, 3, 4, 0] rfl ?_
          exact kb_X8_firstThatCounts_B47_1000_303 C hz ih _ _
        · refine k_iload_n (q := 1) C dX8_firstThatCounts_35 rfl rfl ?_
          refine k_aload_n (q := 3) C dX8_firstThatCounts_36 rfl rfl ?_
          refine c_alen (i := 303) (v := 120) C rfl am_303 ak_303 rfl dX8_firstThatCounts_37 ?_
          refine k_icmp_ge (tgt := 47) C dX8_firstThatCounts_38 (by decide) (fun _ => ?_) (fun _ => ?_)
          · refine Dk.loc [2, 3, 4, 0] rfl ?_
            exact kb_X8_firstThatCounts_B47_1000_303 C hz ih _ _
          · refine k_aload_n (q := 3) C dX8_firstThatCounts_41 rfl rfl ?_
            refine k_iload_n (q := 1) C dX8_firstThatCounts_42 rfl rfl ?_
            refine c_iald (i := 303) (v := S.2.1 303 (y1).toNatClampNeg) C rfl am_303 ak_303 rfl rfl dX8_firstThatCounts_43 ?_
            refine k_if_eq (tgt := 51) C dX8_firstThatCounts_44 (by decide) (fun _ => ?_) (fun _ => ?_)
            · refine k_iconst (v := 0) C dX8_firstThatCounts_51 rfl ?_
              refine Dk.loc [2, 3, 4, 0] rfl ?_
              exact kb_X8_firstThatCounts_B52_1000_303 C hz ih _ _ _
            · refine Dk.loc [2, 3, 4, 0] rfl ?_
              exact kb_X8_firstThatCounts_B47_1000_303 C hz ih _ _
set_option maxRecDepth 20000 in
theorem kw_X8_firstThatCounts_1000_303 {X : GX} {θ : TH} {ad Y : Nat → Nat} {F : Nat} {Z : Zt} {S : St}  (C : CX (mE X θ (wdC θ ad Y Z S) 6) RX8 cX8_firstThatCounts (some .int) 0 0 0) (hz : Z.2 0 = true) : Dk (mE X θ (wdC θ ad Y Z S) 6) (mT X θ (wdC θ ad Y Z S) 6 (PI (wdC θ ad Y Z S))) 0 0 (wdC θ ad Y Z S) [(0, .ref (Y 1019)), (1, .ref (ad 303))] [] 0 (f_X8_firstThatCounts F 1000 303 Z S) := by
  show Dk _ _ _ _ _ _ _ _ (f_X8_firstThatCounts_L2 F 1000 303 Z S F 0)
  refine k_iconst (v := 0) C dX8_firstThatCounts_0 rfl ?_
  refine k_istore_n (lv' := [(2, .int 0), (0, .ref (Y 1019)), (1, .ref (ad 303))]) C dX8_firstThatCounts_1 rfl (Nat.le_of_ble_eq_true rfl) rfl ?_
  refine Dk.loc [1, 2, 0] rfl ?_
  exact kb_X8_firstThatCounts_L2_1000_303 C hz _ _
theorem ct_X8_firstThatCounts_1000_303 {l : Launch} {θ : TH} {ad Y : Nat → Nat} {S : St} {F : Nat} {Z : Zt}  (hz : Z.2 0 = true) : ∀ r, f_X8_firstThatCounts F 1000 303 Z S = some r → Ct l θ yX8_firstThatCounts cX8_firstThatCounts 6 (some .int) 0 0 0 [.ref (Y 1019), .ref (ad 303)] (wdC θ ad Y Z S) (PI (wdC θ ad Y Z S) r) :=
  fun r hr => Ct.of (by decide +kernel) (Nat.le_of_ble_eq_true rfl) (fun X _ C _ => kw_X8_firstThatCounts_1000_303 C hz r hr)
set_option maxRecDepth 20000 in
theorem kb_X8_firstThatCounts_B52_1020_303 {X : GX} {θ : TH} {ad Y : Nat → Nat} {F : Nat} {Z : Zt} {S : St} {K2 : Int32 → Option (Int32)} (C : CX (mE X θ (wdC θ ad Y Z S) 6) RX8 cX8_firstThatCounts (some .int) 0 0 0) (hz : Z.2 1 = true) (hK2 : ∀ (x2 : Int32), Dk (mE X θ (wdC θ ad Y Z S) 6) (mT X θ (wdC θ ad Y Z S) 6 (PI (wdC θ ad Y Z S))) 0 0 (wdC θ ad Y Z S) [(0, .ref (Y 1039)), (1, .ref (ad 303)), (2, .int x2)] [] 2 (K2 x2)) (x2 : Int32) (x4 : Int32) (t0 : Int32) : Dk (mE X θ (wdC θ ad Y Z S) 6) (mT X θ (wdC θ ad Y Z S) 6 (PI (wdC θ ad Y Z S))) 0 0 (wdC θ ad Y Z S) [(0, .ref (Y 1039)), (1, .ref (ad 303)), (2, .int x2), (4, .int x4)] [.int t0] 52 (f_X8_firstThatCounts_B52 F 1020 303 Z S K2 x2 x4 t0) := by
  show Dk _ _ _ _ _ _ _ _ (if t0 = 0 then K2 (x2 + 1) else if x4 < 0 then K2 (x2 + 1) else if (120 : Int32) ≤ x4 then K2 (x2 + 1) else chk (inr x4 120) (some (S.2.1 303 (x4).toNatClampNeg)))
  refine k_istore (lv' := [(5, .int t0), (0, .ref (Y 1039)), (1, .ref (ad 303)), (2, .int x2), (4, .int x4)]) C dX8_firstThatCounts_52 (Nat.le_of_ble_eq_true rfl) rfl ?_
  refine k_iload (q := 0) C dX8_firstThatCounts_54 rfl ?_
  refine k_if_eq (tgt := 76) C dX8_firstThatCounts_56 (by decide) (fun _ => ?_) (fun _ => ?_)
  · refine k_iinc (q := 3) (v := x2 + 1) (lv' := [(2, .int (x2 + 1)), (5, .int t0), (0, .ref (Y 1039)), (1, .ref (ad 303)), (4, .int x4)]) C dX8_firstThatCounts_76 rfl rfl (Nat.le_of_ble_eq_true rfl) rfl ?_
    refine k_goto (tgt := 2) C dX8_firstThatCounts_79 (by decide) ?_
    refine Dk.loc [2, 3, 0] rfl ?_
    exact hK2 _
  · refine k_iload (q := 4) C dX8_firstThatCounts_59 rfl ?_
    refine k_if_lt (tgt := 76) C dX8_firstThatCounts_61 (by decide) (fun _ => ?_) (fun _ => ?_)
    · refine k_iinc (q := 3) (v := x2 + 1) (lv' := [(2, .int (x2 + 1)), (5, .int t0), (0, .ref (Y 1039)), (1, .ref (ad 303)), (4, .int x4)]) C dX8_firstThatCounts_76 rfl rfl (Nat.le_of_ble_eq_true rfl) rfl ?_
      refine k_goto (tgt := 2) C dX8_firstThatCounts_79 (by decide) ?_
      refine Dk.loc [2, 3, 0] rfl ?_
      exact hK2 _
    · refine k_iload (q := 4) C dX8_firstThatCounts_64 rfl ?_
      refine k_aload_n (q := 2) C dX8_firstThatCounts_66 rfl rfl ?_
      refine c_alen (i := 303) (v := 120) C rfl am_303 ak_303 rfl dX8_firstThatCounts_67 ?_
      refine k_icmp_ge (tgt := 76) C dX8_firstThatCounts_68 (by decide) (fun _ => ?_) (fun _ => ?_)
      · refine k_iinc (q := 3) (v := x2 + 1) (lv' := [(2, .int (x2 + 1)), (5, .int t0), (0, .ref (Y 1039)), (1, .ref (ad 303)), (4, .int x4)]) C dX8_firstThatCounts_76 rfl rfl (Nat.le_of_ble_eq_true rfl) rfl ?_
        refine k_goto (tgt := 2) C dX8_firstThatCounts_79 (by decide) ?_
        refine Dk.loc [2, 3, 0] rfl ?_
        exact hK2 _
      · refine k_aload_n (q := 2) C dX8_firstThatCounts_71 rfl rfl ?_
        refine k_iload (q := 4) C dX8_firstThatCounts_72 rfl ?_
        refine c_iald (i := 303) (v := S.2.1 303 (x4).toNatClampNeg) C rfl am_303 ak_303 rfl rfl dX8_firstThatCounts_74 ?_
        exact k_iret C rfl ⟨rfl, rfl⟩ dX8_firstThatCounts_75
set_option maxRecDepth 20000 in
theorem kb_X8_firstThatCounts_B47_1020_303 {X : GX} {θ : TH} {ad Y : Nat → Nat} {F : Nat} {Z : Zt} {S : St} {K2 : Int32 → Option (Int32)} (C : CX (mE X θ (wdC θ ad Y Z S) 6) RX8 cX8_firstThatCounts (some .int) 0 0 0) (hz : Z.2 1 = true) (hK2 : ∀ (x2 : Int32), Dk (mE X θ (wdC θ ad Y Z S) 6) (mT X θ (wdC θ ad Y Z S) 6 (PI (wdC θ ad Y Z S))) 0 0 (wdC θ ad Y Z S) [(0, .ref (Y 1039)), (1, .ref (ad 303)), (2, .int x2)] [] 2 (K2 x2)) (x2 : Int32) (x4 : Int32) : Dk (mE X θ (wdC θ ad Y Z S) 6) (mT X θ (wdC θ ad Y Z S) 6 (PI (wdC θ ad Y Z S))) 0 0 (wdC θ ad Y Z S) [(0, .ref (Y 1039)), (1, .ref (ad 303)), (2, .int x2), (4, .int x4)] [] 47 (f_X8_firstThatCounts_B47 F 1020 303 Z S K2 x2 x4) := by
  show Dk _ _ _ _ _ _ _ _ (f_X8_firstThatCounts_B52 F 1020 303 Z S K2 x2 x4 1)
  refine k_iconst (v := 1) C dX8_firstThatCounts_47 rfl ?_
  refine k_goto (tgt := 52) C dX8_firstThatCounts_48 (by decide) ?_
  exact kb_X8_firstThatCounts_B52_1020_303 C hz hK2 _ _ _
set_option maxRecDepth 20000 in
theorem kb_X8_firstThatCounts_L2_1020_303 {X : GX} {θ : TH} {ad Y : Nat → Nat} {F : Nat} {Z : Zt} {S : St} (C : CX (mE X θ (wdC θ ad Y Z S) 6) RX8 cX8_firstThatCounts (some .int) 0 0 0) (hz : Z.2 1 = true) : ∀ (n : Nat) (x2 : Int32), Dk (mE X θ (wdC θ ad Y Z S) 6) (mT X θ (wdC θ ad Y Z S) 6 (PI (wdC θ ad Y Z S))) 0 0 (wdC θ ad Y Z S) [(0, .ref (Y 1039)), (1, .ref (ad 303)), (2, .int x2)] [] 2 (f_X8_firstThatCounts_L2 F 1020 303 Z S n x2) := by
  intro n
  induction n with
  | zero => intro x2; exact Dk.none
  | succ n ih =>
    intro x2
    show Dk _ _ _ _ _ _ _ _ (if (S.1 1026) ≤ x2 then some ((0 : Int32)) else if (120 : Int32) ≤ x2 then some ((0 : Int32)) else chk (inr x2 120) (lti (S.2.1 1023 (x2).toNatClampNeg) fun y1 => chk (inr x2 120) (lti (S.2.1 1024 (x2).toNatClampNeg) fun y2 => (if y1 < 0 then f_X8_firstThatCounts_B47 F 1020 303 Z S (f_X8_firstThatCounts_L2 F 1020 303 Z S n) x2 y2 else if (120 : Int32) ≤ y1 then f_X8_firstThatCounts_B47 F 1020 303 Z S (f_X8_firstThatCounts_L2 F 1020 303 Z S n) x2 y2 else chk (inr y1 120) ((if (S.2.1 303 (y1).toNatClampNeg) = 0 then f_X8_firstThatCounts_B52 F 1020 303 Z S (f_X8_firstThatCounts_L2 F 1020 303 Z S n) x2 y2 0 else f_X8_firstThatCounts_B47 F 1020 303 Z S (f_X8_firstThatCounts_L2 F 1020 303 Z S n) x2 y2))))))
    refine k_iload_n (q := 2) C dX8_firstThatCounts_2 rfl rfl ?_
    refine k_aload_n (q := 0) C dX8_firstThatCounts_3 rfl rfl ?_
    refine c_get (b := 1020) (ci := 8) (kf := 6) (N := 7) (v := .int (S.1 1026)) C rfl ⟨rfl, rfl⟩ (LC_s1 hz (by decide)) rfl lay_8 kk_8_6 fl_8_31 rfl dX8_firstThatCounts_4 ?_
    refine k_icmp_ge (tgt := 82) C dX8_firstThatCounts_7 (by decide) (fun _ => ?_) (fun _ => ?_)
    · refine k_iconst (v := 0) C dX8_firstThatCounts_82 rfl ?_
      exact k_iret C rfl ⟨rfl, rfl⟩ dX8_firstThatCounts_83
    · refine k_iload_n (q := 2) C dX8_firstThatCounts_10 rfl rfl ?_
      refine k_bipush (v := 120) C dX8_firstThatCounts_11 rfl ?_
      refine k_icmp_ge (tgt := 82) C dX8_firstThatCounts_13 (by decide) (fun _ => ?_) (fun _ => ?_)
      · refine k_iconst (v := 0) C dX8_firstThatCounts_82 rfl ?_
        exact k_iret C rfl ⟨rfl, rfl⟩ dX8_firstThatCounts_83
      · refine k_aload_n (q := 0) C dX8_firstThatCounts_16 rfl rfl ?_
        refine c_get (b := 1020) (ci := 8) (kf := 3) (N := 7) C rfl ⟨rfl, rfl⟩ (LC_s1 hz (by decide)) rfl lay_8 kk_8_3 fl_8_21 rfl dX8_firstThatCounts_17 ?_
        refine k_iload_n (q := 2) C dX8_firstThatCounts_20 rfl rfl ?_
        refine c_iald (i := 1023) (v := S.2.1 1023 (x2).toNatClampNeg) C rfl (LC_s1 hz (by decide)) ak_1023 rfl rfl dX8_firstThatCounts_21 ?_
        refine k_lti fun y1 => ?_
        refine k_istore_n (lv' := [(3, .int y1), (0, .ref (Y 1039)), (1, .ref (ad 303)), (2, .int x2)]) C dX8_firstThatCounts_22 rfl (Nat.le_of_ble_eq_true rfl) rfl ?_
        refine k_aload_n (q := 1) C dX8_firstThatCounts_23 rfl rfl ?_
        refine c_get (b := 1020) (ci := 8) (kf := 4) (N := 7) C rfl ⟨rfl, rfl⟩ (LC_s1 hz (by decide)) rfl lay_8 kk_8_4 fl_8_24 rfl dX8_firstThatCounts_24 ?_
        refine k_iload_n (q := 3) C dX8_firstThatCounts_27 rfl rfl ?_
        refine c_iald (i := 1024) (v := S.2.1 1024 (x2).toNatClampNeg) C rfl (LC_s1 hz (by decide)) ak_1024 rfl rfl dX8_firstThatCounts_28 ?_
        refine k_lti fun y2 => ?_
        refine k_istore (lv' := [(4, .int y2), (3, .int y1), (0, .ref (Y 1039)), (1, .ref (ad 303)), (2, .int x2)]) C dX8_firstThatCounts_29 (Nat.le_of_ble_eq_true rfl) rfl ?_
        refine k_iload_n (q := 1) C dX8_firstThatCounts_31 rfl rfl ?_
        refine k_if_lt (tgt := 47) C dX8_firstThatCounts_32 (by decide) (fun _ => ?_) (fun _ => ?_)
        · refine Dk.loc [2, 3, 4, 0] rfl ?_
          exact kb_X8_firstThatCounts_B47_1020_303 C hz ih _ _
        · refine k_iload_n (q := 1) C dX8_firstThatCounts_35 rfl rfl ?_
          refine k_aload_n (q := 3) C dX8_firstThatCounts_36 rfl rfl ?_
          refine c_alen (i := 303) (v := 120) C rfl am_303 ak_303 rfl dX8_firstThatCounts_37 ?_
          refine k_icmp_ge (tgt := 47) C dX8_firstThatCounts_38 (by decide) (fun _ => ?_) (fun _ => ?_)
          · refine Dk.loc [2, 3, 4, 0] rfl ?_
            exact kb_X8_firstThatCounts_B47_1020_303 C hz ih _ _
          · refine k_aload_n (q := 3) C dX8_firstThatCounts_41 rfl rfl ?_
            refine k_iload_n (q := 1) C dX8_firstThatCounts_42 rfl rfl ?_
            refine c_iald (i := 303) (v := S.2.1 303 (y1).toNatClampNeg) C rfl am_303 ak_303 rfl rfl dX8_firstThatCounts_43 ?_
            refine k_if_eq (tgt := 51) C dX8_firstThatCounts_44 (by decide) (fun _ => ?_) (fun _ => ?_)
            · refine k_iconst (v := 0) C dX8_firstThatCounts_51 rfl ?_
              refine Dk.loc [2, 3, 4, 0] rfl ?_
              exact kb_X8_firstThatCounts_B52_1020_303 C hz ih _ _ _
            · refine Dk.loc [2, 3, 4, 0] rfl ?_
              exact kb_X8_firstThatCounts_B47_1020_303 C hz ih _ _
set_option maxRecDepth 20000 in
theorem kw_X8_firstThatCounts_1020_303 {X : GX} {θ : TH} {ad Y : Nat → Nat} {F : Nat} {Z : Zt} {S : St}  (C : CX (mE X θ (wdC θ ad Y Z S) 6) RX8 cX8_firstThatCounts (some .int) 0 0 0) (hz : Z.2 1 = true) : Dk (mE X θ (wdC θ ad Y Z S) 6) (mT X θ (wdC θ ad Y Z S) 6 (PI (wdC θ ad Y Z S))) 0 0 (wdC θ ad Y Z S) [(0, .ref (Y 1039)), (1, .ref (ad 303))] [] 0 (f_X8_firstThatCounts F 1020 303 Z S) := by
  show Dk _ _ _ _ _ _ _ _ (f_X8_firstThatCounts_L2 F 1020 303 Z S F 0)
  refine k_iconst (v := 0) C dX8_firstThatCounts_0 rfl ?_
  refine k_istore_n (lv' := [(2, .int 0), (0, .ref (Y 1039)), (1, .ref (ad 303))]) C dX8_firstThatCounts_1 rfl (Nat.le_of_ble_eq_true rfl) rfl ?_
  refine Dk.loc [1, 2, 0] rfl ?_
  exact kb_X8_firstThatCounts_L2_1020_303 C hz _ _
theorem ct_X8_firstThatCounts_1020_303 {l : Launch} {θ : TH} {ad Y : Nat → Nat} {S : St} {F : Nat} {Z : Zt}  (hz : Z.2 1 = true) : ∀ r, f_X8_firstThatCounts F 1020 303 Z S = some r → Ct l θ yX8_firstThatCounts cX8_firstThatCounts 6 (some .int) 0 0 0 [.ref (Y 1039), .ref (ad 303)] (wdC θ ad Y Z S) (PI (wdC θ ad Y Z S) r) :=
  fun r hr => Ct.of (by decide +kernel) (Nat.le_of_ble_eq_true rfl) (fun X _ C _ => kw_X8_firstThatCounts_1020_303 C hz r hr)
set_option maxRecDepth 20000 in
theorem kb_X8_firstThatCounts_B52_1040_303 {X : GX} {θ : TH} {ad Y : Nat → Nat} {F : Nat} {Z : Zt} {S : St} {K2 : Int32 → Option (Int32)} (C : CX (mE X θ (wdC θ ad Y Z S) 6) RX8 cX8_firstThatCounts (some .int) 0 0 0) (hz : Z.2 2 = true) (hK2 : ∀ (x2 : Int32), Dk (mE X θ (wdC θ ad Y Z S) 6) (mT X θ (wdC θ ad Y Z S) 6 (PI (wdC θ ad Y Z S))) 0 0 (wdC θ ad Y Z S) [(0, .ref (Y 1059)), (1, .ref (ad 303)), (2, .int x2)] [] 2 (K2 x2)) (x2 : Int32) (x4 : Int32) (t0 : Int32) : Dk (mE X θ (wdC θ ad Y Z S) 6) (mT X θ (wdC θ ad Y Z S) 6 (PI (wdC θ ad Y Z S))) 0 0 (wdC θ ad Y Z S) [(0, .ref (Y 1059)), (1, .ref (ad 303)), (2, .int x2), (4, .int x4)] [.int t0] 52 (f_X8_firstThatCounts_B52 F 1040 303 Z S K2 x2 x4 t0) := by
  show Dk _ _ _ _ _ _ _ _ (if t0 = 0 then K2 (x2 + 1) else if x4 < 0 then K2 (x2 + 1) else if (120 : Int32) ≤ x4 then K2 (x2 + 1) else chk (inr x4 120) (some (S.2.1 303 (x4).toNatClampNeg)))
  refine k_istore (lv' := [(5, .int t0), (0, .ref (Y 1059)), (1, .ref (ad 303)), (2, .int x2), (4, .int x4)]) C dX8_firstThatCounts_52 (Nat.le_of_ble_eq_true rfl) rfl ?_
  refine k_iload (q := 0) C dX8_firstThatCounts_54 rfl ?_
  refine k_if_eq (tgt := 76) C dX8_firstThatCounts_56 (by decide) (fun _ => ?_) (fun _ => ?_)
  · refine k_iinc (q := 3) (v := x2 + 1) (lv' := [(2, .int (x2 + 1)), (5, .int t0), (0, .ref (Y 1059)), (1, .ref (ad 303)), (4, .int x4)]) C dX8_firstThatCounts_76 rfl rfl (Nat.le_of_ble_eq_true rfl) rfl ?_
    refine k_goto (tgt := 2) C dX8_firstThatCounts_79 (by decide) ?_
    refine Dk.loc [2, 3, 0] rfl ?_
    exact hK2 _
  · refine k_iload (q := 4) C dX8_firstThatCounts_59 rfl ?_
    refine k_if_lt (tgt := 76) C dX8_firstThatCounts_61 (by decide) (fun _ => ?_) (fun _ => ?_)
    · refine k_iinc (q := 3) (v := x2 + 1) (lv' := [(2, .int (x2 + 1)), (5, .int t0), (0, .ref (Y 1059)), (1, .ref (ad 303)), (4, .int x4)]) C dX8_firstThatCounts_76 rfl rfl (Nat.le_of_ble_eq_true rfl) rfl ?_
      refine k_goto (tgt := 2) C dX8_firstThatCounts_79 (by decide) ?_
      refine Dk.loc [2, 3, 0] rfl ?_
      exact hK2 _
    · refine k_iload (q := 4) C dX8_firstThatCounts_64 rfl ?_
      refine k_aload_n (q := 2) C dX8_firstThatCounts_66 rfl rfl ?_
      refine c_alen (i := 303) (v := 120) C rfl am_303 ak_303 rfl dX8_firstThatCounts_67 ?_
      refine k_icmp_ge (tgt := 76) C dX8_firstThatCounts_68 (by decide) (fun _ => ?_) (fun _ => ?_)
      · refine k_iinc (q := 3) (v := x2 + 1) (lv' := [(2, .int (x2 + 1)), (5, .int t0), (0, .ref (Y 1059)), (1, .ref (ad 303)), (4, .int x4)]) C dX8_firstThatCounts_76 rfl rfl (Nat.le_of_ble_eq_true rfl) rfl ?_
        refine k_goto (tgt := 2) C dX8_firstThatCounts_79 (by decide) ?_
        refine Dk.loc [2, 3, 0] rfl ?_
        exact hK2 _
      · refine k_aload_n (q := 2) C dX8_firstThatCounts_71 rfl rfl ?_
        refine k_iload (q := 4) C dX8_firstThatCounts_72 rfl ?_
        refine c_iald (i := 303) (v := S.2.1 303 (x4).toNatClampNeg) C rfl am_303 ak_303 rfl rfl dX8_firstThatCounts_74 ?_
        exact k_iret C rfl ⟨rfl, rfl⟩ dX8_firstThatCounts_75
set_option maxRecDepth 20000 in
theorem kb_X8_firstThatCounts_B47_1040_303 {X : GX} {θ : TH} {ad Y : Nat → Nat} {F : Nat} {Z : Zt} {S : St} {K2 : Int32 → Option (Int32)} (C : CX (mE X θ (wdC θ ad Y Z S) 6) RX8 cX8_firstThatCounts (some .int) 0 0 0) (hz : Z.2 2 = true) (hK2 : ∀ (x2 : Int32), Dk (mE X θ (wdC θ ad Y Z S) 6) (mT X θ (wdC θ ad Y Z S) 6 (PI (wdC θ ad Y Z S))) 0 0 (wdC θ ad Y Z S) [(0, .ref (Y 1059)), (1, .ref (ad 303)), (2, .int x2)] [] 2 (K2 x2)) (x2 : Int32) (x4 : Int32) : Dk (mE X θ (wdC θ ad Y Z S) 6) (mT X θ (wdC θ ad Y Z S) 6 (PI (wdC θ ad Y Z S))) 0 0 (wdC θ ad Y Z S) [(0, .ref (Y 1059)), (1, .ref (ad 303)), (2, .int x2), (4, .int x4)] [] 47 (f_X8_firstThatCounts_B47 F 1040 303 Z S K2 x2 x4) := by
  show Dk _ _ _ _ _ _ _ _ (f_X8_firstThatCounts_B52 F 1040 303 Z S K2 x2 x4 1)
  refine k_iconst (v := 1) C dX8_firstThatCounts_47 rfl ?_
  refine k_goto (tgt := 52) C dX8_firstThatCounts_48 (by decide) ?_
  exact kb_X8_firstThatCounts_B52_1040_303 C hz hK2 _ _ _
set_option maxRecDepth 20000 in
theorem kb_X8_firstThatCounts_L2_1040_303 {X : GX} {θ : TH} {ad Y : Nat → Nat} {F : Nat} {Z : Zt} {S : St} (C : CX (mE X θ (wdC θ ad Y Z S) 6) RX8 cX8_firstThatCounts (some .int) 0 0 0) (hz : Z.2 2 = true) : ∀ (n : Nat) (x2 : Int32), Dk (mE X θ (wdC θ ad Y Z S) 6) (mT X θ (wdC θ ad Y Z S) 6 (PI (wdC θ ad Y Z S))) 0 0 (wdC θ ad Y Z S) [(0, .ref (Y 1059)), (1, .ref (ad 303)), (2, .int x2)] [] 2 (f_X8_firstThatCounts_L2 F 1040 303 Z S n x2) := by
  intro n
  induction n with
  | zero => intro x2; exact Dk.none
  | succ n ih =>
    intro x2
    show Dk _ _ _ _ _ _ _ _ (if (S.1 1046) ≤ x2 then some ((0 : Int32)) else if (120 : Int32) ≤ x2 then some ((0 : Int32)) else chk (inr x2 120) (lti (S.2.1 1043 (x2).toNatClampNeg) fun y1 => chk (inr x2 120) (lti (S.2.1 1044 (x2).toNatClampNeg) fun y2 => (if y1 < 0 then f_X8_firstThatCounts_B47 F 1040 303 Z S (f_X8_firstThatCounts_L2 F 1040 303 Z S n) x2 y2 else if (120 : Int32) ≤ y1 then f_X8_firstThatCounts_B47 F 1040 303 Z S (f_X8_firstThatCounts_L2 F 1040 303 Z S n) x2 y2 else chk (inr y1 120) ((if (S.2.1 303 (y1).toNatClampNeg) = 0 then f_X8_firstThatCounts_B52 F 1040 303 Z S (f_X8_firstThatCounts_L2 F 1040 303 Z S n) x2 y2 0 else f_X8_firstThatCounts_B47 F 1040 303 Z S (f_X8_firstThatCounts_L2 F 1040 303 Z S n) x2 y2))))))
    refine k_iload_n (q := 2) C dX8_firstThatCounts_2 rfl rfl ?_
    refine k_aload_n (q := 0) C dX8_firstThatCounts_3 rfl rfl ?_
    refine c_get (b := 1040) (ci := 8) (kf := 6) (N := 7) (v := .int (S.1 1046)) C rfl ⟨rfl, rfl⟩ (LC_s2 hz (by decide)) rfl lay_8 kk_8_6 fl_8_31 rfl dX8_firstThatCounts_4 ?_
    refine k_icmp_ge (tgt := 82) C dX8_firstThatCounts_7 (by decide) (fun _ => ?_) (fun _ => ?_)
    · refine k_iconst (v := 0) C dX8_firstThatCounts_82 rfl ?_
      exact k_iret C rfl ⟨rfl, rfl⟩ dX8_firstThatCounts_83
    · refine k_iload_n (q := 2) C dX8_firstThatCounts_10 rfl rfl ?_
      refine k_bipush (v := 120) C dX8_firstThatCounts_11 rfl ?_
      refine k_icmp_ge (tgt := 82) C dX8_firstThatCounts_13 (by decide) (fun _ => ?_) (fun _ => ?_)
      · refine k_iconst (v := 0) C dX8_firstThatCounts_82 rfl ?_
        exact k_iret C rfl ⟨rfl, rfl⟩ dX8_firstThatCounts_83
      · refine k_aload_n (q := 0) C dX8_firstThatCounts_16 rfl rfl ?_
        refine c_get (b := 1040) (ci := 8) (kf := 3) (N := 7) C rfl ⟨rfl, rfl⟩ (LC_s2 hz (by decide)) rfl lay_8 kk_8_3 fl_8_21 rfl dX8_firstThatCounts_17 ?_
        refine k_iload_n (q := 2) C dX8_firstThatCounts_20 rfl rfl ?_
        refine c_iald (i := 1043) (v := S.2.1 1043 (x2).toNatClampNeg) C rfl (LC_s2 hz (by decide)) ak_1043 rfl rfl dX8_firstThatCounts_21 ?_
        refine k_lti fun y1 => ?_
        refine k_istore_n (lv' := [(3, .int y1), (0, .ref (Y 1059)), (1, .ref (ad 303)), (2, .int x2)]) C dX8_firstThatCounts_22 rfl (Nat.le_of_ble_eq_true rfl) rfl ?_
        refine k_aload_n (q := 1) C dX8_firstThatCounts_23 rfl rfl ?_
        refine c_get (b := 1040) (ci := 8) (kf := 4) (N := 7) C rfl ⟨rfl, rfl⟩ (LC_s2 hz (by decide)) rfl lay_8 kk_8_4 fl_8_24 rfl dX8_firstThatCounts_24 ?_
        refine k_iload_n (q := 3) C dX8_firstThatCounts_27 rfl rfl ?_
        refine c_iald (i := 1044) (v := S.2.1 1044 (x2).toNatClampNeg) C rfl (LC_s2 hz (by decide)) ak_1044 rfl rfl dX8_firstThatCounts_28 ?_
        refine k_lti fun y2 => ?_
        refine k_istore (lv' := [(4, .int y2), (3, .int y1), (0, .ref (Y 1059)), (1, .ref (ad 303)), (2, .int x2)]) C dX8_firstThatCounts_29 (Nat.le_of_ble_eq_true rfl) rfl ?_
        refine k_iload_n (q := 1) C dX8_firstThatCounts_31 rfl rfl ?_
        refine k_if_lt (tgt := 47) C dX8_firstThatCounts_32 (by decide) (fun _ => ?_) (fun _ => ?_)
        · refine Dk.loc [2, 3, 4, 0] rfl ?_
          exact kb_X8_firstThatCounts_B47_1040_303 C hz ih _ _
        · refine k_iload_n (q := 1) C dX8_firstThatCounts_35 rfl rfl ?_
          refine k_aload_n (q := 3) C dX8_firstThatCounts_36 rfl rfl ?_
          refine c_alen (i := 303) (v := 120) C rfl am_303 ak_303 rfl dX8_firstThatCounts_37 ?_
          refine k_icmp_ge (tgt := 47) C dX8_firstThatCounts_38 (by decide) (fun _ => ?_) (fun _ => ?_)
          · refine Dk.loc [2, 3, 4, 0] rfl ?_
            exact kb_X8_firstThatCounts_B47_1040_303 C hz ih _ _
          · refine k_aload_n (q := 3) C dX8_firstThatCounts_41 rfl rfl ?_
            refine k_iload_n (q := 1) C dX8_firstThatCounts_42 rfl rfl ?_
            refine c_iald (i := 303) (v := S.2.1 303 (y1).toNatClampNeg) C rfl am_303 ak_303 rfl rfl dX8_firstThatCounts_43 ?_
            refine k_if_eq (tgt := 51) C dX8_firstThatCounts_44 (by decide) (fun _ => ?_) (fun _ => ?_)
            · refine k_iconst (v := 0) C dX8_firstThatCounts_51 rfl ?_
              refine Dk.loc [2, 3, 4, 0] rfl ?_
              exact kb_X8_firstThatCounts_B52_1040_303 C hz ih _ _ _
            · refine Dk.loc [2, 3, 4, 0] rfl ?_
              exact kb_X8_firstThatCounts_B47_1040_303 C hz ih _ _
set_option maxRecDepth 20000 in
theorem kw_X8_firstThatCounts_1040_303 {X : GX} {θ : TH} {ad Y : Nat → Nat} {F : Nat} {Z : Zt} {S : St}  (C : CX (mE X θ (wdC θ ad Y Z S) 6) RX8 cX8_firstThatCounts (some .int) 0 0 0) (hz : Z.2 2 = true) : Dk (mE X θ (wdC θ ad Y Z S) 6) (mT X θ (wdC θ ad Y Z S) 6 (PI (wdC θ ad Y Z S))) 0 0 (wdC θ ad Y Z S) [(0, .ref (Y 1059)), (1, .ref (ad 303))] [] 0 (f_X8_firstThatCounts F 1040 303 Z S) := by
  show Dk _ _ _ _ _ _ _ _ (f_X8_firstThatCounts_L2 F 1040 303 Z S F 0)
  refine k_iconst (v := 0) C dX8_firstThatCounts_0 rfl ?_
  refine k_istore_n (lv' := [(2, .int 0), (0, .ref (Y 1059)), (1, .ref (ad 303))]) C dX8_firstThatCounts_1 rfl (Nat.le_of_ble_eq_true rfl) rfl ?_
  refine Dk.loc [1, 2, 0] rfl ?_
  exact kb_X8_firstThatCounts_L2_1040_303 C hz _ _
theorem ct_X8_firstThatCounts_1040_303 {l : Launch} {θ : TH} {ad Y : Nat → Nat} {S : St} {F : Nat} {Z : Zt}  (hz : Z.2 2 = true) : ∀ r, f_X8_firstThatCounts F 1040 303 Z S = some r → Ct l θ yX8_firstThatCounts cX8_firstThatCounts 6 (some .int) 0 0 0 [.ref (Y 1059), .ref (ad 303)] (wdC θ ad Y Z S) (PI (wdC θ ad Y Z S) r) :=
  fun r hr => Ct.of (by decide +kernel) (Nat.le_of_ble_eq_true rfl) (fun X _ C _ => kw_X8_firstThatCounts_1040_303 C hz r hr)
set_option maxRecDepth 20000 in
theorem kw_X8_joined {X : GX} {θ : TH} {ws : va_W} {o : Nat}   {a1 : Int32} {a2 : Int32} {a3 : Int32} (C : CX (mE X θ (ws) 4) RX8 cX8_joined (some .int) 0 0 0)  : Dk (mE X θ (ws) 4) (mT X θ (ws) 4 (PI ws)) 0 0 ws [(0, .ref o), (1, .int a1), (2, .int a2), (3, .int a3)] [] 0 (f_X8_joined a1 a2 a3) := by
  show Dk _ _ _ _ _ _ _ _ (if a1 = 33 then if a2 = 0 then some ((1 : Int32)) else some ((0 : Int32)) else if a1 = 37 then if a3 = 0 then some ((0 : Int32)) else chk (nz a3) (some (jrem a2 a3)) else if a1 = 38 then if a2 = 0 then some ((0 : Int32)) else if a3 = 0 then some ((0 : Int32)) else some ((1 : Int32)) else if a1 = 42 then some (a2 * a3) else if a1 = 43 then some (a2 + a3) else if a1 = 45 then some (a2 - a3) else if a1 = 47 then if a3 = 0 then some ((0 : Int32)) else chk (nz a3) (some (a2 / a3)) else if a1 = 60 then if a3 ≤ a2 then some ((0 : Int32)) else some ((1 : Int32)) else if a1 = 61 then if a2 = a3 then some ((1 : Int32)) else some ((0 : Int32)) else if a1 = 62 then if a2 ≤ a3 then some ((0 : Int32)) else some ((1 : Int32)) else if a1 = 124 then if a2 = 0 then if a3 = 0 then some ((0 : Int32)) else some ((1 : Int32)) else some ((1 : Int32)) else if a1 = 126 then some (-a2) else some ((0 : Int32)))
  refine k_iload_n (q := 1) C dX8_joined_0 rfl rfl ?_
  refine k_case (c := 33) (fun q1 => ?_) (fun q1 => ?_)
  · refine k_lookup (off := 204) (tgt := 205) C dX8_joined_1 (by decide) (by rw [q1]; rfl) (by decide) ?_
    refine k_iload_n (q := 2) C dX8_joined_205 rfl rfl ?_
    refine k_if_ne (tgt := 213) C dX8_joined_206 (by decide) (fun _ => ?_) (fun _ => ?_)
    · refine k_iconst (v := 0) C dX8_joined_213 rfl ?_
      exact k_iret C rfl ⟨rfl, rfl⟩ dX8_joined_214
    · refine k_iconst (v := 1) C dX8_joined_209 rfl ?_
      refine k_goto (tgt := 214) C dX8_joined_210 (by decide) ?_
      exact k_iret C rfl ⟨rfl, rfl⟩ dX8_joined_214
  refine k_case (c := 37) (fun q2 => ?_) (fun q2 => ?_)
  · refine k_lookup (off := 131) (tgt := 132) C dX8_joined_1 (by decide) (by rw [q2]; rfl) (by decide) ?_
    refine k_iload_n (q := 3) C dX8_joined_132 rfl rfl ?_
    refine k_if_ne (tgt := 140) C dX8_joined_133 (by decide) (fun _ => ?_) (fun _ => ?_)
    · refine k_iload_n (q := 2) C dX8_joined_140 rfl rfl ?_
      refine k_iload_n (q := 3) C dX8_joined_141 rfl rfl ?_
      refine k_iremc C dX8_joined_142 ?_
      exact k_iret C rfl ⟨rfl, rfl⟩ dX8_joined_143
    · refine k_iconst (v := 0) C dX8_joined_136 rfl ?_
      refine k_goto (tgt := 143) C dX8_joined_137 (by decide) ?_
      exact k_iret C rfl ⟨rfl, rfl⟩ dX8_joined_143
  refine k_case (c := 38) (fun q3 => ?_) (fun q3 => ?_)
  · refine k_lookup (off := 157) (tgt := 158) C dX8_joined_1 (by decide) (by rw [q3]; rfl) (by decide) ?_
    refine k_iload_n (q := 2) C dX8_joined_158 rfl rfl ?_
    refine k_if_eq (tgt := 170) C dX8_joined_159 (by decide) (fun _ => ?_) (fun _ => ?_)
    · refine k_iconst (v := 0) C dX8_joined_170 rfl ?_
      exact k_iret C rfl ⟨rfl, rfl⟩ dX8_joined_171
    · refine k_iload_n (q := 3) C dX8_joined_162 rfl rfl ?_
      refine k_if_eq (tgt := 170) C dX8_joined_163 (by decide) (fun _ => ?_) (fun _ => ?_)
      · refine k_iconst (v := 0) C dX8_joined_170 rfl ?_
        exact k_iret C rfl ⟨rfl, rfl⟩ dX8_joined_171
      · refine k_iconst (v := 1) C dX8_joined_166 rfl ?_
        refine k_goto (tgt := 171) C dX8_joined_167 (by decide) ?_
        exact k_iret C rfl ⟨rfl, rfl⟩ dX8_joined_171
  refine k_case (c := 42) (fun q4 => ?_) (fun q4 => ?_)
  · refine k_lookup (off := 115) (tgt := 116) C dX8_joined_1 (by decide) (by rw [q4]; rfl) (by decide) ?_
    refine k_iload_n (q := 2) C dX8_joined_116 rfl rfl ?_
    refine k_iload_n (q := 3) C dX8_joined_117 rfl rfl ?_
    refine k_imul C dX8_joined_118 ?_
    exact k_iret C rfl ⟨rfl, rfl⟩ dX8_joined_119
  refine k_case (c := 43) (fun q5 => ?_) (fun q5 => ?_)
  · refine k_lookup (off := 107) (tgt := 108) C dX8_joined_1 (by decide) (by rw [q5]; rfl) (by decide) ?_
    refine k_iload_n (q := 2) C dX8_joined_108 rfl rfl ?_
    refine k_iload_n (q := 3) C dX8_joined_109 rfl rfl ?_
    refine k_iadd C dX8_joined_110 ?_
    exact k_iret C rfl ⟨rfl, rfl⟩ dX8_joined_111
  refine k_case (c := 45) (fun q6 => ?_) (fun q6 => ?_)
  · refine k_lookup (off := 111) (tgt := 112) C dX8_joined_1 (by decide) (by rw [q6]; rfl) (by decide) ?_
    refine k_iload_n (q := 2) C dX8_joined_112 rfl rfl ?_
    refine k_iload_n (q := 3) C dX8_joined_113 rfl rfl ?_
    refine k_isub C dX8_joined_114 ?_
    exact k_iret C rfl ⟨rfl, rfl⟩ dX8_joined_115
  refine k_case (c := 47) (fun q7 => ?_) (fun q7 => ?_)
  · refine k_lookup (off := 119) (tgt := 120) C dX8_joined_1 (by decide) (by rw [q7]; rfl) (by decide) ?_
    refine k_iload_n (q := 3) C dX8_joined_120 rfl rfl ?_
    refine k_if_ne (tgt := 128) C dX8_joined_121 (by decide) (fun _ => ?_) (fun _ => ?_)
    · refine k_iload_n (q := 2) C dX8_joined_128 rfl rfl ?_
      refine k_iload_n (q := 3) C dX8_joined_129 rfl rfl ?_
      refine k_idivc C dX8_joined_130 ?_
      exact k_iret C rfl ⟨rfl, rfl⟩ dX8_joined_131
    · refine k_iconst (v := 0) C dX8_joined_124 rfl ?_
      refine k_goto (tgt := 131) C dX8_joined_125 (by decide) ?_
      exact k_iret C rfl ⟨rfl, rfl⟩ dX8_joined_131
  refine k_case (c := 60) (fun q8 => ?_) (fun q8 => ?_)
  · refine k_lookup (off := 171) (tgt := 172) C dX8_joined_1 (by decide) (by rw [q8]; rfl) (by decide) ?_
    refine k_iload_n (q := 2) C dX8_joined_172 rfl rfl ?_
    refine k_iload_n (q := 3) C dX8_joined_173 rfl rfl ?_
    refine k_icmp_ge (tgt := 181) C dX8_joined_174 (by decide) (fun _ => ?_) (fun _ => ?_)
    · refine k_iconst (v := 0) C dX8_joined_181 rfl ?_
      exact k_iret C rfl ⟨rfl, rfl⟩ dX8_joined_182
    · refine k_iconst (v := 1) C dX8_joined_177 rfl ?_
      refine k_goto (tgt := 182) C dX8_joined_178 (by decide) ?_
      exact k_iret C rfl ⟨rfl, rfl⟩ dX8_joined_182
  refine k_case (c := 61) (fun q9 => ?_) (fun q9 => ?_)
  · refine k_lookup (off := 182) (tgt := 183) C dX8_joined_1 (by decide) (by rw [q9]; rfl) (by decide) ?_
    refine k_iload_n (q := 2) C dX8_joined_183 rfl rfl ?_
    refine k_iload_n (q := 3) C dX8_joined_184 rfl rfl ?_
    refine k_icmp_ne (tgt := 192) C dX8_joined_185 (by decide) (fun _ => ?_) (fun _ => ?_)
    · refine k_iconst (v := 0) C dX8_joined_192 rfl ?_
      exact k_iret C rfl ⟨rfl, rfl⟩ dX8_joined_193
    · refine k_iconst (v := 1) C dX8_joined_188 rfl ?_
      refine k_goto (tgt := 193) C dX8_joined_189 (by decide) ?_
      exact k_iret C rfl ⟨rfl, rfl⟩ dX8_joined_193
  refine k_case (c := 62) (fun q10 => ?_) (fun q10 => ?_)
  · refine k_lookup (off := 193) (tgt := 194) C dX8_joined_1 (by decide) (by rw [q10]; rfl) (by decide) ?_
    refine k_iload_n (q := 2) C dX8_joined_194 rfl rfl ?_
    refine k_iload_n (q := 3) C dX8_joined_195 rfl rfl ?_
    refine k_icmp_le (tgt := 203) C dX8_joined_196 (by decide) (fun _ => ?_) (fun _ => ?_)
    · refine k_iconst (v := 0) C dX8_joined_203 rfl ?_
      exact k_iret C rfl ⟨rfl, rfl⟩ dX8_joined_204
    · refine k_iconst (v := 1) C dX8_joined_199 rfl ?_
      refine k_goto (tgt := 204) C dX8_joined_200 (by decide) ?_
      exact k_iret C rfl ⟨rfl, rfl⟩ dX8_joined_204
  refine k_case (c := 124) (fun q11 => ?_) (fun q11 => ?_)
  · refine k_lookup (off := 143) (tgt := 144) C dX8_joined_1 (by decide) (by rw [q11]; rfl) (by decide) ?_
    refine k_iload_n (q := 2) C dX8_joined_144 rfl rfl ?_
    refine k_if_ne (tgt := 152) C dX8_joined_145 (by decide) (fun _ => ?_) (fun _ => ?_)
    · refine k_iconst (v := 1) C dX8_joined_152 rfl ?_
      refine k_goto (tgt := 157) C dX8_joined_153 (by decide) ?_
      exact k_iret C rfl ⟨rfl, rfl⟩ dX8_joined_157
    · refine k_iload_n (q := 3) C dX8_joined_148 rfl rfl ?_
      refine k_if_eq (tgt := 156) C dX8_joined_149 (by decide) (fun _ => ?_) (fun _ => ?_)
      · refine k_iconst (v := 0) C dX8_joined_156 rfl ?_
        exact k_iret C rfl ⟨rfl, rfl⟩ dX8_joined_157
      · refine k_iconst (v := 1) C dX8_joined_152 rfl ?_
        refine k_goto (tgt := 157) C dX8_joined_153 (by decide) ?_
        exact k_iret C rfl ⟨rfl, rfl⟩ dX8_joined_157
  refine k_case (c := 126) (fun q12 => ?_) (fun q12 => ?_)
  · refine k_lookup (off := 214) (tgt := 215) C dX8_joined_1 (by decide) (by rw [q12]; rfl) (by decide) ?_
    refine k_iload_n (q := 2) C dX8_joined_215 rfl rfl ?_
    refine k_ineg C dX8_joined_216 ?_
    exact k_iret C rfl ⟨rfl, rfl⟩ dX8_joined_217
  refine k_lookup (off := 217) (tgt := 218) C dX8_joined_1 (by decide) (by have zq1 := i32ne q1 (z := 33) rfl; have zq2 := i32ne q2 (z := 37) rfl; have zq3 := i32ne q3 (z := 38) rfl; have zq4 := i32ne q4 (z := 42) rfl; have zq5 := i32ne q5 (z := 43) rfl; have zq6 := i32ne q6 (z := 45) rfl; have zq7 := i32ne q7 (z := 47) rfl; have zq8 := i32ne q8 (z := 60) rfl; have zq9 := i32ne q9 (z := 61) rfl; have zq10 := i32ne q10 (z := 62) rfl; have zq11 := i32ne q11 (z := 124) rfl; have zq12 := i32ne q12 (z := 126) rfl; simp [Op.lookupswitch.offset, Ne.symm zq1, Ne.symm zq2, Ne.symm zq3, Ne.symm zq4, Ne.symm zq5, Ne.symm zq6, Ne.symm zq7, Ne.symm zq8, Ne.symm zq9, Ne.symm zq10, Ne.symm zq11, Ne.symm zq12]) (by decide) ?_
  refine k_iconst (v := 0) C dX8_joined_218 rfl ?_
  exact k_iret C rfl ⟨rfl, rfl⟩ dX8_joined_219
theorem ct_X8_joined {l : Launch} {θ : TH} {ws : va_W} {o : Nat}  {a1 : Int32} {a2 : Int32} {a3 : Int32}  : ∀ r, f_X8_joined a1 a2 a3 = some r → Ct l θ yX8_joined cX8_joined 4 (some .int) 0 0 0 [.ref o, .int a1, .int a2, .int a3] (ws) (PI ws r) :=
  fun r hr => Ct.of (by decide +kernel) (Nat.le_of_ble_eq_true rfl) (fun X _ C _ => kw_X8_joined C  r hr)
set_option maxRecDepth 20000 in
theorem kb_X8_answer_B144_1000_82_83 {X : GX} {θ : TH} {ad Y : Nat → Nat} {S0 : St} {F : Nat} {Z : Zt} {K12 : St → Int32 → Option (Int32 × St)} (C : CX (mE X θ (wdC θ ad Y Z S0) 8) RX8 cX8_answer (some .int) 1 0 0) (hz : Z.2 0 = true) (hK12 : ∀ (S : St) (x3 : Int32), Dk (mE X θ (wdC θ ad Y Z S0) 8) (mT X θ (wdC θ ad Y Z S0) 8 (PIS (wdC θ ad Y Z))) 0 0 (wdC θ ad Y Z S) [(0, .ref (Y 1019)), (1, .ref (ad 82)), (2, .ref (ad 83)), (3, .int x3)] [] 12 (K12 S x3)) (S : St) (x3 : Int32) (x6 : Int32) (t0 : Int32) : Dk (mE X θ (wdC θ ad Y Z S0) 8) (mT X θ (wdC θ ad Y Z S0) 8 (PIS (wdC θ ad Y Z))) 0 0 (wdC θ ad Y Z S) [(0, .ref (Y 1019)), (1, .ref (ad 82)), (2, .ref (ad 83)), (3, .int x3), (6, .int x6)] [.int t0] 144 (f_X8_answer_B144 F 1000 82 83 Z K12 S x3 x6 t0) := by
  show Dk _ _ _ _ _ _ _ _ (chk (inr x3 120) ((f_X8_joined (S.2.1 1000 (x3).toNatClampNeg) x6 t0).bind fun r6 => chk (inr x3 120) (K12 (sa S 83 (x3).toNatClampNeg r6) (x3 + 1))))
  refine k_istore (lv' := [(7, .int t0), (0, .ref (Y 1019)), (1, .ref (ad 82)), (2, .ref (ad 83)), (3, .int x3), (6, .int x6)]) C dX8_answer_144 (Nat.le_of_ble_eq_true rfl) rfl ?_
  refine k_aload_n (q := 3) C dX8_answer_146 rfl rfl ?_
  refine k_iload_n (q := 4) C dX8_answer_147 rfl rfl ?_
  refine k_aload_n (q := 1) C dX8_answer_148 rfl rfl ?_
  refine k_aload_n (q := 1) C dX8_answer_149 rfl rfl ?_
  refine c_get (b := 1000) (ci := 8) (kf := 0) (N := 7) C rfl ⟨rfl, rfl⟩ (LC_s0 hz (by decide)) rfl lay_8 kk_8_0 fl_8_9 rfl dX8_answer_150 ?_
  refine k_iload_n (q := 4) C dX8_answer_153 rfl rfl ?_
  refine c_iald (i := 1000) (v := S.2.1 1000 (x3).toNatClampNeg) C rfl (LC_s0 hz (by decide)) ak_1000 rfl rfl dX8_answer_154 ?_
  refine k_iload (q := 5) C dX8_answer_155 rfl ?_
  refine k_iload (q := 0) C dX8_answer_157 rfl ?_
  refine k_cVI C ct_X8_joined my_8_joined ml_8_34 rfl ⟨Nat.le_of_ble_eq_true rfl, Nat.le_of_ble_eq_true rfl⟩ (recvC (b := 1000) (ci := 8) rfl ⟨rfl, rfl⟩ (LC_s0 hz (by decide)) rfl rfl) rfl (Nat.le_of_ble_eq_true rfl) dX8_answer_159 ⟨Nat.le_refl _, Nat.le_refl _⟩ (fun r6 _ => ?_)
  refine c_iast (i := 83) C rfl am_83 ak_83 rfl dX8_answer_162 ?_
  refine k_iinc (q := 4) (v := x3 + 1) (lv' := [(3, .int (x3 + 1)), (7, .int t0), (0, .ref (Y 1019)), (1, .ref (ad 82)), (2, .ref (ad 83)), (6, .int x6)]) C dX8_answer_163 rfl rfl (Nat.le_of_ble_eq_true rfl) rfl ?_
  refine k_goto (tgt := 12) C dX8_answer_166 (by decide) ?_
  refine Dk.loc [2, 3, 4, 0] rfl ?_
  exact hK12 _ _
set_option maxRecDepth 20000 in
theorem kb_X8_answer_B143_1000_82_83 {X : GX} {θ : TH} {ad Y : Nat → Nat} {S0 : St} {F : Nat} {Z : Zt} {K12 : St → Int32 → Option (Int32 × St)} (C : CX (mE X θ (wdC θ ad Y Z S0) 8) RX8 cX8_answer (some .int) 1 0 0) (hz : Z.2 0 = true) (hK12 : ∀ (S : St) (x3 : Int32), Dk (mE X θ (wdC θ ad Y Z S0) 8) (mT X θ (wdC θ ad Y Z S0) 8 (PIS (wdC θ ad Y Z))) 0 0 (wdC θ ad Y Z S) [(0, .ref (Y 1019)), (1, .ref (ad 82)), (2, .ref (ad 83)), (3, .int x3)] [] 12 (K12 S x3)) (S : St) (x3 : Int32) (x6 : Int32) : Dk (mE X θ (wdC θ ad Y Z S0) 8) (mT X θ (wdC θ ad Y Z S0) 8 (PIS (wdC θ ad Y Z))) 0 0 (wdC θ ad Y Z S) [(0, .ref (Y 1019)), (1, .ref (ad 82)), (2, .ref (ad 83)), (3, .int x3), (6, .int x6)] [] 143 (f_X8_answer_B143 F 1000 82 83 Z K12 S x3 x6) := by
  show Dk _ _ _ _ _ _ _ _ (f_X8_answer_B144 F 1000 82 83 Z K12 S x3 x6 0)
  refine k_iconst (v := 0) C dX8_answer_143 rfl ?_
  exact kb_X8_answer_B144_1000_82_83 C hz hK12 _ _ _ _
set_option maxRecDepth 20000 in
theorem kb_X8_answer_B123_1000_82_83 {X : GX} {θ : TH} {ad Y : Nat → Nat} {S0 : St} {F : Nat} {Z : Zt} {K12 : St → Int32 → Option (Int32 × St)} (C : CX (mE X θ (wdC θ ad Y Z S0) 8) RX8 cX8_answer (some .int) 1 0 0) (hz : Z.2 0 = true) (hK12 : ∀ (S : St) (x3 : Int32), Dk (mE X θ (wdC θ ad Y Z S0) 8) (mT X θ (wdC θ ad Y Z S0) 8 (PIS (wdC θ ad Y Z))) 0 0 (wdC θ ad Y Z S) [(0, .ref (Y 1019)), (1, .ref (ad 82)), (2, .ref (ad 83)), (3, .int x3)] [] 12 (K12 S x3)) (S : St) (x3 : Int32) (x5 : Int32) (t0 : Int32) : Dk (mE X θ (wdC θ ad Y Z S0) 8) (mT X θ (wdC θ ad Y Z S0) 8 (PIS (wdC θ ad Y Z))) 0 0 (wdC θ ad Y Z S) [(0, .ref (Y 1019)), (1, .ref (ad 82)), (2, .ref (ad 83)), (3, .int x3), (5, .int x5)] [.int t0] 123 (f_X8_answer_B123 F 1000 82 83 Z K12 S x3 x5 t0) := by
  show Dk _ _ _ _ _ _ _ _ (if x5 < 0 then f_X8_answer_B143 F 1000 82 83 Z K12 S x3 t0 else if x3 ≤ x5 then f_X8_answer_B143 F 1000 82 83 Z K12 S x3 t0 else chk (inr x5 120) (f_X8_answer_B144 F 1000 82 83 Z K12 S x3 t0 (S.2.1 83 (x5).toNatClampNeg)))
  refine k_istore (lv' := [(6, .int t0), (0, .ref (Y 1019)), (1, .ref (ad 82)), (2, .ref (ad 83)), (3, .int x3), (5, .int x5)]) C dX8_answer_123 (Nat.le_of_ble_eq_true rfl) rfl ?_
  refine k_iload (q := 5) C dX8_answer_125 rfl ?_
  refine k_if_lt (tgt := 143) C dX8_answer_127 (by decide) (fun _ => ?_) (fun _ => ?_)
  · refine Dk.loc [1, 2, 3, 4, 0] rfl ?_
    exact kb_X8_answer_B143_1000_82_83 C hz hK12 _ _ _
  · refine k_iload (q := 5) C dX8_answer_130 rfl ?_
    refine k_iload_n (q := 4) C dX8_answer_132 rfl rfl ?_
    refine k_icmp_ge (tgt := 143) C dX8_answer_133 (by decide) (fun _ => ?_) (fun _ => ?_)
    · refine Dk.loc [1, 2, 3, 4, 0] rfl ?_
      exact kb_X8_answer_B143_1000_82_83 C hz hK12 _ _ _
    · refine k_aload_n (q := 3) C dX8_answer_136 rfl rfl ?_
      refine k_iload (q := 5) C dX8_answer_137 rfl ?_
      refine c_iald (i := 83) (v := S.2.1 83 (x5).toNatClampNeg) C rfl am_83 ak_83 rfl rfl dX8_answer_139 ?_
      refine k_goto (tgt := 144) C dX8_answer_140 (by decide) ?_
      refine Dk.loc [1, 2, 3, 4, 0] rfl ?_
      exact kb_X8_answer_B144_1000_82_83 C hz hK12 _ _ _ _
set_option maxRecDepth 20000 in
theorem kb_X8_answer_B122_1000_82_83 {X : GX} {θ : TH} {ad Y : Nat → Nat} {S0 : St} {F : Nat} {Z : Zt} {K12 : St → Int32 → Option (Int32 × St)} (C : CX (mE X θ (wdC θ ad Y Z S0) 8) RX8 cX8_answer (some .int) 1 0 0) (hz : Z.2 0 = true) (hK12 : ∀ (S : St) (x3 : Int32), Dk (mE X θ (wdC θ ad Y Z S0) 8) (mT X θ (wdC θ ad Y Z S0) 8 (PIS (wdC θ ad Y Z))) 0 0 (wdC θ ad Y Z S) [(0, .ref (Y 1019)), (1, .ref (ad 82)), (2, .ref (ad 83)), (3, .int x3)] [] 12 (K12 S x3)) (S : St) (x3 : Int32) (x5 : Int32) : Dk (mE X θ (wdC θ ad Y Z S0) 8) (mT X θ (wdC θ ad Y Z S0) 8 (PIS (wdC θ ad Y Z))) 0 0 (wdC θ ad Y Z S) [(0, .ref (Y 1019)), (1, .ref (ad 82)), (2, .ref (ad 83)), (3, .int x3), (5, .int x5)] [] 122 (f_X8_answer_B122 F 1000 82 83 Z K12 S x3 x5) := by
  show Dk _ _ _ _ _ _ _ _ (f_X8_answer_B123 F 1000 82 83 Z K12 S x3 x5 0)
  refine k_iconst (v := 0) C dX8_answer_122 rfl ?_
  exact kb_X8_answer_B123_1000_82_83 C hz hK12 _ _ _ _
set_option maxRecDepth 20000 in
theorem kb_X8_answer_L12_1000_82_83 {X : GX} {θ : TH} {ad Y : Nat → Nat} {S0 : St} {F : Nat} {Z : Zt} (C : CX (mE X θ (wdC θ ad Y Z S0) 8) RX8 cX8_answer (some .int) 1 0 0) (hz : Z.2 0 = true) : ∀ (n : Nat) (S : St) (x3 : Int32), Dk (mE X θ (wdC θ ad Y Z S0) 8) (mT X θ (wdC θ ad Y Z S0) 8 (PIS (wdC θ ad Y Z))) 0 0 (wdC θ ad Y Z S) [(0, .ref (Y 1019)), (1, .ref (ad 82)), (2, .ref (ad 83)), (3, .int x3)] [] 12 (f_X8_answer_L12 F 1000 82 83 Z n S x3) := by
  intro n
  induction n with
  | zero => intro S x3; exact Dk.none
  | succ n ih =>
    intro S x3
    show Dk _ _ _ _ _ _ _ _ (if (S.1 1005) ≤ x3 then (f_X8_firstThatCounts F 1000 83 Z S).bind fun r1 => some (r1, S) else if (120 : Int32) ≤ x3 then (f_X8_firstThatCounts F 1000 83 Z S).bind fun r2 => some (r2, S) else if (120 : Int32) ≤ x3 then (f_X8_firstThatCounts F 1000 83 Z S).bind fun r3 => some (r3, S) else chk (inr x3 120) (lti (S.2.1 1001 (x3).toNatClampNeg) fun y4 => chk (inr x3 120) (lti (S.2.1 1002 (x3).toNatClampNeg) fun y5 => chk (inr x3 120) ((if (S.2.1 1000 (x3).toNatClampNeg) = 48 then chk (inr x3 120) (f_X8_answer_L12 F 1000 82 83 Z n (sa S 83 (x3).toNatClampNeg y4) (x3 + 1)) else chk (inr x3 120) ((if (S.2.1 1000 (x3).toNatClampNeg) = 107 then if y4 < 0 then chk (inr x3 120) (f_X8_answer_L12 F 1000 82 83 Z n (sa S 83 (x3).toNatClampNeg 0) (x3 + 1)) else if (7 : Int32) ≤ y4 then chk (inr x3 120) (f_X8_answer_L12 F 1000 82 83 Z n (sa S 83 (x3).toNatClampNeg 0) (x3 + 1)) else chk (inr y4 7) (chk (inr x3 120) (f_X8_answer_L12 F 1000 82 83 Z n (sa S 83 (x3).toNatClampNeg (S.2.1 82 (y4).toNatClampNeg)) (x3 + 1))) else if y4 < 0 then f_X8_answer_B122 F 1000 82 83 Z (f_X8_answer_L12 F 1000 82 83 Z n) S x3 y5 else if x3 ≤ y4 then f_X8_answer_B122 F 1000 82 83 Z (f_X8_answer_L12 F 1000 82 83 Z n) S x3 y5 else chk (inr y4 120) (f_X8_answer_B123 F 1000 82 83 Z (f_X8_answer_L12 F 1000 82 83 Z n) S x3 y5 (S.2.1 83 (y4).toNatClampNeg)))))))))
    refine k_iload_n (q := 3) C dX8_answer_12 rfl rfl ?_
    refine k_aload_n (q := 0) C dX8_answer_13 rfl rfl ?_
    refine c_get (b := 1000) (ci := 8) (kf := 5) (N := 7) (v := .int (S.1 1005)) C rfl ⟨rfl, rfl⟩ (LC_s0 hz (by decide)) rfl lay_8 kk_8_5 fl_8_27 rfl dX8_answer_14 ?_
    refine k_icmp_ge (tgt := 169) C dX8_answer_17 (by decide) (fun _ => ?_) (fun _ => ?_)
    · refine k_aload_n (q := 0) C dX8_answer_169 rfl rfl ?_
      refine k_aload_n (q := 2) C dX8_answer_170 rfl rfl ?_
      refine k_cVI C (ct_X8_firstThatCounts_1000_83 hz) my_8_firstThatCounts ml_8_38 rfl ⟨Nat.le_of_ble_eq_true rfl, Nat.le_of_ble_eq_true rfl⟩ (recvC (b := 1000) (ci := 8) rfl ⟨rfl, rfl⟩ (LC_s0 hz (by decide)) rfl rfl) rfl (Nat.le_of_ble_eq_true rfl) dX8_answer_171 ⟨Nat.le_refl _, Nat.le_refl _⟩ (fun r1 _ => ?_)
      exact k_iret C rfl ⟨rfl, rfl⟩ dX8_answer_174
    · refine k_iload_n (q := 3) C dX8_answer_20 rfl rfl ?_
      refine k_bipush (v := 120) C dX8_answer_21 rfl ?_
      refine k_icmp_ge (tgt := 169) C dX8_answer_23 (by decide) (fun _ => ?_) (fun _ => ?_)
      · refine k_aload_n (q := 0) C dX8_answer_169 rfl rfl ?_
        refine k_aload_n (q := 2) C dX8_answer_170 rfl rfl ?_
        refine k_cVI C (ct_X8_firstThatCounts_1000_83 hz) my_8_firstThatCounts ml_8_38 rfl ⟨Nat.le_of_ble_eq_true rfl, Nat.le_of_ble_eq_true rfl⟩ (recvC (b := 1000) (ci := 8) rfl ⟨rfl, rfl⟩ (LC_s0 hz (by decide)) rfl rfl) rfl (Nat.le_of_ble_eq_true rfl) dX8_answer_171 ⟨Nat.le_refl _, Nat.le_refl _⟩ (fun r2 _ => ?_)
        exact k_iret C rfl ⟨rfl, rfl⟩ dX8_answer_174
      · refine k_iload_n (q := 3) C dX8_answer_26 rfl rfl ?_
        refine k_aload_n (q := 2) C dX8_answer_27 rfl rfl ?_
        refine c_alen (i := 83) (v := 120) C rfl am_83 ak_83 rfl dX8_answer_28 ?_
        refine k_icmp_ge (tgt := 169) C dX8_answer_29 (by decide) (fun _ => ?_) (fun _ => ?_)
        · refine k_aload_n (q := 0) C dX8_answer_169 rfl rfl ?_
          refine k_aload_n (q := 2) C dX8_answer_170 rfl rfl ?_
          refine k_cVI C (ct_X8_firstThatCounts_1000_83 hz) my_8_firstThatCounts ml_8_38 rfl ⟨Nat.le_of_ble_eq_true rfl, Nat.le_of_ble_eq_true rfl⟩ (recvC (b := 1000) (ci := 8) rfl ⟨rfl, rfl⟩ (LC_s0 hz (by decide)) rfl rfl) rfl (Nat.le_of_ble_eq_true rfl) dX8_answer_171 ⟨Nat.le_refl _, Nat.le_refl _⟩ (fun r3 _ => ?_)
          exact k_iret C rfl ⟨rfl, rfl⟩ dX8_answer_174
        · refine k_aload_n (q := 0) C dX8_answer_32 rfl rfl ?_
          refine c_get (b := 1000) (ci := 8) (kf := 1) (N := 7) C rfl ⟨rfl, rfl⟩ (LC_s0 hz (by decide)) rfl lay_8 kk_8_1 fl_8_15 rfl dX8_answer_33 ?_
          refine k_iload_n (q := 3) C dX8_answer_36 rfl rfl ?_
          refine c_iald (i := 1001) (v := S.2.1 1001 (x3).toNatClampNeg) C rfl (LC_s0 hz (by decide)) ak_1001 rfl rfl dX8_answer_37 ?_
          refine k_lti fun y4 => ?_
          refine k_istore (lv' := [(4, .int y4), (0, .ref (Y 1019)), (1, .ref (ad 82)), (2, .ref (ad 83)), (3, .int x3)]) C dX8_answer_38 (Nat.le_of_ble_eq_true rfl) rfl ?_
          refine k_aload_n (q := 1) C dX8_answer_40 rfl rfl ?_
          refine c_get (b := 1000) (ci := 8) (kf := 2) (N := 7) C rfl ⟨rfl, rfl⟩ (LC_s0 hz (by decide)) rfl lay_8 kk_8_2 fl_8_18 rfl dX8_answer_41 ?_
          refine k_iload_n (q := 4) C dX8_answer_44 rfl rfl ?_
          refine c_iald (i := 1002) (v := S.2.1 1002 (x3).toNatClampNeg) C rfl (LC_s0 hz (by decide)) ak_1002 rfl rfl dX8_answer_45 ?_
          refine k_lti fun y5 => ?_
          refine k_istore (lv' := [(5, .int y5), (4, .int y4), (0, .ref (Y 1019)), (1, .ref (ad 82)), (2, .ref (ad 83)), (3, .int x3)]) C dX8_answer_46 (Nat.le_of_ble_eq_true rfl) rfl ?_
          refine k_aload_n (q := 2) C dX8_answer_48 rfl rfl ?_
          refine c_get (b := 1000) (ci := 8) (kf := 0) (N := 7) C rfl ⟨rfl, rfl⟩ (LC_s0 hz (by decide)) rfl lay_8 kk_8_0 fl_8_9 rfl dX8_answer_49 ?_
          refine k_iload_n (q := 5) C dX8_answer_52 rfl rfl ?_
          refine c_iald (i := 1000) (v := S.2.1 1000 (x3).toNatClampNeg) C rfl (LC_s0 hz (by decide)) ak_1000 rfl rfl dX8_answer_53 ?_
          refine k_bipush (v := 48) C dX8_answer_54 rfl ?_
          refine k_icmp_ne (tgt := 67) C dX8_answer_56 (by decide) (fun _ => ?_) (fun _ => ?_)
          · refine k_aload_n (q := 2) C dX8_answer_67 rfl rfl ?_
            refine c_get (b := 1000) (ci := 8) (kf := 0) (N := 7) C rfl ⟨rfl, rfl⟩ (LC_s0 hz (by decide)) rfl lay_8 kk_8_0 fl_8_9 rfl dX8_answer_68 ?_
            refine k_iload_n (q := 5) C dX8_answer_71 rfl rfl ?_
            refine c_iald (i := 1000) (v := S.2.1 1000 (x3).toNatClampNeg) C rfl (LC_s0 hz (by decide)) ak_1000 rfl rfl dX8_answer_72 ?_
            refine k_bipush (v := 107) C dX8_answer_73 rfl ?_
            refine k_icmp_ne (tgt := 104) C dX8_answer_75 (by decide) (fun _ => ?_) (fun _ => ?_)
            · refine k_iload (q := 1) C dX8_answer_104 rfl ?_
              refine k_if_lt (tgt := 122) C dX8_answer_106 (by decide) (fun _ => ?_) (fun _ => ?_)
              · refine Dk.loc [2, 3, 4, 5, 0] rfl ?_
                exact kb_X8_answer_B122_1000_82_83 C hz ih _ _ _
              · refine k_iload (q := 1) C dX8_answer_109 rfl ?_
                refine k_iload_n (q := 5) C dX8_answer_111 rfl rfl ?_
                refine k_icmp_ge (tgt := 122) C dX8_answer_112 (by decide) (fun _ => ?_) (fun _ => ?_)
                · refine Dk.loc [2, 3, 4, 5, 0] rfl ?_
                  exact kb_X8_answer_B122_1000_82_83 C hz ih _ _ _
                · refine k_aload_n (q := 4) C dX8_answer_115 rfl rfl ?_
                  refine k_iload (q := 1) C dX8_answer_116 rfl ?_
                  refine c_iald (i := 83) (v := S.2.1 83 (y4).toNatClampNeg) C rfl am_83 ak_83 rfl rfl dX8_answer_118 ?_
                  refine k_goto (tgt := 123) C dX8_answer_119 (by decide) ?_
                  refine Dk.loc [2, 3, 4, 5, 0] rfl ?_
                  exact kb_X8_answer_B123_1000_82_83 C hz ih _ _ _ _
            · refine k_aload_n (q := 4) C dX8_answer_78 rfl rfl ?_
              refine k_iload_n (q := 5) C dX8_answer_79 rfl rfl ?_
              refine k_iload (q := 1) C dX8_answer_80 rfl ?_
              refine k_if_lt (tgt := 99) C dX8_answer_82 (by decide) (fun _ => ?_) (fun _ => ?_)
              · refine k_iconst (v := 0) C dX8_answer_99 rfl ?_
                refine c_iast (i := 83) C rfl am_83 ak_83 rfl dX8_answer_100 ?_
                refine k_goto (tgt := 163) C dX8_answer_101 (by decide) ?_
                refine k_iinc (q := 5) (v := x3 + 1) (lv' := [(3, .int (x3 + 1)), (5, .int y5), (4, .int y4), (0, .ref (Y 1019)), (1, .ref (ad 82)), (2, .ref (ad 83))]) C dX8_answer_163 rfl rfl (Nat.le_of_ble_eq_true rfl) rfl ?_
                refine k_goto (tgt := 12) C dX8_answer_166 (by decide) ?_
                refine Dk.loc [3, 4, 5, 0] rfl ?_
                exact ih _ _
              · refine k_iload (q := 1) C dX8_answer_85 rfl ?_
                refine k_aload_n (q := 3) C dX8_answer_87 rfl rfl ?_
                refine c_alen (i := 82) (v := 7) C rfl am_82 ak_82 rfl dX8_answer_88 ?_
                refine k_icmp_ge (tgt := 99) C dX8_answer_89 (by decide) (fun _ => ?_) (fun _ => ?_)
                · refine k_iconst (v := 0) C dX8_answer_99 rfl ?_
                  refine c_iast (i := 83) C rfl am_83 ak_83 rfl dX8_answer_100 ?_
                  refine k_goto (tgt := 163) C dX8_answer_101 (by decide) ?_
                  refine k_iinc (q := 5) (v := x3 + 1) (lv' := [(3, .int (x3 + 1)), (5, .int y5), (4, .int y4), (0, .ref (Y 1019)), (1, .ref (ad 82)), (2, .ref (ad 83))]) C dX8_answer_163 rfl rfl (Nat.le_of_ble_eq_true rfl) rfl ?_
                  refine k_goto (tgt := 12) C dX8_answer_166 (by decide) ?_
                  refine Dk.loc [3, 4, 5, 0] rfl ?_
                  exact ih _ _
                · refine k_aload_n (q := 3) C dX8_answer_92 rfl rfl ?_
                  refine k_iload (q := 1) C dX8_answer_93 rfl ?_
                  refine c_iald (i := 82) (v := S.2.1 82 (y4).toNatClampNeg) C rfl am_82 ak_82 rfl rfl dX8_answer_95 ?_
                  refine k_goto (tgt := 100) C dX8_answer_96 (by decide) ?_
                  refine c_iast (i := 83) C rfl am_83 ak_83 rfl dX8_answer_100 ?_
                  refine k_goto (tgt := 163) C dX8_answer_101 (by decide) ?_
                  refine k_iinc (q := 5) (v := x3 + 1) (lv' := [(3, .int (x3 + 1)), (5, .int y5), (4, .int y4), (0, .ref (Y 1019)), (1, .ref (ad 82)), (2, .ref (ad 83))]) C dX8_answer_163 rfl rfl (Nat.le_of_ble_eq_true rfl) rfl ?_
                  refine k_goto (tgt := 12) C dX8_answer_166 (by decide) ?_
                  refine Dk.loc [3, 4, 5, 0] rfl ?_
                  exact ih _ _
          · refine k_aload_n (q := 4) C dX8_answer_59 rfl rfl ?_
            refine k_iload_n (q := 5) C dX8_answer_60 rfl rfl ?_
            refine k_iload (q := 1) C dX8_answer_61 rfl ?_
            refine c_iast (i := 83) C rfl am_83 ak_83 rfl dX8_answer_63 ?_
            refine k_goto (tgt := 163) C dX8_answer_64 (by decide) ?_
            refine k_iinc (q := 5) (v := x3 + 1) (lv' := [(3, .int (x3 + 1)), (5, .int y5), (4, .int y4), (0, .ref (Y 1019)), (1, .ref (ad 82)), (2, .ref (ad 83))]) C dX8_answer_163 rfl rfl (Nat.le_of_ble_eq_true rfl) rfl ?_
            refine k_goto (tgt := 12) C dX8_answer_166 (by decide) ?_
            refine Dk.loc [3, 4, 5, 0] rfl ?_
            exact ih _ _
set_option maxRecDepth 20000 in
theorem kw_X8_answer_1000_82_83 {X : GX} {θ : TH} {ad Y : Nat → Nat} {F : Nat} {Z : Zt} {S : St}  (C : CX (mE X θ (wdC θ ad Y Z S) 8) RX8 cX8_answer (some .int) 1 0 0) (hz : Z.2 0 = true) : Dk (mE X θ (wdC θ ad Y Z S) 8) (mT X θ (wdC θ ad Y Z S) 8 (PIS (wdC θ ad Y Z))) 0 0 (wdC θ ad Y Z S) [(0, .ref (Y 1019)), (1, .ref (ad 82)), (2, .ref (ad 83))] [] 0 (f_X8_answer F 1000 82 83 Z S) := by
  show Dk _ _ _ _ _ _ _ _ (f_X8_answer_L12 F 1000 82 83 Z F S 0)
  refine k_aload_n (q := 1) C dX8_answer_0 rfl rfl ?_
  refine k_ifnull C dX8_answer_1 ?_
  refine k_aload_n (q := 2) C dX8_answer_4 rfl rfl ?_
  refine k_ifnonnull (tgt := 10) C dX8_answer_5 (by decide) ?_
  refine k_iconst (v := 0) C dX8_answer_10 rfl ?_
  refine k_istore_n (lv' := [(3, .int 0), (0, .ref (Y 1019)), (1, .ref (ad 82)), (2, .ref (ad 83))]) C dX8_answer_11 rfl (Nat.le_of_ble_eq_true rfl) rfl ?_
  refine Dk.loc [1, 2, 3, 0] rfl ?_
  exact kb_X8_answer_L12_1000_82_83 C hz _ _ _
theorem ct_X8_answer_1000_82_83 {l : Launch} {θ : TH} {ad Y : Nat → Nat} {S : St} {F : Nat} {Z : Zt}  (hz : Z.2 0 = true) : ∀ r, f_X8_answer F 1000 82 83 Z S = some r → Ct l θ yX8_answer cX8_answer 8 (some .int) 1 0 0 [.ref (Y 1019), .ref (ad 82), .ref (ad 83)] (wdC θ ad Y Z S) (PIS (wdC θ ad Y Z) r) :=
  fun r hr => Ct.of (by decide +kernel) (Nat.le_of_ble_eq_true rfl) (fun X _ C _ => kw_X8_answer_1000_82_83 C hz r hr)
set_option maxRecDepth 20000 in
theorem kb_X8_answer_B144_1020_82_83 {X : GX} {θ : TH} {ad Y : Nat → Nat} {S0 : St} {F : Nat} {Z : Zt} {K12 : St → Int32 → Option (Int32 × St)} (C : CX (mE X θ (wdC θ ad Y Z S0) 8) RX8 cX8_answer (some .int) 1 0 0) (hz : Z.2 1 = true) (hK12 : ∀ (S : St) (x3 : Int32), Dk (mE X θ (wdC θ ad Y Z S0) 8) (mT X θ (wdC θ ad Y Z S0) 8 (PIS (wdC θ ad Y Z))) 0 0 (wdC θ ad Y Z S) [(0, .ref (Y 1039)), (1, .ref (ad 82)), (2, .ref (ad 83)), (3, .int x3)] [] 12 (K12 S x3)) (S : St) (x3 : Int32) (x6 : Int32) (t0 : Int32) : Dk (mE X θ (wdC θ ad Y Z S0) 8) (mT X θ (wdC θ ad Y Z S0) 8 (PIS (wdC θ ad Y Z))) 0 0 (wdC θ ad Y Z S) [(0, .ref (Y 1039)), (1, .ref (ad 82)), (2, .ref (ad 83)), (3, .int x3), (6, .int x6)] [.int t0] 144 (f_X8_answer_B144 F 1020 82 83 Z K12 S x3 x6 t0) := by
  show Dk _ _ _ _ _ _ _ _ (chk (inr x3 120) ((f_X8_joined (S.2.1 1020 (x3).toNatClampNeg) x6 t0).bind fun r6 => chk (inr x3 120) (K12 (sa S 83 (x3).toNatClampNeg r6) (x3 + 1))))
  refine k_istore (lv' := [(7, .int t0), (0, .ref (Y 1039)), (1, .ref (ad 82)), (2, .ref (ad 83)), (3, .int x3), (6, .int x6)]) C dX8_answer_144 (Nat.le_of_ble_eq_true rfl) rfl ?_
  refine k_aload_n (q := 3) C dX8_answer_146 rfl rfl ?_
  refine k_iload_n (q := 4) C dX8_answer_147 rfl rfl ?_
  refine k_aload_n (q := 1) C dX8_answer_148 rfl rfl ?_
  refine k_aload_n (q := 1) C dX8_answer_149 rfl rfl ?_
  refine c_get (b := 1020) (ci := 8) (kf := 0) (N := 7) C rfl ⟨rfl, rfl⟩ (LC_s1 hz (by decide)) rfl lay_8 kk_8_0 fl_8_9 rfl dX8_answer_150 ?_
  refine k_iload_n (q := 4) C dX8_answer_153 rfl rfl ?_
  refine c_iald (i := 1020) (v := S.2.1 1020 (x3).toNatClampNeg) C rfl (LC_s1 hz (by decide)) ak_1020 rfl rfl dX8_answer_154 ?_
  refine k_iload (q := 5) C dX8_answer_155 rfl ?_
  refine k_iload (q := 0) C dX8_answer_157 rfl ?_
  refine k_cVI C ct_X8_joined my_8_joined ml_8_34 rfl ⟨Nat.le_of_ble_eq_true rfl, Nat.le_of_ble_eq_true rfl⟩ (recvC (b := 1020) (ci := 8) rfl ⟨rfl, rfl⟩ (LC_s1 hz (by decide)) rfl rfl) rfl (Nat.le_of_ble_eq_true rfl) dX8_answer_159 ⟨Nat.le_refl _, Nat.le_refl _⟩ (fun r6 _ => ?_)
  refine c_iast (i := 83) C rfl am_83 ak_83 rfl dX8_answer_162 ?_
  refine k_iinc (q := 4) (v := x3 + 1) (lv' := [(3, .int (x3 + 1)), (7, .int t0), (0, .ref (Y 1039)), (1, .ref (ad 82)), (2, .ref (ad 83)), (6, .int x6)]) C dX8_answer_163 rfl rfl (Nat.le_of_ble_eq_true rfl) rfl ?_
  refine k_goto (tgt := 12) C dX8_answer_166 (by decide) ?_
  refine Dk.loc [2, 3, 4, 0] rfl ?_
  exact hK12 _ _
set_option maxRecDepth 20000 in
theorem kb_X8_answer_B143_1020_82_83 {X : GX} {θ : TH} {ad Y : Nat → Nat} {S0 : St} {F : Nat} {Z : Zt} {K12 : St → Int32 → Option (Int32 × St)} (C : CX (mE X θ (wdC θ ad Y Z S0) 8) RX8 cX8_answer (some .int) 1 0 0) (hz : Z.2 1 = true) (hK12 : ∀ (S : St) (x3 : Int32), Dk (mE X θ (wdC θ ad Y Z S0) 8) (mT X θ (wdC θ ad Y Z S0) 8 (PIS (wdC θ ad Y Z))) 0 0 (wdC θ ad Y Z S) [(0, .ref (Y 1039)), (1, .ref (ad 82)), (2, .ref (ad 83)), (3, .int x3)] [] 12 (K12 S x3)) (S : St) (x3 : Int32) (x6 : Int32) : Dk (mE X θ (wdC θ ad Y Z S0) 8) (mT X θ (wdC θ ad Y Z S0) 8 (PIS (wdC θ ad Y Z))) 0 0 (wdC θ ad Y Z S) [(0, .ref (Y 1039)), (1, .ref (ad 82)), (2, .ref (ad 83)), (3, .int x3), (6, .int x6)] [] 143 (f_X8_answer_B143 F 1020 82 83 Z K12 S x3 x6) := by
  show Dk _ _ _ _ _ _ _ _ (f_X8_answer_B144 F 1020 82 83 Z K12 S x3 x6 0)
  refine k_iconst (v := 0) C dX8_answer_143 rfl ?_
  exact kb_X8_answer_B144_1020_82_83 C hz hK12 _ _ _ _
set_option maxRecDepth 20000 in
theorem kb_X8_answer_B123_1020_82_83 {X : GX} {θ : TH} {ad Y : Nat → Nat} {S0 : St} {F : Nat} {Z : Zt} {K12 : St → Int32 → Option (Int32 × St)} (C : CX (mE X θ (wdC θ ad Y Z S0) 8) RX8 cX8_answer (some .int) 1 0 0) (hz : Z.2 1 = true) (hK12 : ∀ (S : St) (x3 : Int32), Dk (mE X θ (wdC θ ad Y Z S0) 8) (mT X θ (wdC θ ad Y Z S0) 8 (PIS (wdC θ ad Y Z))) 0 0 (wdC θ ad Y Z S) [(0, .ref (Y 1039)), (1, .ref (ad 82)), (2, .ref (ad 83)), (3, .int x3)] [] 12 (K12 S x3)) (S : St) (x3 : Int32) (x5 : Int32) (t0 : Int32) : Dk (mE X θ (wdC θ ad Y Z S0) 8) (mT X θ (wdC θ ad Y Z S0) 8 (PIS (wdC θ ad Y Z))) 0 0 (wdC θ ad Y Z S) [(0, .ref (Y 1039)), (1, .ref (ad 82)), (2, .ref (ad 83)), (3, .int x3), (5, .int x5)] [.int t0] 123 (f_X8_answer_B123 F 1020 82 83 Z K12 S x3 x5 t0) := by
  show Dk _ _ _ _ _ _ _ _ (if x5 < 0 then f_X8_answer_B143 F 1020 82 83 Z K12 S x3 t0 else if x3 ≤ x5 then f_X8_answer_B143 F 1020 82 83 Z K12 S x3 t0 else chk (inr x5 120) (f_X8_answer_B144 F 1020 82 83 Z K12 S x3 t0 (S.2.1 83 (x5).toNatClampNeg)))
  refine k_istore (lv' := [(6, .int t0), (0, .ref (Y 1039)), (1, .ref (ad 82)), (2, .ref (ad 83)), (3, .int x3), (5, .int x5)]) C dX8_answer_123 (Nat.le_of_ble_eq_true rfl) rfl ?_
  refine k_iload (q := 5) C dX8_answer_125 rfl ?_
  refine k_if_lt (tgt := 143) C dX8_answer_127 (by decide) (fun _ => ?_) (fun _ => ?_)
  · refine Dk.loc [1, 2, 3, 4, 0] rfl ?_
    exact kb_X8_answer_B143_1020_82_83 C hz hK12 _ _ _
  · refine k_iload (q := 5) C dX8_answer_130 rfl ?_
    refine k_iload_n (q := 4) C dX8_answer_132 rfl rfl ?_
    refine k_icmp_ge (tgt := 143) C dX8_answer_133 (by decide) (fun _ => ?_) (fun _ => ?_)
    · refine Dk.loc [1, 2, 3, 4, 0] rfl ?_
      exact kb_X8_answer_B143_1020_82_83 C hz hK12 _ _ _
    · refine k_aload_n (q := 3) C dX8_answer_136 rfl rfl ?_
      refine k_iload (q := 5) C dX8_answer_137 rfl ?_
      refine c_iald (i := 83) (v := S.2.1 83 (x5).toNatClampNeg) C rfl am_83 ak_83 rfl rfl dX8_answer_139 ?_
      refine k_goto (tgt := 144) C dX8_answer_140 (by decide) ?_
      refine Dk.loc [1, 2, 3, 4, 0] rfl ?_
      exact kb_X8_answer_B144_1020_82_83 C hz hK12 _ _ _ _
set_option maxRecDepth 20000 in
theorem kb_X8_answer_B122_1020_82_83 {X : GX} {θ : TH} {ad Y : Nat → Nat} {S0 : St} {F : Nat} {Z : Zt} {K12 : St → Int32 → Option (Int32 × St)} (C : CX (mE X θ (wdC θ ad Y Z S0) 8) RX8 cX8_answer (some .int) 1 0 0) (hz : Z.2 1 = true) (hK12 : ∀ (S : St) (x3 : Int32), Dk (mE X θ (wdC θ ad Y Z S0) 8) (mT X θ (wdC θ ad Y Z S0) 8 (PIS (wdC θ ad Y Z))) 0 0 (wdC θ ad Y Z S) [(0, .ref (Y 1039)), (1, .ref (ad 82)), (2, .ref (ad 83)), (3, .int x3)] [] 12 (K12 S x3)) (S : St) (x3 : Int32) (x5 : Int32) : Dk (mE X θ (wdC θ ad Y Z S0) 8) (mT X θ (wdC θ ad Y Z S0) 8 (PIS (wdC θ ad Y Z))) 0 0 (wdC θ ad Y Z S) [(0, .ref (Y 1039)), (1, .ref (ad 82)), (2, .ref (ad 83)), (3, .int x3), (5, .int x5)] [] 122 (f_X8_answer_B122 F 1020 82 83 Z K12 S x3 x5) := by
  show Dk _ _ _ _ _ _ _ _ (f_X8_answer_B123 F 1020 82 83 Z K12 S x3 x5 0)
  refine k_iconst (v := 0) C dX8_answer_122 rfl ?_
  exact kb_X8_answer_B123_1020_82_83 C hz hK12 _ _ _ _
set_option maxRecDepth 20000 in
theorem kb_X8_answer_L12_1020_82_83 {X : GX} {θ : TH} {ad Y : Nat → Nat} {S0 : St} {F : Nat} {Z : Zt} (C : CX (mE X θ (wdC θ ad Y Z S0) 8) RX8 cX8_answer (some .int) 1 0 0) (hz : Z.2 1 = true) : ∀ (n : Nat) (S : St) (x3 : Int32), Dk (mE X θ (wdC θ ad Y Z S0) 8) (mT X θ (wdC θ ad Y Z S0) 8 (PIS (wdC θ ad Y Z))) 0 0 (wdC θ ad Y Z S) [(0, .ref (Y 1039)), (1, .ref (ad 82)), (2, .ref (ad 83)), (3, .int x3)] [] 12 (f_X8_answer_L12 F 1020 82 83 Z n S x3) := by
  intro n
  induction n with
  | zero => intro S x3; exact Dk.none
  | succ n ih =>
    intro S x3
    show Dk _ _ _ _ _ _ _ _ (if (S.1 1025) ≤ x3 then (f_X8_firstThatCounts F 1020 83 Z S).bind fun r1 => some (r1, S) else if (120 : Int32) ≤ x3 then (f_X8_firstThatCounts F 1020 83 Z S).bind fun r2 => some (r2, S) else if (120 : Int32) ≤ x3 then (f_X8_firstThatCounts F 1020 83 Z S).bind fun r3 => some (r3, S) else chk (inr x3 120) (lti (S.2.1 1021 (x3).toNatClampNeg) fun y4 => chk (inr x3 120) (lti (S.2.1 1022 (x3).toNatClampNeg) fun y5 => chk (inr x3 120) ((if (S.2.1 1020 (x3).toNatClampNeg) = 48 then chk (inr x3 120) (f_X8_answer_L12 F 1020 82 83 Z n (sa S 83 (x3).toNatClampNeg y4) (x3 + 1)) else chk (inr x3 120) ((if (S.2.1 1020 (x3).toNatClampNeg) = 107 then if y4 < 0 then chk (inr x3 120) (f_X8_answer_L12 F 1020 82 83 Z n (sa S 83 (x3).toNatClampNeg 0) (x3 + 1)) else if (7 : Int32) ≤ y4 then chk (inr x3 120) (f_X8_answer_L12 F 1020 82 83 Z n (sa S 83 (x3).toNatClampNeg 0) (x3 + 1)) else chk (inr y4 7) (chk (inr x3 120) (f_X8_answer_L12 F 1020 82 83 Z n (sa S 83 (x3).toNatClampNeg (S.2.1 82 (y4).toNatClampNeg)) (x3 + 1))) else if y4 < 0 then f_X8_answer_B122 F 1020 82 83 Z (f_X8_answer_L12 F 1020 82 83 Z n) S x3 y5 else if x3 ≤ y4 then f_X8_answer_B122 F 1020 82 83 Z (f_X8_answer_L12 F 1020 82 83 Z n) S x3 y5 else chk (inr y4 120) (f_X8_answer_B123 F 1020 82 83 Z (f_X8_answer_L12 F 1020 82 83 Z n) S x3 y5 (S.2.1 83 (y4).toNatClampNeg)))))))))
    refine k_iload_n (q := 3) C dX8_answer_12 rfl rfl ?_
    refine k_aload_n (q := 0) C dX8_answer_13 rfl rfl ?_
    refine c_get (b := 1020) (ci := 8) (kf := 5) (N := 7) (v := .int (S.1 1025)) C rfl ⟨rfl, rfl⟩ (LC_s1 hz (by decide)) rfl lay_8 kk_8_5 fl_8_27 rfl dX8_answer_14 ?_
    refine k_icmp_ge (tgt := 169) C dX8_answer_17 (by decide) (fun _ => ?_) (fun _ => ?_)
    · refine k_aload_n (q := 0) C dX8_answer_169 rfl rfl ?_
      refine k_aload_n (q := 2) C dX8_answer_170 rfl rfl ?_
      refine k_cVI C (ct_X8_firstThatCounts_1020_83 hz) my_8_firstThatCounts ml_8_38 rfl ⟨Nat.le_of_ble_eq_true rfl, Nat.le_of_ble_eq_true rfl⟩ (recvC (b := 1020) (ci := 8) rfl ⟨rfl, rfl⟩ (LC_s1 hz (by decide)) rfl rfl) rfl (Nat.le_of_ble_eq_true rfl) dX8_answer_171 ⟨Nat.le_refl _, Nat.le_refl _⟩ (fun r1 _ => ?_)
      exact k_iret C rfl ⟨rfl, rfl⟩ dX8_answer_174
    · refine k_iload_n (q := 3) C dX8_answer_20 rfl rfl ?_
      refine k_bipush (v := 120) C dX8_answer_21 rfl ?_
      refine k_icmp_ge (tgt := 169) C dX8_answer_23 (by decide) (fun _ => ?_) (fun _ => ?_)
      · refine k_aload_n (q := 0) C dX8_answer_169 rfl rfl ?_
        refine k_aload_n (q := 2) C dX8_answer_170 rfl rfl ?_
        refine k_cVI C (ct_X8_firstThatCounts_1020_83 hz) my_8_firstThatCounts ml_8_38 rfl ⟨Nat.le_of_ble_eq_true rfl, Nat.le_of_ble_eq_true rfl⟩ (recvC (b := 1020) (ci := 8) rfl ⟨rfl, rfl⟩ (LC_s1 hz (by decide)) rfl rfl) rfl (Nat.le_of_ble_eq_true rfl) dX8_answer_171 ⟨Nat.le_refl _, Nat.le_refl _⟩ (fun r2 _ => ?_)
        exact k_iret C rfl ⟨rfl, rfl⟩ dX8_answer_174
      · refine k_iload_n (q := 3) C dX8_answer_26 rfl rfl ?_
        refine k_aload_n (q := 2) C dX8_answer_27 rfl rfl ?_
        refine c_alen (i := 83) (v := 120) C rfl am_83 ak_83 rfl dX8_answer_28 ?_
        refine k_icmp_ge (tgt := 169) C dX8_answer_29 (by decide) (fun _ => ?_) (fun _ => ?_)
        · refine k_aload_n (q := 0) C dX8_answer_169 rfl rfl ?_
          refine k_aload_n (q := 2) C dX8_answer_170 rfl rfl ?_
          refine k_cVI C (ct_X8_firstThatCounts_1020_83 hz) my_8_firstThatCounts ml_8_38 rfl ⟨Nat.le_of_ble_eq_true rfl, Nat.le_of_ble_eq_true rfl⟩ (recvC (b := 1020) (ci := 8) rfl ⟨rfl, rfl⟩ (LC_s1 hz (by decide)) rfl rfl) rfl (Nat.le_of_ble_eq_true rfl) dX8_answer_171 ⟨Nat.le_refl _, Nat.le_refl _⟩ (fun r3 _ => ?_)
          exact k_iret C rfl ⟨rfl, rfl⟩ dX8_answer_174
        · refine k_aload_n (q := 0) C dX8_answer_32 rfl rfl ?_
          refine c_get (b := 1020) (ci := 8) (kf := 1) (N := 7) C rfl ⟨rfl, rfl⟩ (LC_s1 hz (by decide)) rfl lay_8 kk_8_1 fl_8_15 rfl dX8_answer_33 ?_
          refine k_iload_n (q := 3) C dX8_answer_36 rfl rfl ?_
          refine c_iald (i := 1021) (v := S.2.1 1021 (x3).toNatClampNeg) C rfl (LC_s1 hz (by decide)) ak_1021 rfl rfl dX8_answer_37 ?_
          refine k_lti fun y4 => ?_
          refine k_istore (lv' := [(4, .int y4), (0, .ref (Y 1039)), (1, .ref (ad 82)), (2, .ref (ad 83)), (3, .int x3)]) C dX8_answer_38 (Nat.le_of_ble_eq_true rfl) rfl ?_
          refine k_aload_n (q := 1) C dX8_answer_40 rfl rfl ?_
          refine c_get (b := 1020) (ci := 8) (kf := 2) (N := 7) C rfl ⟨rfl, rfl⟩ (LC_s1 hz (by decide)) rfl lay_8 kk_8_2 fl_8_18 rfl dX8_answer_41 ?_
          refine k_iload_n (q := 4) C dX8_answer_44 rfl rfl ?_
          refine c_iald (i := 1022) (v := S.2.1 1022 (x3).toNatClampNeg) C rfl (LC_s1 hz (by decide)) ak_1022 rfl rfl dX8_answer_45 ?_
          refine k_lti fun y5 => ?_
          refine k_istore (lv' := [(5, .int y5), (4, .int y4), (0, .ref (Y 1039)), (1, .ref (ad 82)), (2, .ref (ad 83)), (3, .int x3)]) C dX8_answer_46 (Nat.le_of_ble_eq_true rfl) rfl ?_
          refine k_aload_n (q := 2) C dX8_answer_48 rfl rfl ?_
          refine c_get (b := 1020) (ci := 8) (kf := 0) (N := 7) C rfl ⟨rfl, rfl⟩ (LC_s1 hz (by decide)) rfl lay_8 kk_8_0 fl_8_9 rfl dX8_answer_49 ?_
          refine k_iload_n (q := 5) C dX8_answer_52 rfl rfl ?_
          refine c_iald (i := 1020) (v := S.2.1 1020 (x3).toNatClampNeg) C rfl (LC_s1 hz (by decide)) ak_1020 rfl rfl dX8_answer_53 ?_
          refine k_bipush (v := 48) C dX8_answer_54 rfl ?_
          refine k_icmp_ne (tgt := 67) C dX8_answer_56 (by decide) (fun _ => ?_) (fun _ => ?_)
          · refine k_aload_n (q := 2) C dX8_answer_67 rfl rfl ?_
            refine c_get (b := 1020) (ci := 8) (kf := 0) (N := 7) C rfl ⟨rfl, rfl⟩ (LC_s1 hz (by decide)) rfl lay_8 kk_8_0 fl_8_9 rfl dX8_answer_68 ?_
            refine k_iload_n (q := 5) C dX8_answer_71 rfl rfl ?_
            refine c_iald (i := 1020) (v := S.2.1 1020 (x3).toNatClampNeg) C rfl (LC_s1 hz (by decide)) ak_1020 rfl rfl dX8_answer_72 ?_
            refine k_bipush (v := 107) C dX8_answer_73 rfl ?_
            refine k_icmp_ne (tgt := 104) C dX8_answer_75 (by decide) (fun _ => ?_) (fun _ => ?_)
            · refine k_iload (q := 1) C dX8_answer_104 rfl ?_
              refine k_if_lt (tgt := 122) C dX8_answer_106 (by decide) (fun _ => ?_) (fun _ => ?_)
              · refine Dk.loc [2, 3, 4, 5, 0] rfl ?_
                exact kb_X8_answer_B122_1020_82_83 C hz ih _ _ _
              · refine k_iload (q := 1) C dX8_answer_109 rfl ?_
                refine k_iload_n (q := 5) C dX8_answer_111 rfl rfl ?_
                refine k_icmp_ge (tgt := 122) C dX8_answer_112 (by decide) (fun _ => ?_) (fun _ => ?_)
                · refine Dk.loc [2, 3, 4, 5, 0] rfl ?_
                  exact kb_X8_answer_B122_1020_82_83 C hz ih _ _ _
                · refine k_aload_n (q := 4) C dX8_answer_115 rfl rfl ?_
                  refine k_iload (q := 1) C dX8_answer_116 rfl ?_
                  refine c_iald (i := 83) (v := S.2.1 83 (y4).toNatClampNeg) C rfl am_83 ak_83 rfl rfl dX8_answer_118 ?_
                  refine k_goto (tgt := 123) C dX8_answer_119 (by decide) ?_
                  refine Dk.loc [2, 3, 4, 5, 0] rfl ?_
                  exact kb_X8_answer_B123_1020_82_83 C hz ih _ _ _ _
            · refine k_aload_n (q := 4) C dX8_answer_78 rfl rfl ?_
              refine k_iload_n (q := 5) C dX8_answer_79 rfl rfl ?_
              refine k_iload (q := 1) C dX8_answer_80 rfl ?_
              refine k_if_lt (tgt := 99) C dX8_answer_82 (by decide) (fun _ => ?_) (fun _ => ?_)
              · refine k_iconst (v := 0) C dX8_answer_99 rfl ?_
                refine c_iast (i := 83) C rfl am_83 ak_83 rfl dX8_answer_100 ?_
                refine k_goto (tgt := 163) C dX8_answer_101 (by decide) ?_
                refine k_iinc (q := 5) (v := x3 + 1) (lv' := [(3, .int (x3 + 1)), (5, .int y5), (4, .int y4), (0, .ref (Y 1039)), (1, .ref (ad 82)), (2, .ref (ad 83))]) C dX8_answer_163 rfl rfl (Nat.le_of_ble_eq_true rfl) rfl ?_
                refine k_goto (tgt := 12) C dX8_answer_166 (by decide) ?_
                refine Dk.loc [3, 4, 5, 0] rfl ?_
                exact ih _ _
              · refine k_iload (q := 1) C dX8_answer_85 rfl ?_
                refine k_aload_n (q := 3) C dX8_answer_87 rfl rfl ?_
                refine c_alen (i := 82) (v := 7) C rfl am_82 ak_82 rfl dX8_answer_88 ?_
                refine k_icmp_ge (tgt := 99) C dX8_answer_89 (by decide) (fun _ => ?_) (fun _ => ?_)
                · refine k_iconst (v := 0) C dX8_answer_99 rfl ?_
                  refine c_iast (i := 83) C rfl am_83 ak_83 rfl dX8_answer_100 ?_
                  refine k_goto (tgt := 163) C dX8_answer_101 (by decide) ?_
                  refine k_iinc (q := 5) (v := x3 + 1) (lv' := [(3, .int (x3 + 1)), (5, .int y5), (4, .int y4), (0, .ref (Y 1039)), (1, .ref (ad 82)), (2, .ref (ad 83))]) C dX8_answer_163 rfl rfl (Nat.le_of_ble_eq_true rfl) rfl ?_
                  refine k_goto (tgt := 12) C dX8_answer_166 (by decide) ?_
                  refine Dk.loc [3, 4, 5, 0] rfl ?_
                  exact ih _ _
                · refine k_aload_n (q := 3) C dX8_answer_92 rfl rfl ?_
                  refine k_iload (q := 1) C dX8_answer_93 rfl ?_
                  refine c_iald (i := 82) (v := S.2.1 82 (y4).toNatClampNeg) C rfl am_82 ak_82 rfl rfl dX8_answer_95 ?_
                  refine k_goto (tgt := 100) C dX8_answer_96 (by decide) ?_
                  refine c_iast (i := 83) C rfl am_83 ak_83 rfl dX8_answer_100 ?_
                  refine k_goto (tgt := 163) C dX8_answer_101 (by decide) ?_
                  refine k_iinc (q := 5) (v := x3 + 1) (lv' := [(3, .int (x3 + 1)), (5, .int y5), (4, .int y4), (0, .ref (Y 1039)), (1, .ref (ad 82)), (2, .ref (ad 83))]) C dX8_answer_163 rfl rfl (Nat.le_of_ble_eq_true rfl) rfl ?_
                  refine k_goto (tgt := 12) C dX8_answer_166 (by decide) ?_
                  refine Dk.loc [3, 4, 5, 0] rfl ?_
                  exact ih _ _
          · refine k_aload_n (q := 4) C dX8_answer_59 rfl rfl ?_
            refine k_iload_n (q := 5) C dX8_answer_60 rfl rfl ?_
            refine k_iload (q := 1) C dX8_answer_61 rfl ?_
            refine c_iast (i := 83) C rfl am_83 ak_83 rfl dX8_answer_63 ?_
            refine k_goto (tgt := 163) C dX8_answer_64 (by decide) ?_
            refine k_iinc (q := 5) (v := x3 + 1) (lv' := [(3, .int (x3 + 1)), (5, .int y5), (4, .int y4), (0, .ref (Y 1039)), (1, .ref (ad 82)), (2, .ref (ad 83))]) C dX8_answer_163 rfl rfl (Nat.le_of_ble_eq_true rfl) rfl ?_
            refine k_goto (tgt := 12) C dX8_answer_166 (by decide) ?_
            refine Dk.loc [3, 4, 5, 0] rfl ?_
            exact ih _ _
set_option maxRecDepth 20000 in
theorem kw_X8_answer_1020_82_83 {X : GX} {θ : TH} {ad Y : Nat → Nat} {F : Nat} {Z : Zt} {S : St}  (C : CX (mE X θ (wdC θ ad Y Z S) 8) RX8 cX8_answer (some .int) 1 0 0) (hz : Z.2 1 = true) : Dk (mE X θ (wdC θ ad Y Z S) 8) (mT X θ (wdC θ ad Y Z S) 8 (PIS (wdC θ ad Y Z))) 0 0 (wdC θ ad Y Z S) [(0, .ref (Y 1039)), (1, .ref (ad 82)), (2, .ref (ad 83))] [] 0 (f_X8_answer F 1020 82 83 Z S) := by
  show Dk _ _ _ _ _ _ _ _ (f_X8_answer_L12 F 1020 82 83 Z F S 0)
  refine k_aload_n (q := 1) C dX8_answer_0 rfl rfl ?_
  refine k_ifnull C dX8_answer_1 ?_
  refine k_aload_n (q := 2) C dX8_answer_4 rfl rfl ?_
  refine k_ifnonnull (tgt := 10) C dX8_answer_5 (by decide) ?_
  refine k_iconst (v := 0) C dX8_answer_10 rfl ?_
  refine k_istore_n (lv' := [(3, .int 0), (0, .ref (Y 1039)), (1, .ref (ad 82)), (2, .ref (ad 83))]) C dX8_answer_11 rfl (Nat.le_of_ble_eq_true rfl) rfl ?_
  refine Dk.loc [1, 2, 3, 0] rfl ?_
  exact kb_X8_answer_L12_1020_82_83 C hz _ _ _
theorem ct_X8_answer_1020_82_83 {l : Launch} {θ : TH} {ad Y : Nat → Nat} {S : St} {F : Nat} {Z : Zt}  (hz : Z.2 1 = true) : ∀ r, f_X8_answer F 1020 82 83 Z S = some r → Ct l θ yX8_answer cX8_answer 8 (some .int) 1 0 0 [.ref (Y 1039), .ref (ad 82), .ref (ad 83)] (wdC θ ad Y Z S) (PIS (wdC θ ad Y Z) r) :=
  fun r hr => Ct.of (by decide +kernel) (Nat.le_of_ble_eq_true rfl) (fun X _ C _ => kw_X8_answer_1020_82_83 C hz r hr)
set_option maxRecDepth 20000 in
theorem kb_X8_answer_B144_1040_82_83 {X : GX} {θ : TH} {ad Y : Nat → Nat} {S0 : St} {F : Nat} {Z : Zt} {K12 : St → Int32 → Option (Int32 × St)} (C : CX (mE X θ (wdC θ ad Y Z S0) 8) RX8 cX8_answer (some .int) 1 0 0) (hz : Z.2 2 = true) (hK12 : ∀ (S : St) (x3 : Int32), Dk (mE X θ (wdC θ ad Y Z S0) 8) (mT X θ (wdC θ ad Y Z S0) 8 (PIS (wdC θ ad Y Z))) 0 0 (wdC θ ad Y Z S) [(0, .ref (Y 1059)), (1, .ref (ad 82)), (2, .ref (ad 83)), (3, .int x3)] [] 12 (K12 S x3)) (S : St) (x3 : Int32) (x6 : Int32) (t0 : Int32) : Dk (mE X θ (wdC θ ad Y Z S0) 8) (mT X θ (wdC θ ad Y Z S0) 8 (PIS (wdC θ ad Y Z))) 0 0 (wdC θ ad Y Z S) [(0, .ref (Y 1059)), (1, .ref (ad 82)), (2, .ref (ad 83)), (3, .int x3), (6, .int x6)] [.int t0] 144 (f_X8_answer_B144 F 1040 82 83 Z K12 S x3 x6 t0) := by
  show Dk _ _ _ _ _ _ _ _ (chk (inr x3 120) ((f_X8_joined (S.2.1 1040 (x3).toNatClampNeg) x6 t0).bind fun r6 => chk (inr x3 120) (K12 (sa S 83 (x3).toNatClampNeg r6) (x3 + 1))))
  refine k_istore (lv' := [(7, .int t0), (0, .ref (Y 1059)), (1, .ref (ad 82)), (2, .ref (ad 83)), (3, .int x3), (6, .int x6)]) C dX8_answer_144 (Nat.le_of_ble_eq_true rfl) rfl ?_
  refine k_aload_n (q := 3) C dX8_answer_146 rfl rfl ?_
  refine k_iload_n (q := 4) C dX8_answer_147 rfl rfl ?_
  refine k_aload_n (q := 1) C dX8_answer_148 rfl rfl ?_
  refine k_aload_n (q := 1) C dX8_answer_149 rfl rfl ?_
  refine c_get (b := 1040) (ci := 8) (kf := 0) (N := 7) C rfl ⟨rfl, rfl⟩ (LC_s2 hz (by decide)) rfl lay_8 kk_8_0 fl_8_9 rfl dX8_answer_150 ?_
  refine k_iload_n (q := 4) C dX8_answer_153 rfl rfl ?_
  refine c_iald (i := 1040) (v := S.2.1 1040 (x3).toNatClampNeg) C rfl (LC_s2 hz (by decide)) ak_1040 rfl rfl dX8_answer_154 ?_
  refine k_iload (q := 5) C dX8_answer_155 rfl ?_
  refine k_iload (q := 0) C dX8_answer_157 rfl ?_
  refine k_cVI C ct_X8_joined my_8_joined ml_8_34 rfl ⟨Nat.le_of_ble_eq_true rfl, Nat.le_of_ble_eq_true rfl⟩ (recvC (b := 1040) (ci := 8) rfl ⟨rfl, rfl⟩ (LC_s2 hz (by decide)) rfl rfl) rfl (Nat.le_of_ble_eq_true rfl) dX8_answer_159 ⟨Nat.le_refl _, Nat.le_refl _⟩ (fun r6 _ => ?_)
  refine c_iast (i := 83) C rfl am_83 ak_83 rfl dX8_answer_162 ?_
  refine k_iinc (q := 4) (v := x3 + 1) (lv' := [(3, .int (x3 + 1)), (7, .int t0), (0, .ref (Y 1059)), (1, .ref (ad 82)), (2, .ref (ad 83)), (6, .int x6)]) C dX8_answer_163 rfl rfl (Nat.le_of_ble_eq_true rfl) rfl ?_
  refine k_goto (tgt := 12) C dX8_answer_166 (by decide) ?_
  refine Dk.loc [2, 3, 4, 0] rfl ?_
  exact hK12 _ _
set_option maxRecDepth 20000 in
theorem kb_X8_answer_B143_1040_82_83 {X : GX} {θ : TH} {ad Y : Nat → Nat} {S0 : St} {F : Nat} {Z : Zt} {K12 : St → Int32 → Option (Int32 × St)} (C : CX (mE X θ (wdC θ ad Y Z S0) 8) RX8 cX8_answer (some .int) 1 0 0) (hz : Z.2 2 = true) (hK12 : ∀ (S : St) (x3 : Int32), Dk (mE X θ (wdC θ ad Y Z S0) 8) (mT X θ (wdC θ ad Y Z S0) 8 (PIS (wdC θ ad Y Z))) 0 0 (wdC θ ad Y Z S) [(0, .ref (Y 1059)), (1, .ref (ad 82)), (2, .ref (ad 83)), (3, .int x3)] [] 12 (K12 S x3)) (S : St) (x3 : Int32) (x6 : Int32) : Dk (mE X θ (wdC θ ad Y Z S0) 8) (mT X θ (wdC θ ad Y Z S0) 8 (PIS (wdC θ ad Y Z))) 0 0 (wdC θ ad Y Z S) [(0, .ref (Y 1059)), (1, .ref (ad 82)), (2, .ref (ad 83)), (3, .int x3), (6, .int x6)] [] 143 (f_X8_answer_B143 F 1040 82 83 Z K12 S x3 x6) := by
  show Dk _ _ _ _ _ _ _ _ (f_X8_answer_B144 F 1040 82 83 Z K12 S x3 x6 0)
  refine k_iconst (v := 0) C dX8_answer_143 rfl ?_
  exact kb_X8_answer_B144_1040_82_83 C hz hK12 _ _ _ _
set_option maxRecDepth 20000 in
theorem kb_X8_answer_B123_1040_82_83 {X : GX} {θ : TH} {ad Y : Nat → Nat} {S0 : St} {F : Nat} {Z : Zt} {K12 : St → Int32 → Option (Int32 × St)} (C : CX (mE X θ (wdC θ ad Y Z S0) 8) RX8 cX8_answer (some .int) 1 0 0) (hz : Z.2 2 = true) (hK12 : ∀ (S : St) (x3 : Int32), Dk (mE X θ (wdC θ ad Y Z S0) 8) (mT X θ (wdC θ ad Y Z S0) 8 (PIS (wdC θ ad Y Z))) 0 0 (wdC θ ad Y Z S) [(0, .ref (Y 1059)), (1, .ref (ad 82)), (2, .ref (ad 83)), (3, .int x3)] [] 12 (K12 S x3)) (S : St) (x3 : Int32) (x5 : Int32) (t0 : Int32) : Dk (mE X θ (wdC θ ad Y Z S0) 8) (mT X θ (wdC θ ad Y Z S0) 8 (PIS (wdC θ ad Y Z))) 0 0 (wdC θ ad Y Z S) [(0, .ref (Y 1059)), (1, .ref (ad 82)), (2, .ref (ad 83)), (3, .int x3), (5, .int x5)] [.int t0] 123 (f_X8_answer_B123 F 1040 82 83 Z K12 S x3 x5 t0) := by
  show Dk _ _ _ _ _ _ _ _ (if x5 < 0 then f_X8_answer_B143 F 1040 82 83 Z K12 S x3 t0 else if x3 ≤ x5 then f_X8_answer_B143 F 1040 82 83 Z K12 S x3 t0 else chk (inr x5 120) (f_X8_answer_B144 F 1040 82 83 Z K12 S x3 t0 (S.2.1 83 (x5).toNatClampNeg)))
  refine k_istore (lv' := [(6, .int t0), (0, .ref (Y 1059)), (1, .ref (ad 82)), (2, .ref (ad 83)), (3, .int x3), (5, .int x5)]) C dX8_answer_123 (Nat.le_of_ble_eq_true rfl) rfl ?_
  refine k_iload (q := 5) C dX8_answer_125 rfl ?_
  refine k_if_lt (tgt := 143) C dX8_answer_127 (by decide) (fun _ => ?_) (fun _ => ?_)
  · refine Dk.loc [1, 2, 3, 4, 0] rfl ?_
    exact kb_X8_answer_B143_1040_82_83 C hz hK12 _ _ _
  · refine k_iload (q := 5) C dX8_answer_130 rfl ?_
    refine k_iload_n (q := 4) C dX8_answer_132 rfl rfl ?_
    refine k_icmp_ge (tgt := 143) C dX8_answer_133 (by decide) (fun _ => ?_) (fun _ => ?_)
    · refine Dk.loc [1, 2, 3, 4, 0] rfl ?_
      exact kb_X8_answer_B143_1040_82_83 C hz hK12 _ _ _
    · refine k_aload_n (q := 3) C dX8_answer_136 rfl rfl ?_
      refine k_iload (q := 5) C dX8_answer_137 rfl ?_
      refine c_iald (i := 83) (v := S.2.1 83 (x5).toNatClampNeg) C rfl am_83 ak_83 rfl rfl dX8_answer_139 ?_
      refine k_goto (tgt := 144) C dX8_answer_140 (by decide) ?_
      refine Dk.loc [1, 2, 3, 4, 0] rfl ?_
      exact kb_X8_answer_B144_1040_82_83 C hz hK12 _ _ _ _
set_option maxRecDepth 20000 in
theorem kb_X8_answer_B122_1040_82_83 {X : GX} {θ : TH} {ad Y : Nat → Nat} {S0 : St} {F : Nat} {Z : Zt} {K12 : St → Int32 → Option (Int32 × St)} (C : CX (mE X θ (wdC θ ad Y Z S0) 8) RX8 cX8_answer (some .int) 1 0 0) (hz : Z.2 2 = true) (hK12 : ∀ (S : St) (x3 : Int32), Dk (mE X θ (wdC θ ad Y Z S0) 8) (mT X θ (wdC θ ad Y Z S0) 8 (PIS (wdC θ ad Y Z))) 0 0 (wdC θ ad Y Z S) [(0, .ref (Y 1059)), (1, .ref (ad 82)), (2, .ref (ad 83)), (3, .int x3)] [] 12 (K12 S x3)) (S : St) (x3 : Int32) (x5 : Int32) : Dk (mE X θ (wdC θ ad Y Z S0) 8) (mT X θ (wdC θ ad Y Z S0) 8 (PIS (wdC θ ad Y Z))) 0 0 (wdC θ ad Y Z S) [(0, .ref (Y 1059)), (1, .ref (ad 82)), (2, .ref (ad 83)), (3, .int x3), (5, .int x5)] [] 122 (f_X8_answer_B122 F 1040 82 83 Z K12 S x3 x5) := by
  show Dk _ _ _ _ _ _ _ _ (f_X8_answer_B123 F 1040 82 83 Z K12 S x3 x5 0)
  refine k_iconst (v := 0) C dX8_answer_122 rfl ?_
  exact kb_X8_answer_B123_1040_82_83 C hz hK12 _ _ _ _
set_option maxRecDepth 20000 in
theorem kb_X8_answer_L12_1040_82_83 {X : GX} {θ : TH} {ad Y : Nat → Nat} {S0 : St} {F : Nat} {Z : Zt} (C : CX (mE X θ (wdC θ ad Y Z S0) 8) RX8 cX8_answer (some .int) 1 0 0) (hz : Z.2 2 = true) : ∀ (n : Nat) (S : St) (x3 : Int32), Dk (mE X θ (wdC θ ad Y Z S0) 8) (mT X θ (wdC θ ad Y Z S0) 8 (PIS (wdC θ ad Y Z))) 0 0 (wdC θ ad Y Z S) [(0, .ref (Y 1059)), (1, .ref (ad 82)), (2, .ref (ad 83)), (3, .int x3)] [] 12 (f_X8_answer_L12 F 1040 82 83 Z n S x3) := by
  intro n
  induction n with
  | zero => intro S x3; exact Dk.none
  | succ n ih =>
    intro S x3
    show Dk _ _ _ _ _ _ _ _ (if (S.1 1045) ≤ x3 then (f_X8_firstThatCounts F 1040 83 Z S).bind fun r1 => some (r1, S) else if (120 : Int32) ≤ x3 then (f_X8_firstThatCounts F 1040 83 Z S).bind fun r2 => some (r2, S) else if (120 : Int32) ≤ x3 then (f_X8_firstThatCounts F 1040 83 Z S).bind fun r3 => some (r3, S) else chk (inr x3 120) (lti (S.2.1 1041 (x3).toNatClampNeg) fun y4 => chk (inr x3 120) (lti (S.2.1 1042 (x3).toNatClampNeg) fun y5 => chk (inr x3 120) ((if (S.2.1 1040 (x3).toNatClampNeg) = 48 then chk (inr x3 120) (f_X8_answer_L12 F 1040 82 83 Z n (sa S 83 (x3).toNatClampNeg y4) (x3 + 1)) else chk (inr x3 120) ((if (S.2.1 1040 (x3).toNatClampNeg) = 107 then if y4 < 0 then chk (inr x3 120) (f_X8_answer_L12 F 1040 82 83 Z n (sa S 83 (x3).toNatClampNeg 0) (x3 + 1)) else if (7 : Int32) ≤ y4 then chk (inr x3 120) (f_X8_answer_L12 F 1040 82 83 Z n (sa S 83 (x3).toNatClampNeg 0) (x3 + 1)) else chk (inr y4 7) (chk (inr x3 120) (f_X8_answer_L12 F 1040 82 83 Z n (sa S 83 (x3).toNatClampNeg (S.2.1 82 (y4).toNatClampNeg)) (x3 + 1))) else if y4 < 0 then f_X8_answer_B122 F 1040 82 83 Z (f_X8_answer_L12 F 1040 82 83 Z n) S x3 y5 else if x3 ≤ y4 then f_X8_answer_B122 F 1040 82 83 Z (f_X8_answer_L12 F 1040 82 83 Z n) S x3 y5 else chk (inr y4 120) (f_X8_answer_B123 F 1040 82 83 Z (f_X8_answer_L12 F 1040 82 83 Z n) S x3 y5 (S.2.1 83 (y4).toNatClampNeg)))))))))
    refine k_iload_n (q := 3) C dX8_answer_12 rfl rfl ?_
    refine k_aload_n (q := 0) C dX8_answer_13 rfl rfl ?_
    refine c_get (b := 1040) (ci := 8) (kf := 5) (N := 7) (v := .int (S.1 1045)) C rfl ⟨rfl, rfl⟩ (LC_s2 hz (by decide)) rfl lay_8 kk_8_5 fl_8_27 rfl dX8_answer_14 ?_
    refine k_icmp_ge (tgt := 169) C dX8_answer_17 (by decide) (fun _ => ?_) (fun _ => ?_)
    · refine k_aload_n (q := 0) C dX8_answer_169 rfl rfl ?_
      refine k_aload_n (q := 2) C dX8_answer_170 rfl rfl ?_
      refine k_cVI C (ct_X8_firstThatCounts_1040_83 hz) my_8_firstThatCounts ml_8_38 rfl ⟨Nat.le_of_ble_eq_true rfl, Nat.le_of_ble_eq_true rfl⟩ (recvC (b := 1040) (ci := 8) rfl ⟨rfl, rfl⟩ (LC_s2 hz (by decide)) rfl rfl) rfl (Nat.le_of_ble_eq_true rfl) dX8_answer_171 ⟨Nat.le_refl _, Nat.le_refl _⟩ (fun r1 _ => ?_)
      exact k_iret C rfl ⟨rfl, rfl⟩ dX8_answer_174
    · refine k_iload_n (q := 3) C dX8_answer_20 rfl rfl ?_
      refine k_bipush (v := 120) C dX8_answer_21 rfl ?_
      refine k_icmp_ge (tgt := 169) C dX8_answer_23 (by decide) (fun _ => ?_) (fun _ => ?_)
      · refine k_aload_n (q := 0) C dX8_answer_169 rfl rfl ?_
        refine k_aload_n (q := 2) C dX8_answer_170 rfl rfl ?_
        refine k_cVI C (ct_X8_firstThatCounts_1040_83 hz) my_8_firstThatCounts ml_8_38 rfl ⟨Nat.le_of_ble_eq_true rfl, Nat.le_of_ble_eq_true rfl⟩ (recvC (b := 1040) (ci := 8) rfl ⟨rfl, rfl⟩ (LC_s2 hz (by decide)) rfl rfl) rfl (Nat.le_of_ble_eq_true rfl) dX8_answer_171 ⟨Nat.le_refl _, Nat.le_refl _⟩ (fun r2 _ => ?_)
        exact k_iret C rfl ⟨rfl, rfl⟩ dX8_answer_174
      · refine k_iload_n (q := 3) C dX8_answer_26 rfl rfl ?_
        refine k_aload_n (q := 2) C dX8_answer_27 rfl rfl ?_
        refine c_alen (i := 83) (v := 120) C rfl am_83 ak_83 rfl dX8_answer_28 ?_
        refine k_icmp_ge (tgt := 169) C dX8_answer_29 (by decide) (fun _ => ?_) (fun _ => ?_)
        · refine k_aload_n (q := 0) C dX8_answer_169 rfl rfl ?_
          refine k_aload_n (q := 2) C dX8_answer_170 rfl rfl ?_
          refine k_cVI C (ct_X8_firstThatCounts_1040_83 hz) my_8_firstThatCounts ml_8_38 rfl ⟨Nat.le_of_ble_eq_true rfl, Nat.le_of_ble_eq_true rfl⟩ (recvC (b := 1040) (ci := 8) rfl ⟨rfl, rfl⟩ (LC_s2 hz (by decide)) rfl rfl) rfl (Nat.le_of_ble_eq_true rfl) dX8_answer_171 ⟨Nat.le_refl _, Nat.le_refl _⟩ (fun r3 _ => ?_)
          exact k_iret C rfl ⟨rfl, rfl⟩ dX8_answer_174
        · refine k_aload_n (q := 0) C dX8_answer_32 rfl rfl ?_
          refine c_get (b := 1040) (ci := 8) (kf := 1) (N := 7) C rfl ⟨rfl, rfl⟩ (LC_s2 hz (by decide)) rfl lay_8 kk_8_1 fl_8_15 rfl dX8_answer_33 ?_
          refine k_iload_n (q := 3) C dX8_answer_36 rfl rfl ?_
          refine c_iald (i := 1041) (v := S.2.1 1041 (x3).toNatClampNeg) C rfl (LC_s2 hz (by decide)) ak_1041 rfl rfl dX8_answer_37 ?_
          refine k_lti fun y4 => ?_
          refine k_istore (lv' := [(4, .int y4), (0, .ref (Y 1059)), (1, .ref (ad 82)), (2, .ref (ad 83)), (3, .int x3)]) C dX8_answer_38 (Nat.le_of_ble_eq_true rfl) rfl ?_
          refine k_aload_n (q := 1) C dX8_answer_40 rfl rfl ?_
          refine c_get (b := 1040) (ci := 8) (kf := 2) (N := 7) C rfl ⟨rfl, rfl⟩ (LC_s2 hz (by decide)) rfl lay_8 kk_8_2 fl_8_18 rfl dX8_answer_41 ?_
          refine k_iload_n (q := 4) C dX8_answer_44 rfl rfl ?_
          refine c_iald (i := 1042) (v := S.2.1 1042 (x3).toNatClampNeg) C rfl (LC_s2 hz (by decide)) ak_1042 rfl rfl dX8_answer_45 ?_
          refine k_lti fun y5 => ?_
          refine k_istore (lv' := [(5, .int y5), (4, .int y4), (0, .ref (Y 1059)), (1, .ref (ad 82)), (2, .ref (ad 83)), (3, .int x3)]) C dX8_answer_46 (Nat.le_of_ble_eq_true rfl) rfl ?_
          refine k_aload_n (q := 2) C dX8_answer_48 rfl rfl ?_
          refine c_get (b := 1040) (ci := 8) (kf := 0) (N := 7) C rfl ⟨rfl, rfl⟩ (LC_s2 hz (by decide)) rfl lay_8 kk_8_0 fl_8_9 rfl dX8_answer_49 ?_
          refine k_iload_n (q := 5) C dX8_answer_52 rfl rfl ?_
          refine c_iald (i := 1040) (v := S.2.1 1040 (x3).toNatClampNeg) C rfl (LC_s2 hz (by decide)) ak_1040 rfl rfl dX8_answer_53 ?_
          refine k_bipush (v := 48) C dX8_answer_54 rfl ?_
          refine k_icmp_ne (tgt := 67) C dX8_answer_56 (by decide) (fun _ => ?_) (fun _ => ?_)
          · refine k_aload_n (q := 2) C dX8_answer_67 rfl rfl ?_
            refine c_get (b := 1040) (ci := 8) (kf := 0) (N := 7) C rfl ⟨rfl, rfl⟩ (LC_s2 hz (by decide)) rfl lay_8 kk_8_0 fl_8_9 rfl dX8_answer_68 ?_
            refine k_iload_n (q := 5) C dX8_answer_71 rfl rfl ?_
            refine c_iald (i := 1040) (v := S.2.1 1040 (x3).toNatClampNeg) C rfl (LC_s2 hz (by decide)) ak_1040 rfl rfl dX8_answer_72 ?_
            refine k_bipush (v := 107) C dX8_answer_73 rfl ?_
            refine k_icmp_ne (tgt := 104) C dX8_answer_75 (by decide) (fun _ => ?_) (fun _ => ?_)
            · refine k_iload (q := 1) C dX8_answer_104 rfl ?_
              refine k_if_lt (tgt := 122) C dX8_answer_106 (by decide) (fun _ => ?_) (fun _ => ?_)
              · refine Dk.loc [2, 3, 4, 5, 0] rfl ?_
                exact kb_X8_answer_B122_1040_82_83 C hz ih _ _ _
              · refine k_iload (q := 1) C dX8_answer_109 rfl ?_
                refine k_iload_n (q := 5) C dX8_answer_111 rfl rfl ?_
                refine k_icmp_ge (tgt := 122) C dX8_answer_112 (by decide) (fun _ => ?_) (fun _ => ?_)
                · refine Dk.loc [2, 3, 4, 5, 0] rfl ?_
                  exact kb_X8_answer_B122_1040_82_83 C hz ih _ _ _
                · refine k_aload_n (q := 4) C dX8_answer_115 rfl rfl ?_
                  refine k_iload (q := 1) C dX8_answer_116 rfl ?_
                  refine c_iald (i := 83) (v := S.2.1 83 (y4).toNatClampNeg) C rfl am_83 ak_83 rfl rfl dX8_answer_118 ?_
                  refine k_goto (tgt := 123) C dX8_answer_119 (by decide) ?_
                  refine Dk.loc [2, 3, 4, 5, 0] rfl ?_
                  exact kb_X8_answer_B123_1040_82_83 C hz ih _ _ _ _
            · refine k_aload_n (q := 4) C dX8_answer_78 rfl rfl ?_
              refine k_iload_n (q := 5) C dX8_answer_79 rfl rfl ?_
              refine k_iload (q := 1) C dX8_answer_80 rfl ?_
              refine k_if_lt (tgt := 99) C dX8_answer_82 (by decide) (fun _ => ?_) (fun _ => ?_)
              · refine k_iconst (v := 0) C dX8_answer_99 rfl ?_
                refine c_iast (i := 83) C rfl am_83 ak_83 rfl dX8_answer_100 ?_
                refine k_goto (tgt := 163) C dX8_answer_101 (by decide) ?_
                refine k_iinc (q := 5) (v := x3 + 1) (lv' := [(3, .int (x3 + 1)), (5, .int y5), (4, .int y4), (0, .ref (Y 1059)), (1, .ref (ad 82)), (2, .ref (ad 83))]) C dX8_answer_163 rfl rfl (Nat.le_of_ble_eq_true rfl) rfl ?_
                refine k_goto (tgt := 12) C dX8_answer_166 (by decide) ?_
                refine Dk.loc [3, 4, 5, 0] rfl ?_
                exact ih _ _
              · refine k_iload (q := 1) C dX8_answer_85 rfl ?_
                refine k_aload_n (q := 3) C dX8_answer_87 rfl rfl ?_
                refine c_alen (i := 82) (v := 7) C rfl am_82 ak_82 rfl dX8_answer_88 ?_
                refine k_icmp_ge (tgt := 99) C dX8_answer_89 (by decide) (fun _ => ?_) (fun _ => ?_)
                · refine k_iconst (v := 0) C dX8_answer_99 rfl ?_
                  refine c_iast (i := 83) C rfl am_83 ak_83 rfl dX8_answer_100 ?_
                  refine k_goto (tgt := 163) C dX8_answer_101 (by decide) ?_
                  refine k_iinc (q := 5) (v := x3 + 1) (lv' := [(3, .int (x3 + 1)), (5, .int y5), (4, .int y4), (0, .ref (Y 1059)), (1, .ref (ad 82)), (2, .ref (ad 83))]) C dX8_answer_163 rfl rfl (Nat.le_of_ble_eq_true rfl) rfl ?_
                  refine k_goto (tgt := 12) C dX8_answer_166 (by decide) ?_
                  refine Dk.loc [3, 4, 5, 0] rfl ?_
                  exact ih _ _
                · refine k_aload_n (q := 3) C dX8_answer_92 rfl rfl ?_
                  refine k_iload (q := 1) C dX8_answer_93 rfl ?_
                  refine c_iald (i := 82) (v := S.2.1 82 (y4).toNatClampNeg) C rfl am_82 ak_82 rfl rfl dX8_answer_95 ?_
                  refine k_goto (tgt := 100) C dX8_answer_96 (by decide) ?_
                  refine c_iast (i := 83) C rfl am_83 ak_83 rfl dX8_answer_100 ?_
                  refine k_goto (tgt := 163) C dX8_answer_101 (by decide) ?_
                  refine k_iinc (q := 5) (v := x3 + 1) (lv' := [(3, .int (x3 + 1)), (5, .int y5), (4, .int y4), (0, .ref (Y 1059)), (1, .ref (ad 82)), (2, .ref (ad 83))]) C dX8_answer_163 rfl rfl (Nat.le_of_ble_eq_true rfl) rfl ?_
                  refine k_goto (tgt := 12) C dX8_answer_166 (by decide) ?_
                  refine Dk.loc [3, 4, 5, 0] rfl ?_
                  exact ih _ _
          · refine k_aload_n (q := 4) C dX8_answer_59 rfl rfl ?_
            refine k_iload_n (q := 5) C dX8_answer_60 rfl rfl ?_
            refine k_iload (q := 1) C dX8_answer_61 rfl ?_
            refine c_iast (i := 83) C rfl am_83 ak_83 rfl dX8_answer_63 ?_
            refine k_goto (tgt := 163) C dX8_answer_64 (by decide) ?_
            refine k_iinc (q := 5) (v := x3 + 1) (lv' := [(3, .int (x3 + 1)), (5, .int y5), (4, .int y4), (0, .ref (Y 1059)), (1, .ref (ad 82)), (2, .ref (ad 83))]) C dX8_answer_163 rfl rfl (Nat.le_of_ble_eq_true rfl) rfl ?_
            refine k_goto (tgt := 12) C dX8_answer_166 (by decide) ?_
            refine Dk.loc [3, 4, 5, 0] rfl ?_
            exact ih _ _
set_option maxRecDepth 20000 in
theorem kw_X8_answer_1040_82_83 {X : GX} {θ : TH} {ad Y : Nat → Nat} {F : Nat} {Z : Zt} {S : St}  (C : CX (mE X θ (wdC θ ad Y Z S) 8) RX8 cX8_answer (some .int) 1 0 0) (hz : Z.2 2 = true) : Dk (mE X θ (wdC θ ad Y Z S) 8) (mT X θ (wdC θ ad Y Z S) 8 (PIS (wdC θ ad Y Z))) 0 0 (wdC θ ad Y Z S) [(0, .ref (Y 1059)), (1, .ref (ad 82)), (2, .ref (ad 83))] [] 0 (f_X8_answer F 1040 82 83 Z S) := by
  show Dk _ _ _ _ _ _ _ _ (f_X8_answer_L12 F 1040 82 83 Z F S 0)
  refine k_aload_n (q := 1) C dX8_answer_0 rfl rfl ?_
  refine k_ifnull C dX8_answer_1 ?_
  refine k_aload_n (q := 2) C dX8_answer_4 rfl rfl ?_
  refine k_ifnonnull (tgt := 10) C dX8_answer_5 (by decide) ?_
  refine k_iconst (v := 0) C dX8_answer_10 rfl ?_
  refine k_istore_n (lv' := [(3, .int 0), (0, .ref (Y 1059)), (1, .ref (ad 82)), (2, .ref (ad 83))]) C dX8_answer_11 rfl (Nat.le_of_ble_eq_true rfl) rfl ?_
  refine Dk.loc [1, 2, 3, 0] rfl ?_
  exact kb_X8_answer_L12_1040_82_83 C hz _ _ _
theorem ct_X8_answer_1040_82_83 {l : Launch} {θ : TH} {ad Y : Nat → Nat} {S : St} {F : Nat} {Z : Zt}  (hz : Z.2 2 = true) : ∀ r, f_X8_answer F 1040 82 83 Z S = some r → Ct l θ yX8_answer cX8_answer 8 (some .int) 1 0 0 [.ref (Y 1059), .ref (ad 82), .ref (ad 83)] (wdC θ ad Y Z S) (PIS (wdC θ ad Y Z) r) :=
  fun r hr => Ct.of (by decide +kernel) (Nat.le_of_ble_eq_true rfl) (fun X _ C _ => kw_X8_answer_1040_82_83 C hz r hr)
set_option maxRecDepth 20000 in
theorem kb_X8_answer_B144_1000_302_303 {X : GX} {θ : TH} {ad Y : Nat → Nat} {S0 : St} {F : Nat} {Z : Zt} {K12 : St → Int32 → Option (Int32 × St)} (C : CX (mE X θ (wdC θ ad Y Z S0) 8) RX8 cX8_answer (some .int) 1 0 0) (hz : Z.2 0 = true) (hK12 : ∀ (S : St) (x3 : Int32), Dk (mE X θ (wdC θ ad Y Z S0) 8) (mT X θ (wdC θ ad Y Z S0) 8 (PIS (wdC θ ad Y Z))) 0 0 (wdC θ ad Y Z S) [(0, .ref (Y 1019)), (1, .ref (ad 302)), (2, .ref (ad 303)), (3, .int x3)] [] 12 (K12 S x3)) (S : St) (x3 : Int32) (x6 : Int32) (t0 : Int32) : Dk (mE X θ (wdC θ ad Y Z S0) 8) (mT X θ (wdC θ ad Y Z S0) 8 (PIS (wdC θ ad Y Z))) 0 0 (wdC θ ad Y Z S) [(0, .ref (Y 1019)), (1, .ref (ad 302)), (2, .ref (ad 303)), (3, .int x3), (6, .int x6)] [.int t0] 144 (f_X8_answer_B144 F 1000 302 303 Z K12 S x3 x6 t0) := by
  show Dk _ _ _ _ _ _ _ _ (chk (inr x3 120) ((f_X8_joined (S.2.1 1000 (x3).toNatClampNeg) x6 t0).bind fun r6 => chk (inr x3 120) (K12 (sa S 303 (x3).toNatClampNeg r6) (x3 + 1))))
  refine k_istore (lv' := [(7, .int t0), (0, .ref (Y 1019)), (1, .ref (ad 302)), (2, .ref (ad 303)), (3, .int x3), (6, .int x6)]) C dX8_answer_144 (Nat.le_of_ble_eq_true rfl) rfl ?_
  refine k_aload_n (q := 3) C dX8_answer_146 rfl rfl ?_
  refine k_iload_n (q := 4) C dX8_answer_147 rfl rfl ?_
  refine k_aload_n (q := 1) C dX8_answer_148 rfl rfl ?_
  refine k_aload_n (q := 1) C dX8_answer_149 rfl rfl ?_
  refine c_get (b := 1000) (ci := 8) (kf := 0) (N := 7) C rfl ⟨rfl, rfl⟩ (LC_s0 hz (by decide)) rfl lay_8 kk_8_0 fl_8_9 rfl dX8_answer_150 ?_
  refine k_iload_n (q := 4) C dX8_answer_153 rfl rfl ?_
  refine c_iald (i := 1000) (v := S.2.1 1000 (x3).toNatClampNeg) C rfl (LC_s0 hz (by decide)) ak_1000 rfl rfl dX8_answer_154 ?_
  refine k_iload (q := 5) C dX8_answer_155 rfl ?_
  refine k_iload (q := 0) C dX8_answer_157 rfl ?_
  refine k_cVI C ct_X8_joined my_8_joined ml_8_34 rfl ⟨Nat.le_of_ble_eq_true rfl, Nat.le_of_ble_eq_true rfl⟩ (recvC (b := 1000) (ci := 8) rfl ⟨rfl, rfl⟩ (LC_s0 hz (by decide)) rfl rfl) rfl (Nat.le_of_ble_eq_true rfl) dX8_answer_159 ⟨Nat.le_refl _, Nat.le_refl _⟩ (fun r6 _ => ?_)
  refine c_iast (i := 303) C rfl am_303 ak_303 rfl dX8_answer_162 ?_
  refine k_iinc (q := 4) (v := x3 + 1) (lv' := [(3, .int (x3 + 1)), (7, .int t0), (0, .ref (Y 1019)), (1, .ref (ad 302)), (2, .ref (ad 303)), (6, .int x6)]) C dX8_answer_163 rfl rfl (Nat.le_of_ble_eq_true rfl) rfl ?_
  refine k_goto (tgt := 12) C dX8_answer_166 (by decide) ?_
  refine Dk.loc [2, 3, 4, 0] rfl ?_
  exact hK12 _ _
set_option maxRecDepth 20000 in
theorem kb_X8_answer_B143_1000_302_303 {X : GX} {θ : TH} {ad Y : Nat → Nat} {S0 : St} {F : Nat} {Z : Zt} {K12 : St → Int32 → Option (Int32 × St)} (C : CX (mE X θ (wdC θ ad Y Z S0) 8) RX8 cX8_answer (some .int) 1 0 0) (hz : Z.2 0 = true) (hK12 : ∀ (S : St) (x3 : Int32), Dk (mE X θ (wdC θ ad Y Z S0) 8) (mT X θ (wdC θ ad Y Z S0) 8 (PIS (wdC θ ad Y Z))) 0 0 (wdC θ ad Y Z S) [(0, .ref (Y 1019)), (1, .ref (ad 302)), (2, .ref (ad 303)), (3, .int x3)] [] 12 (K12 S x3)) (S : St) (x3 : Int32) (x6 : Int32) : Dk (mE X θ (wdC θ ad Y Z S0) 8) (mT X θ (wdC θ ad Y Z S0) 8 (PIS (wdC θ ad Y Z))) 0 0 (wdC θ ad Y Z S) [(0, .ref (Y 1019)), (1, .ref (ad 302)), (2, .ref (ad 303)), (3, .int x3), (6, .int x6)] [] 143 (f_X8_answer_B143 F 1000 302 303 Z K12 S x3 x6) := by
  show Dk _ _ _ _ _ _ _ _ (f_X8_answer_B144 F 1000 302 303 Z K12 S x3 x6 0)
  refine k_iconst (v := 0) C dX8_answer_143 rfl ?_
  exact kb_X8_answer_B144_1000_302_303 C hz hK12 _ _ _ _
set_option maxRecDepth 20000 in
theorem kb_X8_answer_B123_1000_302_303 {X : GX} {θ : TH} {ad Y : Nat → Nat} {S0 : St} {F : Nat} {Z : Zt} {K12 : St → Int32 → Option (Int32 × St)} (C : CX (mE X θ (wdC θ ad Y Z S0) 8) RX8 cX8_answer (some .int) 1 0 0) (hz : Z.2 0 = true) (hK12 : ∀ (S : St) (x3 : Int32), Dk (mE X θ (wdC θ ad Y Z S0) 8) (mT X θ (wdC θ ad Y Z S0) 8 (PIS (wdC θ ad Y Z))) 0 0 (wdC θ ad Y Z S) [(0, .ref (Y 1019)), (1, .ref (ad 302)), (2, .ref (ad 303)), (3, .int x3)] [] 12 (K12 S x3)) (S : St) (x3 : Int32) (x5 : Int32) (t0 : Int32) : Dk (mE X θ (wdC θ ad Y Z S0) 8) (mT X θ (wdC θ ad Y Z S0) 8 (PIS (wdC θ ad Y Z))) 0 0 (wdC θ ad Y Z S) [(0, .ref (Y 1019)), (1, .ref (ad 302)), (2, .ref (ad 303)), (3, .int x3), (5, .int x5)] [.int t0] 123 (f_X8_answer_B123 F 1000 302 303 Z K12 S x3 x5 t0) := by
  show Dk _ _ _ _ _ _ _ _ (if x5 < 0 then f_X8_answer_B143 F 1000 302 303 Z K12 S x3 t0 else if x3 ≤ x5 then f_X8_answer_B143 F 1000 302 303 Z K12 S x3 t0 else chk (inr x5 120) (f_X8_answer_B144 F 1000 302 303 Z K12 S x3 t0 (S.2.1 303 (x5).toNatClampNeg)))
  refine k_istore (lv' := [(6, .int t0), (0, .ref (Y 1019)), (1, .ref (ad 302)), (2, .ref (ad 303)), (3, .int x3), (5, .int x5)]) C dX8_answer_123 (Nat.le_of_ble_eq_true rfl) rfl ?_
  refine k_iload (q := 5) C dX8_answer_125 rfl ?_
  refine k_if_lt (tgt := 143) C dX8_answer_127 (by decide) (fun _ => ?_) (fun _ => ?_)
  · refine Dk.loc [1, 2, 3, 4, 0] rfl ?_
    exact kb_X8_answer_B143_1000_302_303 C hz hK12 _ _ _
  · refine k_iload (q := 5) C dX8_answer_130 rfl ?_
    refine k_iload_n (q := 4) C dX8_answer_132 rfl rfl ?_
    refine k_icmp_ge (tgt := 143) C dX8_answer_133 (by decide) (fun _ => ?_) (fun _ => ?_)
    · refine Dk.loc [1, 2, 3, 4, 0] rfl ?_
      exact kb_X8_answer_B143_1000_302_303 C hz hK12 _ _ _
    · refine k_aload_n (q := 3) C dX8_answer_136 rfl rfl ?_
      refine k_iload (q := 5) C dX8_answer_137 rfl ?_
      refine c_iald (i := 303) (v := S.2.1 303 (x5).toNatClampNeg) C rfl am_303 ak_303 rfl rfl dX8_answer_139 ?_
      refine k_goto (tgt := 144) C dX8_answer_140 (by decide) ?_
      refine Dk.loc [1, 2, 3, 4, 0] rfl ?_
      exact kb_X8_answer_B144_1000_302_303 C hz hK12 _ _ _ _
set_option maxRecDepth 20000 in
theorem kb_X8_answer_B122_1000_302_303 {X : GX} {θ : TH} {ad Y : Nat → Nat} {S0 : St} {F : Nat} {Z : Zt} {K12 : St → Int32 → Option (Int32 × St)} (C : CX (mE X θ (wdC θ ad Y Z S0) 8) RX8 cX8_answer (some .int) 1 0 0) (hz : Z.2 0 = true) (hK12 : ∀ (S : St) (x3 : Int32), Dk (mE X θ (wdC θ ad Y Z S0) 8) (mT X θ (wdC θ ad Y Z S0) 8 (PIS (wdC θ ad Y Z))) 0 0 (wdC θ ad Y Z S) [(0, .ref (Y 1019)), (1, .ref (ad 302)), (2, .ref (ad 303)), (3, .int x3)] [] 12 (K12 S x3)) (S : St) (x3 : Int32) (x5 : Int32) : Dk (mE X θ (wdC θ ad Y Z S0) 8) (mT X θ (wdC θ ad Y Z S0) 8 (PIS (wdC θ ad Y Z))) 0 0 (wdC θ ad Y Z S) [(0, .ref (Y 1019)), (1, .ref (ad 302)), (2, .ref (ad 303)), (3, .int x3), (5, .int x5)] [] 122 (f_X8_answer_B122 F 1000 302 303 Z K12 S x3 x5) := by
  show Dk _ _ _ _ _ _ _ _ (f_X8_answer_B123 F 1000 302 303 Z K12 S x3 x5 0)
  refine k_iconst (v := 0) C dX8_answer_122 rfl ?_
  exact kb_X8_answer_B123_1000_302_303 C hz hK12 _ _ _ _
set_option maxRecDepth 20000 in
theorem kb_X8_answer_L12_1000_302_303 {X : GX} {θ : TH} {ad Y : Nat → Nat} {S0 : St} {F : Nat} {Z : Zt} (C : CX (mE X θ (wdC θ ad Y Z S0) 8) RX8 cX8_answer (some .int) 1 0 0) (hz : Z.2 0 = true) : ∀ (n : Nat) (S : St) (x3 : Int32), Dk (mE X θ (wdC θ ad Y Z S0) 8) (mT X θ (wdC θ ad Y Z S0) 8 (PIS (wdC θ ad Y Z))) 0 0 (wdC θ ad Y Z S) [(0, .ref (Y 1019)), (1, .ref (ad 302)), (2, .ref (ad 303)), (3, .int x3)] [] 12 (f_X8_answer_L12 F 1000 302 303 Z n S x3) := by
  intro n
  induction n with
  | zero => intro S x3; exact Dk.none
  | succ n ih =>
    intro S x3
    show Dk _ _ _ _ _ _ _ _ (if (S.1 1005) ≤ x3 then (f_X8_firstThatCounts F 1000 303 Z S).bind fun r1 => some (r1, S) else if (120 : Int32) ≤ x3 then (f_X8_firstThatCounts F 1000 303 Z S).bind fun r2 => some (r2, S) else if (120 : Int32) ≤ x3 then (f_X8_firstThatCounts F 1000 303 Z S).bind fun r3 => some (r3, S) else chk (inr x3 120) (lti (S.2.1 1001 (x3).toNatClampNeg) fun y4 => chk (inr x3 120) (lti (S.2.1 1002 (x3).toNatClampNeg) fun y5 => chk (inr x3 120) ((if (S.2.1 1000 (x3).toNatClampNeg) = 48 then chk (inr x3 120) (f_X8_answer_L12 F 1000 302 303 Z n (sa S 303 (x3).toNatClampNeg y4) (x3 + 1)) else chk (inr x3 120) ((if (S.2.1 1000 (x3).toNatClampNeg) = 107 then if y4 < 0 then chk (inr x3 120) (f_X8_answer_L12 F 1000 302 303 Z n (sa S 303 (x3).toNatClampNeg 0) (x3 + 1)) else if (7 : Int32) ≤ y4 then chk (inr x3 120) (f_X8_answer_L12 F 1000 302 303 Z n (sa S 303 (x3).toNatClampNeg 0) (x3 + 1)) else chk (inr y4 7) (chk (inr x3 120) (f_X8_answer_L12 F 1000 302 303 Z n (sa S 303 (x3).toNatClampNeg (S.2.1 302 (y4).toNatClampNeg)) (x3 + 1))) else if y4 < 0 then f_X8_answer_B122 F 1000 302 303 Z (f_X8_answer_L12 F 1000 302 303 Z n) S x3 y5 else if x3 ≤ y4 then f_X8_answer_B122 F 1000 302 303 Z (f_X8_answer_L12 F 1000 302 303 Z n) S x3 y5 else chk (inr y4 120) (f_X8_answer_B123 F 1000 302 303 Z (f_X8_answer_L12 F 1000 302 303 Z n) S x3 y5 (S.2.1 303 (y4).toNatClampNeg)))))))))
    refine k_iload_n (q := 3) C dX8_answer_12 rfl rfl ?_
    refine k_aload_n (q := 0) C dX8_answer_13 rfl rfl ?_
    refine c_get (b := 1000) (ci := 8) (kf := 5) (N := 7) (v := .int (S.1 1005)) C rfl ⟨rfl, rfl⟩ (LC_s0 hz (by decide)) rfl lay_8 kk_8_5 fl_8_27 rfl dX8_answer_14 ?_
    refine k_icmp_ge (tgt := 169) C dX8_answer_17 (by decide) (fun _ => ?_) (fun _ => ?_)
    · refine k_aload_n (q := 0) C dX8_answer_169 rfl rfl ?_
      refine k_aload_n (q := 2) C dX8_answer_170 rfl rfl ?_
      refine k_cVI C (ct_X8_firstThatCounts_1000_303 hz) my_8_firstThatCounts ml_8_38 rfl ⟨Nat.le_of_ble_eq_true rfl, Nat.le_of_ble_eq_true rfl⟩ (recvC (b := 1000) (ci := 8) rfl ⟨rfl, rfl⟩ (LC_s0 hz (by decide)) rfl rfl) rfl (Nat.le_of_ble_eq_true rfl) dX8_answer_171 ⟨Nat.le_refl _, Nat.le_refl _⟩ (fun r1 _ => ?_)
      exact k_iret C rfl ⟨rfl, rfl⟩ dX8_answer_174
    · refine k_iload_n (q := 3) C dX8_answer_20 rfl rfl ?_
      refine k_bipush (v := 120) C dX8_answer_21 rfl ?_
      refine k_icmp_ge (tgt := 169) C dX8_answer_23 (by decide) (fun _ => ?_) (fun _ => ?_)
      · refine k_aload_n (q := 0) C dX8_answer_169 rfl rfl ?_
        refine k_aload_n (q := 2) C dX8_answer_170 rfl rfl ?_
        refine k_cVI C (ct_X8_firstThatCounts_1000_303 hz) my_8_firstThatCounts ml_8_38 rfl ⟨Nat.le_of_ble_eq_true rfl, Nat.le_of_ble_eq_true rfl⟩ (recvC (b := 1000) (ci := 8) rfl ⟨rfl, rfl⟩ (LC_s0 hz (by decide)) rfl rfl) rfl (Nat.le_of_ble_eq_true rfl) dX8_answer_171 ⟨Nat.le_refl _, Nat.le_refl _⟩ (fun r2 _ => ?_)
        exact k_iret C rfl ⟨rfl, rfl⟩ dX8_answer_174
      · refine k_iload_n (q := 3) C dX8_answer_26 rfl rfl ?_
        refine k_aload_n (q := 2) C dX8_answer_27 rfl rfl ?_
        refine c_alen (i := 303) (v := 120) C rfl am_303 ak_303 rfl dX8_answer_28 ?_
        refine k_icmp_ge (tgt := 169) C dX8_answer_29 (by decide) (fun _ => ?_) (fun _ => ?_)
        · refine k_aload_n (q := 0) C dX8_answer_169 rfl rfl ?_
          refine k_aload_n (q := 2) C dX8_answer_170 rfl rfl ?_
          refine k_cVI C (ct_X8_firstThatCounts_1000_303 hz) my_8_firstThatCounts ml_8_38 rfl ⟨Nat.le_of_ble_eq_true rfl, Nat.le_of_ble_eq_true rfl⟩ (recvC (b := 1000) (ci := 8) rfl ⟨rfl, rfl⟩ (LC_s0 hz (by decide)) rfl rfl) rfl (Nat.le_of_ble_eq_true rfl) dX8_answer_171 ⟨Nat.le_refl _, Nat.le_refl _⟩ (fun r3 _ => ?_)
          exact k_iret C rfl ⟨rfl, rfl⟩ dX8_answer_174
        · refine k_aload_n (q := 0) C dX8_answer_32 rfl rfl ?_
          refine c_get (b := 1000) (ci := 8) (kf := 1) (N := 7) C rfl ⟨rfl, rfl⟩ (LC_s0 hz (by decide)) rfl lay_8 kk_8_1 fl_8_15 rfl dX8_answer_33 ?_
          refine k_iload_n (q := 3) C dX8_answer_36 rfl rfl ?_
          refine c_iald (i := 1001) (v := S.2.1 1001 (x3).toNatClampNeg) C rfl (LC_s0 hz (by decide)) ak_1001 rfl rfl dX8_answer_37 ?_
          refine k_lti fun y4 => ?_
          refine k_istore (lv' := [(4, .int y4), (0, .ref (Y 1019)), (1, .ref (ad 302)), (2, .ref (ad 303)), (3, .int x3)]) C dX8_answer_38 (Nat.le_of_ble_eq_true rfl) rfl ?_
          refine k_aload_n (q := 1) C dX8_answer_40 rfl rfl ?_
          refine c_get (b := 1000) (ci := 8) (kf := 2) (N := 7) C rfl ⟨rfl, rfl⟩ (LC_s0 hz (by decide)) rfl lay_8 kk_8_2 fl_8_18 rfl dX8_answer_41 ?_
          refine k_iload_n (q := 4) C dX8_answer_44 rfl rfl ?_
          refine c_iald (i := 1002) (v := S.2.1 1002 (x3).toNatClampNeg) C rfl (LC_s0 hz (by decide)) ak_1002 rfl rfl dX8_answer_45 ?_
          refine k_lti fun y5 => ?_
          refine k_istore (lv' := [(5, .int y5), (4, .int y4), (0, .ref (Y 1019)), (1, .ref (ad 302)), (2, .ref (ad 303)), (3, .int x3)]) C dX8_answer_46 (Nat.le_of_ble_eq_true rfl) rfl ?_
          refine k_aload_n (q := 2) C dX8_answer_48 rfl rfl ?_
          refine c_get (b := 1000) (ci := 8) (kf := 0) (N := 7) C rfl ⟨rfl, rfl⟩ (LC_s0 hz (by decide)) rfl lay_8 kk_8_0 fl_8_9 rfl dX8_answer_49 ?_
          refine k_iload_n (q := 5) C dX8_answer_52 rfl rfl ?_
          refine c_iald (i := 1000) (v := S.2.1 1000 (x3).toNatClampNeg) C rfl (LC_s0 hz (by decide)) ak_1000 rfl rfl dX8_answer_53 ?_
          refine k_bipush (v := 48) C dX8_answer_54 rfl ?_
          refine k_icmp_ne (tgt := 67) C dX8_answer_56 (by decide) (fun _ => ?_) (fun _ => ?_)
          · refine k_aload_n (q := 2) C dX8_answer_67 rfl rfl ?_
            refine c_get (b := 1000) (ci := 8) (kf := 0) (N := 7) C rfl ⟨rfl, rfl⟩ (LC_s0 hz (by decide)) rfl lay_8 kk_8_0 fl_8_9 rfl dX8_answer_68 ?_
            refine k_iload_n (q := 5) C dX8_answer_71 rfl rfl ?_
            refine c_iald (i := 1000) (v := S.2.1 1000 (x3).toNatClampNeg) C rfl (LC_s0 hz (by decide)) ak_1000 rfl rfl dX8_answer_72 ?_
            refine k_bipush (v := 107) C dX8_answer_73 rfl ?_
            refine k_icmp_ne (tgt := 104) C dX8_answer_75 (by decide) (fun _ => ?_) (fun _ => ?_)
            · refine k_iload (q := 1) C dX8_answer_104 rfl ?_
              refine k_if_lt (tgt := 122) C dX8_answer_106 (by decide) (fun _ => ?_) (fun _ => ?_)
              · refine Dk.loc [2, 3, 4, 5, 0] rfl ?_
                exact kb_X8_answer_B122_1000_302_303 C hz ih _ _ _
              · refine k_iload (q := 1) C dX8_answer_109 rfl ?_
                refine k_iload_n (q := 5) C dX8_answer_111 rfl rfl ?_
                refine k_icmp_ge (tgt := 122) C dX8_answer_112 (by decide) (fun _ => ?_) (fun _ => ?_)
                · refine Dk.loc [2, 3, 4, 5, 0] rfl ?_
                  exact kb_X8_answer_B122_1000_302_303 C hz ih _ _ _
                · refine k_aload_n (q := 4) C dX8_answer_115 rfl rfl ?_
                  refine k_iload (q := 1) C dX8_answer_116 rfl ?_
                  refine c_iald (i := 303) (v := S.2.1 303 (y4).toNatClampNeg) C rfl am_303 ak_303 rfl rfl dX8_answer_118 ?_
                  refine k_goto (tgt := 123) C dX8_answer_119 (by decide) ?_
                  refine Dk.loc [2, 3, 4, 5, 0] rfl ?_
                  exact kb_X8_answer_B123_1000_302_303 C hz ih _ _ _ _
            · refine k_aload_n (q := 4) C dX8_answer_78 rfl rfl ?_
              refine k_iload_n (q := 5) C dX8_answer_79 rfl rfl ?_
              refine k_iload (q := 1) C dX8_answer_80 rfl ?_
              refine k_if_lt (tgt := 99) C dX8_answer_82 (by decide) (fun _ => ?_) (fun _ => ?_)
              · refine k_iconst (v := 0) C dX8_answer_99 rfl ?_
                refine c_iast (i := 303) C rfl am_303 ak_303 rfl dX8_answer_100 ?_
                refine k_goto (tgt := 163) C dX8_answer_101 (by decide) ?_
                refine k_iinc (q := 5) (v := x3 + 1) (lv' := [(3, .int (x3 + 1)), (5, .int y5), (4, .int y4), (0, .ref (Y 1019)), (1, .ref (ad 302)), (2, .ref (ad 303))]) C dX8_answer_163 rfl rfl (Nat.le_of_ble_eq_true rfl) rfl ?_
                refine k_goto (tgt := 12) C dX8_answer_166 (by decide) ?_
                refine Dk.loc [3, 4, 5, 0] rfl ?_
                exact ih _ _
              · refine k_iload (q := 1) C dX8_answer_85 rfl ?_
                refine k_aload_n (q := 3) C dX8_answer_87 rfl rfl ?_
                refine c_alen (i := 302) (v := 7) C rfl am_302 ak_302 rfl dX8_answer_88 ?_
                refine k_icmp_ge (tgt := 99) C dX8_answer_89 (by decide) (fun _ => ?_) (fun _ => ?_)
                · refine k_iconst (v := 0) C dX8_answer_99 rfl ?_
                  refine c_iast (i := 303) C rfl am_303 ak_303 rfl dX8_answer_100 ?_
                  refine k_goto (tgt := 163) C dX8_answer_101 (by decide) ?_
                  refine k_iinc (q := 5) (v := x3 + 1) (lv' := [(3, .int (x3 + 1)), (5, .int y5), (4, .int y4), (0, .ref (Y 1019)), (1, .ref (ad 302)), (2, .ref (ad 303))]) C dX8_answer_163 rfl rfl (Nat.le_of_ble_eq_true rfl) rfl ?_
                  refine k_goto (tgt := 12) C dX8_answer_166 (by decide) ?_
                  refine Dk.loc [3, 4, 5, 0] rfl ?_
                  exact ih _ _
                · refine k_aload_n (q := 3) C dX8_answer_92 rfl rfl ?_
                  refine k_iload (q := 1) C dX8_answer_93 rfl ?_
                  refine c_iald (i := 302) (v := S.2.1 302 (y4).toNatClampNeg) C rfl am_302 ak_302 rfl rfl dX8_answer_95 ?_
                  refine k_goto (tgt := 100) C dX8_answer_96 (by decide) ?_
                  refine c_iast (i := 303) C rfl am_303 ak_303 rfl dX8_answer_100 ?_
                  refine k_goto (tgt := 163) C dX8_answer_101 (by decide) ?_
                  refine k_iinc (q := 5) (v := x3 + 1) (lv' := [(3, .int (x3 + 1)), (5, .int y5), (4, .int y4), (0, .ref (Y 1019)), (1, .ref (ad 302)), (2, .ref (ad 303))]) C dX8_answer_163 rfl rfl (Nat.le_of_ble_eq_true rfl) rfl ?_
                  refine k_goto (tgt := 12) C dX8_answer_166 (by decide) ?_
                  refine Dk.loc [3, 4, 5, 0] rfl ?_
                  exact ih _ _
          · refine k_aload_n (q := 4) C dX8_answer_59 rfl rfl ?_
            refine k_iload_n (q := 5) C dX8_answer_60 rfl rfl ?_
            refine k_iload (q := 1) C dX8_answer_61 rfl ?_
            refine c_iast (i := 303) C rfl am_303 ak_303 rfl dX8_answer_63 ?_
            refine k_goto (tgt := 163) C dX8_answer_64 (by decide) ?_
            refine k_iinc (q := 5) (v := x3 + 1) (lv' := [(3, .int (x3 + 1)), (5, .int y5), (4, .int y4), (0, .ref (Y 1019)), (1, .ref (ad 302)), (2, .ref (ad 303))]) C dX8_answer_163 rfl rfl (Nat.le_of_ble_eq_true rfl) rfl ?_
            refine k_goto (tgt := 12) C dX8_answer_166 (by decide) ?_
            refine Dk.loc [3, 4, 5, 0] rfl ?_
            exact ih _ _
set_option maxRecDepth 20000 in
theorem kw_X8_answer_1000_302_303 {X : GX} {θ : TH} {ad Y : Nat → Nat} {F : Nat} {Z : Zt} {S : St}  (C : CX (mE X θ (wdC θ ad Y Z S) 8) RX8 cX8_answer (some .int) 1 0 0) (hz : Z.2 0 = true) : Dk (mE X θ (wdC θ ad Y Z S) 8) (mT X θ (wdC θ ad Y Z S) 8 (PIS (wdC θ ad Y Z))) 0 0 (wdC θ ad Y Z S) [(0, .ref (Y 1019)), (1, .ref (ad 302)), (2, .ref (ad 303))] [] 0 (f_X8_answer F 1000 302 303 Z S) := by
  show Dk _ _ _ _ _ _ _ _ (f_X8_answer_L12 F 1000 302 303 Z F S 0)
  refine k_aload_n (q := 1) C dX8_answer_0 rfl rfl ?_
  refine k_ifnull C dX8_answer_1 ?_
  refine k_aload_n (q := 2) C dX8_answer_4 rfl rfl ?_
  refine k_ifnonnull (tgt := 10) C dX8_answer_5 (by decide) ?_
  refine k_iconst (v := 0) C dX8_answer_10 rfl ?_
  refine k_istore_n (lv' := [(3, .int 0), (0, .ref (Y 1019)), (1, .ref (ad 302)), (2, .ref (ad 303))]) C dX8_answer_11 rfl (Nat.le_of_ble_eq_true rfl) rfl ?_
  refine Dk.loc [1, 2, 3, 0] rfl ?_
  exact kb_X8_answer_L12_1000_302_303 C hz _ _ _
theorem ct_X8_answer_1000_302_303 {l : Launch} {θ : TH} {ad Y : Nat → Nat} {S : St} {F : Nat} {Z : Zt}  (hz : Z.2 0 = true) : ∀ r, f_X8_answer F 1000 302 303 Z S = some r → Ct l θ yX8_answer cX8_answer 8 (some .int) 1 0 0 [.ref (Y 1019), .ref (ad 302), .ref (ad 303)] (wdC θ ad Y Z S) (PIS (wdC θ ad Y Z) r) :=
  fun r hr => Ct.of (by decide +kernel) (Nat.le_of_ble_eq_true rfl) (fun X _ C _ => kw_X8_answer_1000_302_303 C hz r hr)
set_option maxRecDepth 20000 in
theorem kb_X8_answer_B144_1020_302_303 {X : GX} {θ : TH} {ad Y : Nat → Nat} {S0 : St} {F : Nat} {Z : Zt} {K12 : St → Int32 → Option (Int32 × St)} (C : CX (mE X θ (wdC θ ad Y Z S0) 8) RX8 cX8_answer (some .int) 1 0 0) (hz : Z.2 1 = true) (hK12 : ∀ (S : St) (x3 : Int32), Dk (mE X θ (wdC θ ad Y Z S0) 8) (mT X θ (wdC θ ad Y Z S0) 8 (PIS (wdC θ ad Y Z))) 0 0 (wdC θ ad Y Z S) [(0, .ref (Y 1039)), (1, .ref (ad 302)), (2, .ref (ad 303)), (3, .int x3)] [] 12 (K12 S x3)) (S : St) (x3 : Int32) (x6 : Int32) (t0 : Int32) : Dk (mE X θ (wdC θ ad Y Z S0) 8) (mT X θ (wdC θ ad Y Z S0) 8 (PIS (wdC θ ad Y Z))) 0 0 (wdC θ ad Y Z S) [(0, .ref (Y 1039)), (1, .ref (ad 302)), (2, .ref (ad 303)), (3, .int x3), (6, .int x6)] [.int t0] 144 (f_X8_answer_B144 F 1020 302 303 Z K12 S x3 x6 t0) := by
  show Dk _ _ _ _ _ _ _ _ (chk (inr x3 120) ((f_X8_joined (S.2.1 1020 (x3).toNatClampNeg) x6 t0).bind fun r6 => chk (inr x3 120) (K12 (sa S 303 (x3).toNatClampNeg r6) (x3 + 1))))
  refine k_istore (lv' := [(7, .int t0), (0, .ref (Y 1039)), (1, .ref (ad 302)), (2, .ref (ad 303)), (3, .int x3), (6, .int x6)]) C dX8_answer_144 (Nat.le_of_ble_eq_true rfl) rfl ?_
  refine k_aload_n (q := 3) C dX8_answer_146 rfl rfl ?_
  refine k_iload_n (q := 4) C dX8_answer_147 rfl rfl ?_
  refine k_aload_n (q := 1) C dX8_answer_148 rfl rfl ?_
  refine k_aload_n (q := 1) C dX8_answer_149 rfl rfl ?_
  refine c_get (b := 1020) (ci := 8) (kf := 0) (N := 7) C rfl ⟨rfl, rfl⟩ (LC_s1 hz (by decide)) rfl lay_8 kk_8_0 fl_8_9 rfl dX8_answer_150 ?_
  refine k_iload_n (q := 4) C dX8_answer_153 rfl rfl ?_
  refine c_iald (i := 1020) (v := S.2.1 1020 (x3).toNatClampNeg) C rfl (LC_s1 hz (by decide)) ak_1020 rfl rfl dX8_answer_154 ?_
  refine k_iload (q := 5) C dX8_answer_155 rfl ?_
  refine k_iload (q := 0) C dX8_answer_157 rfl ?_
  refine k_cVI C ct_X8_joined my_8_joined ml_8_34 rfl ⟨Nat.le_of_ble_eq_true rfl, Nat.le_of_ble_eq_true rfl⟩ (recvC (b := 1020) (ci := 8) rfl ⟨rfl, rfl⟩ (LC_s1 hz (by decide)) rfl rfl) rfl (Nat.le_of_ble_eq_true rfl) dX8_answer_159 ⟨Nat.le_refl _, Nat.le_refl _⟩ (fun r6 _ => ?_)
  refine c_iast (i := 303) C rfl am_303 ak_303 rfl dX8_answer_162 ?_
  refine k_iinc (q := 4) (v := x3 + 1) (lv' := [(3, .int (x3 + 1)), (7, .int t0), (0, .ref (Y 1039)), (1, .ref (ad 302)), (2, .ref (ad 303)), (6, .int x6)]) C dX8_answer_163 rfl rfl (Nat.le_of_ble_eq_true rfl) rfl ?_
  refine k_goto (tgt := 12) C dX8_answer_166 (by decide) ?_
  refine Dk.loc [2, 3, 4, 0] rfl ?_
  exact hK12 _ _
set_option maxRecDepth 20000 in
theorem kb_X8_answer_B143_1020_302_303 {X : GX} {θ : TH} {ad Y : Nat → Nat} {S0 : St} {F : Nat} {Z : Zt} {K12 : St → Int32 → Option (Int32 × St)} (C : CX (mE X θ (wdC θ ad Y Z S0) 8) RX8 cX8_answer (some .int) 1 0 0) (hz : Z.2 1 = true) (hK12 : ∀ (S : St) (x3 : Int32), Dk (mE X θ (wdC θ ad Y Z S0) 8) (mT X θ (wdC θ ad Y Z S0) 8 (PIS (wdC θ ad Y Z))) 0 0 (wdC θ ad Y Z S) [(0, .ref (Y 1039)), (1, .ref (ad 302)), (2, .ref (ad 303)), (3, .int x3)] [] 12 (K12 S x3)) (S : St) (x3 : Int32) (x6 : Int32) : Dk (mE X θ (wdC θ ad Y Z S0) 8) (mT X θ (wdC θ ad Y Z S0) 8 (PIS (wdC θ ad Y Z))) 0 0 (wdC θ ad Y Z S) [(0, .ref (Y 1039)), (1, .ref (ad 302)), (2, .ref (ad 303)), (3, .int x3), (6, .int x6)] [] 143 (f_X8_answer_B143 F 1020 302 303 Z K12 S x3 x6) := by
  show Dk _ _ _ _ _ _ _ _ (f_X8_answer_B144 F 1020 302 303 Z K12 S x3 x6 0)
  refine k_iconst (v := 0) C dX8_answer_143 rfl ?_
  exact kb_X8_answer_B144_1020_302_303 C hz hK12 _ _ _ _
set_option maxRecDepth 20000 in
theorem kb_X8_answer_B123_1020_302_303 {X : GX} {θ : TH} {ad Y : Nat → Nat} {S0 : St} {F : Nat} {Z : Zt} {K12 : St → Int32 → Option (Int32 × St)} (C : CX (mE X θ (wdC θ ad Y Z S0) 8) RX8 cX8_answer (some .int) 1 0 0) (hz : Z.2 1 = true) (hK12 : ∀ (S : St) (x3 : Int32), Dk (mE X θ (wdC θ ad Y Z S0) 8) (mT X θ (wdC θ ad Y Z S0) 8 (PIS (wdC θ ad Y Z))) 0 0 (wdC θ ad Y Z S) [(0, .ref (Y 1039)), (1, .ref (ad 302)), (2, .ref (ad 303)), (3, .int x3)] [] 12 (K12 S x3)) (S : St) (x3 : Int32) (x5 : Int32) (t0 : Int32) : Dk (mE X θ (wdC θ ad Y Z S0) 8) (mT X θ (wdC θ ad Y Z S0) 8 (PIS (wdC θ ad Y Z))) 0 0 (wdC θ ad Y Z S) [(0, .ref (Y 1039)), (1, .ref (ad 302)), (2, .ref (ad 303)), (3, .int x3), (5, .int x5)] [.int t0] 123 (f_X8_answer_B123 F 1020 302 303 Z K12 S x3 x5 t0) := by
  show Dk _ _ _ _ _ _ _ _ (if x5 < 0 then f_X8_answer_B143 F 1020 302 303 Z K12 S x3 t0 else if x3 ≤ x5 then f_X8_answer_B143 F 1020 302 303 Z K12 S x3 t0 else chk (inr x5 120) (f_X8_answer_B144 F 1020 302 303 Z K12 S x3 t0 (S.2.1 303 (x5).toNatClampNeg)))
  refine k_istore (lv' := [(6, .int t0), (0, .ref (Y 1039)), (1, .ref (ad 302)), (2, .ref (ad 303)), (3, .int x3), (5, .int x5)]) C dX8_answer_123 (Nat.le_of_ble_eq_true rfl) rfl ?_
  refine k_iload (q := 5) C dX8_answer_125 rfl ?_
  refine k_if_lt (tgt := 143) C dX8_answer_127 (by decide) (fun _ => ?_) (fun _ => ?_)
  · refine Dk.loc [1, 2, 3, 4, 0] rfl ?_
    exact kb_X8_answer_B143_1020_302_303 C hz hK12 _ _ _
  · refine k_iload (q := 5) C dX8_answer_130 rfl ?_
    refine k_iload_n (q := 4) C dX8_answer_132 rfl rfl ?_
    refine k_icmp_ge (tgt := 143) C dX8_answer_133 (by decide) (fun _ => ?_) (fun _ => ?_)
    · refine Dk.loc [1, 2, 3, 4, 0] rfl ?_
      exact kb_X8_answer_B143_1020_302_303 C hz hK12 _ _ _
    · refine k_aload_n (q := 3) C dX8_answer_136 rfl rfl ?_
      refine k_iload (q := 5) C dX8_answer_137 rfl ?_
      refine c_iald (i := 303) (v := S.2.1 303 (x5).toNatClampNeg) C rfl am_303 ak_303 rfl rfl dX8_answer_139 ?_
      refine k_goto (tgt := 144) C dX8_answer_140 (by decide) ?_
      refine Dk.loc [1, 2, 3, 4, 0] rfl ?_
      exact kb_X8_answer_B144_1020_302_303 C hz hK12 _ _ _ _
set_option maxRecDepth 20000 in
theorem kb_X8_answer_B122_1020_302_303 {X : GX} {θ : TH} {ad Y : Nat → Nat} {S0 : St} {F : Nat} {Z : Zt} {K12 : St → Int32 → Option (Int32 × St)} (C : CX (mE X θ (wdC θ ad Y Z S0) 8) RX8 cX8_answer (some .int) 1 0 0) (hz : Z.2 1 = true) (hK12 : ∀ (S : St) (x3 : Int32), Dk (mE X θ (wdC θ ad Y Z S0) 8) (mT X θ (wdC θ ad Y Z S0) 8 (PIS (wdC θ ad Y Z))) 0 0 (wdC θ ad Y Z S) [(0, .ref (Y 1039)), (1, .ref (ad 302)), (2, .ref (ad 303)), (3, .int x3)] [] 12 (K12 S x3)) (S : St) (x3 : Int32) (x5 : Int32) : Dk (mE X θ (wdC θ ad Y Z S0) 8) (mT X θ (wdC θ ad Y Z S0) 8 (PIS (wdC θ ad Y Z))) 0 0 (wdC θ ad Y Z S) [(0, .ref (Y 1039)), (1, .ref (ad 302)), (2, .ref (ad 303)), (3, .int x3), (5, .int x5)] [] 122 (f_X8_answer_B122 F 1020 302 303 Z K12 S x3 x5) := by
  show Dk _ _ _ _ _ _ _ _ (f_X8_answer_B123 F 1020 302 303 Z K12 S x3 x5 0)
  refine k_iconst (v := 0) C dX8_answer_122 rfl ?_
  exact kb_X8_answer_B123_1020_302_303 C hz hK12 _ _ _ _
set_option maxRecDepth 20000 in
theorem kb_X8_answer_L12_1020_302_303 {X : GX} {θ : TH} {ad Y : Nat → Nat} {S0 : St} {F : Nat} {Z : Zt} (C : CX (mE X θ (wdC θ ad Y Z S0) 8) RX8 cX8_answer (some .int) 1 0 0) (hz : Z.2 1 = true) : ∀ (n : Nat) (S : St) (x3 : Int32), Dk (mE X θ (wdC θ ad Y Z S0) 8) (mT X θ (wdC θ ad Y Z S0) 8 (PIS (wdC θ ad Y Z))) 0 0 (wdC θ ad Y Z S) [(0, .ref (Y 1039)), (1, .ref (ad 302)), (2, .ref (ad 303)), (3, .int x3)] [] 12 (f_X8_answer_L12 F 1020 302 303 Z n S x3) := by
  intro n
  induction n with
  | zero => intro S x3; exact Dk.none
  | succ n ih =>
    intro S x3
    show Dk _ _ _ _ _ _ _ _ (if (S.1 1025) ≤ x3 then (f_X8_firstThatCounts F 1020 303 Z S).bind fun r1 => some (r1, S) else if (120 : Int32) ≤ x3 then (f_X8_firstThatCounts F 1020 303 Z S).bind fun r2 => some (r2, S) else if (120 : Int32) ≤ x3 then (f_X8_firstThatCounts F 1020 303 Z S).bind fun r3 => some (r3, S) else chk (inr x3 120) (lti (S.2.1 1021 (x3).toNatClampNeg) fun y4 => chk (inr x3 120) (lti (S.2.1 1022 (x3).toNatClampNeg) fun y5 => chk (inr x3 120) ((if (S.2.1 1020 (x3).toNatClampNeg) = 48 then chk (inr x3 120) (f_X8_answer_L12 F 1020 302 303 Z n (sa S 303 (x3).toNatClampNeg y4) (x3 + 1)) else chk (inr x3 120) ((if (S.2.1 1020 (x3).toNatClampNeg) = 107 then if y4 < 0 then chk (inr x3 120) (f_X8_answer_L12 F 1020 302 303 Z n (sa S 303 (x3).toNatClampNeg 0) (x3 + 1)) else if (7 : Int32) ≤ y4 then chk (inr x3 120) (f_X8_answer_L12 F 1020 302 303 Z n (sa S 303 (x3).toNatClampNeg 0) (x3 + 1)) else chk (inr y4 7) (chk (inr x3 120) (f_X8_answer_L12 F 1020 302 303 Z n (sa S 303 (x3).toNatClampNeg (S.2.1 302 (y4).toNatClampNeg)) (x3 + 1))) else if y4 < 0 then f_X8_answer_B122 F 1020 302 303 Z (f_X8_answer_L12 F 1020 302 303 Z n) S x3 y5 else if x3 ≤ y4 then f_X8_answer_B122 F 1020 302 303 Z (f_X8_answer_L12 F 1020 302 303 Z n) S x3 y5 else chk (inr y4 120) (f_X8_answer_B123 F 1020 302 303 Z (f_X8_answer_L12 F 1020 302 303 Z n) S x3 y5 (S.2.1 303 (y4).toNatClampNeg)))))))))
    refine k_iload_n (q := 3) C dX8_answer_12 rfl rfl ?_
    refine k_aload_n (q := 0) C dX8_answer_13 rfl rfl ?_
    refine c_get (b := 1020) (ci := 8) (kf := 5) (N := 7) (v := .int (S.1 1025)) C rfl ⟨rfl, rfl⟩ (LC_s1 hz (by decide)) rfl lay_8 kk_8_5 fl_8_27 rfl dX8_answer_14 ?_
    refine k_icmp_ge (tgt := 169) C dX8_answer_17 (by decide) (fun _ => ?_) (fun _ => ?_)
    · refine k_aload_n (q := 0) C dX8_answer_169 rfl rfl ?_
      refine k_aload_n (q := 2) C dX8_answer_170 rfl rfl ?_
      refine k_cVI C (ct_X8_firstThatCounts_1020_303 hz) my_8_firstThatCounts ml_8_38 rfl ⟨Nat.le_of_ble_eq_true rfl, Nat.le_of_ble_eq_true rfl⟩ (recvC (b := 1020) (ci := 8) rfl ⟨rfl, rfl⟩ (LC_s1 hz (by decide)) rfl rfl) rfl (Nat.le_of_ble_eq_true rfl) dX8_answer_171 ⟨Nat.le_refl _, Nat.le_refl _⟩ (fun r1 _ => ?_)
      exact k_iret C rfl ⟨rfl, rfl⟩ dX8_answer_174
    · refine k_iload_n (q := 3) C dX8_answer_20 rfl rfl ?_
      refine k_bipush (v := 120) C dX8_answer_21 rfl ?_
      refine k_icmp_ge (tgt := 169) C dX8_answer_23 (by decide) (fun _ => ?_) (fun _ => ?_)
      · refine k_aload_n (q := 0) C dX8_answer_169 rfl rfl ?_
        refine k_aload_n (q := 2) C dX8_answer_170 rfl rfl ?_
        refine k_cVI C (ct_X8_firstThatCounts_1020_303 hz) my_8_firstThatCounts ml_8_38 rfl ⟨Nat.le_of_ble_eq_true rfl, Nat.le_of_ble_eq_true rfl⟩ (recvC (b := 1020) (ci := 8) rfl ⟨rfl, rfl⟩ (LC_s1 hz (by decide)) rfl rfl) rfl (Nat.le_of_ble_eq_true rfl) dX8_answer_171 ⟨Nat.le_refl _, Nat.le_refl _⟩ (fun r2 _ => ?_)
        exact k_iret C rfl ⟨rfl, rfl⟩ dX8_answer_174
      · refine k_iload_n (q := 3) C dX8_answer_26 rfl rfl ?_
        refine k_aload_n (q := 2) C dX8_answer_27 rfl rfl ?_
        refine c_alen (i := 303) (v := 120) C rfl am_303 ak_303 rfl dX8_answer_28 ?_
        refine k_icmp_ge (tgt := 169) C dX8_answer_29 (by decide) (fun _ => ?_) (fun _ => ?_)
        · refine k_aload_n (q := 0) C dX8_answer_169 rfl rfl ?_
          refine k_aload_n (q := 2) C dX8_answer_170 rfl rfl ?_
          refine k_cVI C (ct_X8_firstThatCounts_1020_303 hz) my_8_firstThatCounts ml_8_38 rfl ⟨Nat.le_of_ble_eq_true rfl, Nat.le_of_ble_eq_true rfl⟩ (recvC (b := 1020) (ci := 8) rfl ⟨rfl, rfl⟩ (LC_s1 hz (by decide)) rfl rfl) rfl (Nat.le_of_ble_eq_true rfl) dX8_answer_171 ⟨Nat.le_refl _, Nat.le_refl _⟩ (fun r3 _ => ?_)
          exact k_iret C rfl ⟨rfl, rfl⟩ dX8_answer_174
        · refine k_aload_n (q := 0) C dX8_answer_32 rfl rfl ?_
          refine c_get (b := 1020) (ci := 8) (kf := 1) (N := 7) C rfl ⟨rfl, rfl⟩ (LC_s1 hz (by decide)) rfl lay_8 kk_8_1 fl_8_15 rfl dX8_answer_33 ?_
          refine k_iload_n (q := 3) C dX8_answer_36 rfl rfl ?_
          refine c_iald (i := 1021) (v := S.2.1 1021 (x3).toNatClampNeg) C rfl (LC_s1 hz (by decide)) ak_1021 rfl rfl dX8_answer_37 ?_
          refine k_lti fun y4 => ?_
          refine k_istore (lv' := [(4, .int y4), (0, .ref (Y 1039)), (1, .ref (ad 302)), (2, .ref (ad 303)), (3, .int x3)]) C dX8_answer_38 (Nat.le_of_ble_eq_true rfl) rfl ?_
          refine k_aload_n (q := 1) C dX8_answer_40 rfl rfl ?_
          refine c_get (b := 1020) (ci := 8) (kf := 2) (N := 7) C rfl ⟨rfl, rfl⟩ (LC_s1 hz (by decide)) rfl lay_8 kk_8_2 fl_8_18 rfl dX8_answer_41 ?_
          refine k_iload_n (q := 4) C dX8_answer_44 rfl rfl ?_
          refine c_iald (i := 1022) (v := S.2.1 1022 (x3).toNatClampNeg) C rfl (LC_s1 hz (by decide)) ak_1022 rfl rfl dX8_answer_45 ?_
          refine k_lti fun y5 => ?_
          refine k_istore (lv' := [(5, .int y5), (4, .int y4), (0, .ref (Y 1039)), (1, .ref (ad 302)), (2, .ref (ad 303)), (3, .int x3)]) C dX8_answer_46 (Nat.le_of_ble_eq_true rfl) rfl ?_
          refine k_aload_n (q := 2) C dX8_answer_48 rfl rfl ?_
          refine c_get (b := 1020) (ci := 8) (kf := 0) (N := 7) C rfl ⟨rfl, rfl⟩ (LC_s1 hz (by decide)) rfl lay_8 kk_8_0 fl_8_9 rfl dX8_answer_49 ?_
          refine k_iload_n (q := 5) C dX8_answer_52 rfl rfl ?_
          refine c_iald (i := 1020) (v := S.2.1 1020 (x3).toNatClampNeg) C rfl (LC_s1 hz (by decide)) ak_1020 rfl rfl dX8_answer_53 ?_
          refine k_bipush (v := 48) C dX8_answer_54 rfl ?_
          refine k_icmp_ne (tgt := 67) C dX8_answer_56 (by decide) (fun _ => ?_) (fun _ => ?_)
          · refine k_aload_n (q := 2) C dX8_answer_67 rfl rfl ?_
            refine c_get (b := 1020) (ci := 8) (kf := 0) (N := 7) C rfl ⟨rfl, rfl⟩ (LC_s1 hz (by decide)) rfl lay_8 kk_8_0 fl_8_9 rfl dX8_answer_68 ?_
            refine k_iload_n (q := 5) C dX8_answer_71 rfl rfl ?_
            refine c_iald (i := 1020) (v := S.2.1 1020 (x3).toNatClampNeg) C rfl (LC_s1 hz (by decide)) ak_1020 rfl rfl dX8_answer_72 ?_
            refine k_bipush (v := 107) C dX8_answer_73 rfl ?_
            refine k_icmp_ne (tgt := 104) C dX8_answer_75 (by decide) (fun _ => ?_) (fun _ => ?_)
            · refine k_iload (q := 1) C dX8_answer_104 rfl ?_
              refine k_if_lt (tgt := 122) C dX8_answer_106 (by decide) (fun _ => ?_) (fun _ => ?_)
              · refine Dk.loc [2, 3, 4, 5, 0] rfl ?_
                exact kb_X8_answer_B122_1020_302_303 C hz ih _ _ _
              · refine k_iload (q := 1) C dX8_answer_109 rfl ?_
                refine k_iload_n (q := 5) C dX8_answer_111 rfl rfl ?_
                refine k_icmp_ge (tgt := 122) C dX8_answer_112 (by decide) (fun _ => ?_) (fun _ => ?_)
                · refine Dk.loc [2, 3, 4, 5, 0] rfl ?_
                  exact kb_X8_answer_B122_1020_302_303 C hz ih _ _ _
                · refine k_aload_n (q := 4) C dX8_answer_115 rfl rfl ?_
                  refine k_iload (q := 1) C dX8_answer_116 rfl ?_
                  refine c_iald (i := 303) (v := S.2.1 303 (y4).toNatClampNeg) C rfl am_303 ak_303 rfl rfl dX8_answer_118 ?_
                  refine k_goto (tgt := 123) C dX8_answer_119 (by decide) ?_
                  refine Dk.loc [2, 3, 4, 5, 0] rfl ?_
                  exact kb_X8_answer_B123_1020_302_303 C hz ih _ _ _ _
            · refine k_aload_n (q := 4) C dX8_answer_78 rfl rfl ?_
              refine k_iload_n (q := 5) C dX8_answer_79 rfl rfl ?_
              refine k_iload (q := 1) C dX8_answer_80 rfl ?_
              refine k_if_lt (tgt := 99) C dX8_answer_82 (by decide) (fun _ => ?_) (fun _ => ?_)
              · refine k_iconst (v := 0) C dX8_answer_99 rfl ?_
                refine c_iast (i := 303) C rfl am_303 ak_303 rfl dX8_answer_100 ?_
                refine k_goto (tgt := 163) C dX8_answer_101 (by decide) ?_
                refine k_iinc (q := 5) (v := x3 + 1) (lv' := [(3, .int (x3 + 1)), (5, .int y5), (4, .int y4), (0, .ref (Y 1039)), (1, .ref (ad 302)), (2, .ref (ad 303))]) C dX8_answer_163 rfl rfl (Nat.le_of_ble_eq_true rfl) rfl ?_
                refine k_goto (tgt := 12) C dX8_answer_166 (by decide) ?_
                refine Dk.loc [3, 4, 5, 0] rfl ?_
                exact ih _ _
              · refine k_iload (q := 1) C dX8_answer_85 rfl ?_
                refine k_aload_n (q := 3) C dX8_answer_87 rfl rfl ?_
                refine c_alen (i := 302) (v := 7) C rfl am_302 ak_302 rfl dX8_answer_88 ?_
                refine k_icmp_ge (tgt := 99) C dX8_answer_89 (by decide) (fun _ => ?_) (fun _ => ?_)
                · refine k_iconst (v := 0) C dX8_answer_99 rfl ?_
                  refine c_iast (i := 303) C rfl am_303 ak_303 rfl dX8_answer_100 ?_
                  refine k_goto (tgt := 163) C dX8_answer_101 (by decide) ?_
                  refine k_iinc (q := 5) (v := x3 + 1) (lv' := [(3, .int (x3 + 1)), (5, .int y5), (4, .int y4), (0, .ref (Y 1039)), (1, .ref (ad 302)), (2, .ref (ad 303))]) C dX8_answer_163 rfl rfl (Nat.le_of_ble_eq_true rfl) rfl ?_
                  refine k_goto (tgt := 12) C dX8_answer_166 (by decide) ?_
                  refine Dk.loc [3, 4, 5, 0] rfl ?_
                  exact ih _ _
                · refine k_aload_n (q := 3) C dX8_answer_92 rfl rfl ?_
                  refine k_iload (q := 1) C dX8_answer_93 rfl ?_
                  refine c_iald (i := 302) (v := S.2.1 302 (y4).toNatClampNeg) C rfl am_302 ak_302 rfl rfl dX8_answer_95 ?_
                  refine k_goto (tgt := 100) C dX8_answer_96 (by decide) ?_
                  refine c_iast (i := 303) C rfl am_303 ak_303 rfl dX8_answer_100 ?_
                  refine k_goto (tgt := 163) C dX8_answer_101 (by decide) ?_
                  refine k_iinc (q := 5) (v := x3 + 1) (lv' := [(3, .int (x3 + 1)), (5, .int y5), (4, .int y4), (0, .ref (Y 1039)), (1, .ref (ad 302)), (2, .ref (ad 303))]) C dX8_answer_163 rfl rfl (Nat.le_of_ble_eq_true rfl) rfl ?_
                  refine k_goto (tgt := 12) C dX8_answer_166 (by decide) ?_
                  refine Dk.loc [3, 4, 5, 0] rfl ?_
                  exact ih _ _
          · refine k_aload_n (q := 4) C dX8_answer_59 rfl rfl ?_
            refine k_iload_n (q := 5) C dX8_answer_60 rfl rfl ?_
            refine k_iload (q := 1) C dX8_answer_61 rfl ?_
            refine c_iast (i := 303) C rfl am_303 ak_303 rfl dX8_answer_63 ?_
            refine k_goto (tgt := 163) C dX8_answer_64 (by decide) ?_
            refine k_iinc (q := 5) (v := x3 + 1) (lv' := [(3, .int (x3 + 1)), (5, .int y5), (4, .int y4), (0, .ref (Y 1039)), (1, .ref (ad 302)), (2, .ref (ad 303))]) C dX8_answer_163 rfl rfl (Nat.le_of_ble_eq_true rfl) rfl ?_
            refine k_goto (tgt := 12) C dX8_answer_166 (by decide) ?_
            refine Dk.loc [3, 4, 5, 0] rfl ?_
            exact ih _ _
