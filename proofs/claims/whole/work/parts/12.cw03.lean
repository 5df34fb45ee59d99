set_option maxRecDepth 20000 in
theorem kw_X7_greatestShared {X : GX} {θ : TH} {ws : va_W} {o : Nat} {F : Nat}  {a1 : Int32} {a2 : Int32} (C : CX (mE X θ (ws) 5) RX7 cX7_greatestShared (some .int) 0 0 0)  : Dk (mE X θ (ws) 5) (mT X θ (ws) 5 (PI ws)) 0 0 ws [(0, .ref o), (1, .int a1), (2, .int a2)] [] 0 (f_X7_greatestShared F a1 a2) := by
  show Dk _ _ _ _ _ _ _ _ (f_X7_greatestShared_L2 F F a1 a2 0)
  refine k_iconst (v := 0) C dX7_greatestShared_0 rfl ?_
  refine k_istore_n (lv' := [(3, .int 0), (0, .ref o), (1, .int a1), (2, .int a2)]) C dX7_greatestShared_1 rfl (Nat.le_of_ble_eq_true rfl) rfl ?_
  refine Dk.loc [2, 3, 0] rfl ?_
  exact kb_X7_greatestShared_L2 C _ _ _ _
theorem ct_X7_greatestShared {l : Launch} {θ : TH} {ws : va_W} {o : Nat} {F : Nat} {a1 : Int32} {a2 : Int32}  : ∀ r, f_X7_greatestShared F a1 a2 = some r → Ct l θ yX7_greatestShared cX7_greatestShared 5 (some .int) 0 0 0 [.ref o, .int a1, .int a2] (ws) (PI ws r) :=
  fun r hr => Ct.of (by decide +kernel) (Nat.le_of_ble_eq_true rfl) (fun X _ C _ => kw_X7_greatestShared C  r hr)
set_option maxRecDepth 20000 in
theorem kb_X7_roundOfAll_L4 {X : GX} {θ : TH} {ad Y : Nat → Nat} {F : Nat} {Z : Zt} {S : St} (C : CX (mE X θ (wdC θ ad Y Z S) 5) RX7 cX7_roundOfAll (some .int) 2 0 0)  : ∀ (n : Nat) (x1 : Int32) (x2 : Int32), Dk (mE X θ (wdC θ ad Y Z S) 5) (mT X θ (wdC θ ad Y Z S) 5 (PI (wdC θ ad Y Z S))) 0 0 (wdC θ ad Y Z S) [(0, .ref (ad 159)), (1, .int x1), (2, .int x2)] [] 4 (f_X7_roundOfAll_L4 F Z S n x1 x2) := by
  intro n
  induction n with
  | zero => intro x1 x2; exact Dk.none
  | succ n ih =>
    intro x1 x2
    show Dk _ _ _ _ _ _ _ _ (if (S.1 148) ≤ x2 then some x1 else if (3 : Int32) ≤ x2 then some x1 else (f_X7_roundOf Z S x2).bind fun r1 => (f_X7_greatestShared F x1 r1).bind fun r2 => (if r2 ≤ 0 then f_X7_roundOfAll_L4 F Z S n x1 (x2 + 1) else chk (nz r2) (f_X7_roundOfAll_L4 F Z S n ((x1 / r2) * r1) (x2 + 1))))
    refine k_iload_n (q := 2) C dX7_roundOfAll_4 rfl rfl ?_
    refine k_aload_n (q := 0) C dX7_roundOfAll_5 rfl rfl ?_
    refine c_get (b := 140) (ci := 7) (kf := 8) (N := 10) (v := .int (S.1 148)) C rfl ⟨rfl, rfl⟩ am_159 rfl lay_7 kk_7_8 fl_7_39 rfl dX7_roundOfAll_6 ?_
    refine k_icmp_ge (tgt := 53) C dX7_roundOfAll_9 (by decide) (fun _ => ?_) (fun _ => ?_)
    · refine k_iload_n (q := 1) C dX7_roundOfAll_53 rfl rfl ?_
      exact k_iret C rfl ⟨rfl, rfl⟩ dX7_roundOfAll_54
    · refine k_iload_n (q := 2) C dX7_roundOfAll_12 rfl rfl ?_
      refine k_iconst (v := 3) C dX7_roundOfAll_13 rfl ?_
      refine k_icmp_ge (tgt := 53) C dX7_roundOfAll_14 (by decide) (fun _ => ?_) (fun _ => ?_)
      · refine k_iload_n (q := 1) C dX7_roundOfAll_53 rfl rfl ?_
        exact k_iret C rfl ⟨rfl, rfl⟩ dX7_roundOfAll_54
      · refine k_aload_n (q := 0) C dX7_roundOfAll_17 rfl rfl ?_
        refine k_iload_n (q := 2) C dX7_roundOfAll_18 rfl rfl ?_
        refine k_cVI C ct_X7_roundOf my_7_roundOf ml_7_68 rfl ⟨Nat.le_of_ble_eq_true rfl, Nat.le_of_ble_eq_true rfl⟩ (recvC (b := 140) (ci := 7) rfl ⟨rfl, rfl⟩ am_159 rfl rfl) rfl (Nat.le_of_ble_eq_true rfl) dX7_roundOfAll_19 ⟨Nat.le_refl _, Nat.le_refl _⟩ (fun r1 _ => ?_)
        refine k_istore_n (lv' := [(3, .int r1), (0, .ref (ad 159)), (1, .int x1), (2, .int x2)]) C dX7_roundOfAll_22 rfl (Nat.le_of_ble_eq_true rfl) rfl ?_
        refine k_aload_n (q := 1) C dX7_roundOfAll_23 rfl rfl ?_
        refine k_iload_n (q := 2) C dX7_roundOfAll_24 rfl rfl ?_
        refine k_iload_n (q := 0) C dX7_roundOfAll_25 rfl rfl ?_
        refine k_cVI C ct_X7_greatestShared my_7_greatestShared ml_7_72 rfl ⟨Nat.le_of_ble_eq_true rfl, Nat.le_of_ble_eq_true rfl⟩ (recvC (b := 140) (ci := 7) rfl ⟨rfl, rfl⟩ am_159 rfl rfl) rfl (Nat.le_of_ble_eq_true rfl) dX7_roundOfAll_26 ⟨Nat.le_refl _, Nat.le_refl _⟩ (fun r2 _ => ?_)
        refine k_istore (lv' := [(4, .int r2), (3, .int r1), (0, .ref (ad 159)), (1, .int x1), (2, .int x2)]) C dX7_roundOfAll_29 (Nat.le_of_ble_eq_true rfl) rfl ?_
        refine k_iload (q := 0) C dX7_roundOfAll_31 rfl ?_
        refine k_if_le (tgt := 45) C dX7_roundOfAll_33 (by decide) (fun _ => ?_) (fun _ => ?_)
        · refine k_iload_n (q := 3) C dX7_roundOfAll_45 rfl rfl ?_
          refine k_istore_n (lv' := [(1, .int x1), (4, .int r2), (3, .int r1), (0, .ref (ad 159)), (2, .int x2)]) C dX7_roundOfAll_46 rfl (Nat.le_of_ble_eq_true rfl) rfl ?_
          refine k_iinc (q := 4) (v := x2 + 1) (lv' := [(2, .int (x2 + 1)), (1, .int x1), (4, .int r2), (3, .int r1), (0, .ref (ad 159))]) C dX7_roundOfAll_47 rfl rfl (Nat.le_of_ble_eq_true rfl) rfl ?_
          refine k_goto (tgt := 4) C dX7_roundOfAll_50 (by decide) ?_
          refine Dk.loc [4, 1, 0] rfl ?_
          exact ih _ _
        · refine k_iload_n (q := 3) C dX7_roundOfAll_36 rfl rfl ?_
          refine k_iload (q := 0) C dX7_roundOfAll_37 rfl ?_
          refine k_idivc C dX7_roundOfAll_39 ?_
          refine k_iload_n (q := 1) C dX7_roundOfAll_40 rfl rfl ?_
          refine k_imul C dX7_roundOfAll_41 ?_
          refine k_goto (tgt := 46) C dX7_roundOfAll_42 (by decide) ?_
          refine k_istore_n (lv' := [(1, .int ((x1 / r2) * r1)), (4, .int r2), (3, .int r1), (0, .ref (ad 159)), (2, .int x2)]) C dX7_roundOfAll_46 rfl (Nat.le_of_ble_eq_true rfl) rfl ?_
          refine k_iinc (q := 4) (v := x2 + 1) (lv' := [(2, .int (x2 + 1)), (1, .int ((x1 / r2) * r1)), (4, .int r2), (3, .int r1), (0, .ref (ad 159))]) C dX7_roundOfAll_47 rfl rfl (Nat.le_of_ble_eq_true rfl) rfl ?_
          refine k_goto (tgt := 4) C dX7_roundOfAll_50 (by decide) ?_
          refine Dk.loc [4, 1, 0] rfl ?_
          exact ih _ _
set_option maxRecDepth 20000 in
theorem kw_X7_roundOfAll {X : GX} {θ : TH} {ad Y : Nat → Nat} {F : Nat} {Z : Zt} {S : St}  (C : CX (mE X θ (wdC θ ad Y Z S) 5) RX7 cX7_roundOfAll (some .int) 2 0 0)  : Dk (mE X θ (wdC θ ad Y Z S) 5) (mT X θ (wdC θ ad Y Z S) 5 (PI (wdC θ ad Y Z S))) 0 0 (wdC θ ad Y Z S) [(0, .ref (ad 159))] [] 0 (f_X7_roundOfAll F Z S) := by
  show Dk _ _ _ _ _ _ _ _ (f_X7_roundOfAll_L4 F Z S F 1 0)
  refine k_iconst (v := 1) C dX7_roundOfAll_0 rfl ?_
  refine k_istore_n (lv' := [(1, .int 1), (0, .ref (ad 159))]) C dX7_roundOfAll_1 rfl (Nat.le_of_ble_eq_true rfl) rfl ?_
  refine k_iconst (v := 0) C dX7_roundOfAll_2 rfl ?_
  refine k_istore_n (lv' := [(2, .int 0), (1, .int 1), (0, .ref (ad 159))]) C dX7_roundOfAll_3 rfl (Nat.le_of_ble_eq_true rfl) rfl ?_
  refine Dk.loc [2, 1, 0] rfl ?_
  exact kb_X7_roundOfAll_L4 C _ _ _
theorem ct_X7_roundOfAll {l : Launch} {θ : TH} {ad Y : Nat → Nat} {S : St} {F : Nat} {Z : Zt}   : ∀ r, f_X7_roundOfAll F Z S = some r → Ct l θ yX7_roundOfAll cX7_roundOfAll 5 (some .int) 2 0 0 [.ref (ad 159)] (wdC θ ad Y Z S) (PI (wdC θ ad Y Z S) r) :=
  fun r hr => Ct.of (by decide +kernel) (Nat.le_of_ble_eq_true rfl) (fun X _ C _ => kw_X7_roundOfAll C  r hr)
set_option maxRecDepth 20000 in
theorem kb_X2_firstWith_L17 {X : GX} {θ : TH} {ad Y : Nat → Nat} {F : Nat} {Z : Zt} {S : St} {a1 : Int32} {a2 : Int32} {a3 : Int32} (C : CX (mE X θ (wdC θ ad Y Z S) 6) RX2 cX2_firstWith (some .int) 3 0 0)  : ∀ (n : Nat) (x4 : Int32) (x5 : Int32), Dk (mE X θ (wdC θ ad Y Z S) 6) (mT X θ (wdC θ ad Y Z S) 6 (PI (wdC θ ad Y Z S))) 0 0 (wdC θ ad Y Z S) [(0, .ref (ad 59)), (1, .int a1), (2, .int a2), (3, .int a3), (4, .int x4), (5, .int x5)] [] 17 (f_X2_firstWith_L17 F Z S a1 a2 a3 n x4 x5) := by
  intro n
  induction n with
  | zero => intro x4 x5; exact Dk.none
  | succ n ih =>
    intro x4 x5
    show Dk _ _ _ _ _ _ _ _ (if x4 ≤ x5 then some ((-2 : Int32)) else (f_X7_upIn F Z S a1 (a2 + x5)).bind fun r3 => (if r3 = a3 then some (a2 + x5) else f_X2_firstWith_L17 F Z S a1 a2 a3 n x4 (x5 + 1)))
    refine k_iload (q := 5) C dX2_firstWith_17 rfl ?_
    refine k_iload (q := 4) C dX2_firstWith_19 rfl ?_
    refine k_icmp_ge (tgt := 51) C dX2_firstWith_21 (by decide) (fun _ => ?_) (fun _ => ?_)
    · refine k_bipush (v := (-2)) C dX2_firstWith_51 rfl ?_
      exact k_iret C rfl ⟨rfl, rfl⟩ dX2_firstWith_53
    · refine k_aload_n (q := 0) C dX2_firstWith_24 rfl rfl ?_
      refine c_get (b := 40) (ci := 2) (kf := 0) (N := 4) C rfl ⟨rfl, rfl⟩ am_59 rfl lay_2 kk_2_0 fl_2_9 rfl dX2_firstWith_25 ?_
      refine k_iload_n (q := 1) C dX2_firstWith_28 rfl rfl ?_
      refine k_iload_n (q := 2) C dX2_firstWith_29 rfl rfl ?_
      refine k_iload (q := 5) C dX2_firstWith_30 rfl ?_
      refine k_iadd C dX2_firstWith_32 ?_
      refine k_cVI C ct_X7_upIn my_7_upIn ml_2_79 rfl ⟨Nat.le_of_ble_eq_true rfl, Nat.le_of_ble_eq_true rfl⟩ (recvC (b := 140) (ci := 7) rfl ⟨rfl, rfl⟩ am_159 rfl rfl) rfl (Nat.le_of_ble_eq_true rfl) dX2_firstWith_33 ⟨Nat.le_refl _, Nat.le_refl _⟩ (fun r3 _ => ?_)
      refine k_iload_n (q := 3) C dX2_firstWith_36 rfl rfl ?_
      refine k_icmp_ne (tgt := 45) C dX2_firstWith_37 (by decide) (fun _ => ?_) (fun _ => ?_)
      · refine k_iinc (q := 5) (v := x5 + 1) (lv' := [(5, .int (x5 + 1)), (0, .ref (ad 59)), (1, .int a1), (2, .int a2), (3, .int a3), (4, .int x4)]) C dX2_firstWith_45 rfl rfl (Nat.le_of_ble_eq_true rfl) rfl ?_
        refine k_goto (tgt := 17) C dX2_firstWith_48 (by decide) ?_
        refine Dk.loc [1, 2, 3, 4, 5, 0] rfl ?_
        exact ih _ _
      · refine k_iload_n (q := 2) C dX2_firstWith_40 rfl rfl ?_
        refine k_iload (q := 5) C dX2_firstWith_41 rfl ?_
        refine k_iadd C dX2_firstWith_43 ?_
        exact k_iret C rfl ⟨rfl, rfl⟩ dX2_firstWith_44
set_option maxRecDepth 20000 in
theorem kw_X2_firstWith {X : GX} {θ : TH} {ad Y : Nat → Nat} {F : Nat} {Z : Zt} {S : St} {a1 : Int32} {a2 : Int32} {a3 : Int32} (C : CX (mE X θ (wdC θ ad Y Z S) 6) RX2 cX2_firstWith (some .int) 3 0 0)  : Dk (mE X θ (wdC θ ad Y Z S) 6) (mT X θ (wdC θ ad Y Z S) 6 (PI (wdC θ ad Y Z S))) 0 0 (wdC θ ad Y Z S) [(0, .ref (ad 59)), (1, .int a1), (2, .int a2), (3, .int a3)] [] 0 (f_X2_firstWith F Z S a1 a2 a3) := by
  show Dk _ _ _ _ _ _ _ _ ((f_X7_roundOfAll F Z S).bind fun r1 => (f_J9_min_7cf53 100000 r1).bind fun r2 => f_X2_firstWith_L17 F Z S a1 a2 a3 F r2 0)
  refine k_ldc C co_2_75 dX2_firstWith_0 ?_
  refine k_aload_n (q := 0) C dX2_firstWith_2 rfl rfl ?_
  refine c_get (b := 40) (ci := 2) (kf := 0) (N := 4) C rfl ⟨rfl, rfl⟩ am_59 rfl lay_2 kk_2_0 fl_2_9 rfl dX2_firstWith_3 ?_
  refine k_cVI C ct_X7_roundOfAll my_7_roundOfAll ml_2_76 rfl ⟨Nat.le_of_ble_eq_true rfl, Nat.le_of_ble_eq_true rfl⟩ (recvC (b := 140) (ci := 7) rfl ⟨rfl, rfl⟩ am_159 rfl rfl) rfl (Nat.le_of_ble_eq_true rfl) dX2_firstWith_6 ⟨Nat.le_refl _, Nat.le_refl _⟩ (fun r1 _ => ?_)
  refine k_cSI C ct_J9_min_7cf53 my_J9_min_7cf53 ml_2_67 rfl ⟨Nat.le_of_ble_eq_true rfl, Nat.le_of_ble_eq_true rfl⟩ rfl (Nat.le_of_ble_eq_true rfl) dX2_firstWith_9 ⟨Nat.le_refl _, Nat.le_refl _⟩ (fun r2 _ => ?_)
  refine k_istore (lv' := [(4, .int r2), (0, .ref (ad 59)), (1, .int a1), (2, .int a2), (3, .int a3)]) C dX2_firstWith_12 (Nat.le_of_ble_eq_true rfl) rfl ?_
  refine k_iconst (v := 0) C dX2_firstWith_14 rfl ?_
  refine k_istore (lv' := [(5, .int 0), (4, .int r2), (0, .ref (ad 59)), (1, .int a1), (2, .int a2), (3, .int a3)]) C dX2_firstWith_15 (Nat.le_of_ble_eq_true rfl) rfl ?_
  refine Dk.loc [2, 3, 4, 5, 1, 0] rfl ?_
  exact kb_X2_firstWith_L17 C _ _ _
theorem ct_X2_firstWith {l : Launch} {θ : TH} {ad Y : Nat → Nat} {S : St} {F : Nat} {Z : Zt} {a1 : Int32} {a2 : Int32} {a3 : Int32}  : ∀ r, f_X2_firstWith F Z S a1 a2 a3 = some r → Ct l θ yX2_firstWith cX2_firstWith 6 (some .int) 3 0 0 [.ref (ad 59), .int a1, .int a2, .int a3] (wdC θ ad Y Z S) (PI (wdC θ ad Y Z S) r) :=
  fun r hr => Ct.of (by decide +kernel) (Nat.le_of_ble_eq_true rfl) (fun X _ C _ => kw_X2_firstWith C  r hr)
set_option maxRecDepth 20000 in
theorem kb_X2_longestRow_B51 {X : GX} {θ : TH} {ad Y : Nat → Nat} {F : Nat} {Z : Zt} {S : St} {a1 : Int32} {a2 : Int32} {a3 : Int32} {a4 : Int32} {K16 : Int32 → Int32 → Int32 → Int32 → Int32 → Option (Int32)} (C : CX (mE X θ (wdC θ ad Y Z S) 11) RX2 cX2_longestRow (some .int) 2 0 0) (hK16 : ∀ (x5 : Int32) (x6 : Int32) (x7 : Int32) (x8 : Int32) (x9 : Int32), Dk (mE X θ (wdC θ ad Y Z S) 11) (mT X θ (wdC θ ad Y Z S) 11 (PI (wdC θ ad Y Z S))) 0 0 (wdC θ ad Y Z S) [(0, .ref (ad 59)), (1, .int a1), (2, .int a2), (3, .int a3), (4, .int a4), (5, .int x5), (6, .int x6), (7, .int x7), (8, .int x8), (9, .int x9)] [] 16 (K16 x5 x6 x7 x8 x9)) (x5 : Int32) (x6 : Int32) (x9 : Int32) (x10 : Int32) (t0 : Int32) : Dk (mE X θ (wdC θ ad Y Z S) 11) (mT X θ (wdC θ ad Y Z S) 11 (PI (wdC θ ad Y Z S))) 0 0 (wdC θ ad Y Z S) [(0, .ref (ad 59)), (1, .int a1), (2, .int a2), (3, .int a3), (4, .int a4), (5, .int x5), (6, .int x6), (9, .int x9), (10, .int x10)] [.int t0] 51 (f_X2_longestRow_B51 F Z S a1 a2 a3 a4 K16 x5 x6 x9 x10 t0) := by
  show Dk _ _ _ _ _ _ _ _ (if t0 ≤ x5 then K16 x5 x6 t0 x10 (x9 + 1) else K16 t0 (((a2 + x9) - t0) + 1) t0 x10 (x9 + 1))
  refine k_istore (lv' := [(7, .int t0), (0, .ref (ad 59)), (1, .int a1), (2, .int a2), (3, .int a3), (4, .int a4), (5, .int x5), (6, .int x6), (9, .int x9), (10, .int x10)]) C dX2_longestRow_51 (Nat.le_of_ble_eq_true rfl) rfl ?_
  refine k_iload (q := 9) C dX2_longestRow_53 rfl ?_
  refine k_istore (lv' := [(8, .int x10), (7, .int t0), (0, .ref (ad 59)), (1, .int a1), (2, .int a2), (3, .int a3), (4, .int a4), (5, .int x5), (6, .int x6), (9, .int x9), (10, .int x10)]) C dX2_longestRow_55 (Nat.le_of_ble_eq_true rfl) rfl ?_
  refine k_iload (q := 1) C dX2_longestRow_57 rfl ?_
  refine k_iload (q := 7) C dX2_longestRow_59 rfl ?_
  refine k_icmp_le (tgt := 79) C dX2_longestRow_61 (by decide) (fun _ => ?_) (fun _ => ?_)
  · refine k_iinc (q := 9) (v := x9 + 1) (lv' := [(9, .int (x9 + 1)), (8, .int x10), (7, .int t0), (0, .ref (ad 59)), (1, .int a1), (2, .int a2), (3, .int a3), (4, .int a4), (5, .int x5), (6, .int x6), (10, .int x10)]) C dX2_longestRow_79 rfl rfl (Nat.le_of_ble_eq_true rfl) rfl ?_
    refine k_goto (tgt := 16) C dX2_longestRow_82 (by decide) ?_
    refine Dk.loc [3, 4, 5, 6, 7, 8, 9, 2, 1, 0] rfl ?_
    exact hK16 _ _ _ _ _
  · refine k_iload (q := 1) C dX2_longestRow_64 rfl ?_
    refine k_istore (lv' := [(5, .int t0), (8, .int x10), (7, .int t0), (0, .ref (ad 59)), (1, .int a1), (2, .int a2), (3, .int a3), (4, .int a4), (6, .int x6), (9, .int x9), (10, .int x10)]) C dX2_longestRow_66 (Nat.le_of_ble_eq_true rfl) rfl ?_
    refine k_iload_n (q := 5) C dX2_longestRow_68 rfl rfl ?_
    refine k_iload (q := 9) C dX2_longestRow_69 rfl ?_
    refine k_iadd C dX2_longestRow_71 ?_
    refine k_iload (q := 2) C dX2_longestRow_72 rfl ?_
    refine k_isub C dX2_longestRow_74 ?_
    refine k_iconst (v := 1) C dX2_longestRow_75 rfl ?_
    refine k_iadd C dX2_longestRow_76 ?_
    refine k_istore (lv' := [(6, .int (((a2 + x9) - t0) + 1)), (5, .int t0), (8, .int x10), (7, .int t0), (0, .ref (ad 59)), (1, .int a1), (2, .int a2), (3, .int a3), (4, .int a4), (9, .int x9), (10, .int x10)]) C dX2_longestRow_77 (Nat.le_of_ble_eq_true rfl) rfl ?_
    refine k_iinc (q := 9) (v := x9 + 1) (lv' := [(9, .int (x9 + 1)), (6, .int (((a2 + x9) - t0) + 1)), (5, .int t0), (8, .int x10), (7, .int t0), (0, .ref (ad 59)), (1, .int a1), (2, .int a2), (3, .int a3), (4, .int a4), (10, .int x10)]) C dX2_longestRow_79 rfl rfl (Nat.le_of_ble_eq_true rfl) rfl ?_
    refine k_goto (tgt := 16) C dX2_longestRow_82 (by decide) ?_
    refine Dk.loc [5, 6, 7, 8, 9, 2, 1, 4, 3, 0] rfl ?_
    exact hK16 _ _ _ _ _
set_option maxRecDepth 20000 in
theorem kb_X2_longestRow_L16 {X : GX} {θ : TH} {ad Y : Nat → Nat} {F : Nat} {Z : Zt} {S : St} {a1 : Int32} {a2 : Int32} {a3 : Int32} {a4 : Int32} (C : CX (mE X θ (wdC θ ad Y Z S) 11) RX2 cX2_longestRow (some .int) 2 0 0)  : ∀ (n : Nat) (x5 : Int32) (x6 : Int32) (x7 : Int32) (x8 : Int32) (x9 : Int32), Dk (mE X θ (wdC θ ad Y Z S) 11) (mT X θ (wdC θ ad Y Z S) 11 (PI (wdC θ ad Y Z S))) 0 0 (wdC θ ad Y Z S) [(0, .ref (ad 59)), (1, .int a1), (2, .int a2), (3, .int a3), (4, .int a4), (5, .int x5), (6, .int x6), (7, .int x7), (8, .int x8), (9, .int x9)] [] 16 (f_X2_longestRow_L16 F Z S a1 a2 a3 a4 n x5 x6 x7 x8 x9) := by
  intro n
  induction n with
  | zero => intro x5 x6 x7 x8 x9; exact Dk.none
  | succ n ih =>
    intro x5 x6 x7 x8 x9
    show Dk _ _ _ _ _ _ _ _ (if a3 ≤ x9 then if a4 = 0 then some x5 else some x6 else (f_X7_upIn F Z S a1 (a2 + x9)).bind fun r1 => (if r1 = x8 then f_X2_longestRow_B51 F Z S a1 a2 a3 a4 (f_X2_longestRow_L16 F Z S a1 a2 a3 a4 n) x5 x6 x9 r1 (x7 + 1) else f_X2_longestRow_B51 F Z S a1 a2 a3 a4 (f_X2_longestRow_L16 F Z S a1 a2 a3 a4 n) x5 x6 x9 r1 1))
    refine k_iload (q := 9) C dX2_longestRow_16 rfl ?_
    refine k_iload_n (q := 3) C dX2_longestRow_18 rfl rfl ?_
    refine k_icmp_ge (tgt := 85) C dX2_longestRow_19 (by decide) (fun _ => ?_) (fun _ => ?_)
    · refine k_iload (q := 4) C dX2_longestRow_85 rfl ?_
      refine k_if_ne (tgt := 95) C dX2_longestRow_87 (by decide) (fun _ => ?_) (fun _ => ?_)
      · refine k_iload (q := 6) C dX2_longestRow_95 rfl ?_
        exact k_iret C rfl ⟨rfl, rfl⟩ dX2_longestRow_97
      · refine k_iload (q := 5) C dX2_longestRow_90 rfl ?_
        refine k_goto (tgt := 97) C dX2_longestRow_92 (by decide) ?_
        exact k_iret C rfl ⟨rfl, rfl⟩ dX2_longestRow_97
    · refine k_aload_n (q := 0) C dX2_longestRow_22 rfl rfl ?_
      refine c_get (b := 40) (ci := 2) (kf := 0) (N := 4) C rfl ⟨rfl, rfl⟩ am_59 rfl lay_2 kk_2_0 fl_2_9 rfl dX2_longestRow_23 ?_
      refine k_iload_n (q := 1) C dX2_longestRow_26 rfl rfl ?_
      refine k_iload_n (q := 2) C dX2_longestRow_27 rfl rfl ?_
      refine k_iload (q := 9) C dX2_longestRow_28 rfl ?_
      refine k_iadd C dX2_longestRow_30 ?_
      refine k_cVI C ct_X7_upIn my_7_upIn ml_2_79 rfl ⟨Nat.le_of_ble_eq_true rfl, Nat.le_of_ble_eq_true rfl⟩ (recvC (b := 140) (ci := 7) rfl ⟨rfl, rfl⟩ am_159 rfl rfl) rfl (Nat.le_of_ble_eq_true rfl) dX2_longestRow_31 ⟨Nat.le_refl _, Nat.le_refl _⟩ (fun r1 _ => ?_)
      refine k_istore (lv' := [(10, .int r1), (0, .ref (ad 59)), (1, .int a1), (2, .int a2), (3, .int a3), (4, .int a4), (5, .int x5), (6, .int x6), (7, .int x7), (8, .int x8), (9, .int x9)]) C dX2_longestRow_34 (Nat.le_of_ble_eq_true rfl) rfl ?_
      refine k_iload (q := 0) C dX2_longestRow_36 rfl ?_
      refine k_iload (q := 9) C dX2_longestRow_38 rfl ?_
      refine k_icmp_ne (tgt := 50) C dX2_longestRow_40 (by decide) (fun _ => ?_) (fun _ => ?_)
      · refine k_iconst (v := 1) C dX2_longestRow_50 rfl ?_
        refine Dk.loc [1, 2, 3, 4, 5, 6, 7, 10, 0] rfl ?_
        exact kb_X2_longestRow_B51 C ih _ _ _ _ _
      · refine k_iload (q := 8) C dX2_longestRow_43 rfl ?_
        refine k_iconst (v := 1) C dX2_longestRow_45 rfl ?_
        refine k_iadd C dX2_longestRow_46 ?_
        refine k_goto (tgt := 51) C dX2_longestRow_47 (by decide) ?_
        refine Dk.loc [1, 2, 3, 4, 5, 6, 7, 10, 0] rfl ?_
        exact kb_X2_longestRow_B51 C ih _ _ _ _ _
set_option maxRecDepth 20000 in
theorem kw_X2_longestRow {X : GX} {θ : TH} {ad Y : Nat → Nat} {F : Nat} {Z : Zt} {S : St} {a1 : Int32} {a2 : Int32} {a3 : Int32} {a4 : Int32} (C : CX (mE X θ (wdC θ ad Y Z S) 11) RX2 cX2_longestRow (some .int) 2 0 0)  : Dk (mE X θ (wdC θ ad Y Z S) 11) (mT X θ (wdC θ ad Y Z S) 11 (PI (wdC θ ad Y Z S))) 0 0 (wdC θ ad Y Z S) [(0, .ref (ad 59)), (1, .int a1), (2, .int a2), (3, .int a3), (4, .int a4)] [] 0 (f_X2_longestRow F Z S a1 a2 a3 a4) := by
  show Dk _ _ _ _ _ _ _ _ (f_X2_longestRow_L16 F Z S a1 a2 a3 a4 F 0 a2 0 (-2) 0)
  refine k_iconst (v := 0) C dX2_longestRow_0 rfl ?_
  refine k_istore (lv' := [(5, .int 0), (0, .ref (ad 59)), (1, .int a1), (2, .int a2), (3, .int a3), (4, .int a4)]) C dX2_longestRow_1 (Nat.le_of_ble_eq_true rfl) rfl ?_
  refine k_iload_n (q := 3) C dX2_longestRow_3 rfl rfl ?_
  refine k_istore (lv' := [(6, .int a2), (5, .int 0), (0, .ref (ad 59)), (1, .int a1), (2, .int a2), (3, .int a3), (4, .int a4)]) C dX2_longestRow_4 (Nat.le_of_ble_eq_true rfl) rfl ?_
  refine k_iconst (v := 0) C dX2_longestRow_6 rfl ?_
  refine k_istore (lv' := [(7, .int 0), (6, .int a2), (5, .int 0), (0, .ref (ad 59)), (1, .int a1), (2, .int a2), (3, .int a3), (4, .int a4)]) C dX2_longestRow_7 (Nat.le_of_ble_eq_true rfl) rfl ?_
  refine k_bipush (v := (-2)) C dX2_longestRow_9 rfl ?_
  refine k_istore (lv' := [(8, .int (-2)), (7, .int 0), (6, .int a2), (5, .int 0), (0, .ref (ad 59)), (1, .int a1), (2, .int a2), (3, .int a3), (4, .int a4)]) C dX2_longestRow_11 (Nat.le_of_ble_eq_true rfl) rfl ?_
  refine k_iconst (v := 0) C dX2_longestRow_13 rfl ?_
  refine k_istore (lv' := [(9, .int 0), (8, .int (-2)), (7, .int 0), (6, .int a2), (5, .int 0), (0, .ref (ad 59)), (1, .int a1), (2, .int a2), (3, .int a3), (4, .int a4)]) C dX2_longestRow_14 (Nat.le_of_ble_eq_true rfl) rfl ?_
  refine Dk.loc [5, 6, 7, 8, 9, 4, 3, 2, 1, 0] rfl ?_
  exact kb_X2_longestRow_L16 C _ _ _ _ _ _
theorem ct_X2_longestRow {l : Launch} {θ : TH} {ad Y : Nat → Nat} {S : St} {F : Nat} {Z : Zt} {a1 : Int32} {a2 : Int32} {a3 : Int32} {a4 : Int32}  : ∀ r, f_X2_longestRow F Z S a1 a2 a3 a4 = some r → Ct l θ yX2_longestRow cX2_longestRow 11 (some .int) 2 0 0 [.ref (ad 59), .int a1, .int a2, .int a3, .int a4] (wdC θ ad Y Z S) (PI (wdC θ ad Y Z S) r) :=
  fun r hr => Ct.of (by decide +kernel) (Nat.le_of_ble_eq_true rfl) (fun X _ C _ => kw_X2_longestRow C  r hr)
set_option maxRecDepth 20000 in
theorem kb_X2_chanceOf_L6 {X : GX} {θ : TH} {ws : va_W} {F : Nat} {a1 : Int32} {a2 : Int32} {a3 : Int32} (C : CX (mE X θ (ws) 7) RX2 cX2_chanceOf (some .long) 0 0 0)  : ∀ (n : Nat) (x4 : Int64) (x6 : Int32), Dk (mE X θ (ws) 7) (mT X θ (ws) 7 (PL ws)) 0 0 ws [(1, .int a1), (2, .int a2), (3, .int a3), (4, .long x4), (6, .int x6)] [] 6 (f_X2_chanceOf_L6 F a1 a2 a3 n x4 x6) := by
  intro n
  induction n with
  | zero => intro x4 x6; exact Dk.none
  | succ n ih =>
    intro x4 x6
    show Dk _ _ _ _ _ _ _ _ (if (3 : Int32) ≤ x6 then some x4 else if ((a2 >>> (x6 &&& 31)) &&& 1) = 0 then f_X2_chanceOf_L6 F a1 a2 a3 n x4 (x6 + 1) else if ((a1 >>> (x6 &&& 31)) &&& 1) = 0 then f_X2_chanceOf_L6 F a1 a2 a3 n (x4 * a3.toInt64) (x6 + 1) else lti (x4 * ((100 - a3).toInt64)) fun y1 => f_X2_chanceOf_L6 F a1 a2 a3 n y1 (x6 + 1))
    refine k_iload (q := 4) C dX2_chanceOf_6 rfl ?_
    refine k_iconst (v := 3) C dX2_chanceOf_8 rfl ?_
    refine k_icmp_ge (tgt := 51) C dX2_chanceOf_9 (by decide) (fun _ => ?_) (fun _ => ?_)
    · refine k_lload (q := 3) C dX2_chanceOf_51 rfl ?_
      exact k_lret C ⟨rfl, rfl⟩ dX2_chanceOf_53
    · refine k_iload_n (q := 1) C dX2_chanceOf_12 rfl rfl ?_
      refine k_iload (q := 4) C dX2_chanceOf_13 rfl ?_
      refine k_ishr C dX2_chanceOf_15 ?_
      refine k_iconst (v := 1) C dX2_chanceOf_16 rfl ?_
      refine k_iand C dX2_chanceOf_17 ?_
      refine k_if_eq (tgt := 45) C dX2_chanceOf_18 (by decide) (fun _ => ?_) (fun _ => ?_)
      · refine k_iinc (q := 4) (v := x6 + 1) (lv' := [(6, .int (x6 + 1)), (1, .int a1), (2, .int a2), (3, .int a3), (4, .long x4)]) C dX2_chanceOf_45 rfl rfl (Nat.le_of_ble_eq_true rfl) rfl ?_
        refine k_goto (tgt := 6) C dX2_chanceOf_48 (by decide) ?_
        refine Dk.loc [1, 2, 3, 4, 0] rfl ?_
        exact ih _ _
      · refine k_lload (q := 3) C dX2_chanceOf_21 rfl ?_
        refine k_iload_n (q := 0) C dX2_chanceOf_23 rfl rfl ?_
        refine k_iload (q := 4) C dX2_chanceOf_24 rfl ?_
        refine k_ishr C dX2_chanceOf_26 ?_
        refine k_iconst (v := 1) C dX2_chanceOf_27 rfl ?_
        refine k_iand C dX2_chanceOf_28 ?_
        refine k_if_eq (tgt := 40) C dX2_chanceOf_29 (by decide) (fun _ => ?_) (fun _ => ?_)
        · refine k_iload_n (q := 2) C dX2_chanceOf_40 rfl rfl ?_
          refine k_i2l C dX2_chanceOf_41 ?_
          refine k_lmul C dX2_chanceOf_42 ?_
          refine k_lstore (lv' := [(4, .long (x4 * a3.toInt64)), (1, .int a1), (2, .int a2), (3, .int a3), (6, .int x6)]) C dX2_chanceOf_43 (Nat.le_of_ble_eq_true rfl) rfl ?_
          refine k_iinc (q := 4) (v := x6 + 1) (lv' := [(6, .int (x6 + 1)), (4, .long (x4 * a3.toInt64)), (1, .int a1), (2, .int a2), (3, .int a3)]) C dX2_chanceOf_45 rfl rfl (Nat.le_of_ble_eq_true rfl) rfl ?_
          refine k_goto (tgt := 6) C dX2_chanceOf_48 (by decide) ?_
          refine Dk.loc [2, 3, 4, 1, 0] rfl ?_
          exact ih _ _
        · refine k_bipush (v := 100) C dX2_chanceOf_32 rfl ?_
          refine k_iload_n (q := 2) C dX2_chanceOf_34 rfl rfl ?_
          refine k_isub C dX2_chanceOf_35 ?_
          refine k_i2l C dX2_chanceOf_36 ?_
          refine k_goto (tgt := 42) C dX2_chanceOf_37 (by decide) ?_
          refine k_lmul C dX2_chanceOf_42 ?_
          refine k_lti fun y1 => ?_
          refine k_lstore (lv' := [(4, .long y1), (1, .int a1), (2, .int a2), (3, .int a3), (6, .int x6)]) C dX2_chanceOf_43 (Nat.le_of_ble_eq_true rfl) rfl ?_
          refine k_iinc (q := 4) (v := x6 + 1) (lv' := [(6, .int (x6 + 1)), (4, .long y1), (1, .int a1), (2, .int a2), (3, .int a3)]) C dX2_chanceOf_45 rfl rfl (Nat.le_of_ble_eq_true rfl) rfl ?_
          refine k_goto (tgt := 6) C dX2_chanceOf_48 (by decide) ?_
          refine Dk.loc [2, 3, 4, 1, 0] rfl ?_
          exact ih _ _
set_option maxRecDepth 20000 in
theorem kw_X2_chanceOf {X : GX} {θ : TH} {ws : va_W} {o : Nat} {F : Nat}  {a1 : Int32} {a2 : Int32} {a3 : Int32} (C : CX (mE X θ (ws) 7) RX2 cX2_chanceOf (some .long) 0 0 0)  : Dk (mE X θ (ws) 7) (mT X θ (ws) 7 (PL ws)) 0 0 ws [(0, .ref o), (1, .int a1), (2, .int a2), (3, .int a3)] [] 0 (f_X2_chanceOf F a1 a2 a3) := by
  show Dk _ _ _ _ _ _ _ _ (f_X2_chanceOf_L6 F a1 a2 a3 F 1 0)
  refine k_lconst (v := 1) C dX2_chanceOf_0 rfl ?_
  refine k_lstore (lv' := [(4, .long 1), (0, .ref o), (1, .int a1), (2, .int a2), (3, .int a3)]) C dX2_chanceOf_1 (Nat.le_of_ble_eq_true rfl) rfl ?_
  refine k_iconst (v := 0) C dX2_chanceOf_3 rfl ?_
  refine k_istore (lv' := [(6, .int 0), (4, .long 1), (0, .ref o), (1, .int a1), (2, .int a2), (3, .int a3)]) C dX2_chanceOf_4 (Nat.le_of_ble_eq_true rfl) rfl ?_
  refine Dk.loc [3, 4, 5, 1, 0] rfl ?_
  exact kb_X2_chanceOf_L6 C _ _ _
theorem ct_X2_chanceOf {l : Launch} {θ : TH} {ws : va_W} {o : Nat} {F : Nat} {a1 : Int32} {a2 : Int32} {a3 : Int32}  : ∀ r, f_X2_chanceOf F a1 a2 a3 = some r → Ct l θ yX2_chanceOf cX2_chanceOf 7 (some .long) 0 0 0 [.ref o, .int a1, .int a2, .int a3] (ws) (PL ws r) :=
  fun r hr => Ct.of (by decide +kernel) (Nat.le_of_ble_eq_true rfl) (fun X _ C _ => kw_X2_chanceOf C  r hr)
set_option maxRecDepth 20000 in
theorem kb_X2_lawfulSights_L6 {X : GX} {θ : TH} {ad Y : Nat → Nat} {S0 : St} {F : Nat} {Z : Zt} {a1 : Int32} {a2 : Int32} {a3 : Int32} {a4 : Int32} (C : CX (mE X θ (wdC θ ad Y Z S0) 8) RX2 cX2_lawfulSights (some .long) 4 0 0)  : ∀ (n : Nat) (S : St) (x5 : Int64) (x7 : Int32), Dk (mE X θ (wdC θ ad Y Z S0) 8) (mT X θ (wdC θ ad Y Z S0) 8 (PLS (wdC θ ad Y Z))) 0 0 (wdC θ ad Y Z S) [(0, .ref (ad 59)), (1, .int a1), (2, .int a2), (3, .int a3), (4, .int a4), (5, .long x5), (7, .int x7)] [] 6 (f_X2_lawfulSights_L6 F Z a1 a2 a3 a4 n S x5 x7) := by
  intro n
  induction n with
  | zero => intro S x5 x7; exact Dk.none
  | succ n ih =>
    intro S x5 x7
    show Dk _ _ _ _ _ _ _ _ (if a3 < x7 then some (x5, S) else if (x7 &&& (a3 ^^^ (-1))) = 0 then (f_X4_costUnder F 80 Z S a1 a2 x7).bind fun r1 => (if r1.1 < 0 then f_X2_lawfulSights_L6 F Z a1 a2 a3 a4 n r1.2 x5 (x7 + 1) else (f_X2_chanceOf F x7 a3 a4).bind fun r2 => f_X2_lawfulSights_L6 F Z a1 a2 a3 a4 n r1.2 (x5 + r2) (x7 + 1)) else f_X2_lawfulSights_L6 F Z a1 a2 a3 a4 n S x5 (x7 + 1))
    refine k_iload (q := 6) C dX2_lawfulSights_6 rfl ?_
    refine k_iload_n (q := 3) C dX2_lawfulSights_8 rfl rfl ?_
    refine k_icmp_gt (tgt := 55) C dX2_lawfulSights_9 (by decide) (fun _ => ?_) (fun _ => ?_)
    · refine k_lload (q := 5) C dX2_lawfulSights_55 rfl ?_
      exact k_lret C ⟨rfl, rfl⟩ dX2_lawfulSights_57
    · refine k_iload (q := 6) C dX2_lawfulSights_12 rfl ?_
      refine k_iload_n (q := 3) C dX2_lawfulSights_14 rfl rfl ?_
      refine k_iconst (v := (-1)) C dX2_lawfulSights_15 rfl ?_
      refine k_ixor C dX2_lawfulSights_16 ?_
      refine k_iand C dX2_lawfulSights_17 ?_
      refine k_if_ne (tgt := 49) C dX2_lawfulSights_18 (by decide) (fun _ => ?_) (fun _ => ?_)
      · refine k_iinc (q := 6) (v := x7 + 1) (lv' := [(7, .int (x7 + 1)), (0, .ref (ad 59)), (1, .int a1), (2, .int a2), (3, .int a3), (4, .int a4), (5, .long x5)]) C dX2_lawfulSights_49 rfl rfl (Nat.le_of_ble_eq_true rfl) rfl ?_
        refine k_goto (tgt := 6) C dX2_lawfulSights_52 (by decide) ?_
        refine Dk.loc [1, 2, 3, 4, 5, 6, 0] rfl ?_
        exact ih _ _ _
      · refine k_aload_n (q := 0) C dX2_lawfulSights_21 rfl rfl ?_
        refine c_get (b := 40) (ci := 2) (kf := 2) (N := 4) C rfl ⟨rfl, rfl⟩ am_59 rfl lay_2 kk_2_2 fl_2_19 rfl dX2_lawfulSights_22 ?_
        refine k_iload_n (q := 1) C dX2_lawfulSights_25 rfl rfl ?_
        refine k_iload_n (q := 2) C dX2_lawfulSights_26 rfl rfl ?_
        refine k_iload (q := 6) C dX2_lawfulSights_27 rfl ?_
        refine k_cVI C ct_X4_costUnder_80 my_4_costUnder ml_2_96 rfl ⟨Nat.le_of_ble_eq_true rfl, Nat.le_of_ble_eq_true rfl⟩ (recvC (b := 80) (ci := 4) rfl ⟨rfl, rfl⟩ am_99 rfl rfl) rfl (Nat.le_of_ble_eq_true rfl) dX2_lawfulSights_29 ⟨Nat.le_refl _, Nat.le_refl _⟩ (fun r1 _ => ?_)
        refine k_if_lt (tgt := 49) C dX2_lawfulSights_32 (by decide) (fun _ => ?_) (fun _ => ?_)
        · refine k_iinc (q := 6) (v := x7 + 1) (lv' := [(7, .int (x7 + 1)), (0, .ref (ad 59)), (1, .int a1), (2, .int a2), (3, .int a3), (4, .int a4), (5, .long x5)]) C dX2_lawfulSights_49 rfl rfl (Nat.le_of_ble_eq_true rfl) rfl ?_
          refine k_goto (tgt := 6) C dX2_lawfulSights_52 (by decide) ?_
          refine Dk.loc [1, 2, 3, 4, 5, 6, 0] rfl ?_
          exact ih _ _ _
        · refine k_lload (q := 5) C dX2_lawfulSights_35 rfl ?_
          refine k_aload_n (q := 0) C dX2_lawfulSights_37 rfl rfl ?_
          refine k_iload (q := 6) C dX2_lawfulSights_38 rfl ?_
          refine k_iload_n (q := 3) C dX2_lawfulSights_40 rfl rfl ?_
          refine k_iload (q := 4) C dX2_lawfulSights_41 rfl ?_
          refine k_cVL C ct_X2_chanceOf my_2_chanceOf ml_2_100 rfl ⟨Nat.le_of_ble_eq_true rfl, Nat.le_of_ble_eq_true rfl⟩ (recvC (b := 40) (ci := 2) rfl ⟨rfl, rfl⟩ am_59 rfl rfl) rfl (Nat.le_of_ble_eq_true rfl) dX2_lawfulSights_43 ⟨Nat.le_refl _, Nat.le_refl _⟩ (fun r2 _ => ?_)
          refine k_ladd C dX2_lawfulSights_46 ?_
          refine k_lstore (lv' := [(5, .long (x5 + r2)), (0, .ref (ad 59)), (1, .int a1), (2, .int a2), (3, .int a3), (4, .int a4), (7, .int x7)]) C dX2_lawfulSights_47 (Nat.le_of_ble_eq_true rfl) rfl ?_
          refine k_iinc (q := 6) (v := x7 + 1) (lv' := [(7, .int (x7 + 1)), (5, .long (x5 + r2)), (0, .ref (ad 59)), (1, .int a1), (2, .int a2), (3, .int a3), (4, .int a4)]) C dX2_lawfulSights_49 rfl rfl (Nat.le_of_ble_eq_true rfl) rfl ?_
          refine k_goto (tgt := 6) C dX2_lawfulSights_52 (by decide) ?_
          refine Dk.loc [2, 3, 4, 5, 6, 1, 0] rfl ?_
          exact ih _ _ _
set_option maxRecDepth 20000 in
theorem kw_X2_lawfulSights {X : GX} {θ : TH} {ad Y : Nat → Nat} {F : Nat} {Z : Zt} {S : St} {a1 : Int32} {a2 : Int32} {a3 : Int32} {a4 : Int32} (C : CX (mE X θ (wdC θ ad Y Z S) 8) RX2 cX2_lawfulSights (some .long) 4 0 0)  : Dk (mE X θ (wdC θ ad Y Z S) 8) (mT X θ (wdC θ ad Y Z S) 8 (PLS (wdC θ ad Y Z))) 0 0 (wdC θ ad Y Z S) [(0, .ref (ad 59)), (1, .int a1), (2, .int a2), (3, .int a3), (4, .int a4)] [] 0 (f_X2_lawfulSights F Z S a1 a2 a3 a4) := by
  show Dk _ _ _ _ _ _ _ _ (f_X2_lawfulSights_L6 F Z a1 a2 a3 a4 F S 0 0)
  refine k_lconst (v := 0) C dX2_lawfulSights_0 rfl ?_
  refine k_lstore (lv' := [(5, .long 0), (0, .ref (ad 59)), (1, .int a1), (2, .int a2), (3, .int a3), (4, .int a4)]) C dX2_lawfulSights_1 (Nat.le_of_ble_eq_true rfl) rfl ?_
  refine k_iconst (v := 0) C dX2_lawfulSights_3 rfl ?_
  refine k_istore (lv' := [(7, .int 0), (5, .long 0), (0, .ref (ad 59)), (1, .int a1), (2, .int a2), (3, .int a3), (4, .int a4)]) C dX2_lawfulSights_4 (Nat.le_of_ble_eq_true rfl) rfl ?_
  refine Dk.loc [2, 3, 4, 5, 6, 1, 0] rfl ?_
  exact kb_X2_lawfulSights_L6 C _ _ _ _
theorem ct_X2_lawfulSights {l : Launch} {θ : TH} {ad Y : Nat → Nat} {S : St} {F : Nat} {Z : Zt} {a1 : Int32} {a2 : Int32} {a3 : Int32} {a4 : Int32}  : ∀ r, f_X2_lawfulSights F Z S a1 a2 a3 a4 = some r → Ct l θ yX2_lawfulSights cX2_lawfulSights 8 (some .long) 4 0 0 [.ref (ad 59), .int a1, .int a2, .int a3, .int a4] (wdC θ ad Y Z S) (PLS (wdC θ ad Y Z) r) :=
  fun r hr => Ct.of (by decide +kernel) (Nat.le_of_ble_eq_true rfl) (fun X _ C _ => kw_X2_lawfulSights C  r hr)
set_option maxRecDepth 20000 in
theorem kb_X2_oddsByClouds_L33 {X : GX} {θ : TH} {ad Y : Nat → Nat} {S0 : St} {F : Nat} {Z : Zt} {a1 : Int32} {a2 : Int32} {a3 : Int32} {K8 : St → Int64 → Int32 → Option (Int32 × St)} (C : CX (mE X θ (wdC θ ad Y Z S0) 11) RX2 cX2_oddsByClouds (some .int) 5 0 0) (hK8 : ∀ (S : St) (x4 : Int64) (x6 : Int32), Dk (mE X θ (wdC θ ad Y Z S0) 11) (mT X θ (wdC θ ad Y Z S0) 11 (PIS (wdC θ ad Y Z))) 0 0 (wdC θ ad Y Z S) [(0, .ref (ad 59)), (1, .int a1), (2, .int a2), (3, .int a3), (4, .long x4), (6, .int x6)] [] 8 (K8 S x4 x6)) : ∀ (n : Nat) (S : St) (x4 : Int64) (x6 : Int32) (x7 : Int32) (x8 : Int64) (x10 : Int32), Dk (mE X θ (wdC θ ad Y Z S0) 11) (mT X θ (wdC θ ad Y Z S0) 11 (PIS (wdC θ ad Y Z))) 0 0 (wdC θ ad Y Z S) [(0, .ref (ad 59)), (1, .int a1), (2, .int a2), (3, .int a3), (4, .long x4), (6, .int x6), (7, .int x7), (8, .long x8), (10, .int x10)] [] 33 (f_X2_oddsByClouds_L33 F Z a1 a2 a3 K8 n S x4 x6 x7 x8 x10) := by
  intro n
  induction n with
  | zero => intro S x4 x6 x7 x8 x10; exact Dk.none
  | succ n ih =>
    intro S x4 x6 x7 x8 x10
    show Dk _ _ _ _ _ _ _ _ ((f_J6_bitCount_0f7a4 x7).bind fun r2 => (if r2 ≤ x10 then (f_X2_lawfulSights F Z S x6 (a2 + x6) x7 a3).bind fun r3 => chk (nzl x8) (K8 r3.2 ((x4 * r3.1) / x8) (x6 + 1)) else f_X2_oddsByClouds_L33 F Z a1 a2 a3 K8 n S x4 x6 x7 (x8 * 100) (x10 + 1)))
    refine k_iload (q := 8) C dX2_oddsByClouds_33 rfl ?_
    refine k_iload (q := 6) C dX2_oddsByClouds_35 rfl ?_
    refine k_cSI C ct_J6_bitCount_0f7a4 my_J6_bitCount_0f7a4 ml_2_87 rfl ⟨Nat.le_of_ble_eq_true rfl, Nat.le_of_ble_eq_true rfl⟩ rfl (Nat.le_of_ble_eq_true rfl) dX2_oddsByClouds_37 ⟨Nat.le_refl _, Nat.le_refl _⟩ (fun r2 _ => ?_)
    refine k_icmp_ge (tgt := 57) C dX2_oddsByClouds_40 (by decide) (fun _ => ?_) (fun _ => ?_)
    · refine k_lload (q := 4) C dX2_oddsByClouds_57 rfl ?_
      refine k_aload_n (q := 0) C dX2_oddsByClouds_59 rfl rfl ?_
      refine k_iload (q := 5) C dX2_oddsByClouds_60 rfl ?_
      refine k_iload_n (q := 2) C dX2_oddsByClouds_62 rfl rfl ?_
      refine k_iload (q := 5) C dX2_oddsByClouds_63 rfl ?_
      refine k_iadd C dX2_oddsByClouds_65 ?_
      refine k_iload (q := 6) C dX2_oddsByClouds_66 rfl ?_
      refine k_iload_n (q := 3) C dX2_oddsByClouds_68 rfl rfl ?_
      refine k_cVL C ct_X2_lawfulSights my_2_lawfulSights ml_2_92 rfl ⟨Nat.le_of_ble_eq_true rfl, Nat.le_of_ble_eq_true rfl⟩ (recvC (b := 40) (ci := 2) rfl ⟨rfl, rfl⟩ am_59 rfl rfl) rfl (Nat.le_of_ble_eq_true rfl) dX2_oddsByClouds_69 ⟨Nat.le_refl _, Nat.le_refl _⟩ (fun r3 _ => ?_)
      refine k_lmul C dX2_oddsByClouds_72 ?_
      refine k_lload (q := 7) C dX2_oddsByClouds_73 rfl ?_
      refine k_ldivc C dX2_oddsByClouds_75 ?_
      refine k_lstore (lv' := [(4, .long ((x4 * r3.1) / x8)), (0, .ref (ad 59)), (1, .int a1), (2, .int a2), (3, .int a3), (6, .int x6), (7, .int x7), (8, .long x8), (10, .int x10)]) C dX2_oddsByClouds_76 (Nat.le_of_ble_eq_true rfl) rfl ?_
      refine k_iinc (q := 5) (v := x6 + 1) (lv' := [(6, .int (x6 + 1)), (4, .long ((x4 * r3.1) / x8)), (0, .ref (ad 59)), (1, .int a1), (2, .int a2), (3, .int a3), (7, .int x7), (8, .long x8), (10, .int x10)]) C dX2_oddsByClouds_78 rfl rfl (Nat.le_of_ble_eq_true rfl) rfl ?_
      refine k_goto (tgt := 8) C dX2_oddsByClouds_81 (by decide) ?_
      refine Dk.loc [2, 3, 4, 5, 1, 0] rfl ?_
      exact hK8 _ _ _
    · refine k_lload (q := 7) C dX2_oddsByClouds_43 rfl ?_
      refine k_ldc2 C co_2_90 dX2_oddsByClouds_45 ?_
      refine k_lmul C dX2_oddsByClouds_48 ?_
      refine k_lstore (lv' := [(8, .long (x8 * 100)), (0, .ref (ad 59)), (1, .int a1), (2, .int a2), (3, .int a3), (4, .long x4), (6, .int x6), (7, .int x7), (10, .int x10)]) C dX2_oddsByClouds_49 (Nat.le_of_ble_eq_true rfl) rfl ?_
      refine k_iinc (q := 8) (v := x10 + 1) (lv' := [(10, .int (x10 + 1)), (8, .long (x8 * 100)), (0, .ref (ad 59)), (1, .int a1), (2, .int a2), (3, .int a3), (4, .long x4), (6, .int x6), (7, .int x7)]) C dX2_oddsByClouds_51 rfl rfl (Nat.le_of_ble_eq_true rfl) rfl ?_
      refine k_goto (tgt := 33) C dX2_oddsByClouds_54 (by decide) ?_
      refine Dk.loc [2, 3, 4, 5, 6, 7, 8, 1, 0] rfl ?_
      exact ih _ _ _ _ _ _
set_option maxRecDepth 20000 in
theorem kb_X2_oddsByClouds_L8 {X : GX} {θ : TH} {ad Y : Nat → Nat} {S0 : St} {F : Nat} {Z : Zt} {a1 : Int32} {a2 : Int32} {a3 : Int32} (C : CX (mE X θ (wdC θ ad Y Z S0) 11) RX2 cX2_oddsByClouds (some .int) 5 0 0)  : ∀ (n : Nat) (S : St) (x4 : Int64) (x6 : Int32), Dk (mE X θ (wdC θ ad Y Z S0) 11) (mT X θ (wdC θ ad Y Z S0) 11 (PIS (wdC θ ad Y Z))) 0 0 (wdC θ ad Y Z S) [(0, .ref (ad 59)), (1, .int a1), (2, .int a2), (3, .int a3), (4, .long x4), (6, .int x6)] [] 8 (f_X2_oddsByClouds_L8 F Z a1 a2 a3 n S x4 x6) := by
  intro n
  induction n with
  | zero => intro S x4 x6; exact Dk.none
  | succ n ih =>
    intro S x4 x6
    show Dk _ _ _ _ _ _ _ _ (if a1 ≤ x6 then some (x4.toInt32, S) else (f_X4_upAt F 80 Z S (a2 + x6)).bind fun r1 => f_X2_oddsByClouds_L33 F Z a1 a2 a3 (f_X2_oddsByClouds_L8 F Z a1 a2 a3 n) F r1.2 x4 x6 r1.1 1 0)
    refine k_iload (q := 5) C dX2_oddsByClouds_8 rfl ?_
    refine k_iload_n (q := 1) C dX2_oddsByClouds_10 rfl rfl ?_
    refine k_icmp_ge (tgt := 84) C dX2_oddsByClouds_11 (by decide) (fun _ => ?_) (fun _ => ?_)
    · refine k_lload (q := 4) C dX2_oddsByClouds_84 rfl ?_
      refine k_l2i C dX2_oddsByClouds_86 ?_
      exact k_iret C rfl ⟨rfl, rfl⟩ dX2_oddsByClouds_87
    · refine k_aload_n (q := 0) C dX2_oddsByClouds_14 rfl rfl ?_
      refine c_get (b := 40) (ci := 2) (kf := 2) (N := 4) C rfl ⟨rfl, rfl⟩ am_59 rfl lay_2 kk_2_2 fl_2_19 rfl dX2_oddsByClouds_15 ?_
      refine k_iload_n (q := 2) C dX2_oddsByClouds_18 rfl rfl ?_
      refine k_iload (q := 5) C dX2_oddsByClouds_19 rfl ?_
      refine k_iadd C dX2_oddsByClouds_21 ?_
      refine k_cVI C ct_X4_upAt_80 my_4_upAt ml_2_84 rfl ⟨Nat.le_of_ble_eq_true rfl, Nat.le_of_ble_eq_true rfl⟩ (recvC (b := 80) (ci := 4) rfl ⟨rfl, rfl⟩ am_99 rfl rfl) rfl (Nat.le_of_ble_eq_true rfl) dX2_oddsByClouds_22 ⟨Nat.le_refl _, Nat.le_refl _⟩ (fun r1 _ => ?_)
      refine k_istore (lv' := [(7, .int r1.1), (0, .ref (ad 59)), (1, .int a1), (2, .int a2), (3, .int a3), (4, .long x4), (6, .int x6)]) C dX2_oddsByClouds_25 (Nat.le_of_ble_eq_true rfl) rfl ?_
      refine k_lconst (v := 1) C dX2_oddsByClouds_27 rfl ?_
      refine k_lstore (lv' := [(8, .long 1), (7, .int r1.1), (0, .ref (ad 59)), (1, .int a1), (2, .int a2), (3, .int a3), (4, .long x4), (6, .int x6)]) C dX2_oddsByClouds_28 (Nat.le_of_ble_eq_true rfl) rfl ?_
      refine k_iconst (v := 0) C dX2_oddsByClouds_30 rfl ?_
      refine k_istore (lv' := [(10, .int 0), (8, .long 1), (7, .int r1.1), (0, .ref (ad 59)), (1, .int a1), (2, .int a2), (3, .int a3), (4, .long x4), (6, .int x6)]) C dX2_oddsByClouds_31 (Nat.le_of_ble_eq_true rfl) rfl ?_
      refine Dk.loc [3, 4, 5, 6, 7, 8, 2, 1, 0] rfl ?_
      exact kb_X2_oddsByClouds_L33 C ih _ _ _ _ _ _ _
set_option maxRecDepth 20000 in
theorem kw_X2_oddsByClouds {X : GX} {θ : TH} {ad Y : Nat → Nat} {F : Nat} {Z : Zt} {S : St} {a1 : Int32} {a2 : Int32} {a3 : Int32} (C : CX (mE X θ (wdC θ ad Y Z S) 11) RX2 cX2_oddsByClouds (some .int) 5 0 0)  : Dk (mE X θ (wdC θ ad Y Z S) 11) (mT X θ (wdC θ ad Y Z S) 11 (PIS (wdC θ ad Y Z))) 0 0 (wdC θ ad Y Z S) [(0, .ref (ad 59)), (1, .int a1), (2, .int a2), (3, .int a3)] [] 0 (f_X2_oddsByClouds F Z S a1 a2 a3) := by
  show Dk _ _ _ _ _ _ _ _ (f_X2_oddsByClouds_L8 F Z a1 a2 a3 F S 1000000 0)
  refine k_ldc2 C co_2_82 dX2_oddsByClouds_0 ?_
  refine k_lstore (lv' := [(4, .long 1000000), (0, .ref (ad 59)), (1, .int a1), (2, .int a2), (3, .int a3)]) C dX2_oddsByClouds_3 (Nat.le_of_ble_eq_true rfl) rfl ?_
  refine k_iconst (v := 0) C dX2_oddsByClouds_5 rfl ?_
  refine k_istore (lv' := [(6, .int 0), (4, .long 1000000), (0, .ref (ad 59)), (1, .int a1), (2, .int a2), (3, .int a3)]) C dX2_oddsByClouds_6 (Nat.le_of_ble_eq_true rfl) rfl ?_
  refine Dk.loc [2, 3, 4, 5, 1, 0] rfl ?_
  exact kb_X2_oddsByClouds_L8 C _ _ _ _
theorem ct_X2_oddsByClouds {l : Launch} {θ : TH} {ad Y : Nat → Nat} {S : St} {F : Nat} {Z : Zt} {a1 : Int32} {a2 : Int32} {a3 : Int32}  : ∀ r, f_X2_oddsByClouds F Z S a1 a2 a3 = some r → Ct l θ yX2_oddsByClouds cX2_oddsByClouds 11 (some .int) 5 0 0 [.ref (ad 59), .int a1, .int a2, .int a3] (wdC θ ad Y Z S) (PIS (wdC θ ad Y Z) r) :=
  fun r hr => Ct.of (by decide +kernel) (Nat.le_of_ble_eq_true rfl) (fun X _ C _ => kw_X2_oddsByClouds C  r hr)
set_option maxRecDepth 20000 in
theorem kb_X2_lawfulHours_L15 {X : GX} {θ : TH} {ad : Nat → Nat} {Y0 : Nat → Nat} {S0 : St} {Z0 : Zt} {F : Nat} {a3 : Int32} {a4 : Int32} (C : CX (mE X θ (wdC θ ad Y0 Z0 S0) 7) RX2 cX2_lawfulHours (some .int) 5 (nd 80 Z0) (9216 * nd 80 Z0))  : ∀ (n : Nat) (S : St) (Z : Zt) (x5 : Int32) (x6 : Int32) (Y : Nat → Nat) (k1 n1 : Nat) (hb : BD1 k1 n1 Z (nd 80 Z0) (9216 * nd 80 Z0)), Dk (mE X θ (wdC θ ad Y0 Z0 S0) 7) (mTa X θ (wdC θ ad Y0 Z0 S0) 7 (nd 80 Z0) (9216 * nd 80 Z0) (PIA θ ad)) k1 n1 (wdC θ ad Y Z S) [(0, .ref (ad 59)), (3, .int a3), (4, .int a4), (5, .int x5), (6, .int x6)] [] 15 (f_X2_lawfulHours_L15 F a3 a4 n S Z x5 x6) := by
  intro n
  induction n with
  | zero => intro S Z x5 x6 Y k1 n1 hb; exact Dk.none
  | succ n ih =>
    intro S Z x5 x6 Y k1 n1 hb
    show Dk _ _ _ _ _ _ _ _ (if a4 ≤ x6 then some (x5, S, Z) else (f_X4_costBegun F 80 Z S (a3 + x6)).bind fun r5 => (if r5.1 < 0 then f_X2_lawfulHours_L15 F a3 a4 n r5.2 Z x5 (x6 + 1) else f_X2_lawfulHours_L15 F a3 a4 n r5.2 Z (x5 + 1) (x6 + 1)))
    refine k_iload (q := 4) C dX2_lawfulHours_15 rfl ?_
    refine k_iload (q := 2) C dX2_lawfulHours_17 rfl ?_
    refine k_icmp_ge (tgt := 45) C dX2_lawfulHours_19 (by decide) (fun _ => ?_) (fun _ => ?_)
    · refine k_iload (q := 3) C dX2_lawfulHours_45 rfl ?_
      exact k_iretA hb.e C ⟨rfl, _, rfl⟩ dX2_lawfulHours_47
    · refine k_aload_n (q := 0) C dX2_lawfulHours_22 rfl rfl ?_
      refine c_get (b := 40) (ci := 2) (kf := 2) (N := 4) C rfl ⟨rfl, rfl⟩ am_59 rfl lay_2 kk_2_2 fl_2_19 rfl dX2_lawfulHours_23 ?_
      refine k_iload_n (q := 1) C dX2_lawfulHours_26 rfl rfl ?_
      refine k_iload (q := 4) C dX2_lawfulHours_27 rfl ?_
      refine k_iadd C dX2_lawfulHours_29 ?_
      refine k_cVI C ct_X4_costBegun_80 my_4_costBegun ml_2_41 rfl ⟨Nat.le_of_ble_eq_true rfl, Nat.le_of_ble_eq_true rfl⟩ (recvC (b := 80) (ci := 4) rfl ⟨rfl, rfl⟩ am_99 rfl rfl) rfl (Nat.le_of_ble_eq_true rfl) dX2_lawfulHours_30 hb.e (fun r5 _ => ?_)
      refine k_if_lt (tgt := 39) C dX2_lawfulHours_33 (by decide) (fun _ => ?_) (fun _ => ?_)
      · refine k_iinc (q := 4) (v := x6 + 1) (lv' := [(6, .int (x6 + 1)), (0, .ref (ad 59)), (3, .int a3), (4, .int a4), (5, .int x5)]) C dX2_lawfulHours_39 rfl rfl (Nat.le_of_ble_eq_true rfl) rfl ?_
        refine k_goto (tgt := 15) C dX2_lawfulHours_42 (by decide) ?_
        refine Dk.loc [1, 2, 3, 4, 0] rfl ?_
        exact ih _ _ _ _ _ _ _ hb
      · refine k_iinc (q := 3) (v := x5 + 1) (lv' := [(5, .int (x5 + 1)), (0, .ref (ad 59)), (3, .int a3), (4, .int a4), (6, .int x6)]) C dX2_lawfulHours_36 rfl rfl (Nat.le_of_ble_eq_true rfl) rfl ?_
        refine k_iinc (q := 4) (v := x6 + 1) (lv' := [(6, .int (x6 + 1)), (5, .int (x5 + 1)), (0, .ref (ad 59)), (3, .int a3), (4, .int a4)]) C dX2_lawfulHours_39 rfl rfl (Nat.le_of_ble_eq_true rfl) rfl ?_
        refine k_goto (tgt := 15) C dX2_lawfulHours_42 (by decide) ?_
        refine Dk.loc [2, 3, 4, 1, 0] rfl ?_
        exact ih _ _ _ _ _ _ _ hb
set_option maxRecDepth 20000 in
theorem kw_X2_lawfulHours {X : GX} {θ : TH} {ad : Nat → Nat} {Y : Nat → Nat} {F : Nat} {S : St} {Z : Zt} {a1 : Int32} {a2 : Int32} {a3 : Int32} {a4 : Int32} (C : CX (mE X θ (wdC θ ad Y Z S) 7) RX2 cX2_lawfulHours (some .int) 5 (nd 80 Z) (9216 * nd 80 Z))  : Dk (mE X θ (wdC θ ad Y Z S) 7) (mTa X θ (wdC θ ad Y Z S) 7 (nd 80 Z) (9216 * nd 80 Z) (PIA θ ad)) 0 0 (wdC θ ad Y Z S) [(0, .ref (ad 59)), (1, .int a1), (2, .int a2), (3, .int a3), (4, .int a4)] [] 0 (f_X2_lawfulHours F S Z a1 a2 a3 a4) := by
  have hb := @BD1.z Z
  show Dk _ _ _ _ _ _ _ _ ((f_X4_open F 80 S Z a1 a2).bind fun r1 => f_X2_lawfulHours_L15 F a3 a4 F r1.1 r1.2 0 0)
  refine k_aload_n (q := 0) C dX2_lawfulHours_0 rfl rfl ?_
  refine c_get (b := 40) (ci := 2) (kf := 2) (N := 4) C rfl ⟨rfl, rfl⟩ am_59 rfl lay_2 kk_2_2 fl_2_19 rfl dX2_lawfulHours_1 ?_
  refine k_iload_n (q := 1) C dX2_lawfulHours_4 rfl rfl ?_
  refine k_iload_n (q := 2) C dX2_lawfulHours_5 rfl rfl ?_
  refine k_cAV C ct_X4_open_80 my_4_open ml_2_37 rfl ⟨Nat.le_of_ble_eq_true rfl, Nat.le_of_ble_eq_true rfl⟩ (recvC (b := 80) (ci := 4) rfl ⟨rfl, rfl⟩ am_99 rfl rfl) rfl (Nat.le_of_ble_eq_true rfl) dX2_lawfulHours_6 hb (fun r1 Y2 hr3 => ?_)
  refine k_iconst (v := 0) C dX2_lawfulHours_9 rfl ?_
  refine k_istore (lv' := [(5, .int 0), (0, .ref (ad 59)), (1, .int a1), (2, .int a2), (3, .int a3), (4, .int a4)]) C dX2_lawfulHours_10 (Nat.le_of_ble_eq_true rfl) rfl ?_
  refine k_iconst (v := 0) C dX2_lawfulHours_12 rfl ?_
  refine k_istore (lv' := [(6, .int 0), (5, .int 0), (0, .ref (ad 59)), (1, .int a1), (2, .int a2), (3, .int a3), (4, .int a4)]) C dX2_lawfulHours_13 (Nat.le_of_ble_eq_true rfl) rfl ?_
  refine Dk.loc [2, 5, 6, 1, 0] rfl ?_
  exact kb_X2_lawfulHours_L15 C _ _ _ _ _ _ _ _ (BD1.o hb (za_open1 hr3))
theorem ct_X2_lawfulHours {l : Launch} {θ : TH} {ad Y : Nat → Nat} {S : St} {Z : Zt} {F : Nat} {a1 : Int32} {a2 : Int32} {a3 : Int32} {a4 : Int32}  : ∀ r, f_X2_lawfulHours F S Z a1 a2 a3 a4 = some r → Ct l θ yX2_lawfulHours cX2_lawfulHours 7 (some .int) 5 (nd 80 Z) (9216 * nd 80 Z) [.ref (ad 59), .int a1, .int a2, .int a3, .int a4] (wdC θ ad Y Z S) (PIA θ ad r) :=
  fun r hr => Ct.of (by decide +kernel) (Nat.le_of_ble_eq_true rfl) (fun X _ C _ => kw_X2_lawfulHours C  r hr)
set_option maxRecDepth 20000 in
theorem kb_X2_deedOfYear_L9 {X : GX} {θ : TH} {ad : Nat → Nat} {Y0 : Nat → Nat} {S0 : St} {Z0 : Zt} {F : Nat} {a1 : Int32} {a2 : Int32} {a3 : Int32} (C : CX (mE X θ (wdC θ ad Y0 Z0 S0) 8) RX2 cX2_deedOfYear (some .int) 6 (nd 80 Z0) (9216 * nd 80 Z0))  : ∀ (n : Nat) (S : St) (Z : Zt) (x4 : Int32) (x5 : Int32) (x6 : Int32) (Y : Nat → Nat) (k1 n1 : Nat) (hb : BD1 k1 n1 Z (nd 80 Z0) (9216 * nd 80 Z0)), Dk (mE X θ (wdC θ ad Y0 Z0 S0) 8) (mTa X θ (wdC θ ad Y0 Z0 S0) 8 (nd 80 Z0) (9216 * nd 80 Z0) (PIA θ ad)) k1 n1 (wdC θ ad Y Z S) [(0, .ref (ad 59)), (1, .int a1), (2, .int a2), (3, .int a3), (4, .int x4), (5, .int x5), (6, .int x6)] [] 9 (f_X2_deedOfYear_L9 F a1 a2 a3 n S Z x4 x5 x6) := by
  intro n
  induction n with
  | zero => intro S Z x4 x5 x6 Y k1 n1 hb; exact Dk.none
  | succ n ih =>
    intro S Z x4 x5 x6 Y k1 n1 hb
    show Dk _ _ _ _ _ _ _ _ ((f_X1_size Z S).bind fun r1 => (if r1 ≤ x6 then some (x4, S, Z) else (f_X2_lawfulHours F S Z x6 a1 a2 a3).bind fun r2 => (if r2.1 ≤ x5 then f_X2_deedOfYear_L9 F a1 a2 a3 n r2.2.1 r2.2.2 x4 x5 (x6 + 1) else f_X2_deedOfYear_L9 F a1 a2 a3 n r2.2.1 r2.2.2 x6 r2.1 (x6 + 1))))
    refine k_iload (q := 6) C dX2_deedOfYear_9 rfl ?_
    refine k_aload_n (q := 0) C dX2_deedOfYear_11 rfl rfl ?_
    refine c_get (b := 40) (ci := 2) (kf := 1) (N := 4) C rfl ⟨rfl, rfl⟩ am_59 rfl lay_2 kk_2_1 fl_2_15 rfl dX2_deedOfYear_12 ?_
    refine k_cVI C ct_X1_size my_1_size ml_2_31 rfl ⟨Nat.le_of_ble_eq_true rfl, Nat.le_of_ble_eq_true rfl⟩ (recvC (b := 20) (ci := 1) rfl ⟨rfl, rfl⟩ am_39 rfl rfl) rfl (Nat.le_of_ble_eq_true rfl) dX2_deedOfYear_15 hb.e (fun r1 _ => ?_)
    refine k_icmp_ge (tgt := 53) C dX2_deedOfYear_18 (by decide) (fun _ => ?_) (fun _ => ?_)
    · refine k_iload (q := 4) C dX2_deedOfYear_53 rfl ?_
      exact k_iretA hb.e C ⟨rfl, _, rfl⟩ dX2_deedOfYear_55
    · refine k_aload_n (q := 0) C dX2_deedOfYear_21 rfl rfl ?_
      refine k_iload (q := 6) C dX2_deedOfYear_22 rfl ?_
      refine k_iload_n (q := 1) C dX2_deedOfYear_24 rfl rfl ?_
      refine k_iload_n (q := 2) C dX2_deedOfYear_25 rfl rfl ?_
      refine k_iload_n (q := 3) C dX2_deedOfYear_26 rfl rfl ?_
      refine k_cAI C ct_X2_lawfulHours my_2_lawfulHours ml_2_104 rfl ⟨Nat.le_of_ble_eq_true rfl, Nat.le_of_ble_eq_true rfl⟩ (recvC (b := 40) (ci := 2) rfl ⟨rfl, rfl⟩ am_59 rfl rfl) rfl (Nat.le_of_ble_eq_true rfl) dX2_deedOfYear_27 hb (fun r2 Y3 hr4 => ?_)
      refine k_istore (lv' := [(7, .int r2.1), (0, .ref (ad 59)), (1, .int a1), (2, .int a2), (3, .int a3), (4, .int x4), (5, .int x5), (6, .int x6)]) C dX2_deedOfYear_30 (Nat.le_of_ble_eq_true rfl) rfl ?_
      refine k_iload (q := 0) C dX2_deedOfYear_32 rfl ?_
      refine k_iload (q := 6) C dX2_deedOfYear_34 rfl ?_
      refine k_icmp_le (tgt := 47) C dX2_deedOfYear_36 (by decide) (fun _ => ?_) (fun _ => ?_)
      · refine k_iinc (q := 7) (v := x6 + 1) (lv' := [(6, .int (x6 + 1)), (7, .int r2.1), (0, .ref (ad 59)), (1, .int a1), (2, .int a2), (3, .int a3), (4, .int x4), (5, .int x5)]) C dX2_deedOfYear_47 rfl rfl (Nat.le_of_ble_eq_true rfl) rfl ?_
        refine k_goto (tgt := 9) C dX2_deedOfYear_50 (by decide) ?_
        refine Dk.loc [2, 3, 4, 5, 6, 7, 0] rfl ?_
        exact ih _ _ _ _ _ _ _ _ (BD1.o hb (za_lawfulHours1 hr4))
      · refine k_iload (q := 7) C dX2_deedOfYear_39 rfl ?_
        refine k_istore (lv' := [(4, .int x6), (7, .int r2.1), (0, .ref (ad 59)), (1, .int a1), (2, .int a2), (3, .int a3), (5, .int x5), (6, .int x6)]) C dX2_deedOfYear_41 (Nat.le_of_ble_eq_true rfl) rfl ?_
        refine k_iload (q := 1) C dX2_deedOfYear_43 rfl ?_
        refine k_istore (lv' := [(5, .int r2.1), (4, .int x6), (7, .int r2.1), (0, .ref (ad 59)), (1, .int a1), (2, .int a2), (3, .int a3), (6, .int x6)]) C dX2_deedOfYear_45 (Nat.le_of_ble_eq_true rfl) rfl ?_
        refine k_iinc (q := 7) (v := x6 + 1) (lv' := [(6, .int (x6 + 1)), (5, .int r2.1), (4, .int x6), (7, .int r2.1), (0, .ref (ad 59)), (1, .int a1), (2, .int a2), (3, .int a3)]) C dX2_deedOfYear_47 rfl rfl (Nat.le_of_ble_eq_true rfl) rfl ?_
        refine k_goto (tgt := 9) C dX2_deedOfYear_50 (by decide) ?_
        refine Dk.loc [4, 5, 6, 7, 2, 1, 0] rfl ?_
        exact ih _ _ _ _ _ _ _ _ (BD1.o hb (za_lawfulHours1 hr4))
set_option maxRecDepth 20000 in
theorem kw_X2_deedOfYear {X : GX} {θ : TH} {ad : Nat → Nat} {Y : Nat → Nat} {F : Nat} {S : St} {Z : Zt} {a1 : Int32} {a2 : Int32} {a3 : Int32} (C : CX (mE X θ (wdC θ ad Y Z S) 8) RX2 cX2_deedOfYear (some .int) 6 (nd 80 Z) (9216 * nd 80 Z))  : Dk (mE X θ (wdC θ ad Y Z S) 8) (mTa X θ (wdC θ ad Y Z S) 8 (nd 80 Z) (9216 * nd 80 Z) (PIA θ ad)) 0 0 (wdC θ ad Y Z S) [(0, .ref (ad 59)), (1, .int a1), (2, .int a2), (3, .int a3)] [] 0 (f_X2_deedOfYear F S Z a1 a2 a3) := by
  have hb := @BD1.z Z
  show Dk _ _ _ _ _ _ _ _ (f_X2_deedOfYear_L9 F a1 a2 a3 F S Z 0 (-1) 0)
  refine k_iconst (v := 0) C dX2_deedOfYear_0 rfl ?_
  refine k_istore (lv' := [(4, .int 0), (0, .ref (ad 59)), (1, .int a1), (2, .int a2), (3, .int a3)]) C dX2_deedOfYear_1 (Nat.le_of_ble_eq_true rfl) rfl ?_
  refine k_iconst (v := (-1)) C dX2_deedOfYear_3 rfl ?_
  refine k_istore (lv' := [(5, .int (-1)), (4, .int 0), (0, .ref (ad 59)), (1, .int a1), (2, .int a2), (3, .int a3)]) C dX2_deedOfYear_4 (Nat.le_of_ble_eq_true rfl) rfl ?_
  refine k_iconst (v := 0) C dX2_deedOfYear_6 rfl ?_
  refine k_istore (lv' := [(6, .int 0), (5, .int (-1)), (4, .int 0), (0, .ref (ad 59)), (1, .int a1), (2, .int a2), (3, .int a3)]) C dX2_deedOfYear_7 (Nat.le_of_ble_eq_true rfl) rfl ?_
  refine Dk.loc [3, 4, 5, 6, 2, 1, 0] rfl ?_
  exact kb_X2_deedOfYear_L9 C _ _ _ _ _ _ _ _ _ hb
theorem ct_X2_deedOfYear {l : Launch} {θ : TH} {ad Y : Nat → Nat} {S : St} {Z : Zt} {F : Nat} {a1 : Int32} {a2 : Int32} {a3 : Int32}  : ∀ r, f_X2_deedOfYear F S Z a1 a2 a3 = some r → Ct l θ yX2_deedOfYear cX2_deedOfYear 8 (some .int) 6 (nd 80 Z) (9216 * nd 80 Z) [.ref (ad 59), .int a1, .int a2, .int a3] (wdC θ ad Y Z S) (PIA θ ad r) :=
  fun r hr => Ct.of (by decide +kernel) (Nat.le_of_ble_eq_true rfl) (fun X _ C _ => kw_X2_deedOfYear C  r hr)
set_option maxRecDepth 20000 in
theorem kw_X3_size {X : GX} {θ : TH} {ad Y : Nat → Nat} {Z : Zt} {S : St}  (C : CX (mE X θ (wdC θ ad Y Z S) 1) RX3 cX3_size (some .int) 0 0 0)  : Dk (mE X θ (wdC θ ad Y Z S) 1) (mT X θ (wdC θ ad Y Z S) 1 (PI (wdC θ ad Y Z S))) 0 0 (wdC θ ad Y Z S) [(0, .ref (ad 79))] [] 0 (f_X3_size Z S) := by
  show Dk _ _ _ _ _ _ _ _ (some (S.1 66))
  refine k_aload_n (q := 0) C dX3_size_0 rfl rfl ?_
  refine c_get (b := 60) (ci := 3) (kf := 6) (N := 8) (v := .int (S.1 66)) C rfl ⟨rfl, rfl⟩ am_79 rfl lay_3 kk_3_6 fl_3_24 rfl dX3_size_1 ?_
  exact k_iret C rfl ⟨rfl, rfl⟩ dX3_size_4
theorem ct_X3_size {l : Launch} {θ : TH} {ad Y : Nat → Nat} {S : St} {Z : Zt}   : ∀ r, f_X3_size Z S = some r → Ct l θ yX3_size cX3_size 1 (some .int) 0 0 0 [.ref (ad 79)] (wdC θ ad Y Z S) (PI (wdC θ ad Y Z S) r) :=
  fun r hr => Ct.of (by decide +kernel) (Nat.le_of_ble_eq_true rfl) (fun X _ C _ => kw_X3_size C  r hr)
set_option maxRecDepth 20000 in
theorem kw_X3_isSo {X : GX} {θ : TH} {ad Y : Nat → Nat} {Z : Zt} {S : St} {a1 : Int32} {a2 : Int32} {a3 : Int32} (C : CX (mE X θ (wdC θ ad Y Z S) 4) RX3 cX3_isSo (some .boolean) 2 0 0)  : Dk (mE X θ (wdC θ ad Y Z S) 4) (mT X θ (wdC θ ad Y Z S) 4 (PI (wdC θ ad Y Z S))) 0 0 (wdC θ ad Y Z S) [(0, .ref (ad 79)), (1, .int a1), (2, .int a2), (3, .int a3)] [] 0 (f_X3_isSo Z S a1 a2 a3) := by
  show Dk _ _ _ _ _ _ _ _ (if a2 = 0 then (f_X7_hasMoon Z S a1).bind fun r1 => (if r1 = 0 then some ((0 : Int32)) else if a3 < 0 then some ((0 : Int32)) else (f_X7_roundOf Z S a1).bind fun r2 => (if r2 < a3 then some ((0 : Int32)) else some ((1 : Int32)))) else if a2 = 1 then (f_X7_hasMoon Z S a1).bind fun r3 => (if r3 = 0 then some ((0 : Int32)) else if a3 < 0 then some ((0 : Int32)) else (f_X7_roundOf Z S a1).bind fun r4 => (if r4 ≤ a3 then some ((0 : Int32)) else some ((1 : Int32)))) else if a2 = 2 then (f_X1_has Z S a1).bind fun r5 => (if r5 = 0 then some ((0 : Int32)) else if a3 < 1 then some ((0 : Int32)) else if (48 : Int32) < a3 then some ((0 : Int32)) else some ((1 : Int32))) else if a2 = 3 then (f_X1_has Z S a1).bind fun r6 => (if r6 = 0 then some ((0 : Int32)) else if a3 < 0 then some ((0 : Int32)) else if (3 : Int32) < a3 then some ((0 : Int32)) else some ((1 : Int32))) else some ((0 : Int32)))
  refine k_iload_n (q := 2) C dX3_isSo_0 rfl rfl ?_
  refine k_case (c := 0) (fun q1 => ?_) (fun q1 => ?_)
  · refine k_tableIn (off := 31) (tgt := 32) C dX3_isSo_1 (by rw [q1]; decide) (by rw [q1]; decide) (by rw [q1]; rfl) (by decide) ?_
    refine k_aload_n (q := 0) C dX3_isSo_32 rfl rfl ?_
    refine c_get (b := 60) (ci := 3) (kf := 0) (N := 8) C rfl ⟨rfl, rfl⟩ am_79 rfl lay_3 kk_3_0 fl_3_31 rfl dX3_isSo_33 ?_
    refine k_iload_n (q := 1) C dX3_isSo_36 rfl rfl ?_
    refine k_cVI C ct_X7_hasMoon my_7_hasMoon ml_3_39 rfl ⟨Nat.le_of_ble_eq_true rfl, Nat.le_of_ble_eq_true rfl⟩ (recvC (b := 140) (ci := 7) rfl ⟨rfl, rfl⟩ am_159 rfl rfl) rfl (Nat.le_of_ble_eq_true rfl) dX3_isSo_37 ⟨Nat.le_refl _, Nat.le_refl _⟩ (fun r1 _ => ?_)
    refine k_if_eq (tgt := 63) C dX3_isSo_40 (by decide) (fun _ => ?_) (fun _ => ?_)
    · refine k_iconst (v := 0) C dX3_isSo_63 rfl ?_
      exact k_iret C rfl ⟨rfl, rfl⟩ dX3_isSo_64
    · refine k_iload_n (q := 3) C dX3_isSo_43 rfl rfl ?_
      refine k_if_lt (tgt := 63) C dX3_isSo_44 (by decide) (fun _ => ?_) (fun _ => ?_)
      · refine k_iconst (v := 0) C dX3_isSo_63 rfl ?_
        exact k_iret C rfl ⟨rfl, rfl⟩ dX3_isSo_64
      · refine k_iload_n (q := 3) C dX3_isSo_47 rfl rfl ?_
        refine k_aload_n (q := 0) C dX3_isSo_48 rfl rfl ?_
        refine c_get (b := 60) (ci := 3) (kf := 0) (N := 8) C rfl ⟨rfl, rfl⟩ am_79 rfl lay_3 kk_3_0 fl_3_31 rfl dX3_isSo_49 ?_
        refine k_iload_n (q := 1) C dX3_isSo_52 rfl rfl ?_
        refine k_cVI C ct_X7_roundOf my_7_roundOf ml_3_45 rfl ⟨Nat.le_of_ble_eq_true rfl, Nat.le_of_ble_eq_true rfl⟩ (recvC (b := 140) (ci := 7) rfl ⟨rfl, rfl⟩ am_159 rfl rfl) rfl (Nat.le_of_ble_eq_true rfl) dX3_isSo_53 ⟨Nat.le_refl _, Nat.le_refl _⟩ (fun r2 _ => ?_)
        refine k_icmp_gt (tgt := 63) C dX3_isSo_56 (by decide) (fun _ => ?_) (fun _ => ?_)
        · refine k_iconst (v := 0) C dX3_isSo_63 rfl ?_
          exact k_iret C rfl ⟨rfl, rfl⟩ dX3_isSo_64
        · refine k_iconst (v := 1) C dX3_isSo_59 rfl ?_
          refine k_goto (tgt := 64) C dX3_isSo_60 (by decide) ?_
          exact k_iret C rfl ⟨rfl, rfl⟩ dX3_isSo_64
  refine k_case (c := 1) (fun q2 => ?_) (fun q2 => ?_)
  · refine k_tableIn (off := 64) (tgt := 65) C dX3_isSo_1 (by rw [q2]; decide) (by rw [q2]; decide) (by rw [q2]; rfl) (by decide) ?_
    refine k_aload_n (q := 0) C dX3_isSo_65 rfl rfl ?_
    refine c_get (b := 60) (ci := 3) (kf := 0) (N := 8) C rfl ⟨rfl, rfl⟩ am_79 rfl lay_3 kk_3_0 fl_3_31 rfl dX3_isSo_66 ?_
    refine k_iload_n (q := 1) C dX3_isSo_69 rfl rfl ?_
    refine k_cVI C ct_X7_hasMoon my_7_hasMoon ml_3_39 rfl ⟨Nat.le_of_ble_eq_true rfl, Nat.le_of_ble_eq_true rfl⟩ (recvC (b := 140) (ci := 7) rfl ⟨rfl, rfl⟩ am_159 rfl rfl) rfl (Nat.le_of_ble_eq_true rfl) dX3_isSo_70 ⟨Nat.le_refl _, Nat.le_refl _⟩ (fun r3 _ => ?_)
    refine k_if_eq (tgt := 96) C dX3_isSo_73 (by decide) (fun _ => ?_) (fun _ => ?_)
    · refine k_iconst (v := 0) C dX3_isSo_96 rfl ?_
      exact k_iret C rfl ⟨rfl, rfl⟩ dX3_isSo_97
    · refine k_iload_n (q := 3) C dX3_isSo_76 rfl rfl ?_
      refine k_if_lt (tgt := 96) C dX3_isSo_77 (by decide) (fun _ => ?_) (fun _ => ?_)
      · refine k_iconst (v := 0) C dX3_isSo_96 rfl ?_
        exact k_iret C rfl ⟨rfl, rfl⟩ dX3_isSo_97
      · refine k_iload_n (q := 3) C dX3_isSo_80 rfl rfl ?_
        refine k_aload_n (q := 0) C dX3_isSo_81 rfl rfl ?_
        refine c_get (b := 60) (ci := 3) (kf := 0) (N := 8) C rfl ⟨rfl, rfl⟩ am_79 rfl lay_3 kk_3_0 fl_3_31 rfl dX3_isSo_82 ?_
        refine k_iload_n (q := 1) C dX3_isSo_85 rfl rfl ?_
        refine k_cVI C ct_X7_roundOf my_7_roundOf ml_3_45 rfl ⟨Nat.le_of_ble_eq_true rfl, Nat.le_of_ble_eq_true rfl⟩ (recvC (b := 140) (ci := 7) rfl ⟨rfl, rfl⟩ am_159 rfl rfl) rfl (Nat.le_of_ble_eq_true rfl) dX3_isSo_86 ⟨Nat.le_refl _, Nat.le_refl _⟩ (fun r4 _ => ?_)
        refine k_icmp_ge (tgt := 96) C dX3_isSo_89 (by decide) (fun _ => ?_) (fun _ => ?_)
        · refine k_iconst (v := 0) C dX3_isSo_96 rfl ?_
          exact k_iret C rfl ⟨rfl, rfl⟩ dX3_isSo_97
        · refine k_iconst (v := 1) C dX3_isSo_92 rfl ?_
          refine k_goto (tgt := 97) C dX3_isSo_93 (by decide) ?_
          exact k_iret C rfl ⟨rfl, rfl⟩ dX3_isSo_97
  refine k_case (c := 2) (fun q3 => ?_) (fun q3 => ?_)
  · refine k_tableIn (off := 97) (tgt := 98) C dX3_isSo_1 (by rw [q3]; decide) (by rw [q3]; decide) (by rw [q3]; rfl) (by decide) ?_
    refine k_aload_n (q := 0) C dX3_isSo_98 rfl rfl ?_
    refine c_get (b := 60) (ci := 3) (kf := 1) (N := 8) C rfl ⟨rfl, rfl⟩ am_79 rfl lay_3 kk_3_1 fl_3_35 rfl dX3_isSo_99 ?_
    refine k_iload_n (q := 1) C dX3_isSo_102 rfl rfl ?_
    refine k_cVI C ct_X1_has my_1_has ml_3_49 rfl ⟨Nat.le_of_ble_eq_true rfl, Nat.le_of_ble_eq_true rfl⟩ (recvC (b := 20) (ci := 1) rfl ⟨rfl, rfl⟩ am_39 rfl rfl) rfl (Nat.le_of_ble_eq_true rfl) dX3_isSo_103 ⟨Nat.le_refl _, Nat.le_refl _⟩ (fun r5 _ => ?_)
    refine k_if_eq (tgt := 124) C dX3_isSo_106 (by decide) (fun _ => ?_) (fun _ => ?_)
    · refine k_iconst (v := 0) C dX3_isSo_124 rfl ?_
      exact k_iret C rfl ⟨rfl, rfl⟩ dX3_isSo_125
    · refine k_iload_n (q := 3) C dX3_isSo_109 rfl rfl ?_
      refine k_iconst (v := 1) C dX3_isSo_110 rfl ?_
      refine k_icmp_lt (tgt := 124) C dX3_isSo_111 (by decide) (fun _ => ?_) (fun _ => ?_)
      · refine k_iconst (v := 0) C dX3_isSo_124 rfl ?_
        exact k_iret C rfl ⟨rfl, rfl⟩ dX3_isSo_125
      · refine k_iload_n (q := 3) C dX3_isSo_114 rfl rfl ?_
        refine k_bipush (v := 48) C dX3_isSo_115 rfl ?_
        refine k_icmp_gt (tgt := 124) C dX3_isSo_117 (by decide) (fun _ => ?_) (fun _ => ?_)
        · refine k_iconst (v := 0) C dX3_isSo_124 rfl ?_
          exact k_iret C rfl ⟨rfl, rfl⟩ dX3_isSo_125
        · refine k_iconst (v := 1) C dX3_isSo_120 rfl ?_
          refine k_goto (tgt := 125) C dX3_isSo_121 (by decide) ?_
          exact k_iret C rfl ⟨rfl, rfl⟩ dX3_isSo_125
  refine k_case (c := 3) (fun q4 => ?_) (fun q4 => ?_)
  · refine k_tableIn (off := 125) (tgt := 126) C dX3_isSo_1 (by rw [q4]; decide) (by rw [q4]; decide) (by rw [q4]; rfl) (by decide) ?_
    refine k_aload_n (q := 0) C dX3_isSo_126 rfl rfl ?_
    refine c_get (b := 60) (ci := 3) (kf := 1) (N := 8) C rfl ⟨rfl, rfl⟩ am_79 rfl lay_3 kk_3_1 fl_3_35 rfl dX3_isSo_127 ?_
    refine k_iload_n (q := 1) C dX3_isSo_130 rfl rfl ?_
    refine k_cVI C ct_X1_has my_1_has ml_3_49 rfl ⟨Nat.le_of_ble_eq_true rfl, Nat.le_of_ble_eq_true rfl⟩ (recvC (b := 20) (ci := 1) rfl ⟨rfl, rfl⟩ am_39 rfl rfl) rfl (Nat.le_of_ble_eq_true rfl) dX3_isSo_131 ⟨Nat.le_refl _, Nat.le_refl _⟩ (fun r6 _ => ?_)
    refine k_if_eq (tgt := 150) C dX3_isSo_134 (by decide) (fun _ => ?_) (fun _ => ?_)
    · refine k_iconst (v := 0) C dX3_isSo_150 rfl ?_
      exact k_iret C rfl ⟨rfl, rfl⟩ dX3_isSo_151
    · refine k_iload_n (q := 3) C dX3_isSo_137 rfl rfl ?_
      refine k_if_lt (tgt := 150) C dX3_isSo_138 (by decide) (fun _ => ?_) (fun _ => ?_)
      · refine k_iconst (v := 0) C dX3_isSo_150 rfl ?_
        exact k_iret C rfl ⟨rfl, rfl⟩ dX3_isSo_151
      · refine k_iload_n (q := 3) C dX3_isSo_141 rfl rfl ?_
        refine k_iconst (v := 3) C dX3_isSo_142 rfl ?_
        refine k_icmp_gt (tgt := 150) C dX3_isSo_143 (by decide) (fun _ => ?_) (fun _ => ?_)
        · refine k_iconst (v := 0) C dX3_isSo_150 rfl ?_
          exact k_iret C rfl ⟨rfl, rfl⟩ dX3_isSo_151
        · refine k_iconst (v := 1) C dX3_isSo_146 rfl ?_
          refine k_goto (tgt := 151) C dX3_isSo_147 (by decide) ?_
          exact k_iret C rfl ⟨rfl, rfl⟩ dX3_isSo_151
  refine k_tableOut (tgt := 152) C dX3_isSo_1 (by have zq1 := i32ne q1 (z := 0) rfl; have zq2 := i32ne q2 (z := 1) rfl; have zq3 := i32ne q3 (z := 2) rfl; have zq4 := i32ne q4 (z := 3) rfl; omega) (by decide) ?_
  refine k_iconst (v := 0) C dX3_isSo_152 rfl ?_
  exact k_iret C rfl ⟨rfl, rfl⟩ dX3_isSo_153
theorem ct_X3_isSo {l : Launch} {θ : TH} {ad Y : Nat → Nat} {S : St} {Z : Zt} {a1 : Int32} {a2 : Int32} {a3 : Int32}  : ∀ r, f_X3_isSo Z S a1 a2 a3 = some r → Ct l θ yX3_isSo cX3_isSo 4 (some .boolean) 2 0 0 [.ref (ad 79), .int a1, .int a2, .int a3] (wdC θ ad Y Z S) (PI (wdC θ ad Y Z S) r) :=
  fun r hr => Ct.of (by decide +kernel) (Nat.le_of_ble_eq_true rfl) (fun X _ C _ => kw_X3_isSo C  r hr)
set_option maxRecDepth 20000 in
theorem kw_X7_told {X : GX} {θ : TH} {ad Y : Nat → Nat} {Z : Zt} {S : St} {a1 : Int32} {a2 : Int32} (C : CX (mE X θ (wdC θ ad Y Z S) 3) RX7 cX7_told (some .int) 1 0 0)  : Dk (mE X θ (wdC θ ad Y Z S) 3) (mT X θ (wdC θ ad Y Z S) 3 (PI (wdC θ ad Y Z S))) 0 0 (wdC θ ad Y Z S) [(0, .ref (ad 159)), (1, .int a1), (2, .int a2)] [] 0 (f_X7_told Z S a1 a2) := by
  show Dk _ _ _ _ _ _ _ _ ((f_X7_hasMoon Z S a1).bind fun r1 => (if r1 = 0 then some ((0 : Int32)) else if a2 = 0 then chk (inr a1 3) (some (S.2.1 141 (a1).toNatClampNeg)) else chk (inr a1 3) (some (S.2.1 142 (a1).toNatClampNeg))))
  refine k_aload_n (q := 0) C dX7_told_0 rfl rfl ?_
  refine k_iload_n (q := 1) C dX7_told_1 rfl rfl ?_
  refine k_cVI C ct_X7_hasMoon my_7_hasMoon ml_7_50 rfl ⟨Nat.le_of_ble_eq_true rfl, Nat.le_of_ble_eq_true rfl⟩ (recvC (b := 140) (ci := 7) rfl ⟨rfl, rfl⟩ am_159 rfl rfl) rfl (Nat.le_of_ble_eq_true rfl) dX7_told_2 ⟨Nat.le_refl _, Nat.le_refl _⟩ (fun r1 _ => ?_)
  refine k_if_ne (tgt := 10) C dX7_told_5 (by decide) (fun _ => ?_) (fun _ => ?_)
  · refine k_iload_n (q := 2) C dX7_told_10 rfl rfl ?_
    refine k_if_ne (tgt := 23) C dX7_told_11 (by decide) (fun _ => ?_) (fun _ => ?_)
    · refine k_aload_n (q := 0) C dX7_told_23 rfl rfl ?_
      refine c_get (b := 140) (ci := 7) (kf := 2) (N := 10) C rfl ⟨rfl, rfl⟩ am_159 rfl lay_7 kk_7_2 fl_7_18 rfl dX7_told_24 ?_
      refine k_iload_n (q := 1) C dX7_told_27 rfl rfl ?_
      refine c_iald (i := 142) (v := S.2.1 142 (a1).toNatClampNeg) C rfl am_142 ak_142 rfl rfl dX7_told_28 ?_
      exact k_iret C rfl ⟨rfl, rfl⟩ dX7_told_29
    · refine k_aload_n (q := 0) C dX7_told_14 rfl rfl ?_
      refine c_get (b := 140) (ci := 7) (kf := 1) (N := 10) C rfl ⟨rfl, rfl⟩ am_159 rfl lay_7 kk_7_1 fl_7_15 rfl dX7_told_15 ?_
      refine k_iload_n (q := 1) C dX7_told_18 rfl rfl ?_
      refine c_iald (i := 141) (v := S.2.1 141 (a1).toNatClampNeg) C rfl am_141 ak_141 rfl rfl dX7_told_19 ?_
      refine k_goto (tgt := 29) C dX7_told_20 (by decide) ?_
      exact k_iret C rfl ⟨rfl, rfl⟩ dX7_told_29
  · refine k_iconst (v := 0) C dX7_told_8 rfl ?_
    exact k_iret C rfl ⟨rfl, rfl⟩ dX7_told_9
theorem ct_X7_told {l : Launch} {θ : TH} {ad Y : Nat → Nat} {S : St} {Z : Zt} {a1 : Int32} {a2 : Int32}  : ∀ r, f_X7_told Z S a1 a2 = some r → Ct l θ yX7_told cX7_told 3 (some .int) 1 0 0 [.ref (ad 159), .int a1, .int a2] (wdC θ ad Y Z S) (PI (wdC θ ad Y Z S) r) :=
  fun r hr => Ct.of (by decide +kernel) (Nat.le_of_ble_eq_true rfl) (fun X _ C _ => kw_X7_told C  r hr)
set_option maxRecDepth 20000 in
theorem kw_X3_told {X : GX} {θ : TH} {ad Y : Nat → Nat} {Z : Zt} {S : St} {a1 : Int32} {a2 : Int32} (C : CX (mE X θ (wdC θ ad Y Z S) 3) RX3 cX3_told (some .int) 3 0 0)  : Dk (mE X θ (wdC θ ad Y Z S) 3) (mT X θ (wdC θ ad Y Z S) 3 (PI (wdC θ ad Y Z S))) 0 0 (wdC θ ad Y Z S) [(0, .ref (ad 79)), (1, .int a1), (2, .int a2)] [] 0 (f_X3_told Z S a1 a2) := by
  show Dk _ _ _ _ _ _ _ _ (if a2 = 2 then (f_X1_hoursOf Z S a1).bind fun r1 => some r1 else if a2 = 3 then (f_X1_told Z S a1 3).bind fun r2 => some r2 else (f_X7_told Z S a1 a2).bind fun r3 => some r3)
  refine k_iload_n (q := 2) C dX3_told_0 rfl rfl ?_
  refine k_case (c := 2) (fun q1 => ?_) (fun q1 => ?_)
  · refine k_lookup (off := 27) (tgt := 28) C dX3_told_1 (by decide) (by rw [q1]; rfl) (by decide) ?_
    refine k_aload_n (q := 0) C dX3_told_28 rfl rfl ?_
    refine c_get (b := 60) (ci := 3) (kf := 1) (N := 8) C rfl ⟨rfl, rfl⟩ am_79 rfl lay_3 kk_3_1 fl_3_35 rfl dX3_told_29 ?_
    refine k_iload_n (q := 1) C dX3_told_32 rfl rfl ?_
    refine k_cVI C ct_X1_hoursOf my_1_hoursOf ml_3_66 rfl ⟨Nat.le_of_ble_eq_true rfl, Nat.le_of_ble_eq_true rfl⟩ (recvC (b := 20) (ci := 1) rfl ⟨rfl, rfl⟩ am_39 rfl rfl) rfl (Nat.le_of_ble_eq_true rfl) dX3_told_33 ⟨Nat.le_refl _, Nat.le_refl _⟩ (fun r1 _ => ?_)
    exact k_iret C rfl ⟨rfl, rfl⟩ dX3_told_36
  refine k_case (c := 3) (fun q2 => ?_) (fun q2 => ?_)
  · refine k_lookup (off := 36) (tgt := 37) C dX3_told_1 (by decide) (by rw [q2]; rfl) (by decide) ?_
    refine k_aload_n (q := 0) C dX3_told_37 rfl rfl ?_
    refine c_get (b := 60) (ci := 3) (kf := 1) (N := 8) C rfl ⟨rfl, rfl⟩ am_79 rfl lay_3 kk_3_1 fl_3_35 rfl dX3_told_38 ?_
    refine k_iload_n (q := 1) C dX3_told_41 rfl rfl ?_
    refine k_iconst (v := 3) C dX3_told_42 rfl ?_
    refine k_cVI C ct_X1_told my_1_told ml_3_69 rfl ⟨Nat.le_of_ble_eq_true rfl, Nat.le_of_ble_eq_true rfl⟩ (recvC (b := 20) (ci := 1) rfl ⟨rfl, rfl⟩ am_39 rfl rfl) rfl (Nat.le_of_ble_eq_true rfl) dX3_told_43 ⟨Nat.le_refl _, Nat.le_refl _⟩ (fun r2 _ => ?_)
    exact k_iret C rfl ⟨rfl, rfl⟩ dX3_told_46
  refine k_lookup (off := 46) (tgt := 47) C dX3_told_1 (by decide) (by have zq1 := i32ne q1 (z := 2) rfl; have zq2 := i32ne q2 (z := 3) rfl; simp [Op.lookupswitch.offset, Ne.symm zq1, Ne.symm zq2]) (by decide) ?_
  refine k_aload_n (q := 0) C dX3_told_47 rfl rfl ?_
  refine c_get (b := 60) (ci := 3) (kf := 0) (N := 8) C rfl ⟨rfl, rfl⟩ am_79 rfl lay_3 kk_3_0 fl_3_31 rfl dX3_told_48 ?_
  refine k_iload_n (q := 1) C dX3_told_51 rfl rfl ?_
  refine k_iload_n (q := 2) C dX3_told_52 rfl rfl ?_
  refine k_cVI C ct_X7_told my_7_told ml_3_70 rfl ⟨Nat.le_of_ble_eq_true rfl, Nat.le_of_ble_eq_true rfl⟩ (recvC (b := 140) (ci := 7) rfl ⟨rfl, rfl⟩ am_159 rfl rfl) rfl (Nat.le_of_ble_eq_true rfl) dX3_told_53 ⟨Nat.le_refl _, Nat.le_refl _⟩ (fun r3 _ => ?_)
  exact k_iret C rfl ⟨rfl, rfl⟩ dX3_told_56
theorem ct_X3_told {l : Launch} {θ : TH} {ad Y : Nat → Nat} {S : St} {Z : Zt} {a1 : Int32} {a2 : Int32}  : ∀ r, f_X3_told Z S a1 a2 = some r → Ct l θ yX3_told cX3_told 3 (some .int) 3 0 0 [.ref (ad 79), .int a1, .int a2] (wdC θ ad Y Z S) (PI (wdC θ ad Y Z S) r) :=
  fun r hr => Ct.of (by decide +kernel) (Nat.le_of_ble_eq_true rfl) (fun X _ C _ => kw_X3_told C  r hr)
set_option maxRecDepth 20000 in
theorem kw_X7_tell {X : GX} {θ : TH} {ad Y : Nat → Nat} {Z : Zt} {S : St} {a1 : Int32} {a2 : Int32} {a3 : Int32} (C : CX (mE X θ (wdC θ ad Y Z S) 5) RX7 cX7_tell none 1 0 0)  : Dk (mE X θ (wdC θ ad Y Z S) 5) (mT X θ (wdC θ ad Y Z S) 5 (PVS (wdC θ ad Y Z))) 0 0 (wdC θ ad Y Z S) [(0, .ref (ad 159)), (1, .int a1), (2, .int a2), (3, .int a3)] [] 0 (f_X7_tell Z S a1 a2 a3) := by
  show Dk _ _ _ _ _ _ _ _ ((f_X7_hasMoon Z S a1).bind fun r1 => (if r1 = 0 then some S else if a2 = 0 then chk (inr a1 3) (some (sa S 141 (a1).toNatClampNeg a3)) else chk (inr a1 3) (some (sa S 142 (a1).toNatClampNeg a3))))
  refine k_aload_n (q := 0) C dX7_tell_0 rfl rfl ?_
  refine k_iload_n (q := 1) C dX7_tell_1 rfl rfl ?_
  refine k_cVI C ct_X7_hasMoon my_7_hasMoon ml_7_50 rfl ⟨Nat.le_of_ble_eq_true rfl, Nat.le_of_ble_eq_true rfl⟩ (recvC (b := 140) (ci := 7) rfl ⟨rfl, rfl⟩ am_159 rfl rfl) rfl (Nat.le_of_ble_eq_true rfl) dX7_tell_2 ⟨Nat.le_refl _, Nat.le_refl _⟩ (fun r1 _ => ?_)
  refine k_if_eq (tgt := 30) C dX7_tell_5 (by decide) (fun _ => ?_) (fun _ => ?_)
  · exact k_vret C ⟨rfl, rfl⟩ dX7_tell_30
  · refine k_iload_n (q := 2) C dX7_tell_8 rfl rfl ?_
    refine k_if_ne (tgt := 19) C dX7_tell_9 (by decide) (fun _ => ?_) (fun _ => ?_)
    · refine k_aload_n (q := 0) C dX7_tell_19 rfl rfl ?_
      refine c_get (b := 140) (ci := 7) (kf := 2) (N := 10) C rfl ⟨rfl, rfl⟩ am_159 rfl lay_7 kk_7_2 fl_7_18 rfl dX7_tell_20 ?_
      refine k_astore (lv' := [(4, .ref (ad 142)), (0, .ref (ad 159)), (1, .int a1), (2, .int a2), (3, .int a3)]) C dX7_tell_23 (Nat.le_of_ble_eq_true rfl) rfl ?_
      refine k_aload (q := 0) C dX7_tell_25 rfl ?_
      refine k_iload_n (q := 2) C dX7_tell_27 rfl rfl ?_
      refine k_iload_n (q := 4) C dX7_tell_28 rfl rfl ?_
      refine c_iast (i := 142) C rfl am_142 ak_142 rfl dX7_tell_29 ?_
      exact k_vret C ⟨rfl, rfl⟩ dX7_tell_30
    · refine k_aload_n (q := 0) C dX7_tell_12 rfl rfl ?_
      refine c_get (b := 140) (ci := 7) (kf := 1) (N := 10) C rfl ⟨rfl, rfl⟩ am_159 rfl lay_7 kk_7_1 fl_7_15 rfl dX7_tell_13 ?_
      refine k_goto (tgt := 23) C dX7_tell_16 (by decide) ?_
      refine k_astore (lv' := [(4, .ref (ad 141)), (0, .ref (ad 159)), (1, .int a1), (2, .int a2), (3, .int a3)]) C dX7_tell_23 (Nat.le_of_ble_eq_true rfl) rfl ?_
      refine k_aload (q := 0) C dX7_tell_25 rfl ?_
      refine k_iload_n (q := 2) C dX7_tell_27 rfl rfl ?_
      refine k_iload_n (q := 4) C dX7_tell_28 rfl rfl ?_
      refine c_iast (i := 141) C rfl am_141 ak_141 rfl dX7_tell_29 ?_
      exact k_vret C ⟨rfl, rfl⟩ dX7_tell_30
theorem ct_X7_tell {l : Launch} {θ : TH} {ad Y : Nat → Nat} {S : St} {Z : Zt} {a1 : Int32} {a2 : Int32} {a3 : Int32}  : ∀ r, f_X7_tell Z S a1 a2 a3 = some r → Ct l θ yX7_tell cX7_tell 5 none 1 0 0 [.ref (ad 159), .int a1, .int a2, .int a3] (wdC θ ad Y Z S) (PVS (wdC θ ad Y Z) r) :=
  fun r hr => Ct.of (by decide +kernel) (Nat.le_of_ble_eq_true rfl) (fun X _ C _ => kw_X7_tell C  r hr)
set_option maxRecDepth 20000 in
theorem kw_X3_set {X : GX} {θ : TH} {ad Y : Nat → Nat} {Z : Zt} {S : St} {a1 : Int32} {a2 : Int32} {a3 : Int32} (C : CX (mE X θ (wdC θ ad Y Z S) 4) RX3 cX3_set none 2 0 0)  : Dk (mE X θ (wdC θ ad Y Z S) 4) (mT X θ (wdC θ ad Y Z S) 4 (PVS (wdC θ ad Y Z))) 0 0 (wdC θ ad Y Z S) [(0, .ref (ad 79)), (1, .int a1), (2, .int a2), (3, .int a3)] [] 0 (f_X3_set Z S a1 a2 a3) := by
  show Dk _ _ _ _ _ _ _ _ (if a2 = 2 then (f_X1_setHours Z S a1 a3).bind fun r1 => some r1 else if a2 = 3 then (f_X1_setOver Z S a1 a3).bind fun r2 => some r2 else (f_X7_tell Z S a1 a2 a3).bind fun r3 => some r3)
  refine k_iload_n (q := 2) C dX3_set_0 rfl rfl ?_
  refine k_case (c := 2) (fun q1 => ?_) (fun q1 => ?_)
  · refine k_lookup (off := 27) (tgt := 28) C dX3_set_1 (by decide) (by rw [q1]; rfl) (by decide) ?_
    refine k_aload_n (q := 0) C dX3_set_28 rfl rfl ?_
    refine c_get (b := 60) (ci := 3) (kf := 1) (N := 8) C rfl ⟨rfl, rfl⟩ am_79 rfl lay_3 kk_3_1 fl_3_35 rfl dX3_set_29 ?_
    refine k_iload_n (q := 1) C dX3_set_32 rfl rfl ?_
    refine k_iload_n (q := 3) C dX3_set_33 rfl rfl ?_
    refine k_cVV C ct_X1_setHours my_1_setHours ml_3_71 rfl ⟨Nat.le_of_ble_eq_true rfl, Nat.le_of_ble_eq_true rfl⟩ (recvC (b := 20) (ci := 1) rfl ⟨rfl, rfl⟩ am_39 rfl rfl) rfl (Nat.le_of_ble_eq_true rfl) dX3_set_34 ⟨Nat.le_refl _, Nat.le_refl _⟩ (fun r1 _ => ?_)
    refine k_goto (tgt := 62) C dX3_set_37 (by decide) ?_
    exact k_vret C ⟨rfl, rfl⟩ dX3_set_62
  refine k_case (c := 3) (fun q2 => ?_) (fun q2 => ?_)
  · refine k_lookup (off := 39) (tgt := 40) C dX3_set_1 (by decide) (by rw [q2]; rfl) (by decide) ?_
    refine k_aload_n (q := 0) C dX3_set_40 rfl rfl ?_
    refine c_get (b := 60) (ci := 3) (kf := 1) (N := 8) C rfl ⟨rfl, rfl⟩ am_79 rfl lay_3 kk_3_1 fl_3_35 rfl dX3_set_41 ?_
    refine k_iload_n (q := 1) C dX3_set_44 rfl rfl ?_
    refine k_iload_n (q := 3) C dX3_set_45 rfl rfl ?_
    refine k_cVV C ct_X1_setOver my_1_setOver ml_3_75 rfl ⟨Nat.le_of_ble_eq_true rfl, Nat.le_of_ble_eq_true rfl⟩ (recvC (b := 20) (ci := 1) rfl ⟨rfl, rfl⟩ am_39 rfl rfl) rfl (Nat.le_of_ble_eq_true rfl) dX3_set_46 ⟨Nat.le_refl _, Nat.le_refl _⟩ (fun r2 _ => ?_)
    refine k_goto (tgt := 62) C dX3_set_49 (by decide) ?_
    exact k_vret C ⟨rfl, rfl⟩ dX3_set_62
  refine k_lookup (off := 51) (tgt := 52) C dX3_set_1 (by decide) (by have zq1 := i32ne q1 (z := 2) rfl; have zq2 := i32ne q2 (z := 3) rfl; simp [Op.lookupswitch.offset, Ne.symm zq1, Ne.symm zq2]) (by decide) ?_
  refine k_aload_n (q := 0) C dX3_set_52 rfl rfl ?_
  refine c_get (b := 60) (ci := 3) (kf := 0) (N := 8) C rfl ⟨rfl, rfl⟩ am_79 rfl lay_3 kk_3_0 fl_3_31 rfl dX3_set_53 ?_
  refine k_iload_n (q := 1) C dX3_set_56 rfl rfl ?_
  refine k_iload_n (q := 2) C dX3_set_57 rfl rfl ?_
  refine k_iload_n (q := 3) C dX3_set_58 rfl rfl ?_
  refine k_cVV C ct_X7_tell my_7_tell ml_3_78 rfl ⟨Nat.le_of_ble_eq_true rfl, Nat.le_of_ble_eq_true rfl⟩ (recvC (b := 140) (ci := 7) rfl ⟨rfl, rfl⟩ am_159 rfl rfl) rfl (Nat.le_of_ble_eq_true rfl) dX3_set_59 ⟨Nat.le_refl _, Nat.le_refl _⟩ (fun r3 _ => ?_)
  exact k_vret C ⟨rfl, rfl⟩ dX3_set_62
theorem ct_X3_set {l : Launch} {θ : TH} {ad Y : Nat → Nat} {S : St} {Z : Zt} {a1 : Int32} {a2 : Int32} {a3 : Int32}  : ∀ r, f_X3_set Z S a1 a2 a3 = some r → Ct l θ yX3_set cX3_set 4 none 2 0 0 [.ref (ad 79), .int a1, .int a2, .int a3] (wdC θ ad Y Z S) (PVS (wdC θ ad Y Z) r) :=
  fun r hr => Ct.of (by decide +kernel) (Nat.le_of_ble_eq_true rfl) (fun X _ C _ => kw_X3_set C  r hr)
set_option maxRecDepth 20000 in
theorem kb_X3_dropFirst_L2_62 {X : GX} {θ : TH} {ad Y : Nat → Nat} {S0 : St} {F : Nat} {Z : Zt} (C : CX (mE X θ (wdC θ ad Y Z S0) 3) RX3 cX3_dropFirst none 0 0 0)  : ∀ (n : Nat) (S : St) (x2 : Int32), Dk (mE X θ (wdC θ ad Y Z S0) 3) (mT X θ (wdC θ ad Y Z S0) 3 (PVS (wdC θ ad Y Z))) 0 0 (wdC θ ad Y Z S) [(1, .ref (ad 62)), (2, .int x2)] [] 2 (f_X3_dropFirst_L2 F 62 Z n S x2) := by
  intro n
  induction n with
  | zero => intro S x2; exact Dk.none
  | succ n ih =>
    intro S x2
    show Dk _ _ _ _ _ _ _ _ (if (40 : Int32) ≤ x2 then some S else chk (inr x2 40) (chk (inr (x2 - 1) 40) (f_X3_dropFirst_L2 F 62 Z n (sa S 62 (x2 - 1).toNatClampNeg (S.2.1 62 (x2).toNatClampNeg)) (x2 + 1))))
    refine k_iload_n (q := 1) C dX3_dropFirst_2 rfl rfl ?_
    refine k_aload_n (q := 0) C dX3_dropFirst_3 rfl rfl ?_
    refine c_alen (i := 62) (v := 40) C rfl am_62 ak_62 rfl dX3_dropFirst_4 ?_
    refine k_icmp_ge (tgt := 22) C dX3_dropFirst_5 (by decide) (fun _ => ?_) (fun _ => ?_)
    · exact k_vret C ⟨rfl, rfl⟩ dX3_dropFirst_22
    · refine k_aload_n (q := 0) C dX3_dropFirst_8 rfl rfl ?_
      refine k_iload_n (q := 1) C dX3_dropFirst_9 rfl rfl ?_
      refine k_iconst (v := 1) C dX3_dropFirst_10 rfl ?_
      refine k_isub C dX3_dropFirst_11 ?_
      refine k_aload_n (q := 0) C dX3_dropFirst_12 rfl rfl ?_
      refine k_iload_n (q := 1) C dX3_dropFirst_13 rfl rfl ?_
      refine c_iald (i := 62) (v := S.2.1 62 (x2).toNatClampNeg) C rfl am_62 ak_62 rfl rfl dX3_dropFirst_14 ?_
      refine c_iast (i := 62) C rfl am_62 ak_62 rfl dX3_dropFirst_15 ?_
      refine k_iinc (q := 1) (v := x2 + 1) (lv' := [(2, .int (x2 + 1)), (1, .ref (ad 62))]) C dX3_dropFirst_16 rfl rfl (Nat.le_of_ble_eq_true rfl) rfl ?_
      refine k_goto (tgt := 2) C dX3_dropFirst_19 (by decide) ?_
      refine Dk.loc [1, 0] rfl ?_
      exact ih _ _
set_option maxRecDepth 20000 in
theorem kw_X3_dropFirst_62 {X : GX} {θ : TH} {ad Y : Nat → Nat} {F : Nat} {Z : Zt} {S : St}  (C : CX (mE X θ (wdC θ ad Y Z S) 3) RX3 cX3_dropFirst none 0 0 0)  : Dk (mE X θ (wdC θ ad Y Z S) 3) (mT X θ (wdC θ ad Y Z S) 3 (PVS (wdC θ ad Y Z))) 0 0 (wdC θ ad Y Z S) [(0, .ref (ad 79)), (1, .ref (ad 62))] [] 0 (f_X3_dropFirst F 62 Z S) := by
  show Dk _ _ _ _ _ _ _ _ (f_X3_dropFirst_L2 F 62 Z F S 1)
  refine k_iconst (v := 1) C dX3_dropFirst_0 rfl ?_
  refine k_istore_n (lv' := [(2, .int 1), (0, .ref (ad 79)), (1, .ref (ad 62))]) C dX3_dropFirst_1 rfl (Nat.le_of_ble_eq_true rfl) rfl ?_
  refine Dk.loc [2, 0] rfl ?_
  exact kb_X3_dropFirst_L2_62 C _ _ _
theorem ct_X3_dropFirst_62 {l : Launch} {θ : TH} {ad Y : Nat → Nat} {S : St} {F : Nat} {Z : Zt}   : ∀ r, f_X3_dropFirst F 62 Z S = some r → Ct l θ yX3_dropFirst cX3_dropFirst 3 none 0 0 0 [.ref (ad 79), .ref (ad 62)] (wdC θ ad Y Z S) (PVS (wdC θ ad Y Z) r) :=
  fun r hr => Ct.of (by decide +kernel) (Nat.le_of_ble_eq_true rfl) (fun X _ C _ => kw_X3_dropFirst_62 C  r hr)
set_option maxRecDepth 20000 in
theorem kb_X3_dropFirst_L2_63 {X : GX} {θ : TH} {ad Y : Nat → Nat} {S0 : St} {F : Nat} {Z : Zt} (C : CX (mE X θ (wdC θ ad Y Z S0) 3) RX3 cX3_dropFirst none 0 0 0)  : ∀ (n : Nat) (S : St) (x2 : Int32), Dk (mE X θ (wdC θ ad Y Z S0) 3) (mT X θ (wdC θ ad Y Z S0) 3 (PVS (wdC θ ad Y Z))) 0 0 (wdC θ ad Y Z S) [(1, .ref (ad 63)), (2, .int x2)] [] 2 (f_X3_dropFirst_L2 F 63 Z n S x2) := by
  intro n
  induction n with
  | zero => intro S x2; exact Dk.none
  | succ n ih =>
    intro S x2
    show Dk _ _ _ _ _ _ _ _ (if (40 : Int32) ≤ x2 then some S else chk (inr x2 40) (chk (inr (x2 - 1) 40) (f_X3_dropFirst_L2 F 63 Z n (sa S 63 (x2 - 1).toNatClampNeg (S.2.1 63 (x2).toNatClampNeg)) (x2 + 1))))
    refine k_iload_n (q := 1) C dX3_dropFirst_2 rfl rfl ?_
    refine k_aload_n (q := 0) C dX3_dropFirst_3 rfl rfl ?_
    refine c_alen (i := 63) (v := 40) C rfl am_63 ak_63 rfl dX3_dropFirst_4 ?_
    refine k_icmp_ge (tgt := 22) C dX3_dropFirst_5 (by decide) (fun _ => ?_) (fun _ => ?_)
    · exact k_vret C ⟨rfl, rfl⟩ dX3_dropFirst_22
    · refine k_aload_n (q := 0) C dX3_dropFirst_8 rfl rfl ?_
      refine k_iload_n (q := 1) C dX3_dropFirst_9 rfl rfl ?_
      refine k_iconst (v := 1) C dX3_dropFirst_10 rfl ?_
      refine k_isub C dX3_dropFirst_11 ?_
      refine k_aload_n (q := 0) C dX3_dropFirst_12 rfl rfl ?_
      refine k_iload_n (q := 1) C dX3_dropFirst_13 rfl rfl ?_
      refine c_iald (i := 63) (v := S.2.1 63 (x2).toNatClampNeg) C rfl am_63 ak_63 rfl rfl dX3_dropFirst_14 ?_
      refine c_iast (i := 63) C rfl am_63 ak_63 rfl dX3_dropFirst_15 ?_
      refine k_iinc (q := 1) (v := x2 + 1) (lv' := [(2, .int (x2 + 1)), (1, .ref (ad 63))]) C dX3_dropFirst_16 rfl rfl (Nat.le_of_ble_eq_true rfl) rfl ?_
      refine k_goto (tgt := 2) C dX3_dropFirst_19 (by decide) ?_
      refine Dk.loc [1, 0] rfl ?_
      exact ih _ _
set_option maxRecDepth 20000 in
theorem kw_X3_dropFirst_63 {X : GX} {θ : TH} {ad Y : Nat → Nat} {F : Nat} {Z : Zt} {S : St}  (C : CX (mE X θ (wdC θ ad Y Z S) 3) RX3 cX3_dropFirst none 0 0 0)  : Dk (mE X θ (wdC θ ad Y Z S) 3) (mT X θ (wdC θ ad Y Z S) 3 (PVS (wdC θ ad Y Z))) 0 0 (wdC θ ad Y Z S) [(0, .ref (ad 79)), (1, .ref (ad 63))] [] 0 (f_X3_dropFirst F 63 Z S) := by
  show Dk _ _ _ _ _ _ _ _ (f_X3_dropFirst_L2 F 63 Z F S 1)
  refine k_iconst (v := 1) C dX3_dropFirst_0 rfl ?_
  refine k_istore_n (lv' := [(2, .int 1), (0, .ref (ad 79)), (1, .ref (ad 63))]) C dX3_dropFirst_1 rfl (Nat.le_of_ble_eq_true rfl) rfl ?_
  refine Dk.loc [2, 0] rfl ?_
  exact kb_X3_dropFirst_L2_63 C _ _ _
theorem ct_X3_dropFirst_63 {l : Launch} {θ : TH} {ad Y : Nat → Nat} {S : St} {F : Nat} {Z : Zt}   : ∀ r, f_X3_dropFirst F 63 Z S = some r → Ct l θ yX3_dropFirst cX3_dropFirst 3 none 0 0 0 [.ref (ad 79), .ref (ad 63)] (wdC θ ad Y Z S) (PVS (wdC θ ad Y Z) r) :=
  fun r hr => Ct.of (by decide +kernel) (Nat.le_of_ble_eq_true rfl) (fun X _ C _ => kw_X3_dropFirst_63 C  r hr)
set_option maxRecDepth 20000 in
theorem kb_X3_dropFirst_L2_64 {X : GX} {θ : TH} {ad Y : Nat → Nat} {S0 : St} {F : Nat} {Z : Zt} (C : CX (mE X θ (wdC θ ad Y Z S0) 3) RX3 cX3_dropFirst none 0 0 0)  : ∀ (n : Nat) (S : St) (x2 : Int32), Dk (mE X θ (wdC θ ad Y Z S0) 3) (mT X θ (wdC θ ad Y Z S0) 3 (PVS (wdC θ ad Y Z))) 0 0 (wdC θ ad Y Z S) [(1, .ref (ad 64)), (2, .int x2)] [] 2 (f_X3_dropFirst_L2 F 64 Z n S x2) := by
  intro n
  induction n with
  | zero => intro S x2; exact Dk.none
  | succ n ih =>
    intro S x2
    show Dk _ _ _ _ _ _ _ _ (if (40 : Int32) ≤ x2 then some S else chk (inr x2 40) (chk (inr (x2 - 1) 40) (f_X3_dropFirst_L2 F 64 Z n (sa S 64 (x2 - 1).toNatClampNeg (S.2.1 64 (x2).toNatClampNeg)) (x2 + 1))))
    refine k_iload_n (q := 1) C dX3_dropFirst_2 rfl rfl ?_
    refine k_aload_n (q := 0) C dX3_dropFirst_3 rfl rfl ?_
    refine c_alen (i := 64) (v := 40) C rfl am_64 ak_64 rfl dX3_dropFirst_4 ?_
    refine k_icmp_ge (tgt := 22) C dX3_dropFirst_5 (by decide) (fun _ => ?_) (fun _ => ?_)
    · exact k_vret C ⟨rfl, rfl⟩ dX3_dropFirst_22
    · refine k_aload_n (q := 0) C dX3_dropFirst_8 rfl rfl ?_
      refine k_iload_n (q := 1) C dX3_dropFirst_9 rfl rfl ?_
      refine k_iconst (v := 1) C dX3_dropFirst_10 rfl ?_
      refine k_isub C dX3_dropFirst_11 ?_
      refine k_aload_n (q := 0) C dX3_dropFirst_12 rfl rfl ?_
      refine k_iload_n (q := 1) C dX3_dropFirst_13 rfl rfl ?_
      refine c_iald (i := 64) (v := S.2.1 64 (x2).toNatClampNeg) C rfl am_64 ak_64 rfl rfl dX3_dropFirst_14 ?_
      refine c_iast (i := 64) C rfl am_64 ak_64 rfl dX3_dropFirst_15 ?_
      refine k_iinc (q := 1) (v := x2 + 1) (lv' := [(2, .int (x2 + 1)), (1, .ref (ad 64))]) C dX3_dropFirst_16 rfl rfl (Nat.le_of_ble_eq_true rfl) rfl ?_
      refine k_goto (tgt := 2) C dX3_dropFirst_19 (by decide) ?_
      refine Dk.loc [1, 0] rfl ?_
      exact ih _ _
set_option maxRecDepth 20000 in
theorem kw_X3_dropFirst_64 {X : GX} {θ : TH} {ad Y : Nat → Nat} {F : Nat} {Z : Zt} {S : St}  (C : CX (mE X θ (wdC θ ad Y Z S) 3) RX3 cX3_dropFirst none 0 0 0)  : Dk (mE X θ (wdC θ ad Y Z S) 3) (mT X θ (wdC θ ad Y Z S) 3 (PVS (wdC θ ad Y Z))) 0 0 (wdC θ ad Y Z S) [(0, .ref (ad 79)), (1, .ref (ad 64))] [] 0 (f_X3_dropFirst F 64 Z S) := by
  show Dk _ _ _ _ _ _ _ _ (f_X3_dropFirst_L2 F 64 Z F S 1)
  refine k_iconst (v := 1) C dX3_dropFirst_0 rfl ?_
  refine k_istore_n (lv' := [(2, .int 1), (0, .ref (ad 79)), (1, .ref (ad 64))]) C dX3_dropFirst_1 rfl (Nat.le_of_ble_eq_true rfl) rfl ?_
  refine Dk.loc [2, 0] rfl ?_
  exact kb_X3_dropFirst_L2_64 C _ _ _
theorem ct_X3_dropFirst_64 {l : Launch} {θ : TH} {ad Y : Nat → Nat} {S : St} {F : Nat} {Z : Zt}   : ∀ r, f_X3_dropFirst F 64 Z S = some r → Ct l θ yX3_dropFirst cX3_dropFirst 3 none 0 0 0 [.ref (ad 79), .ref (ad 64)] (wdC θ ad Y Z S) (PVS (wdC θ ad Y Z) r) :=
  fun r hr => Ct.of (by decide +kernel) (Nat.le_of_ble_eq_true rfl) (fun X _ C _ => kw_X3_dropFirst_64 C  r hr)
set_option maxRecDepth 20000 in
theorem kb_X3_dropFirst_L2_65 {X : GX} {θ : TH} {ad Y : Nat → Nat} {S0 : St} {F : Nat} {Z : Zt} (C : CX (mE X θ (wdC θ ad Y Z S0) 3) RX3 cX3_dropFirst none 0 0 0)  : ∀ (n : Nat) (S : St) (x2 : Int32), Dk (mE X θ (wdC θ ad Y Z S0) 3) (mT X θ (wdC θ ad Y Z S0) 3 (PVS (wdC θ ad Y Z))) 0 0 (wdC θ ad Y Z S) [(1, .ref (ad 65)), (2, .int x2)] [] 2 (f_X3_dropFirst_L2 F 65 Z n S x2) := by
  intro n
  induction n with
  | zero => intro S x2; exact Dk.none
  | succ n ih =>
    intro S x2
    show Dk _ _ _ _ _ _ _ _ (if (40 : Int32) ≤ x2 then some S else chk (inr x2 40) (chk (inr (x2 - 1) 40) (f_X3_dropFirst_L2 F 65 Z n (sa S 65 (x2 - 1).toNatClampNeg (S.2.1 65 (x2).toNatClampNeg)) (x2 + 1))))
    refine k_iload_n (q := 1) C dX3_dropFirst_2 rfl rfl ?_
    refine k_aload_n (q := 0) C dX3_dropFirst_3 rfl rfl ?_
    refine c_alen (i := 65) (v := 40) C rfl am_65 ak_65 rfl dX3_dropFirst_4 ?_
    refine k_icmp_ge (tgt := 22) C dX3_dropFirst_5 (by decide) (fun _ => ?_) (fun _ => ?_)
    · exact k_vret C ⟨rfl, rfl⟩ dX3_dropFirst_22
    · refine k_aload_n (q := 0) C dX3_dropFirst_8 rfl rfl ?_
      refine k_iload_n (q := 1) C dX3_dropFirst_9 rfl rfl ?_
      refine k_iconst (v := 1) C dX3_dropFirst_10 rfl ?_
      refine k_isub C dX3_dropFirst_11 ?_
      refine k_aload_n (q := 0) C dX3_dropFirst_12 rfl rfl ?_
      refine k_iload_n (q := 1) C dX3_dropFirst_13 rfl rfl ?_
      refine c_iald (i := 65) (v := S.2.1 65 (x2).toNatClampNeg) C rfl am_65 ak_65 rfl rfl dX3_dropFirst_14 ?_
      refine c_iast (i := 65) C rfl am_65 ak_65 rfl dX3_dropFirst_15 ?_
      refine k_iinc (q := 1) (v := x2 + 1) (lv' := [(2, .int (x2 + 1)), (1, .ref (ad 65))]) C dX3_dropFirst_16 rfl rfl (Nat.le_of_ble_eq_true rfl) rfl ?_
      refine k_goto (tgt := 2) C dX3_dropFirst_19 (by decide) ?_
      refine Dk.loc [1, 0] rfl ?_
      exact ih _ _
set_option maxRecDepth 20000 in
theorem kw_X3_dropFirst_65 {X : GX} {θ : TH} {ad Y : Nat → Nat} {F : Nat} {Z : Zt} {S : St}  (C : CX (mE X θ (wdC θ ad Y Z S) 3) RX3 cX3_dropFirst none 0 0 0)  : Dk (mE X θ (wdC θ ad Y Z S) 3) (mT X θ (wdC θ ad Y Z S) 3 (PVS (wdC θ ad Y Z))) 0 0 (wdC θ ad Y Z S) [(0, .ref (ad 79)), (1, .ref (ad 65))] [] 0 (f_X3_dropFirst F 65 Z S) := by
  show Dk _ _ _ _ _ _ _ _ (f_X3_dropFirst_L2 F 65 Z F S 1)
  refine k_iconst (v := 1) C dX3_dropFirst_0 rfl ?_
  refine k_istore_n (lv' := [(2, .int 1), (0, .ref (ad 79)), (1, .ref (ad 65))]) C dX3_dropFirst_1 rfl (Nat.le_of_ble_eq_true rfl) rfl ?_
  refine Dk.loc [2, 0] rfl ?_
  exact kb_X3_dropFirst_L2_65 C _ _ _
theorem ct_X3_dropFirst_65 {l : Launch} {θ : TH} {ad Y : Nat → Nat} {S : St} {F : Nat} {Z : Zt}   : ∀ r, f_X3_dropFirst F 65 Z S = some r → Ct l θ yX3_dropFirst cX3_dropFirst 3 none 0 0 0 [.ref (ad 79), .ref (ad 65)] (wdC θ ad Y Z S) (PVS (wdC θ ad Y Z) r) :=
  fun r hr => Ct.of (by decide +kernel) (Nat.le_of_ble_eq_true rfl) (fun X _ C _ => kw_X3_dropFirst_65 C  r hr)
set_option maxRecDepth 20000 in
theorem kb_X3_note_B47 {X : GX} {θ : TH} {ad Y : Nat → Nat} {S0 : St} {F : Nat} {Z : Zt} {a1 : Int32} {a2 : Int32} {a3 : Int32} {a4 : Int32} (C : CX (mE X θ (wdC θ ad Y Z S0) 5) RX3 cX3_note none 1 0 0)  (S : St) : Dk (mE X θ (wdC θ ad Y Z S0) 5) (mT X θ (wdC θ ad Y Z S0) 5 (PVS (wdC θ ad Y Z))) 0 0 (wdC θ ad Y Z S) [(0, .ref (ad 79)), (1, .int a1), (2, .int a2), (3, .int a3), (4, .int a4)] [] 47 (f_X3_note_B47 F Z a1 a2 a3 a4 S) := by
  show Dk _ _ _ _ _ _ _ _ (chk (inr (S.1 66) 40) (chk (inr (S.1 66) 40) (chk (inr (S.1 66) 40) (chk (inr (S.1 66) 40) (some (sf (sf (sa (sa (sa (sa S 62 (S.1 66).toNatClampNeg a1) 63 (S.1 66).toNatClampNeg a2) 64 (S.1 66).toNatClampNeg a3) 65 (S.1 66).toNatClampNeg a4) 66 ((S.1 66) + 1)) 67 ((S.1 66) + 1)))))))
  refine k_aload_n (q := 0) C dX3_note_47 rfl rfl ?_
  refine c_get (b := 60) (ci := 3) (kf := 2) (N := 8) C rfl ⟨rfl, rfl⟩ am_79 rfl lay_3 kk_3_2 fl_3_9 rfl dX3_note_48 ?_
  refine k_aload_n (q := 0) C dX3_note_51 rfl rfl ?_
  refine c_get (b := 60) (ci := 3) (kf := 6) (N := 8) (v := .int (S.1 66)) C rfl ⟨rfl, rfl⟩ am_79 rfl lay_3 kk_3_6 fl_3_24 rfl dX3_note_52 ?_
  refine k_iload_n (q := 1) C dX3_note_55 rfl rfl ?_
  refine c_iast (i := 62) C rfl am_62 ak_62 rfl dX3_note_56 ?_
  refine k_aload_n (q := 0) C dX3_note_57 rfl rfl ?_
  refine c_get (b := 60) (ci := 3) (kf := 3) (N := 8) C rfl ⟨rfl, rfl⟩ am_79 rfl lay_3 kk_3_3 fl_3_15 rfl dX3_note_58 ?_
  refine k_aload_n (q := 0) C dX3_note_61 rfl rfl ?_
  refine c_get (b := 60) (ci := 3) (kf := 6) (N := 8) (v := .int (S.1 66)) C rfl ⟨rfl, rfl⟩ am_79 rfl lay_3 kk_3_6 fl_3_24 rfl dX3_note_62 ?_
  refine k_iload_n (q := 2) C dX3_note_65 rfl rfl ?_
  refine c_iast (i := 63) C rfl am_63 ak_63 rfl dX3_note_66 ?_
  refine k_aload_n (q := 0) C dX3_note_67 rfl rfl ?_
  refine c_get (b := 60) (ci := 3) (kf := 4) (N := 8) C rfl ⟨rfl, rfl⟩ am_79 rfl lay_3 kk_3_4 fl_3_18 rfl dX3_note_68 ?_
  refine k_aload_n (q := 0) C dX3_note_71 rfl rfl ?_
  refine c_get (b := 60) (ci := 3) (kf := 6) (N := 8) (v := .int (S.1 66)) C rfl ⟨rfl, rfl⟩ am_79 rfl lay_3 kk_3_6 fl_3_24 rfl dX3_note_72 ?_
  refine k_iload_n (q := 3) C dX3_note_75 rfl rfl ?_
  refine c_iast (i := 64) C rfl am_64 ak_64 rfl dX3_note_76 ?_
  refine k_aload_n (q := 0) C dX3_note_77 rfl rfl ?_
  refine c_get (b := 60) (ci := 3) (kf := 5) (N := 8) C rfl ⟨rfl, rfl⟩ am_79 rfl lay_3 kk_3_5 fl_3_21 rfl dX3_note_78 ?_
  refine k_aload_n (q := 0) C dX3_note_81 rfl rfl ?_
  refine c_get (b := 60) (ci := 3) (kf := 6) (N := 8) (v := .int (S.1 66)) C rfl ⟨rfl, rfl⟩ am_79 rfl lay_3 kk_3_6 fl_3_24 rfl dX3_note_82 ?_
  refine k_iload (q := 4) C dX3_note_85 rfl ?_
  refine c_iast (i := 65) C rfl am_65 ak_65 rfl dX3_note_87 ?_
  refine k_aload_n (q := 0) C dX3_note_88 rfl rfl ?_
  refine k_dup C dX3_note_89 rfl ?_
  refine c_get (b := 60) (ci := 3) (kf := 6) (N := 8) (v := .int (S.1 66)) C rfl ⟨rfl, rfl⟩ am_79 rfl lay_3 kk_3_6 fl_3_24 rfl dX3_note_90 ?_
  refine k_iconst (v := 1) C dX3_note_93 rfl ?_
  refine k_iadd C dX3_note_94 ?_
  refine c_puti (b := 60) (ci := 3) (kf := 6) (N := 8) C rfl ⟨rfl, rfl⟩ am_79 rfl lay_3 tyX3 tyX3_ok nmX3 kk_3_6 fl_3_24 pf_3_6 dX3_note_95 ?_
  refine k_aload_n (q := 0) C dX3_note_98 rfl rfl ?_
  refine k_aload_n (q := 0) C dX3_note_99 rfl rfl ?_
  refine c_get (b := 60) (ci := 3) (kf := 6) (N := 8) (v := .int ((S.1 66) + 1)) C rfl ⟨rfl, rfl⟩ am_79 rfl lay_3 kk_3_6 fl_3_24 rfl dX3_note_100 ?_
  refine c_puti (b := 60) (ci := 3) (kf := 7) (N := 8) C rfl ⟨rfl, rfl⟩ am_79 rfl lay_3 tyX3 tyX3_ok nmX3 kk_3_7 fl_3_28 pf_3_7 dX3_note_103 ?_
  exact k_vret C ⟨rfl, rfl⟩ dX3_note_106
set_option maxRecDepth 20000 in
theorem kw_X3_note {X : GX} {θ : TH} {ad Y : Nat → Nat} {F : Nat} {Z : Zt} {S : St} {a1 : Int32} {a2 : Int32} {a3 : Int32} {a4 : Int32} (C : CX (mE X θ (wdC θ ad Y Z S) 5) RX3 cX3_note none 1 0 0)  : Dk (mE X θ (wdC θ ad Y Z S) 5) (mT X θ (wdC θ ad Y Z S) 5 (PVS (wdC θ ad Y Z))) 0 0 (wdC θ ad Y Z S) [(0, .ref (ad 79)), (1, .int a1), (2, .int a2), (3, .int a3), (4, .int a4)] [] 0 (f_X3_note F Z S a1 a2 a3 a4) := by
  show Dk _ _ _ _ _ _ _ _ (if (S.1 66) < 40 then f_X3_note_B47 F Z a1 a2 a3 a4 S else (f_X3_dropFirst F 62 Z S).bind fun r1 => (f_X3_dropFirst F 63 Z r1).bind fun r2 => (f_X3_dropFirst F 64 Z r2).bind fun r3 => (f_X3_dropFirst F 65 Z r3).bind fun r4 => f_X3_note_B47 F Z a1 a2 a3 a4 (sf r4 66 39))
  refine k_aload_n (q := 0) C dX3_note_0 rfl rfl ?_
  refine c_get (b := 60) (ci := 3) (kf := 6) (N := 8) (v := .int (S.1 66)) C rfl ⟨rfl, rfl⟩ am_79 rfl lay_3 kk_3_6 fl_3_24 rfl dX3_note_1 ?_
  refine k_bipush (v := 40) C dX3_note_4 rfl ?_
  refine k_icmp_lt (tgt := 47) C dX3_note_6 (by decide) (fun _ => ?_) (fun _ => ?_)
  · exact kb_X3_note_B47 C _
  · refine k_aload_n (q := 0) C dX3_note_9 rfl rfl ?_
    refine k_aload_n (q := 0) C dX3_note_10 rfl rfl ?_
    refine c_get (b := 60) (ci := 3) (kf := 2) (N := 8) C rfl ⟨rfl, rfl⟩ am_79 rfl lay_3 kk_3_2 fl_3_9 rfl dX3_note_11 ?_
    refine k_cVV C ct_X3_dropFirst_62 my_3_dropFirst ml_3_81 rfl ⟨Nat.le_of_ble_eq_true rfl, Nat.le_of_ble_eq_true rfl⟩ (recvC (b := 60) (ci := 3) rfl ⟨rfl, rfl⟩ am_79 rfl rfl) rfl (Nat.le_of_ble_eq_true rfl) dX3_note_14 ⟨Nat.le_refl _, Nat.le_refl _⟩ (fun r1 _ => ?_)
    refine k_aload_n (q := 0) C dX3_note_17 rfl rfl ?_
    refine k_aload_n (q := 0) C dX3_note_18 rfl rfl ?_
    refine c_get (b := 60) (ci := 3) (kf := 3) (N := 8) C rfl ⟨rfl, rfl⟩ am_79 rfl lay_3 kk_3_3 fl_3_15 rfl dX3_note_19 ?_
    refine k_cVV C ct_X3_dropFirst_63 my_3_dropFirst ml_3_81 rfl ⟨Nat.le_of_ble_eq_true rfl, Nat.le_of_ble_eq_true rfl⟩ (recvC (b := 60) (ci := 3) rfl ⟨rfl, rfl⟩ am_79 rfl rfl) rfl (Nat.le_of_ble_eq_true rfl) dX3_note_22 ⟨Nat.le_refl _, Nat.le_refl _⟩ (fun r2 _ => ?_)
    refine k_aload_n (q := 0) C dX3_note_25 rfl rfl ?_
    refine k_aload_n (q := 0) C dX3_note_26 rfl rfl ?_
    refine c_get (b := 60) (ci := 3) (kf := 4) (N := 8) C rfl ⟨rfl, rfl⟩ am_79 rfl lay_3 kk_3_4 fl_3_18 rfl dX3_note_27 ?_
    refine k_cVV C ct_X3_dropFirst_64 my_3_dropFirst ml_3_81 rfl ⟨Nat.le_of_ble_eq_true rfl, Nat.le_of_ble_eq_true rfl⟩ (recvC (b := 60) (ci := 3) rfl ⟨rfl, rfl⟩ am_79 rfl rfl) rfl (Nat.le_of_ble_eq_true rfl) dX3_note_30 ⟨Nat.le_refl _, Nat.le_refl _⟩ (fun r3 _ => ?_)
    refine k_aload_n (q := 0) C dX3_note_33 rfl rfl ?_
    refine k_aload_n (q := 0) C dX3_note_34 rfl rfl ?_
    refine c_get (b := 60) (ci := 3) (kf := 5) (N := 8) C rfl ⟨rfl, rfl⟩ am_79 rfl lay_3 kk_3_5 fl_3_21 rfl dX3_note_35 ?_
    refine k_cVV C ct_X3_dropFirst_65 my_3_dropFirst ml_3_81 rfl ⟨Nat.le_of_ble_eq_true rfl, Nat.le_of_ble_eq_true rfl⟩ (recvC (b := 60) (ci := 3) rfl ⟨rfl, rfl⟩ am_79 rfl rfl) rfl (Nat.le_of_ble_eq_true rfl) dX3_note_38 ⟨Nat.le_refl _, Nat.le_refl _⟩ (fun r4 _ => ?_)
    refine k_aload_n (q := 0) C dX3_note_41 rfl rfl ?_
    refine k_bipush (v := 39) C dX3_note_42 rfl ?_
    refine c_puti (b := 60) (ci := 3) (kf := 6) (N := 8) C rfl ⟨rfl, rfl⟩ am_79 rfl lay_3 tyX3 tyX3_ok nmX3 kk_3_6 fl_3_24 pf_3_6 dX3_note_44 ?_
    exact kb_X3_note_B47 C _
theorem ct_X3_note {l : Launch} {θ : TH} {ad Y : Nat → Nat} {S : St} {F : Nat} {Z : Zt} {a1 : Int32} {a2 : Int32} {a3 : Int32} {a4 : Int32}  : ∀ r, f_X3_note F Z S a1 a2 a3 a4 = some r → Ct l θ yX3_note cX3_note 5 none 1 0 0 [.ref (ad 79), .int a1, .int a2, .int a3, .int a4] (wdC θ ad Y Z S) (PVS (wdC θ ad Y Z) r) :=
  fun r hr => Ct.of (by decide +kernel) (Nat.le_of_ble_eq_true rfl) (fun X _ C _ => kw_X3_note C  r hr)
set_option maxRecDepth 20000 in
theorem kw_X3_tell {X : GX} {θ : TH} {ad Y : Nat → Nat} {F : Nat} {Z : Zt} {S : St} {a1 : Int32} {a2 : Int32} {a3 : Int32} (C : CX (mE X θ (wdC θ ad Y Z S) 5) RX3 cX3_tell (some .int) 4 0 0)  : Dk (mE X θ (wdC θ ad Y Z S) 5) (mT X θ (wdC θ ad Y Z S) 5 (PIS (wdC θ ad Y Z))) 0 0 (wdC θ ad Y Z S) [(0, .ref (ad 79)), (1, .int a1), (2, .int a2), (3, .int a3)] [] 0 (f_X3_tell F Z S a1 a2 a3) := by
  show Dk _ _ _ _ _ _ _ _ ((f_X3_told Z S a1 a2).bind fun r1 => (if r1 = a3 then some (r1, S) else (f_X3_note F Z S a1 a2 r1 a3).bind fun r2 => (f_X3_set Z r2 a1 a2 a3).bind fun r3 => some (r1, r3)))
  refine k_aload_n (q := 0) C dX3_tell_0 rfl rfl ?_
  refine k_iload_n (q := 1) C dX3_tell_1 rfl rfl ?_
  refine k_iload_n (q := 2) C dX3_tell_2 rfl rfl ?_
  refine k_cVI C ct_X3_told my_3_told ml_3_54 rfl ⟨Nat.le_of_ble_eq_true rfl, Nat.le_of_ble_eq_true rfl⟩ (recvC (b := 60) (ci := 3) rfl ⟨rfl, rfl⟩ am_79 rfl rfl) rfl (Nat.le_of_ble_eq_true rfl) dX3_tell_3 ⟨Nat.le_refl _, Nat.le_refl _⟩ (fun r1 _ => ?_)
  refine k_istore (lv' := [(4, .int r1), (0, .ref (ad 79)), (1, .int a1), (2, .int a2), (3, .int a3)]) C dX3_tell_6 (Nat.le_of_ble_eq_true rfl) rfl ?_
  refine k_iload (q := 0) C dX3_tell_8 rfl ?_
  refine k_iload_n (q := 4) C dX3_tell_10 rfl rfl ?_
  refine k_icmp_eq (tgt := 30) C dX3_tell_11 (by decide) (fun _ => ?_) (fun _ => ?_)
  · refine k_iload (q := 0) C dX3_tell_30 rfl ?_
    exact k_iret C rfl ⟨rfl, rfl⟩ dX3_tell_32
  · refine k_aload_n (q := 1) C dX3_tell_14 rfl rfl ?_
    refine k_iload_n (q := 2) C dX3_tell_15 rfl rfl ?_
    refine k_iload_n (q := 3) C dX3_tell_16 rfl rfl ?_
    refine k_iload (q := 0) C dX3_tell_17 rfl ?_
    refine k_iload_n (q := 4) C dX3_tell_19 rfl rfl ?_
    refine k_cVV C ct_X3_note my_3_note ml_3_58 rfl ⟨Nat.le_of_ble_eq_true rfl, Nat.le_of_ble_eq_true rfl⟩ (recvC (b := 60) (ci := 3) rfl ⟨rfl, rfl⟩ am_79 rfl rfl) rfl (Nat.le_of_ble_eq_true rfl) dX3_tell_20 ⟨Nat.le_refl _, Nat.le_refl _⟩ (fun r2 _ => ?_)
    refine k_aload_n (q := 1) C dX3_tell_23 rfl rfl ?_
    refine k_iload_n (q := 2) C dX3_tell_24 rfl rfl ?_
    refine k_iload_n (q := 3) C dX3_tell_25 rfl rfl ?_
    refine k_iload_n (q := 4) C dX3_tell_26 rfl rfl ?_
    refine k_cVV C ct_X3_set my_3_set ml_3_62 rfl ⟨Nat.le_of_ble_eq_true rfl, Nat.le_of_ble_eq_true rfl⟩ (recvC (b := 60) (ci := 3) rfl ⟨rfl, rfl⟩ am_79 rfl rfl) rfl (Nat.le_of_ble_eq_true rfl) dX3_tell_27 ⟨Nat.le_refl _, Nat.le_refl _⟩ (fun r3 _ => ?_)
    refine k_iload (q := 0) C dX3_tell_30 rfl ?_
    exact k_iret C rfl ⟨rfl, rfl⟩ dX3_tell_32
theorem ct_X3_tell {l : Launch} {θ : TH} {ad Y : Nat → Nat} {S : St} {F : Nat} {Z : Zt} {a1 : Int32} {a2 : Int32} {a3 : Int32}  : ∀ r, f_X3_tell F Z S a1 a2 a3 = some r → Ct l θ yX3_tell cX3_tell 5 (some .int) 4 0 0 [.ref (ad 79), .int a1, .int a2, .int a3] (wdC θ ad Y Z S) (PIS (wdC θ ad Y Z) r) :=
  fun r hr => Ct.of (by decide +kernel) (Nat.le_of_ble_eq_true rfl) (fun X _ C _ => kw_X3_tell C  r hr)
set_option maxRecDepth 20000 in
theorem kw_X3_takeBack {X : GX} {θ : TH} {ad Y : Nat → Nat} {Z : Zt} {S : St}  (C : CX (mE X θ (wdC θ ad Y Z S) 1) RX3 cX3_takeBack (some .int) 3 0 0)  : Dk (mE X θ (wdC θ ad Y Z S) 1) (mT X θ (wdC θ ad Y Z S) 1 (PIS (wdC θ ad Y Z))) 0 0 (wdC θ ad Y Z S) [(0, .ref (ad 79))] [] 0 (f_X3_takeBack Z S) := by
  show Dk _ _ _ _ _ _ _ _ (if (S.1 66) ≤ 0 then some ((-5 : Int32), S) else if (S.1 66) ≤ 40 then chk (inr ((S.1 66) - 1) 40) (chk (inr ((S.1 66) - 1) 40) (chk (inr ((S.1 66) - 1) 40) ((f_X3_set Z (sf S 66 ((S.1 66) - 1)) (S.2.1 62 ((S.1 66) - 1).toNatClampNeg) (S.2.1 63 ((S.1 66) - 1).toNatClampNeg) (S.2.1 64 ((S.1 66) - 1).toNatClampNeg)).bind fun r1 => some (r1.1 66, r1)))) else some ((-5 : Int32), S))
  refine k_aload_n (q := 0) C dX3_takeBack_0 rfl rfl ?_
  refine c_get (b := 60) (ci := 3) (kf := 6) (N := 8) (v := .int (S.1 66)) C rfl ⟨rfl, rfl⟩ am_79 rfl lay_3 kk_3_6 fl_3_24 rfl dX3_takeBack_1 ?_
  refine k_if_le (tgt := 16) C dX3_takeBack_4 (by decide) (fun _ => ?_) (fun _ => ?_)
  · refine k_bipush (v := (-5)) C dX3_takeBack_16 rfl ?_
    exact k_iret C rfl ⟨rfl, rfl⟩ dX3_takeBack_18
  · refine k_aload_n (q := 0) C dX3_takeBack_7 rfl rfl ?_
    refine c_get (b := 60) (ci := 3) (kf := 6) (N := 8) (v := .int (S.1 66)) C rfl ⟨rfl, rfl⟩ am_79 rfl lay_3 kk_3_6 fl_3_24 rfl dX3_takeBack_8 ?_
    refine k_bipush (v := 40) C dX3_takeBack_11 rfl ?_
    refine k_icmp_le (tgt := 19) C dX3_takeBack_13 (by decide) (fun _ => ?_) (fun _ => ?_)
    · refine k_aload_n (q := 0) C dX3_takeBack_19 rfl rfl ?_
      refine k_dup C dX3_takeBack_20 rfl ?_
      refine c_get (b := 60) (ci := 3) (kf := 6) (N := 8) (v := .int (S.1 66)) C rfl ⟨rfl, rfl⟩ am_79 rfl lay_3 kk_3_6 fl_3_24 rfl dX3_takeBack_21 ?_
      refine k_iconst (v := 1) C dX3_takeBack_24 rfl ?_
      refine k_isub C dX3_takeBack_25 ?_
      refine c_puti (b := 60) (ci := 3) (kf := 6) (N := 8) C rfl ⟨rfl, rfl⟩ am_79 rfl lay_3 tyX3 tyX3_ok nmX3 kk_3_6 fl_3_24 pf_3_6 dX3_takeBack_26 ?_
      refine k_aload_n (q := 0) C dX3_takeBack_29 rfl rfl ?_
      refine k_aload_n (q := 0) C dX3_takeBack_30 rfl rfl ?_
      refine c_get (b := 60) (ci := 3) (kf := 2) (N := 8) C rfl ⟨rfl, rfl⟩ am_79 rfl lay_3 kk_3_2 fl_3_9 rfl dX3_takeBack_31 ?_
      refine k_aload_n (q := 0) C dX3_takeBack_34 rfl rfl ?_
      refine c_get (b := 60) (ci := 3) (kf := 6) (N := 8) (v := .int ((S.1 66) - 1)) C rfl ⟨rfl, rfl⟩ am_79 rfl lay_3 kk_3_6 fl_3_24 rfl dX3_takeBack_35 ?_
      refine c_iald (i := 62) (v := S.2.1 62 ((S.1 66) - 1).toNatClampNeg) C rfl am_62 ak_62 rfl rfl dX3_takeBack_38 ?_
      refine k_aload_n (q := 0) C dX3_takeBack_39 rfl rfl ?_
      refine c_get (b := 60) (ci := 3) (kf := 3) (N := 8) C rfl ⟨rfl, rfl⟩ am_79 rfl lay_3 kk_3_3 fl_3_15 rfl dX3_takeBack_40 ?_
      refine k_aload_n (q := 0) C dX3_takeBack_43 rfl rfl ?_
      refine c_get (b := 60) (ci := 3) (kf := 6) (N := 8) (v := .int ((S.1 66) - 1)) C rfl ⟨rfl, rfl⟩ am_79 rfl lay_3 kk_3_6 fl_3_24 rfl dX3_takeBack_44 ?_
      refine c_iald (i := 63) (v := S.2.1 63 ((S.1 66) - 1).toNatClampNeg) C rfl am_63 ak_63 rfl rfl dX3_takeBack_47 ?_
      refine k_aload_n (q := 0) C dX3_takeBack_48 rfl rfl ?_
      refine c_get (b := 60) (ci := 3) (kf := 4) (N := 8) C rfl ⟨rfl, rfl⟩ am_79 rfl lay_3 kk_3_4 fl_3_18 rfl dX3_takeBack_49 ?_
      refine k_aload_n (q := 0) C dX3_takeBack_52 rfl rfl ?_
      refine c_get (b := 60) (ci := 3) (kf := 6) (N := 8) (v := .int ((S.1 66) - 1)) C rfl ⟨rfl, rfl⟩ am_79 rfl lay_3 kk_3_6 fl_3_24 rfl dX3_takeBack_53 ?_
      refine c_iald (i := 64) (v := S.2.1 64 ((S.1 66) - 1).toNatClampNeg) C rfl am_64 ak_64 rfl rfl dX3_takeBack_56 ?_
      refine k_cVV C ct_X3_set my_3_set ml_3_62 rfl ⟨Nat.le_of_ble_eq_true rfl, Nat.le_of_ble_eq_true rfl⟩ (recvC (b := 60) (ci := 3) rfl ⟨rfl, rfl⟩ am_79 rfl rfl) rfl (Nat.le_of_ble_eq_true rfl) dX3_takeBack_57 ⟨Nat.le_refl _, Nat.le_refl _⟩ (fun r1 _ => ?_)
      refine k_aload_n (q := 0) C dX3_takeBack_60 rfl rfl ?_
      refine c_get (b := 60) (ci := 3) (kf := 6) (N := 8) (v := .int (r1.1 66)) C rfl ⟨rfl, rfl⟩ am_79 rfl lay_3 kk_3_6 fl_3_24 rfl dX3_takeBack_61 ?_
      exact k_iret C rfl ⟨rfl, rfl⟩ dX3_takeBack_64
    · refine k_bipush (v := (-5)) C dX3_takeBack_16 rfl ?_
      exact k_iret C rfl ⟨rfl, rfl⟩ dX3_takeBack_18
theorem ct_X3_takeBack {l : Launch} {θ : TH} {ad Y : Nat → Nat} {S : St} {Z : Zt}   : ∀ r, f_X3_takeBack Z S = some r → Ct l θ yX3_takeBack cX3_takeBack 1 (some .int) 3 0 0 [.ref (ad 79)] (wdC θ ad Y Z S) (PIS (wdC θ ad Y Z) r) :=
  fun r hr => Ct.of (by decide +kernel) (Nat.le_of_ble_eq_true rfl) (fun X _ C _ => kw_X3_takeBack C  r hr)
set_option maxRecDepth 20000 in
theorem kw_X3_doAgain {X : GX} {θ : TH} {ad Y : Nat → Nat} {Z : Zt} {S : St}  (C : CX (mE X θ (wdC θ ad Y Z S) 1) RX3 cX3_doAgain (some .int) 3 0 0)  : Dk (mE X θ (wdC θ ad Y Z S) 1) (mT X θ (wdC θ ad Y Z S) 1 (PIS (wdC θ ad Y Z))) 0 0 (wdC θ ad Y Z S) [(0, .ref (ad 79))] [] 0 (f_X3_doAgain Z S) := by
  show Dk _ _ _ _ _ _ _ _ (if (S.1 67) ≤ (S.1 66) then some ((-5 : Int32), S) else if (S.1 66) < 40 then chk (inr (S.1 66) 40) (chk (inr (S.1 66) 40) (chk (inr (S.1 66) 40) ((f_X3_set Z S (S.2.1 62 (S.1 66).toNatClampNeg) (S.2.1 63 (S.1 66).toNatClampNeg) (S.2.1 65 (S.1 66).toNatClampNeg)).bind fun r1 => some ((r1.1 67) - ((r1.1 66) + 1), sf r1 66 ((r1.1 66) + 1))))) else some ((-5 : Int32), S))
  refine k_aload_n (q := 0) C dX3_doAgain_0 rfl rfl ?_
  refine c_get (b := 60) (ci := 3) (kf := 6) (N := 8) (v := .int (S.1 66)) C rfl ⟨rfl, rfl⟩ am_79 rfl lay_3 kk_3_6 fl_3_24 rfl dX3_doAgain_1 ?_
  refine k_aload_n (q := 0) C dX3_doAgain_4 rfl rfl ?_
  refine c_get (b := 60) (ci := 3) (kf := 7) (N := 8) (v := .int (S.1 67)) C rfl ⟨rfl, rfl⟩ am_79 rfl lay_3 kk_3_7 fl_3_28 rfl dX3_doAgain_5 ?_
  refine k_icmp_ge (tgt := 20) C dX3_doAgain_8 (by decide) (fun _ => ?_) (fun _ => ?_)
  · refine k_bipush (v := (-5)) C dX3_doAgain_20 rfl ?_
    exact k_iret C rfl ⟨rfl, rfl⟩ dX3_doAgain_22
  · refine k_aload_n (q := 0) C dX3_doAgain_11 rfl rfl ?_
    refine c_get (b := 60) (ci := 3) (kf := 6) (N := 8) (v := .int (S.1 66)) C rfl ⟨rfl, rfl⟩ am_79 rfl lay_3 kk_3_6 fl_3_24 rfl dX3_doAgain_12 ?_
    refine k_bipush (v := 40) C dX3_doAgain_15 rfl ?_
    refine k_icmp_lt (tgt := 23) C dX3_doAgain_17 (by decide) (fun _ => ?_) (fun _ => ?_)
    · refine k_aload_n (q := 0) C dX3_doAgain_23 rfl rfl ?_
      refine k_aload_n (q := 0) C dX3_doAgain_24 rfl rfl ?_
      refine c_get (b := 60) (ci := 3) (kf := 2) (N := 8) C rfl ⟨rfl, rfl⟩ am_79 rfl lay_3 kk_3_2 fl_3_9 rfl dX3_doAgain_25 ?_
      refine k_aload_n (q := 0) C dX3_doAgain_28 rfl rfl ?_
      refine c_get (b := 60) (ci := 3) (kf := 6) (N := 8) (v := .int (S.1 66)) C rfl ⟨rfl, rfl⟩ am_79 rfl lay_3 kk_3_6 fl_3_24 rfl dX3_doAgain_29 ?_
      refine c_iald (i := 62) (v := S.2.1 62 (S.1 66).toNatClampNeg) C rfl am_62 ak_62 rfl rfl dX3_doAgain_32 ?_
      refine k_aload_n (q := 0) C dX3_doAgain_33 rfl rfl ?_
      refine c_get (b := 60) (ci := 3) (kf := 3) (N := 8) C rfl ⟨rfl, rfl⟩ am_79 rfl lay_3 kk_3_3 fl_3_15 rfl dX3_doAgain_34 ?_
      refine k_aload_n (q := 0) C dX3_doAgain_37 rfl rfl ?_
      refine c_get (b := 60) (ci := 3) (kf := 6) (N := 8) (v := .int (S.1 66)) C rfl ⟨rfl, rfl⟩ am_79 rfl lay_3 kk_3_6 fl_3_24 rfl dX3_doAgain_38 ?_
      refine c_iald (i := 63) (v := S.2.1 63 (S.1 66).toNatClampNeg) C rfl am_63 ak_63 rfl rfl dX3_doAgain_41 ?_
      refine k_aload_n (q := 0) C dX3_doAgain_42 rfl rfl ?_
      refine c_get (b := 60) (ci := 3) (kf := 5) (N := 8) C rfl ⟨rfl, rfl⟩ am_79 rfl lay_3 kk_3_5 fl_3_21 rfl dX3_doAgain_43 ?_
      refine k_aload_n (q := 0) C dX3_doAgain_46 rfl rfl ?_
      refine c_get (b := 60) (ci := 3) (kf := 6) (N := 8) (v := .int (S.1 66)) C rfl ⟨rfl, rfl⟩ am_79 rfl lay_3 kk_3_6 fl_3_24 rfl dX3_doAgain_47 ?_
      refine c_iald (i := 65) (v := S.2.1 65 (S.1 66).toNatClampNeg) C rfl am_65 ak_65 rfl rfl dX3_doAgain_50 ?_
      refine k_cVV C ct_X3_set my_3_set ml_3_62 rfl ⟨Nat.le_of_ble_eq_true rfl, Nat.le_of_ble_eq_true rfl⟩ (recvC (b := 60) (ci := 3) rfl ⟨rfl, rfl⟩ am_79 rfl rfl) rfl (Nat.le_of_ble_eq_true rfl) dX3_doAgain_51 ⟨Nat.le_refl _, Nat.le_refl _⟩ (fun r1 _ => ?_)
      refine k_aload_n (q := 0) C dX3_doAgain_54 rfl rfl ?_
      refine k_dup C dX3_doAgain_55 rfl ?_
      refine c_get (b := 60) (ci := 3) (kf := 6) (N := 8) (v := .int (r1.1 66)) C rfl ⟨rfl, rfl⟩ am_79 rfl lay_3 kk_3_6 fl_3_24 rfl dX3_doAgain_56 ?_
      refine k_iconst (v := 1) C dX3_doAgain_59 rfl ?_
      refine k_iadd C dX3_doAgain_60 ?_
      refine c_puti (b := 60) (ci := 3) (kf := 6) (N := 8) C rfl ⟨rfl, rfl⟩ am_79 rfl lay_3 tyX3 tyX3_ok nmX3 kk_3_6 fl_3_24 pf_3_6 dX3_doAgain_61 ?_
      refine k_aload_n (q := 0) C dX3_doAgain_64 rfl rfl ?_
      refine c_get (b := 60) (ci := 3) (kf := 7) (N := 8) (v := .int (r1.1 67)) C rfl ⟨rfl, rfl⟩ am_79 rfl lay_3 kk_3_7 fl_3_28 rfl dX3_doAgain_65 ?_
      refine k_aload_n (q := 0) C dX3_doAgain_68 rfl rfl ?_
      refine c_get (b := 60) (ci := 3) (kf := 6) (N := 8) (v := .int ((r1.1 66) + 1)) C rfl ⟨rfl, rfl⟩ am_79 rfl lay_3 kk_3_6 fl_3_24 rfl dX3_doAgain_69 ?_
      refine k_isub C dX3_doAgain_72 ?_
      exact k_iret C rfl ⟨rfl, rfl⟩ dX3_doAgain_73
    · refine k_bipush (v := (-5)) C dX3_doAgain_20 rfl ?_
      exact k_iret C rfl ⟨rfl, rfl⟩ dX3_doAgain_22
theorem ct_X3_doAgain {l : Launch} {θ : TH} {ad Y : Nat → Nat} {S : St} {Z : Zt}   : ∀ r, f_X3_doAgain Z S = some r → Ct l θ yX3_doAgain cX3_doAgain 1 (some .int) 3 0 0 [.ref (ad 79)] (wdC θ ad Y Z S) (PIS (wdC θ ad Y Z) r) :=
  fun r hr => Ct.of (by decide +kernel) (Nat.le_of_ble_eq_true rfl) (fun X _ C _ => kw_X3_doAgain C  r hr)
set_option maxRecDepth 20000 in
theorem kw_X5_size {X : GX} {θ : TH} {ad Y : Nat → Nat} {Z : Zt} {S : St}  (C : CX (mE X θ (wdC θ ad Y Z S) 1) RX5 cX5_size (some .int) 0 0 0)  : Dk (mE X θ (wdC θ ad Y Z S) 1) (mT X θ (wdC θ ad Y Z S) 1 (PI (wdC θ ad Y Z S))) 0 0 (wdC θ ad Y Z S) [(0, .ref (ad 119))] [] 0 (f_X5_size Z S) := by
  show Dk _ _ _ _ _ _ _ _ (some (S.1 101))
  refine k_aload_n (q := 0) C dX5_size_0 rfl rfl ?_
  refine c_get (b := 100) (ci := 5) (kf := 1) (N := 5) (v := .int (S.1 101)) C rfl ⟨rfl, rfl⟩ am_119 rfl lay_5 kk_5_1 fl_5_15 rfl dX5_size_1 ?_
  exact k_iret C rfl ⟨rfl, rfl⟩ dX5_size_4
theorem ct_X5_size {l : Launch} {θ : TH} {ad Y : Nat → Nat} {S : St} {Z : Zt}   : ∀ r, f_X5_size Z S = some r → Ct l θ yX5_size cX5_size 1 (some .int) 0 0 0 [.ref (ad 119)] (wdC θ ad Y Z S) (PI (wdC θ ad Y Z S) r) :=
  fun r hr => Ct.of (by decide +kernel) (Nat.le_of_ble_eq_true rfl) (fun X _ C _ => kw_X5_size C  r hr)
set_option maxRecDepth 20000 in
theorem kw_X5_take {X : GX} {θ : TH} {ad Y : Nat → Nat} {Z : Zt} {S : St} {a1 : Int32} (C : CX (mE X θ (wdC θ ad Y Z S) 2) RX5 cX5_take (some .int) 0 0 0)  : Dk (mE X θ (wdC θ ad Y Z S) 2) (mT X θ (wdC θ ad Y Z S) 2 (PIS (wdC θ ad Y Z))) 0 0 (wdC θ ad Y Z S) [(0, .ref (ad 119)), (1, .int a1)] [] 0 (f_X5_take Z S a1) := by
  show Dk _ _ _ _ _ _ _ _ (if (S.1 101) < 120 then chk (inr (S.1 101) 120) (some ((S.1 101) + 1, sf (sa S 100 (S.1 101).toNatClampNeg a1) 101 ((S.1 101) + 1))) else some ((-3 : Int32), S))
  refine k_aload_n (q := 0) C dX5_take_0 rfl rfl ?_
  refine c_get (b := 100) (ci := 5) (kf := 1) (N := 5) (v := .int (S.1 101)) C rfl ⟨rfl, rfl⟩ am_119 rfl lay_5 kk_5_1 fl_5_15 rfl dX5_take_1 ?_
  refine k_bipush (v := 120) C dX5_take_4 rfl ?_
  refine k_icmp_lt (tgt := 12) C dX5_take_6 (by decide) (fun _ => ?_) (fun _ => ?_)
  · refine k_aload_n (q := 0) C dX5_take_12 rfl rfl ?_
    refine c_get (b := 100) (ci := 5) (kf := 0) (N := 5) C rfl ⟨rfl, rfl⟩ am_119 rfl lay_5 kk_5_0 fl_5_9 rfl dX5_take_13 ?_
    refine k_aload_n (q := 0) C dX5_take_16 rfl rfl ?_
    refine c_get (b := 100) (ci := 5) (kf := 1) (N := 5) (v := .int (S.1 101)) C rfl ⟨rfl, rfl⟩ am_119 rfl lay_5 kk_5_1 fl_5_15 rfl dX5_take_17 ?_
    refine k_iload_n (q := 1) C dX5_take_20 rfl rfl ?_
    refine c_iast (i := 100) C rfl am_100 ak_100 rfl dX5_take_21 ?_
    refine k_aload_n (q := 0) C dX5_take_22 rfl rfl ?_
    refine k_dup C dX5_take_23 rfl ?_
    refine c_get (b := 100) (ci := 5) (kf := 1) (N := 5) (v := .int (S.1 101)) C rfl ⟨rfl, rfl⟩ am_119 rfl lay_5 kk_5_1 fl_5_15 rfl dX5_take_24 ?_
    refine k_iconst (v := 1) C dX5_take_27 rfl ?_
    refine k_iadd C dX5_take_28 ?_
    refine c_puti (b := 100) (ci := 5) (kf := 1) (N := 5) C rfl ⟨rfl, rfl⟩ am_119 rfl lay_5 tyX5 tyX5_ok nmX5 kk_5_1 fl_5_15 pf_5_1 dX5_take_29 ?_
    refine k_aload_n (q := 0) C dX5_take_32 rfl rfl ?_
    refine c_get (b := 100) (ci := 5) (kf := 1) (N := 5) (v := .int ((S.1 101) + 1)) C rfl ⟨rfl, rfl⟩ am_119 rfl lay_5 kk_5_1 fl_5_15 rfl dX5_take_33 ?_
    exact k_iret C rfl ⟨rfl, rfl⟩ dX5_take_36
  · refine k_bipush (v := (-3)) C dX5_take_9 rfl ?_
    exact k_iret C rfl ⟨rfl, rfl⟩ dX5_take_11
theorem ct_X5_take {l : Launch} {θ : TH} {ad Y : Nat → Nat} {S : St} {Z : Zt} {a1 : Int32}  : ∀ r, f_X5_take Z S a1 = some r → Ct l θ yX5_take cX5_take 2 (some .int) 0 0 0 [.ref (ad 119), .int a1] (wdC θ ad Y Z S) (PIS (wdC θ ad Y Z) r) :=
  fun r hr => Ct.of (by decide +kernel) (Nat.le_of_ble_eq_true rfl) (fun X _ C _ => kw_X5_take C  r hr)
set_option maxRecDepth 20000 in
theorem kw_X5_ahead {X : GX} {θ : TH} {ad Y : Nat → Nat} {Z : Zt} {S : St}  (C : CX (mE X θ (wdC θ ad Y Z S) 1) RX5 cX5_ahead (some .int) 0 0 0)  : Dk (mE X θ (wdC θ ad Y Z S) 1) (mT X θ (wdC θ ad Y Z S) 1 (PI (wdC θ ad Y Z S))) 0 0 (wdC θ ad Y Z S) [(0, .ref (ad 119))] [] 0 (f_X5_ahead Z S) := by
  show Dk _ _ _ _ _ _ _ _ (if (S.1 103) = (-1) then if (S.1 102) < 0 then some ((-2 : Int32)) else if (S.1 101) ≤ (S.1 102) then some ((-2 : Int32)) else if (120 : Int32) ≤ (S.1 102) then some ((-2 : Int32)) else chk (inr (S.1 102) 120) (some (S.2.1 100 (S.1 102).toNatClampNeg)) else some ((-2 : Int32)))
  refine k_aload_n (q := 0) C dX5_ahead_0 rfl rfl ?_
  refine c_get (b := 100) (ci := 5) (kf := 3) (N := 5) (v := .int (S.1 103)) C rfl ⟨rfl, rfl⟩ am_119 rfl lay_5 kk_5_3 fl_5_22 rfl dX5_ahead_1 ?_
  refine k_iconst (v := (-1)) C dX5_ahead_4 rfl ?_
  refine k_icmp_ne (tgt := 47) C dX5_ahead_5 (by decide) (fun _ => ?_) (fun _ => ?_)
  · refine k_bipush (v := (-2)) C dX5_ahead_47 rfl ?_
    exact k_iret C rfl ⟨rfl, rfl⟩ dX5_ahead_49
  · refine k_aload_n (q := 0) C dX5_ahead_8 rfl rfl ?_
    refine c_get (b := 100) (ci := 5) (kf := 2) (N := 5) (v := .int (S.1 102)) C rfl ⟨rfl, rfl⟩ am_119 rfl lay_5 kk_5_2 fl_5_19 rfl dX5_ahead_9 ?_
    refine k_if_lt (tgt := 47) C dX5_ahead_12 (by decide) (fun _ => ?_) (fun _ => ?_)
    · refine k_bipush (v := (-2)) C dX5_ahead_47 rfl ?_
      exact k_iret C rfl ⟨rfl, rfl⟩ dX5_ahead_49
    · refine k_aload_n (q := 0) C dX5_ahead_15 rfl rfl ?_
      refine c_get (b := 100) (ci := 5) (kf := 2) (N := 5) (v := .int (S.1 102)) C rfl ⟨rfl, rfl⟩ am_119 rfl lay_5 kk_5_2 fl_5_19 rfl dX5_ahead_16 ?_
      refine k_aload_n (q := 0) C dX5_ahead_19 rfl rfl ?_
      refine c_get (b := 100) (ci := 5) (kf := 1) (N := 5) (v := .int (S.1 101)) C rfl ⟨rfl, rfl⟩ am_119 rfl lay_5 kk_5_1 fl_5_15 rfl dX5_ahead_20 ?_
      refine k_icmp_ge (tgt := 47) C dX5_ahead_23 (by decide) (fun _ => ?_) (fun _ => ?_)
      · refine k_bipush (v := (-2)) C dX5_ahead_47 rfl ?_
        exact k_iret C rfl ⟨rfl, rfl⟩ dX5_ahead_49
      · refine k_aload_n (q := 0) C dX5_ahead_26 rfl rfl ?_
        refine c_get (b := 100) (ci := 5) (kf := 2) (N := 5) (v := .int (S.1 102)) C rfl ⟨rfl, rfl⟩ am_119 rfl lay_5 kk_5_2 fl_5_19 rfl dX5_ahead_27 ?_
        refine k_bipush (v := 120) C dX5_ahead_30 rfl ?_
        refine k_icmp_ge (tgt := 47) C dX5_ahead_32 (by decide) (fun _ => ?_) (fun _ => ?_)
        · refine k_bipush (v := (-2)) C dX5_ahead_47 rfl ?_
          exact k_iret C rfl ⟨rfl, rfl⟩ dX5_ahead_49
        · refine k_aload_n (q := 0) C dX5_ahead_35 rfl rfl ?_
          refine c_get (b := 100) (ci := 5) (kf := 0) (N := 5) C rfl ⟨rfl, rfl⟩ am_119 rfl lay_5 kk_5_0 fl_5_9 rfl dX5_ahead_36 ?_
          refine k_aload_n (q := 0) C dX5_ahead_39 rfl rfl ?_
          refine c_get (b := 100) (ci := 5) (kf := 2) (N := 5) (v := .int (S.1 102)) C rfl ⟨rfl, rfl⟩ am_119 rfl lay_5 kk_5_2 fl_5_19 rfl dX5_ahead_40 ?_
          refine c_iald (i := 100) (v := S.2.1 100 (S.1 102).toNatClampNeg) C rfl am_100 ak_100 rfl rfl dX5_ahead_43 ?_
          refine k_goto (tgt := 49) C dX5_ahead_44 (by decide) ?_
          exact k_iret C rfl ⟨rfl, rfl⟩ dX5_ahead_49
theorem ct_X5_ahead {l : Launch} {θ : TH} {ad Y : Nat → Nat} {S : St} {Z : Zt}   : ∀ r, f_X5_ahead Z S = some r → Ct l θ yX5_ahead cX5_ahead 1 (some .int) 0 0 0 [.ref (ad 119)] (wdC θ ad Y Z S) (PI (wdC θ ad Y Z S) r) :=
  fun r hr => Ct.of (by decide +kernel) (Nat.le_of_ble_eq_true rfl) (fun X _ C _ => kw_X5_ahead C  r hr)
set_option maxRecDepth 20000 in
theorem kw_X5_took {X : GX} {θ : TH} {ad Y : Nat → Nat} {Z : Zt} {S : St} {a1 : Int32} (C : CX (mE X θ (wdC θ ad Y Z S) 2) RX5 cX5_took (some .boolean) 1 0 0)  : Dk (mE X θ (wdC θ ad Y Z S) 2) (mT X θ (wdC θ ad Y Z S) 2 (PIS (wdC θ ad Y Z))) 0 0 (wdC θ ad Y Z S) [(0, .ref (ad 119)), (1, .int a1)] [] 0 (f_X5_took Z S a1) := by
  show Dk _ _ _ _ _ _ _ _ ((f_X5_ahead Z S).bind fun r1 => (if r1 = a1 then some ((1 : Int32), sf S 102 ((S.1 102) + 1)) else some ((0 : Int32), S)))
  refine k_aload_n (q := 0) C dX5_took_0 rfl rfl ?_
  refine k_cVI C ct_X5_ahead my_5_ahead ml_5_67 rfl ⟨Nat.le_of_ble_eq_true rfl, Nat.le_of_ble_eq_true rfl⟩ (recvC (b := 100) (ci := 5) rfl ⟨rfl, rfl⟩ am_119 rfl rfl) rfl (Nat.le_of_ble_eq_true rfl) dX5_took_1 ⟨Nat.le_refl _, Nat.le_refl _⟩ (fun r1 _ => ?_)
  refine k_iload_n (q := 1) C dX5_took_4 rfl rfl ?_
  refine k_icmp_eq (tgt := 10) C dX5_took_5 (by decide) (fun _ => ?_) (fun _ => ?_)
  · refine k_aload_n (q := 0) C dX5_took_10 rfl rfl ?_
    refine k_dup C dX5_took_11 rfl ?_
    refine c_get (b := 100) (ci := 5) (kf := 2) (N := 5) (v := .int (S.1 102)) C rfl ⟨rfl, rfl⟩ am_119 rfl lay_5 kk_5_2 fl_5_19 rfl dX5_took_12 ?_
    refine k_iconst (v := 1) C dX5_took_15 rfl ?_
    refine k_iadd C dX5_took_16 ?_
    refine c_puti (b := 100) (ci := 5) (kf := 2) (N := 5) C rfl ⟨rfl, rfl⟩ am_119 rfl lay_5 tyX5 tyX5_ok nmX5 kk_5_2 fl_5_19 pf_5_2 dX5_took_17 ?_
    refine k_iconst (v := 1) C dX5_took_20 rfl ?_
    exact k_iret C rfl ⟨rfl, rfl⟩ dX5_took_21
  · refine k_iconst (v := 0) C dX5_took_8 rfl ?_
    exact k_iret C rfl ⟨rfl, rfl⟩ dX5_took_9
theorem ct_X5_took {l : Launch} {θ : TH} {ad Y : Nat → Nat} {S : St} {Z : Zt} {a1 : Int32}  : ∀ r, f_X5_took Z S a1 = some r → Ct l θ yX5_took cX5_took 2 (some .boolean) 1 0 0 [.ref (ad 119), .int a1] (wdC θ ad Y Z S) (PIS (wdC θ ad Y Z) r) :=
  fun r hr => Ct.of (by decide +kernel) (Nat.le_of_ble_eq_true rfl) (fun X _ C _ => kw_X5_took C  r hr)
set_option maxRecDepth 20000 in
theorem kw_X5_failed {X : GX} {θ : TH} {ad Y : Nat → Nat} {Z : Zt} {S : St}  (C : CX (mE X θ (wdC θ ad Y Z S) 1) RX5 cX5_failed (some .int) 0 0 0)  : Dk (mE X θ (wdC θ ad Y Z S) 1) (mT X θ (wdC θ ad Y Z S) 1 (PIS (wdC θ ad Y Z))) 0 0 (wdC θ ad Y Z S) [(0, .ref (ad 119))] [] 0 (f_X5_failed Z S) := by
  show Dk _ _ _ _ _ _ _ _ (if (S.1 103) = (-1) then some ((-1 : Int32), sf S 103 (S.1 102)) else some ((-1 : Int32), S))
  refine k_aload_n (q := 0) C dX5_failed_0 rfl rfl ?_
  refine c_get (b := 100) (ci := 5) (kf := 3) (N := 5) (v := .int (S.1 103)) C rfl ⟨rfl, rfl⟩ am_119 rfl lay_5 kk_5_3 fl_5_22 rfl dX5_failed_1 ?_
  refine k_iconst (v := (-1)) C dX5_failed_4 rfl ?_
  refine k_icmp_ne (tgt := 16) C dX5_failed_5 (by decide) (fun _ => ?_) (fun _ => ?_)
  · refine k_iconst (v := (-1)) C dX5_failed_16 rfl ?_
    exact k_iret C rfl ⟨rfl, rfl⟩ dX5_failed_17
  · refine k_aload_n (q := 0) C dX5_failed_8 rfl rfl ?_
    refine k_aload_n (q := 0) C dX5_failed_9 rfl rfl ?_
    refine c_get (b := 100) (ci := 5) (kf := 2) (N := 5) (v := .int (S.1 102)) C rfl ⟨rfl, rfl⟩ am_119 rfl lay_5 kk_5_2 fl_5_19 rfl dX5_failed_10 ?_
    refine c_puti (b := 100) (ci := 5) (kf := 3) (N := 5) C rfl ⟨rfl, rfl⟩ am_119 rfl lay_5 tyX5 tyX5_ok nmX5 kk_5_3 fl_5_22 pf_5_3 dX5_failed_13 ?_
    refine k_iconst (v := (-1)) C dX5_failed_16 rfl ?_
    exact k_iret C rfl ⟨rfl, rfl⟩ dX5_failed_17
theorem ct_X5_failed {l : Launch} {θ : TH} {ad Y : Nat → Nat} {S : St} {Z : Zt}   : ∀ r, f_X5_failed Z S = some r → Ct l θ yX5_failed cX5_failed 1 (some .int) 0 0 0 [.ref (ad 119)] (wdC θ ad Y Z S) (PIS (wdC θ ad Y Z) r) :=
  fun r hr => Ct.of (by decide +kernel) (Nat.le_of_ble_eq_true rfl) (fun X _ C _ => kw_X5_failed C  r hr)
set_option maxRecDepth 20000 in
theorem kw_X8_addStep_1060 {X : GX} {θ : TH} {ad Y : Nat → Nat} {Z : Zt} {S : St} {a1 : Int32} {a2 : Int32} {a3 : Int32} (C : CX (mE X θ (wdC θ ad Y Z S) 4) RX8 cX8_addStep (some .int) 0 0 0)  : Dk (mE X θ (wdC θ ad Y Z S) 4) (mT X θ (wdC θ ad Y Z S) 4 (PIS (wdC θ ad Y Z))) 0 0 (wdC θ ad Y Z S) [(0, .ref (Y 1079)), (1, .int a1), (2, .int a2), (3, .int a3)] [] 0 (f_X8_addStep 1060 Z S a1 a2 a3) := by
  show Dk _ _ _ _ _ _ _ _ (if (S.1 1065) < 120 then chk (inr (S.1 1065) 120) (chk (inr (S.1 1065) 120) (chk (inr (S.1 1065) 120) (some (S.1 1065, sf (sa (sa (sa S 1060 (S.1 1065).toNatClampNeg a1) 1061 (S.1 1065).toNatClampNeg a2) 1062 (S.1 1065).toNatClampNeg a3) 1065 ((S.1 1065) + 1))))) else some ((-1 : Int32), S))
  refine k_aload_n (q := 0) C dX8_addStep_0 rfl rfl ?_
  refine c_get (b := 1060) (ci := 8) (kf := 5) (N := 7) (v := .int (S.1 1065)) C rfl ⟨rfl, rfl⟩ am_1079 rfl lay_8 kk_8_5 fl_8_27 rfl dX8_addStep_1 ?_
  refine k_bipush (v := 120) C dX8_addStep_4 rfl ?_
  refine k_icmp_lt (tgt := 11) C dX8_addStep_6 (by decide) (fun _ => ?_) (fun _ => ?_)
  · refine k_aload_n (q := 0) C dX8_addStep_11 rfl rfl ?_
    refine c_get (b := 1060) (ci := 8) (kf := 0) (N := 7) C rfl ⟨rfl, rfl⟩ am_1079 rfl lay_8 kk_8_0 fl_8_9 rfl dX8_addStep_12 ?_
    refine k_aload_n (q := 0) C dX8_addStep_15 rfl rfl ?_
    refine c_get (b := 1060) (ci := 8) (kf := 5) (N := 7) (v := .int (S.1 1065)) C rfl ⟨rfl, rfl⟩ am_1079 rfl lay_8 kk_8_5 fl_8_27 rfl dX8_addStep_16 ?_
    refine k_iload_n (q := 1) C dX8_addStep_19 rfl rfl ?_
    refine c_iast (i := 1060) C rfl am_1060 ak_1060 rfl dX8_addStep_20 ?_
    refine k_aload_n (q := 0) C dX8_addStep_21 rfl rfl ?_
    refine c_get (b := 1060) (ci := 8) (kf := 1) (N := 7) C rfl ⟨rfl, rfl⟩ am_1079 rfl lay_8 kk_8_1 fl_8_15 rfl dX8_addStep_22 ?_
    refine k_aload_n (q := 0) C dX8_addStep_25 rfl rfl ?_
    refine c_get (b := 1060) (ci := 8) (kf := 5) (N := 7) (v := .int (S.1 1065)) C rfl ⟨rfl, rfl⟩ am_1079 rfl lay_8 kk_8_5 fl_8_27 rfl dX8_addStep_26 ?_
    refine k_iload_n (q := 2) C dX8_addStep_29 rfl rfl ?_
    refine c_iast (i := 1061) C rfl am_1061 ak_1061 rfl dX8_addStep_30 ?_
    refine k_aload_n (q := 0) C dX8_addStep_31 rfl rfl ?_
    refine c_get (b := 1060) (ci := 8) (kf := 2) (N := 7) C rfl ⟨rfl, rfl⟩ am_1079 rfl lay_8 kk_8_2 fl_8_18 rfl dX8_addStep_32 ?_
    refine k_aload_n (q := 0) C dX8_addStep_35 rfl rfl ?_
    refine c_get (b := 1060) (ci := 8) (kf := 5) (N := 7) (v := .int (S.1 1065)) C rfl ⟨rfl, rfl⟩ am_1079 rfl lay_8 kk_8_5 fl_8_27 rfl dX8_addStep_36 ?_
    refine k_iload_n (q := 3) C dX8_addStep_39 rfl rfl ?_
    refine c_iast (i := 1062) C rfl am_1062 ak_1062 rfl dX8_addStep_40 ?_
    refine k_aload_n (q := 0) C dX8_addStep_41 rfl rfl ?_
    refine k_dup C dX8_addStep_42 rfl ?_
    refine c_get (b := 1060) (ci := 8) (kf := 5) (N := 7) (v := .int (S.1 1065)) C rfl ⟨rfl, rfl⟩ am_1079 rfl lay_8 kk_8_5 fl_8_27 rfl dX8_addStep_43 ?_
    refine k_dup_x1 C dX8_addStep_46 rfl rfl ?_
    refine k_iconst (v := 1) C dX8_addStep_47 rfl ?_
    refine k_iadd C dX8_addStep_48 ?_
    refine c_puti (b := 1060) (ci := 8) (kf := 5) (N := 7) C rfl ⟨rfl, rfl⟩ am_1079 rfl lay_8 tyX8 tyX8_ok nmX8 kk_8_5 fl_8_27 pf_8_5 dX8_addStep_49 ?_
    exact k_iret C rfl ⟨rfl, rfl⟩ dX8_addStep_52
  · refine k_iconst (v := (-1)) C dX8_addStep_9 rfl ?_
    exact k_iret C rfl ⟨rfl, rfl⟩ dX8_addStep_10
theorem ct_X8_addStep_1060 {l : Launch} {θ : TH} {ad Y : Nat → Nat} {S : St} {Z : Zt} {a1 : Int32} {a2 : Int32} {a3 : Int32}  : ∀ r, f_X8_addStep 1060 Z S a1 a2 a3 = some r → Ct l θ yX8_addStep cX8_addStep 4 (some .int) 0 0 0 [.ref (Y 1079), .int a1, .int a2, .int a3] (wdC θ ad Y Z S) (PIS (wdC θ ad Y Z) r) :=
  fun r hr => Ct.of (by decide +kernel) (Nat.le_of_ble_eq_true rfl) (fun X _ C _ => kw_X8_addStep_1060 C  r hr)
set_option maxRecDepth 20000 in
theorem kw_X5_opened {X : GX} {θ : TH} {ad Y : Nat → Nat} {d : Nat} {F : Nat} {Z : Zt} {g : Nat → St → Int32 → Int32 → Option (Int32 × St)} {S : St} {a1 : Int32} {a2 : Int32} (C : CX (mE X θ (wdC θ ad Y Z S) 4) RX5 cX5_opened (some .int) (2 + (d + 1)) 0 0) (hg_operand : ∀ (S : St) (a1 : Int32) (r : Int32 × St), g 5 S a1 0 = some r → Ct X.2.1 θ yX5_operand cX5_operand 4 (some .int) (2 + d) 0 0 [.ref (ad 119), .int a1] (wdC θ ad Y Z S) (PIS (wdC θ ad Y Z) r)) (hg_anyOf : ∀ (S : St) (a1 : Int32) (r : Int32 × St), g 0 S a1 0 = some r → Ct X.2.1 θ yX5_anyOf cX5_anyOf 4 (some .int) (2 + d) 0 0 [.ref (ad 119), .int a1] (wdC θ ad Y Z S) (PIS (wdC θ ad Y Z) r)) : Dk (mE X θ (wdC θ ad Y Z S) 4) (mT X θ (wdC θ ad Y Z S) 4 (PIS (wdC θ ad Y Z))) 0 0 (wdC θ ad Y Z S) [(0, .ref (ad 119)), (1, .int a1), (2, .int a2)] [] 0 (f_X5_opened F Z g S a1 a2) := by
  show Dk _ _ _ _ _ _ _ _ (if a1 = 33 then (g 5 (sf S 102 ((S.1 102) + 1)) a2 0).bind fun r6 => (f_X8_addStep 1060 Z r6.2 33 r6.1 (-1)).bind fun r7 => some (r7.1, r7.2) else if a1 = 45 then (g 5 (sf S 102 ((S.1 102) + 1)) a2 0).bind fun r4 => (f_X8_addStep 1060 Z r4.2 126 r4.1 (-1)).bind fun r5 => some (r5.1, r5.2) else (g 0 (sf S 102 ((S.1 102) + 1)) a2 0).bind fun r1 => (f_X5_took Z r1.2 41).bind fun r2 => (if r2.1 = 0 then (f_X5_failed Z r2.2).bind fun r3 => some (r3.1, r3.2) else some (r1.1, r2.2)))
  refine k_aload_n (q := 0) C dX5_opened_0 rfl rfl ?_
  refine k_dup C dX5_opened_1 rfl ?_
  refine c_get (b := 100) (ci := 5) (kf := 2) (N := 5) (v := .int (S.1 102)) C rfl ⟨rfl, rfl⟩ am_119 rfl lay_5 kk_5_2 fl_5_19 rfl dX5_opened_2 ?_
  refine k_iconst (v := 1) C dX5_opened_5 rfl ?_
  refine k_iadd C dX5_opened_6 ?_
  refine c_puti (b := 100) (ci := 5) (kf := 2) (N := 5) C rfl ⟨rfl, rfl⟩ am_119 rfl lay_5 tyX5 tyX5_ok nmX5 kk_5_2 fl_5_19 pf_5_2 dX5_opened_7 ?_
  refine k_iload_n (q := 1) C dX5_opened_10 rfl rfl ?_
  refine k_bipush (v := 33) C dX5_opened_11 rfl ?_
  refine k_icmp_ne (tgt := 32) C dX5_opened_13 (by decide) (fun _ => ?_) (fun _ => ?_)
  · refine k_iload_n (q := 1) C dX5_opened_32 rfl rfl ?_
    refine k_bipush (v := 45) C dX5_opened_33 rfl ?_
    refine k_icmp_ne (tgt := 54) C dX5_opened_35 (by decide) (fun _ => ?_) (fun _ => ?_)
    · refine k_aload_n (q := 0) C dX5_opened_54 rfl rfl ?_
      refine k_iload_n (q := 2) C dX5_opened_55 rfl rfl ?_
      refine k_cVI C (hg_anyOf _ _) my_5_anyOf ml_5_46 rfl ⟨Nat.le_refl _, Nat.le_of_ble_eq_true rfl⟩ (recvC (b := 100) (ci := 5) rfl ⟨rfl, rfl⟩ am_119 rfl rfl) rfl (Nat.le_of_ble_eq_true rfl) dX5_opened_56 ⟨Nat.le_refl _, Nat.le_refl _⟩ (fun r1 _ => ?_)
      refine k_istore_n (lv' := [(3, .int r1.1), (0, .ref (ad 119)), (1, .int a1), (2, .int a2)]) C dX5_opened_59 rfl (Nat.le_of_ble_eq_true rfl) rfl ?_
      refine k_aload_n (q := 1) C dX5_opened_60 rfl rfl ?_
      refine k_bipush (v := 41) C dX5_opened_61 rfl ?_
      refine k_cVI C ct_X5_took my_5_took ml_5_38 rfl ⟨by omega, Nat.le_of_ble_eq_true rfl⟩ (recvC (b := 100) (ci := 5) rfl ⟨rfl, rfl⟩ am_119 rfl rfl) rfl (Nat.le_of_ble_eq_true rfl) dX5_opened_63 ⟨Nat.le_refl _, Nat.le_refl _⟩ (fun r2 _ => ?_)
      refine k_if_eq (tgt := 73) C dX5_opened_66 (by decide) (fun _ => ?_) (fun _ => ?_)
      · refine k_aload_n (q := 1) C dX5_opened_73 rfl rfl ?_
        refine k_cVI C ct_X5_failed my_5_failed ml_5_42 rfl ⟨by omega, Nat.le_of_ble_eq_true rfl⟩ (recvC (b := 100) (ci := 5) rfl ⟨rfl, rfl⟩ am_119 rfl rfl) rfl (Nat.le_of_ble_eq_true rfl) dX5_opened_74 ⟨Nat.le_refl _, Nat.le_refl _⟩ (fun r3 _ => ?_)
        exact k_iret C rfl ⟨rfl, rfl⟩ dX5_opened_77
      · refine k_iload_n (q := 0) C dX5_opened_69 rfl rfl ?_
        refine k_goto (tgt := 77) C dX5_opened_70 (by decide) ?_
        exact k_iret C rfl ⟨rfl, rfl⟩ dX5_opened_77
    · refine k_aload_n (q := 0) C dX5_opened_38 rfl rfl ?_
      refine c_get (b := 100) (ci := 5) (kf := 4) (N := 5) C rfl ⟨rfl, rfl⟩ am_119 rfl lay_5 kk_5_4 fl_5_28 rfl dX5_opened_39 ?_
      refine k_bipush (v := 126) C dX5_opened_42 rfl ?_
      refine k_aload_n (q := 0) C dX5_opened_44 rfl rfl ?_
      refine k_iload_n (q := 2) C dX5_opened_45 rfl rfl ?_
      refine k_cVI C (hg_operand _ _) my_5_operand ml_5_73 rfl ⟨Nat.le_refl _, Nat.le_of_ble_eq_true rfl⟩ (recvC (b := 100) (ci := 5) rfl ⟨rfl, rfl⟩ am_119 rfl rfl) rfl (Nat.le_of_ble_eq_true rfl) dX5_opened_46 ⟨Nat.le_refl _, Nat.le_refl _⟩ (fun r4 _ => ?_)
      refine k_iconst (v := (-1)) C dX5_opened_49 rfl ?_
      refine k_cVI C ct_X8_addStep_1060 my_8_addStep ml_5_57 rfl ⟨by omega, Nat.le_of_ble_eq_true rfl⟩ (recvC (b := 1060) (ci := 8) rfl ⟨rfl, rfl⟩ am_1079 rfl rfl) rfl (Nat.le_of_ble_eq_true rfl) dX5_opened_50 ⟨Nat.le_refl _, Nat.le_refl _⟩ (fun r5 _ => ?_)
      exact k_iret C rfl ⟨rfl, rfl⟩ dX5_opened_53
  · refine k_aload_n (q := 0) C dX5_opened_16 rfl rfl ?_
    refine c_get (b := 100) (ci := 5) (kf := 4) (N := 5) C rfl ⟨rfl, rfl⟩ am_119 rfl lay_5 kk_5_4 fl_5_28 rfl dX5_opened_17 ?_
    refine k_bipush (v := 33) C dX5_opened_20 rfl ?_
    refine k_aload_n (q := 0) C dX5_opened_22 rfl rfl ?_
    refine k_iload_n (q := 2) C dX5_opened_23 rfl rfl ?_
    refine k_cVI C (hg_operand _ _) my_5_operand ml_5_73 rfl ⟨Nat.le_refl _, Nat.le_of_ble_eq_true rfl⟩ (recvC (b := 100) (ci := 5) rfl ⟨rfl, rfl⟩ am_119 rfl rfl) rfl (Nat.le_of_ble_eq_true rfl) dX5_opened_24 ⟨Nat.le_refl _, Nat.le_refl _⟩ (fun r6 _ => ?_)
    refine k_iconst (v := (-1)) C dX5_opened_27 rfl ?_
    refine k_cVI C ct_X8_addStep_1060 my_8_addStep ml_5_57 rfl ⟨by omega, Nat.le_of_ble_eq_true rfl⟩ (recvC (b := 1060) (ci := 8) rfl ⟨rfl, rfl⟩ am_1079 rfl rfl) rfl (Nat.le_of_ble_eq_true rfl) dX5_opened_28 ⟨Nat.le_refl _, Nat.le_refl _⟩ (fun r7 _ => ?_)
    exact k_iret C rfl ⟨rfl, rfl⟩ dX5_opened_31
theorem ct_X5_opened {l : Launch} {θ : TH} {ad Y : Nat → Nat} {S : St} {d : Nat} {F : Nat} {Z : Zt} {g : Nat → St → Int32 → Int32 → Option (Int32 × St)} {a1 : Int32} {a2 : Int32} (hg_operand : ∀ (S : St) (a1 : Int32) (r : Int32 × St), g 5 S a1 0 = some r → Ct l θ yX5_operand cX5_operand 4 (some .int) (2 + d) 0 0 [.ref (ad 119), .int a1] (wdC θ ad Y Z S) (PIS (wdC θ ad Y Z) r)) (hg_anyOf : ∀ (S : St) (a1 : Int32) (r : Int32 × St), g 0 S a1 0 = some r → Ct l θ yX5_anyOf cX5_anyOf 4 (some .int) (2 + d) 0 0 [.ref (ad 119), .int a1] (wdC θ ad Y Z S) (PIS (wdC θ ad Y Z) r)) : ∀ r, f_X5_opened F Z g S a1 a2 = some r → Ct l θ yX5_opened cX5_opened 4 (some .int) (2 + (d + 1)) 0 0 [.ref (ad 119), .int a1, .int a2] (wdC θ ad Y Z S) (PIS (wdC θ ad Y Z) r) :=
  fun r hr => Ct.of (by decide) (Nat.le_of_ble_eq_true rfl) (fun X hX C _ => by subst hX; exact kw_X5_opened C hg_operand hg_anyOf r hr)
set_option maxRecDepth 20000 in
theorem kw_X5_isDigit {X : GX} {θ : TH} {ws : va_W} {o : Nat}   {a1 : Int32} (C : CX (mE X θ (ws) 2) RX5 cX5_isDigit (some .boolean) 0 0 0)  : Dk (mE X θ (ws) 2) (mT X θ (ws) 2 (PI ws)) 0 0 ws [(0, .ref o), (1, .int a1)] [] 0 (f_X5_isDigit a1) := by
  show Dk _ _ _ _ _ _ _ _ (if a1 < 48 then some ((0 : Int32)) else if (57 : Int32) < a1 then some ((0 : Int32)) else some ((1 : Int32)))
  refine k_iload_n (q := 1) C dX5_isDigit_0 rfl rfl ?_
  refine k_bipush (v := 48) C dX5_isDigit_1 rfl ?_
  refine k_icmp_lt (tgt := 16) C dX5_isDigit_3 (by decide) (fun _ => ?_) (fun _ => ?_)
  · refine k_iconst (v := 0) C dX5_isDigit_16 rfl ?_
    exact k_iret C rfl ⟨rfl, rfl⟩ dX5_isDigit_17
  · refine k_iload_n (q := 1) C dX5_isDigit_6 rfl rfl ?_
    refine k_bipush (v := 57) C dX5_isDigit_7 rfl ?_
    refine k_icmp_gt (tgt := 16) C dX5_isDigit_9 (by decide) (fun _ => ?_) (fun _ => ?_)
    · refine k_iconst (v := 0) C dX5_isDigit_16 rfl ?_
      exact k_iret C rfl ⟨rfl, rfl⟩ dX5_isDigit_17
    · refine k_iconst (v := 1) C dX5_isDigit_12 rfl ?_
      refine k_goto (tgt := 17) C dX5_isDigit_13 (by decide) ?_
      exact k_iret C rfl ⟨rfl, rfl⟩ dX5_isDigit_17
theorem ct_X5_isDigit {l : Launch} {θ : TH} {ws : va_W} {o : Nat}  {a1 : Int32}  : ∀ r, f_X5_isDigit a1 = some r → Ct l θ yX5_isDigit cX5_isDigit 2 (some .boolean) 0 0 0 [.ref o, .int a1] (ws) (PI ws r) :=
  fun r hr => Ct.of (by decide +kernel) (Nat.le_of_ble_eq_true rfl) (fun X _ C _ => kw_X5_isDigit C  r hr)
set_option maxRecDepth 20000 in
theorem kb_X5_number_B49 {X : GX} {θ : TH} {ad Y : Nat → Nat} {S0 : St} {F : Nat} {Z : Zt} (C : CX (mE X θ (wdC θ ad Y Z S0) 3) RX5 cX5_number (some .int) 1 0 0)  (S : St) (x1 : Int32) : Dk (mE X θ (wdC θ ad Y Z S0) 3) (mT X θ (wdC θ ad Y Z S0) 3 (PIS (wdC θ ad Y Z))) 0 0 (wdC θ ad Y Z S) [(0, .ref (ad 119)), (1, .int x1)] [] 49 (f_X5_number_B49 F Z S x1) := by
  show Dk _ _ _ _ _ _ _ _ ((f_X8_addStep 1060 Z S 48 x1 (-1)).bind fun r4 => some (r4.1, r4.2))
  refine k_aload_n (q := 0) C dX5_number_49 rfl rfl ?_
  refine c_get (b := 100) (ci := 5) (kf := 4) (N := 5) C rfl ⟨rfl, rfl⟩ am_119 rfl lay_5 kk_5_4 fl_5_28 rfl dX5_number_50 ?_
  refine k_bipush (v := 48) C dX5_number_53 rfl ?_
  refine k_iload_n (q := 1) C dX5_number_55 rfl rfl ?_
  refine k_iconst (v := (-1)) C dX5_number_56 rfl ?_
  refine k_cVI C ct_X8_addStep_1060 my_8_addStep ml_5_57 rfl ⟨Nat.le_of_ble_eq_true rfl, Nat.le_of_ble_eq_true rfl⟩ (recvC (b := 1060) (ci := 8) rfl ⟨rfl, rfl⟩ am_1079 rfl rfl) rfl (Nat.le_of_ble_eq_true rfl) dX5_number_57 ⟨Nat.le_refl _, Nat.le_refl _⟩ (fun r4 _ => ?_)
  exact k_iret C rfl ⟨rfl, rfl⟩ dX5_number_60
set_option maxRecDepth 20000 in
theorem kb_X5_number_L4 {X : GX} {θ : TH} {ad Y : Nat → Nat} {S0 : St} {F : Nat} {Z : Zt} (C : CX (mE X θ (wdC θ ad Y Z S0) 3) RX5 cX5_number (some .int) 1 0 0)  : ∀ (n : Nat) (S : St) (x1 : Int32) (x2 : Int32), Dk (mE X θ (wdC θ ad Y Z S0) 3) (mT X θ (wdC θ ad Y Z S0) 3 (PIS (wdC θ ad Y Z))) 0 0 (wdC θ ad Y Z S) [(0, .ref (ad 119)), (1, .int x1), (2, .int x2)] [] 4 (f_X5_number_L4 F Z n S x1 x2) := by
  intro n
  induction n with
  | zero => intro S x1 x2; exact Dk.none
  | succ n ih =>
    intro S x1 x2
    show Dk _ _ _ _ _ _ _ _ (if (4 : Int32) ≤ x2 then f_X5_number_B49 F Z S x1 else (f_X5_ahead Z S).bind fun r1 => (f_X5_isDigit r1).bind fun r2 => (if r2 = 0 then f_X5_number_B49 F Z S x1 else (f_X5_ahead Z S).bind fun r3 => f_X5_number_L4 F Z n (sf S 102 ((S.1 102) + 1)) (((10 * x1) + r3) - 48) (x2 + 1)))
    refine k_iload_n (q := 2) C dX5_number_4 rfl rfl ?_
    refine k_iconst (v := 4) C dX5_number_5 rfl ?_
    refine k_icmp_ge (tgt := 49) C dX5_number_6 (by decide) (fun _ => ?_) (fun _ => ?_)
    · refine Dk.loc [0, 1] rfl ?_
      exact kb_X5_number_B49 C _ _
    · refine k_aload_n (q := 0) C dX5_number_9 rfl rfl ?_
      refine k_aload_n (q := 0) C dX5_number_10 rfl rfl ?_
      refine k_cVI C ct_X5_ahead my_5_ahead ml_5_67 rfl ⟨Nat.le_of_ble_eq_true rfl, Nat.le_of_ble_eq_true rfl⟩ (recvC (b := 100) (ci := 5) rfl ⟨rfl, rfl⟩ am_119 rfl rfl) rfl (Nat.le_of_ble_eq_true rfl) dX5_number_11 ⟨Nat.le_refl _, Nat.le_refl _⟩ (fun r1 _ => ?_)
      refine k_cVI C ct_X5_isDigit my_5_isDigit ml_5_80 rfl ⟨Nat.le_of_ble_eq_true rfl, Nat.le_of_ble_eq_true rfl⟩ (recvC (b := 100) (ci := 5) rfl ⟨rfl, rfl⟩ am_119 rfl rfl) rfl (Nat.le_of_ble_eq_true rfl) dX5_number_14 ⟨Nat.le_refl _, Nat.le_refl _⟩ (fun r2 _ => ?_)
      refine k_if_eq (tgt := 49) C dX5_number_17 (by decide) (fun _ => ?_) (fun _ => ?_)
      · refine Dk.loc [0, 1] rfl ?_
        exact kb_X5_number_B49 C _ _
      · refine k_bipush (v := 10) C dX5_number_20 rfl ?_
        refine k_iload_n (q := 1) C dX5_number_22 rfl rfl ?_
        refine k_imul C dX5_number_23 ?_
        refine k_aload_n (q := 0) C dX5_number_24 rfl rfl ?_
        refine k_cVI C ct_X5_ahead my_5_ahead ml_5_67 rfl ⟨Nat.le_of_ble_eq_true rfl, Nat.le_of_ble_eq_true rfl⟩ (recvC (b := 100) (ci := 5) rfl ⟨rfl, rfl⟩ am_119 rfl rfl) rfl (Nat.le_of_ble_eq_true rfl) dX5_number_25 ⟨Nat.le_refl _, Nat.le_refl _⟩ (fun r3 _ => ?_)
        refine k_iadd C dX5_number_28 ?_
        refine k_bipush (v := 48) C dX5_number_29 rfl ?_
        refine k_isub C dX5_number_31 ?_
        refine k_istore_n (lv' := [(1, .int (((10 * x1) + r3) - 48)), (0, .ref (ad 119)), (2, .int x2)]) C dX5_number_32 rfl (Nat.le_of_ble_eq_true rfl) rfl ?_
        refine k_aload_n (q := 1) C dX5_number_33 rfl rfl ?_
        refine k_dup C dX5_number_34 rfl ?_
        refine c_get (b := 100) (ci := 5) (kf := 2) (N := 5) (v := .int (S.1 102)) C rfl ⟨rfl, rfl⟩ am_119 rfl lay_5 kk_5_2 fl_5_19 rfl dX5_number_35 ?_
        refine k_iconst (v := 1) C dX5_number_38 rfl ?_
        refine k_iadd C dX5_number_39 ?_
        refine c_puti (b := 100) (ci := 5) (kf := 2) (N := 5) C rfl ⟨rfl, rfl⟩ am_119 rfl lay_5 tyX5 tyX5_ok nmX5 kk_5_2 fl_5_19 pf_5_2 dX5_number_40 ?_
        refine k_iinc (q := 2) (v := x2 + 1) (lv' := [(2, .int (x2 + 1)), (1, .int (((10 * x1) + r3) - 48)), (0, .ref (ad 119))]) C dX5_number_43 rfl rfl (Nat.le_of_ble_eq_true rfl) rfl ?_
        refine k_goto (tgt := 4) C dX5_number_46 (by decide) ?_
        refine Dk.loc [2, 1, 0] rfl ?_
        exact ih _ _ _
set_option maxRecDepth 20000 in
theorem kw_X5_number {X : GX} {θ : TH} {ad Y : Nat → Nat} {F : Nat} {Z : Zt} {S : St}  (C : CX (mE X θ (wdC θ ad Y Z S) 3) RX5 cX5_number (some .int) 1 0 0)  : Dk (mE X θ (wdC θ ad Y Z S) 3) (mT X θ (wdC θ ad Y Z S) 3 (PIS (wdC θ ad Y Z))) 0 0 (wdC θ ad Y Z S) [(0, .ref (ad 119))] [] 0 (f_X5_number F Z S) := by
  show Dk _ _ _ _ _ _ _ _ (f_X5_number_L4 F Z F S 0 0)
  refine k_iconst (v := 0) C dX5_number_0 rfl ?_
  refine k_istore_n (lv' := [(1, .int 0), (0, .ref (ad 119))]) C dX5_number_1 rfl (Nat.le_of_ble_eq_true rfl) rfl ?_
  refine k_iconst (v := 0) C dX5_number_2 rfl ?_
  refine k_istore_n (lv' := [(2, .int 0), (1, .int 0), (0, .ref (ad 119))]) C dX5_number_3 rfl (Nat.le_of_ble_eq_true rfl) rfl ?_
  refine Dk.loc [2, 1, 0] rfl ?_
  exact kb_X5_number_L4 C _ _ _ _
theorem ct_X5_number {l : Launch} {θ : TH} {ad Y : Nat → Nat} {S : St} {F : Nat} {Z : Zt}   : ∀ r, f_X5_number F Z S = some r → Ct l θ yX5_number cX5_number 3 (some .int) 1 0 0 [.ref (ad 119)] (wdC θ ad Y Z S) (PIS (wdC θ ad Y Z) r) :=
  fun r hr => Ct.of (by decide +kernel) (Nat.le_of_ble_eq_true rfl) (fun X _ C _ => kw_X5_number C  r hr)
set_option maxRecDepth 20000 in
theorem kw_X5_nameOf {X : GX} {θ : TH} {ws : va_W} {o : Nat}   {a1 : Int32} (C : CX (mE X θ (ws) 2) RX5 cX5_nameOf (some .int) 0 0 0)  : Dk (mE X θ (ws) 2) (mT X θ (ws) 2 (PI ws)) 0 0 ws [(0, .ref o), (1, .int a1)] [] 0 (f_X5_nameOf a1) := by
  show Dk _ _ _ _ _ _ _ _ (if a1 = 104 then some ((3 : Int32)) else if a1 = 105 then some ((-2 : Int32)) else if a1 = 106 then some ((-2 : Int32)) else if a1 = 107 then some ((0 : Int32)) else if a1 = 108 then some ((2 : Int32)) else if a1 = 109 then some ((6 : Int32)) else if a1 = 110 then some ((1 : Int32)) else if a1 = 111 then some ((-2 : Int32)) else if a1 = 112 then some ((-2 : Int32)) else if a1 = 113 then some ((-2 : Int32)) else if a1 = 114 then some ((-2 : Int32)) else if a1 = 115 then some ((-2 : Int32)) else if a1 = 116 then some ((-2 : Int32)) else if a1 = 117 then some ((-2 : Int32)) else if a1 = 118 then some ((4 : Int32)) else if a1 = 119 then some ((5 : Int32)) else some ((-2 : Int32)))
  refine k_iload_n (q := 1) C dX5_nameOf_0 rfl rfl ?_
  refine k_case (c := 104) (fun q1 => ?_) (fun q1 => ?_)
  · refine k_tableIn (off := 85) (tgt := 86) C dX5_nameOf_1 (by rw [q1]; decide) (by rw [q1]; decide) (by rw [q1]; rfl) (by decide) ?_
    refine k_iconst (v := 3) C dX5_nameOf_86 rfl ?_
    exact k_iret C rfl ⟨rfl, rfl⟩ dX5_nameOf_87
  refine k_case (c := 105) (fun q2 => ?_) (fun q2 => ?_)
  · refine k_tableIn (off := 94) (tgt := 95) C dX5_nameOf_1 (by rw [q2]; decide) (by rw [q2]; decide) (by rw [q2]; rfl) (by decide) ?_
    refine k_bipush (v := (-2)) C dX5_nameOf_95 rfl ?_
    exact k_iret C rfl ⟨rfl, rfl⟩ dX5_nameOf_97
  refine k_case (c := 106) (fun q3 => ?_) (fun q3 => ?_)
  · refine k_tableIn (off := 94) (tgt := 95) C dX5_nameOf_1 (by rw [q3]; decide) (by rw [q3]; decide) (by rw [q3]; rfl) (by decide) ?_
    refine k_bipush (v := (-2)) C dX5_nameOf_95 rfl ?_
    exact k_iret C rfl ⟨rfl, rfl⟩ dX5_nameOf_97
  refine k_case (c := 107) (fun q4 => ?_) (fun q4 => ?_)
  · refine k_tableIn (off := 79) (tgt := 80) C dX5_nameOf_1 (by rw [q4]; decide) (by rw [q4]; decide) (by rw [q4]; rfl) (by decide) ?_
    refine k_iconst (v := 0) C dX5_nameOf_80 rfl ?_
    exact k_iret C rfl ⟨rfl, rfl⟩ dX5_nameOf_81
  refine k_case (c := 108) (fun q5 => ?_) (fun q5 => ?_)
  · refine k_tableIn (off := 83) (tgt := 84) C dX5_nameOf_1 (by rw [q5]; decide) (by rw [q5]; decide) (by rw [q5]; rfl) (by decide) ?_
    refine k_iconst (v := 2) C dX5_nameOf_84 rfl ?_
    exact k_iret C rfl ⟨rfl, rfl⟩ dX5_nameOf_85
  refine k_case (c := 109) (fun q6 => ?_) (fun q6 => ?_)
  · refine k_tableIn (off := 91) (tgt := 92) C dX5_nameOf_1 (by rw [q6]; decide) (by rw [q6]; decide) (by rw [q6]; rfl) (by decide) ?_
    refine k_bipush (v := 6) C dX5_nameOf_92 rfl ?_
    exact k_iret C rfl ⟨rfl, rfl⟩ dX5_nameOf_94
  refine k_case (c := 110) (fun q7 => ?_) (fun q7 => ?_)
  · refine k_tableIn (off := 81) (tgt := 82) C dX5_nameOf_1 (by rw [q7]; decide) (by rw [q7]; decide) (by rw [q7]; rfl) (by decide) ?_
    refine k_iconst (v := 1) C dX5_nameOf_82 rfl ?_
    exact k_iret C rfl ⟨rfl, rfl⟩ dX5_nameOf_83
  refine k_case (c := 111) (fun q8 => ?_) (fun q8 => ?_)
  · refine k_tableIn (off := 94) (tgt := 95) C dX5_nameOf_1 (by rw [q8]; decide) (by rw [q8]; decide) (by rw [q8]; rfl) (by decide) ?_
    refine k_bipush (v := (-2)) C dX5_nameOf_95 rfl ?_
    exact k_iret C rfl ⟨rfl, rfl⟩ dX5_nameOf_97
  refine k_case (c := 112) (fun q9 => ?_) (fun q9 => ?_)
  · refine k_tableIn (off := 94) (tgt := 95) C dX5_nameOf_1 (by rw [q9]; decide) (by rw [q9]; decide) (by rw [q9]; rfl) (by decide) ?_
    refine k_bipush (v := (-2)) C dX5_nameOf_95 rfl ?_
    exact k_iret C rfl ⟨rfl, rfl⟩ dX5_nameOf_97
  refine k_case (c := 113) (fun q10 => ?_) (fun q10 => ?_)
  · refine k_tableIn (off := 94) (tgt := 95) C dX5_nameOf_1 (by rw [q10]; decide) (by rw [q10]; decide) (by rw [q10]; rfl) (by decide) ?_
    refine k_bipush (v := (-2)) C dX5_nameOf_95 rfl ?_
    exact k_iret C rfl ⟨rfl, rfl⟩ dX5_nameOf_97
  refine k_case (c := 114) (fun q11 => ?_) (fun q11 => ?_)
  · refine k_tableIn (off := 94) (tgt := 95) C dX5_nameOf_1 (by rw [q11]; decide) (by rw [q11]; decide) (by rw [q11]; rfl) (by decide) ?_
    refine k_bipush (v := (-2)) C dX5_nameOf_95 rfl ?_
    exact k_iret C rfl ⟨rfl, rfl⟩ dX5_nameOf_97
  refine k_case (c := 115) (fun q12 => ?_) (fun q12 => ?_)
  · refine k_tableIn (off := 94) (tgt := 95) C dX5_nameOf_1 (by rw [q12]; decide) (by rw [q12]; decide) (by rw [q12]; rfl) (by decide) ?_
    refine k_bipush (v := (-2)) C dX5_nameOf_95 rfl ?_
    exact k_iret C rfl ⟨rfl, rfl⟩ dX5_nameOf_97
  refine k_case (c := 116) (fun q13 => ?_) (fun q13 => ?_)
  · refine k_tableIn (off := 94) (tgt := 95) C dX5_nameOf_1 (by rw [q13]; decide) (by rw [q13]; decide) (by rw [q13]; rfl) (by decide) ?_
    refine k_bipush (v := (-2)) C dX5_nameOf_95 rfl ?_
    exact k_iret C rfl ⟨rfl, rfl⟩ dX5_nameOf_97
  refine k_case (c := 117) (fun q14 => ?_) (fun q14 => ?_)
  · refine k_tableIn (off := 94) (tgt := 95) C dX5_nameOf_1 (by rw [q14]; decide) (by rw [q14]; decide) (by rw [q14]; rfl) (by decide) ?_
    refine k_bipush (v := (-2)) C dX5_nameOf_95 rfl ?_
    exact k_iret C rfl ⟨rfl, rfl⟩ dX5_nameOf_97
  refine k_case (c := 118) (fun q15 => ?_) (fun q15 => ?_)
  · refine k_tableIn (off := 87) (tgt := 88) C dX5_nameOf_1 (by rw [q15]; decide) (by rw [q15]; decide) (by rw [q15]; rfl) (by decide) ?_
    refine k_iconst (v := 4) C dX5_nameOf_88 rfl ?_
    exact k_iret C rfl ⟨rfl, rfl⟩ dX5_nameOf_89
  refine k_case (c := 119) (fun q16 => ?_) (fun q16 => ?_)
  · refine k_tableIn (off := 89) (tgt := 90) C dX5_nameOf_1 (by rw [q16]; decide) (by rw [q16]; decide) (by rw [q16]; rfl) (by decide) ?_
    refine k_iconst (v := 5) C dX5_nameOf_90 rfl ?_
    exact k_iret C rfl ⟨rfl, rfl⟩ dX5_nameOf_91
  refine k_tableOut (tgt := 95) C dX5_nameOf_1 (by have zq1 := i32ne q1 (z := 104) rfl; have zq2 := i32ne q2 (z := 105) rfl; have zq3 := i32ne q3 (z := 106) rfl; have zq4 := i32ne q4 (z := 107) rfl; have zq5 := i32ne q5 (z := 108) rfl; have zq6 := i32ne q6 (z := 109) rfl; have zq7 := i32ne q7 (z := 110) rfl; have zq8 := i32ne q8 (z := 111) rfl; have zq9 := i32ne q9 (z := 112) rfl; have zq10 := i32ne q10 (z := 113) rfl; have zq11 := i32ne q11 (z := 114) rfl; have zq12 := i32ne q12 (z := 115) rfl; have zq13 := i32ne q13 (z := 116) rfl; have zq14 := i32ne q14 (z := 117) rfl; have zq15 := i32ne q15 (z := 118) rfl; have zq16 := i32ne q16 (z := 119) rfl; omega) (by decide) ?_
  refine k_bipush (v := (-2)) C dX5_nameOf_95 rfl ?_
  exact k_iret C rfl ⟨rfl, rfl⟩ dX5_nameOf_97
theorem ct_X5_nameOf {l : Launch} {θ : TH} {ws : va_W} {o : Nat}  {a1 : Int32}  : ∀ r, f_X5_nameOf a1 = some r → Ct l θ yX5_nameOf cX5_nameOf 2 (some .int) 0 0 0 [.ref o, .int a1] (ws) (PI ws r) :=
  fun r hr => Ct.of (by decide +kernel) (Nat.le_of_ble_eq_true rfl) (fun X _ C _ => kw_X5_nameOf C  r hr)
set_option maxRecDepth 20000 in
theorem kb_X5_operand_B23 {X : GX} {θ : TH} {ad Y : Nat → Nat} {S0 : St} {d : Nat} {F : Nat} {Z : Zt} {g : Nat → St → Int32 → Int32 → Option (Int32 × St)} {a1 : Int32} (C : CX (mE X θ (wdC θ ad Y Z S0) 4) RX5 cX5_operand (some .int) (2 + (d + 1)) 0 0) (hg_opened : ∀ (S : St) (a1 a2 : Int32) (r : Int32 × St), g 6 S a1 a2 = some r → Ct X.2.1 θ yX5_opened cX5_opened 4 (some .int) (2 + d) 0 0 [.ref (ad 119), .int a1, .int a2] (wdC θ ad Y Z S) (PIS (wdC θ ad Y Z) r)) (S : St) (x2 : Int32) : Dk (mE X θ (wdC θ ad Y Z S0) 4) (mT X θ (wdC θ ad Y Z S0) 4 (PIS (wdC θ ad Y Z))) 0 0 (wdC θ ad Y Z S) [(0, .ref (ad 119)), (1, .int a1), (2, .int x2)] [] 23 (f_X5_operand_B23 F Z g a1 S x2) := by
  show Dk _ _ _ _ _ _ _ _ (if (6 : Int32) ≤ a1 then (f_X5_failed Z S).bind fun r7 => some (r7.1, r7.2) else (g 6 S x2 (a1 + 1)).bind fun r8 => some (r8.1, r8.2))
  refine k_iload_n (q := 1) C dX5_operand_23 rfl rfl ?_
  refine k_bipush (v := 6) C dX5_operand_24 rfl ?_
  refine k_icmp_ge (tgt := 40) C dX5_operand_26 (by decide) (fun _ => ?_) (fun _ => ?_)
  · refine k_aload_n (q := 0) C dX5_operand_40 rfl rfl ?_
    refine k_cVI C ct_X5_failed my_5_failed ml_5_42 rfl ⟨by omega, Nat.le_of_ble_eq_true rfl⟩ (recvC (b := 100) (ci := 5) rfl ⟨rfl, rfl⟩ am_119 rfl rfl) rfl (Nat.le_of_ble_eq_true rfl) dX5_operand_41 ⟨Nat.le_refl _, Nat.le_refl _⟩ (fun r7 _ => ?_)
    exact k_iret C rfl ⟨rfl, rfl⟩ dX5_operand_44
  · refine k_aload_n (q := 0) C dX5_operand_29 rfl rfl ?_
    refine k_iload_n (q := 2) C dX5_operand_30 rfl rfl ?_
    refine k_iload_n (q := 1) C dX5_operand_31 rfl rfl ?_
    refine k_iconst (v := 1) C dX5_operand_32 rfl ?_
    refine k_iadd C dX5_operand_33 ?_
    refine k_cVI C (hg_opened _ _ _) my_5_opened ml_5_76 rfl ⟨Nat.le_refl _, Nat.le_of_ble_eq_true rfl⟩ (recvC (b := 100) (ci := 5) rfl ⟨rfl, rfl⟩ am_119 rfl rfl) rfl (Nat.le_of_ble_eq_true rfl) dX5_operand_34 ⟨Nat.le_refl _, Nat.le_refl _⟩ (fun r8 _ => ?_)
    refine k_goto (tgt := 44) C dX5_operand_37 (by decide) ?_
    exact k_iret C rfl ⟨rfl, rfl⟩ dX5_operand_44
set_option maxRecDepth 20000 in
theorem kw_X5_operand {X : GX} {θ : TH} {ad Y : Nat → Nat} {d : Nat} {F : Nat} {Z : Zt} {g : Nat → St → Int32 → Int32 → Option (Int32 × St)} {S : St} {a1 : Int32} (C : CX (mE X θ (wdC θ ad Y Z S) 4) RX5 cX5_operand (some .int) (2 + (d + 1)) 0 0) (hg_opened : ∀ (S : St) (a1 a2 : Int32) (r : Int32 × St), g 6 S a1 a2 = some r → Ct X.2.1 θ yX5_opened cX5_opened 4 (some .int) (2 + d) 0 0 [.ref (ad 119), .int a1, .int a2] (wdC θ ad Y Z S) (PIS (wdC θ ad Y Z) r)) : Dk (mE X θ (wdC θ ad Y Z S) 4) (mT X θ (wdC θ ad Y Z S) 4 (PIS (wdC θ ad Y Z))) 0 0 (wdC θ ad Y Z S) [(0, .ref (ad 119)), (1, .int a1)] [] 0 (f_X5_operand F Z g S a1) := by
  show Dk _ _ _ _ _ _ _ _ ((f_X5_ahead Z S).bind fun r1 => (if r1 = 40 then f_X5_operand_B23 F Z g a1 S r1 else if r1 = 33 then f_X5_operand_B23 F Z g a1 S r1 else if r1 = 45 then f_X5_operand_B23 F Z g a1 S r1 else (f_X5_isDigit r1).bind fun r2 => (if r2 = 0 then (f_X5_nameOf r1).bind fun r3 => (if (0 : Int32) ≤ r3 then (f_X8_addStep 1060 Z (sf S 102 ((S.1 102) + 1)) 107 r3 (-1)).bind fun r4 => some (r4.1, r4.2) else (f_X5_failed Z S).bind fun r5 => some (r5.1, r5.2)) else (f_X5_number F Z S).bind fun r6 => some (r6.1, r6.2))))
  refine k_aload_n (q := 0) C dX5_operand_0 rfl rfl ?_
  refine k_cVI C ct_X5_ahead my_5_ahead ml_5_67 rfl ⟨by omega, Nat.le_of_ble_eq_true rfl⟩ (recvC (b := 100) (ci := 5) rfl ⟨rfl, rfl⟩ am_119 rfl rfl) rfl (Nat.le_of_ble_eq_true rfl) dX5_operand_1 ⟨Nat.le_refl _, Nat.le_refl _⟩ (fun r1 _ => ?_)
  refine k_istore_n (lv' := [(2, .int r1), (0, .ref (ad 119)), (1, .int a1)]) C dX5_operand_4 rfl (Nat.le_of_ble_eq_true rfl) rfl ?_
  refine k_iload_n (q := 0) C dX5_operand_5 rfl rfl ?_
  refine k_bipush (v := 40) C dX5_operand_6 rfl ?_
  refine k_icmp_eq (tgt := 23) C dX5_operand_8 (by decide) (fun _ => ?_) (fun _ => ?_)
  · refine Dk.loc [1, 2, 0] rfl ?_
    exact kb_X5_operand_B23 C hg_opened _ _
  · refine k_iload_n (q := 0) C dX5_operand_11 rfl rfl ?_
    refine k_bipush (v := 33) C dX5_operand_12 rfl ?_
    refine k_icmp_eq (tgt := 23) C dX5_operand_14 (by decide) (fun _ => ?_) (fun _ => ?_)
    · refine Dk.loc [1, 2, 0] rfl ?_
      exact kb_X5_operand_B23 C hg_opened _ _
    · refine k_iload_n (q := 0) C dX5_operand_17 rfl rfl ?_
      refine k_bipush (v := 45) C dX5_operand_18 rfl ?_
      refine k_icmp_ne (tgt := 45) C dX5_operand_20 (by decide) (fun _ => ?_) (fun _ => ?_)
      · refine k_aload_n (q := 1) C dX5_operand_45 rfl rfl ?_
        refine k_iload_n (q := 0) C dX5_operand_46 rfl rfl ?_
        refine k_cVI C ct_X5_isDigit my_5_isDigit ml_5_80 rfl ⟨by omega, Nat.le_of_ble_eq_true rfl⟩ (recvC (b := 100) (ci := 5) rfl ⟨rfl, rfl⟩ am_119 rfl rfl) rfl (Nat.le_of_ble_eq_true rfl) dX5_operand_47 ⟨Nat.le_refl _, Nat.le_refl _⟩ (fun r2 _ => ?_)
        refine k_if_eq (tgt := 58) C dX5_operand_50 (by decide) (fun _ => ?_) (fun _ => ?_)
        · refine k_aload_n (q := 1) C dX5_operand_58 rfl rfl ?_
          refine k_iload_n (q := 0) C dX5_operand_59 rfl rfl ?_
          refine k_cVI C ct_X5_nameOf my_5_nameOf ml_5_86 rfl ⟨by omega, Nat.le_of_ble_eq_true rfl⟩ (recvC (b := 100) (ci := 5) rfl ⟨rfl, rfl⟩ am_119 rfl rfl) rfl (Nat.le_of_ble_eq_true rfl) dX5_operand_60 ⟨Nat.le_refl _, Nat.le_refl _⟩ (fun r3 _ => ?_)
          refine k_istore_n (lv' := [(3, .int r3), (2, .int r1), (0, .ref (ad 119)), (1, .int a1)]) C dX5_operand_63 rfl (Nat.le_of_ble_eq_true rfl) rfl ?_
          refine k_iload_n (q := 0) C dX5_operand_64 rfl rfl ?_
          refine k_if_ge (tgt := 73) C dX5_operand_65 (by decide) (fun _ => ?_) (fun _ => ?_)
          · refine k_aload_n (q := 2) C dX5_operand_73 rfl rfl ?_
            refine k_dup C dX5_operand_74 rfl ?_
            refine c_get (b := 100) (ci := 5) (kf := 2) (N := 5) (v := .int (S.1 102)) C rfl ⟨rfl, rfl⟩ am_119 rfl lay_5 kk_5_2 fl_5_19 rfl dX5_operand_75 ?_
            refine k_iconst (v := 1) C dX5_operand_78 rfl ?_
            refine k_iadd C dX5_operand_79 ?_
            refine c_puti (b := 100) (ci := 5) (kf := 2) (N := 5) C rfl ⟨rfl, rfl⟩ am_119 rfl lay_5 tyX5 tyX5_ok nmX5 kk_5_2 fl_5_19 pf_5_2 dX5_operand_80 ?_
            refine k_aload_n (q := 2) C dX5_operand_83 rfl rfl ?_
            refine c_get (b := 100) (ci := 5) (kf := 4) (N := 5) C rfl ⟨rfl, rfl⟩ am_119 rfl lay_5 kk_5_4 fl_5_28 rfl dX5_operand_84 ?_
            refine k_bipush (v := 107) C dX5_operand_87 rfl ?_
            refine k_iload_n (q := 0) C dX5_operand_89 rfl rfl ?_
            refine k_iconst (v := (-1)) C dX5_operand_90 rfl ?_
            refine k_cVI C ct_X8_addStep_1060 my_8_addStep ml_5_57 rfl ⟨by omega, Nat.le_of_ble_eq_true rfl⟩ (recvC (b := 1060) (ci := 8) rfl ⟨rfl, rfl⟩ am_1079 rfl rfl) rfl (Nat.le_of_ble_eq_true rfl) dX5_operand_91 ⟨Nat.le_refl _, Nat.le_refl _⟩ (fun r4 _ => ?_)
            exact k_iret C rfl ⟨rfl, rfl⟩ dX5_operand_94
          · refine k_aload_n (q := 2) C dX5_operand_68 rfl rfl ?_
            refine k_cVI C ct_X5_failed my_5_failed ml_5_42 rfl ⟨by omega, Nat.le_of_ble_eq_true rfl⟩ (recvC (b := 100) (ci := 5) rfl ⟨rfl, rfl⟩ am_119 rfl rfl) rfl (Nat.le_of_ble_eq_true rfl) dX5_operand_69 ⟨Nat.le_refl _, Nat.le_refl _⟩ (fun r5 _ => ?_)
            exact k_iret C rfl ⟨rfl, rfl⟩ dX5_operand_72
        · refine k_aload_n (q := 1) C dX5_operand_53 rfl rfl ?_
          refine k_cVI C ct_X5_number my_5_number ml_5_83 rfl ⟨by omega, Nat.le_of_ble_eq_true rfl⟩ (recvC (b := 100) (ci := 5) rfl ⟨rfl, rfl⟩ am_119 rfl rfl) rfl (Nat.le_of_ble_eq_true rfl) dX5_operand_54 ⟨Nat.le_refl _, Nat.le_refl _⟩ (fun r6 _ => ?_)
          exact k_iret C rfl ⟨rfl, rfl⟩ dX5_operand_57
      · refine Dk.loc [1, 2, 0] rfl ?_
        exact kb_X5_operand_B23 C hg_opened _ _
theorem ct_X5_operand {l : Launch} {θ : TH} {ad Y : Nat → Nat} {S : St} {d : Nat} {F : Nat} {Z : Zt} {g : Nat → St → Int32 → Int32 → Option (Int32 × St)} {a1 : Int32} (hg_opened : ∀ (S : St) (a1 a2 : Int32) (r : Int32 × St), g 6 S a1 a2 = some r → Ct l θ yX5_opened cX5_opened 4 (some .int) (2 + d) 0 0 [.ref (ad 119), .int a1, .int a2] (wdC θ ad Y Z S) (PIS (wdC θ ad Y Z) r)) : ∀ r, f_X5_operand F Z g S a1 = some r → Ct l θ yX5_operand cX5_operand 4 (some .int) (2 + (d + 1)) 0 0 [.ref (ad 119), .int a1] (wdC θ ad Y Z S) (PIS (wdC θ ad Y Z) r) :=
  fun r hr => Ct.of (by decide) (Nat.le_of_ble_eq_true rfl) (fun X hX C _ => by subst hX; exact kw_X5_operand C hg_opened r hr)
set_option maxRecDepth 20000 in
theorem kb_X5_product_B41 {X : GX} {θ : TH} {ad Y : Nat → Nat} {S0 : St} {d : Nat} {F : Nat} {Z : Zt} {g : Nat → St → Int32 → Int32 → Option (Int32 × St)} {a1 : Int32} {K8 : St → Int32 → Int32 → Option (Int32 × St)} (C : CX (mE X θ (wdC θ ad Y Z S0) 5) RX5 cX5_product (some .int) (2 + (d + 1)) 0 0) (hg_operand : ∀ (S : St) (a1 : Int32) (r : Int32 × St), g 5 S a1 0 = some r → Ct X.2.1 θ yX5_operand cX5_operand 4 (some .int) (2 + d) 0 0 [.ref (ad 119), .int a1] (wdC θ ad Y Z S) (PIS (wdC θ ad Y Z) r)) (hK8 : ∀ (S : St) (x2 : Int32) (x3 : Int32), Dk (mE X θ (wdC θ ad Y Z S0) 5) (mT X θ (wdC θ ad Y Z S0) 5 (PIS (wdC θ ad Y Z))) 0 0 (wdC θ ad Y Z S) [(0, .ref (ad 119)), (1, .int a1), (2, .int x2), (3, .int x3)] [] 8 (K8 S x2 x3)) (S : St) (x2 : Int32) (x3 : Int32) : Dk (mE X θ (wdC θ ad Y Z S0) 5) (mT X θ (wdC θ ad Y Z S0) 5 (PIS (wdC θ ad Y Z))) 0 0 (wdC θ ad Y Z S) [(0, .ref (ad 119)), (1, .int a1), (2, .int x2), (3, .int x3)] [] 41 (f_X5_product_B41 F Z g a1 K8 S x2 x3) := by
  show Dk _ _ _ _ _ _ _ _ ((f_X5_ahead Z S).bind fun r5 => (g 5 (sf S 102 ((S.1 102) + 1)) a1 0).bind fun r6 => (f_X8_addStep 1060 Z r6.2 r5 x2 r6.1).bind fun r7 => K8 r7.2 r7.1 (x3 + 1))
  refine k_aload_n (q := 0) C dX5_product_41 rfl rfl ?_
  refine k_cVI C ct_X5_ahead my_5_ahead ml_5_67 rfl ⟨by omega, Nat.le_of_ble_eq_true rfl⟩ (recvC (b := 100) (ci := 5) rfl ⟨rfl, rfl⟩ am_119 rfl rfl) rfl (Nat.le_of_ble_eq_true rfl) dX5_product_42 ⟨Nat.le_refl _, Nat.le_refl _⟩ (fun r5 _ => ?_)
  refine k_istore (lv' := [(4, .int r5), (0, .ref (ad 119)), (1, .int a1), (2, .int x2), (3, .int x3)]) C dX5_product_45 (Nat.le_of_ble_eq_true rfl) rfl ?_
  refine k_aload_n (q := 1) C dX5_product_47 rfl rfl ?_
  refine k_dup C dX5_product_48 rfl ?_
  refine c_get (b := 100) (ci := 5) (kf := 2) (N := 5) (v := .int (S.1 102)) C rfl ⟨rfl, rfl⟩ am_119 rfl lay_5 kk_5_2 fl_5_19 rfl dX5_product_49 ?_
  refine k_iconst (v := 1) C dX5_product_52 rfl ?_
  refine k_iadd C dX5_product_53 ?_
  refine c_puti (b := 100) (ci := 5) (kf := 2) (N := 5) C rfl ⟨rfl, rfl⟩ am_119 rfl lay_5 tyX5 tyX5_ok nmX5 kk_5_2 fl_5_19 pf_5_2 dX5_product_54 ?_
  refine k_aload_n (q := 1) C dX5_product_57 rfl rfl ?_
  refine c_get (b := 100) (ci := 5) (kf := 4) (N := 5) C rfl ⟨rfl, rfl⟩ am_119 rfl lay_5 kk_5_4 fl_5_28 rfl dX5_product_58 ?_
  refine k_iload (q := 0) C dX5_product_61 rfl ?_
  refine k_iload_n (q := 3) C dX5_product_63 rfl rfl ?_
  refine k_aload_n (q := 1) C dX5_product_64 rfl rfl ?_
  refine k_iload_n (q := 2) C dX5_product_65 rfl rfl ?_
  refine k_cVI C (hg_operand _ _) my_5_operand ml_5_73 rfl ⟨Nat.le_refl _, Nat.le_of_ble_eq_true rfl⟩ (recvC (b := 100) (ci := 5) rfl ⟨rfl, rfl⟩ am_119 rfl rfl) rfl (Nat.le_of_ble_eq_true rfl) dX5_product_66 ⟨Nat.le_refl _, Nat.le_refl _⟩ (fun r6 _ => ?_)
  refine k_cVI C ct_X8_addStep_1060 my_8_addStep ml_5_57 rfl ⟨by omega, Nat.le_of_ble_eq_true rfl⟩ (recvC (b := 1060) (ci := 8) rfl ⟨rfl, rfl⟩ am_1079 rfl rfl) rfl (Nat.le_of_ble_eq_true rfl) dX5_product_69 ⟨Nat.le_refl _, Nat.le_refl _⟩ (fun r7 _ => ?_)
  refine k_istore_n (lv' := [(2, .int r7.1), (4, .int r5), (0, .ref (ad 119)), (1, .int a1), (3, .int x3)]) C dX5_product_72 rfl (Nat.le_of_ble_eq_true rfl) rfl ?_
  refine k_iinc (q := 4) (v := x3 + 1) (lv' := [(3, .int (x3 + 1)), (2, .int r7.1), (4, .int r5), (0, .ref (ad 119)), (1, .int a1)]) C dX5_product_73 rfl rfl (Nat.le_of_ble_eq_true rfl) rfl ?_
  refine k_goto (tgt := 8) C dX5_product_76 (by decide) ?_
  refine Dk.loc [3, 4, 1, 0] rfl ?_
  exact hK8 _ _ _
set_option maxRecDepth 20000 in
theorem kb_X5_product_L8 {X : GX} {θ : TH} {ad Y : Nat → Nat} {S0 : St} {d : Nat} {F : Nat} {Z : Zt} {g : Nat → St → Int32 → Int32 → Option (Int32 × St)} {a1 : Int32} (C : CX (mE X θ (wdC θ ad Y Z S0) 5) RX5 cX5_product (some .int) (2 + (d + 1)) 0 0) (hg_operand : ∀ (S : St) (a1 : Int32) (r : Int32 × St), g 5 S a1 0 = some r → Ct X.2.1 θ yX5_operand cX5_operand 4 (some .int) (2 + d) 0 0 [.ref (ad 119), .int a1] (wdC θ ad Y Z S) (PIS (wdC θ ad Y Z) r)) : ∀ (n : Nat) (S : St) (x2 : Int32) (x3 : Int32), Dk (mE X θ (wdC θ ad Y Z S0) 5) (mT X θ (wdC θ ad Y Z S0) 5 (PIS (wdC θ ad Y Z))) 0 0 (wdC θ ad Y Z S) [(0, .ref (ad 119)), (1, .int a1), (2, .int x2), (3, .int x3)] [] 8 (f_X5_product_L8 F Z g a1 n S x2 x3) := by
  intro n
  induction n with
  | zero => intro S x2 x3; exact Dk.none
  | succ n ih =>
    intro S x2 x3
    show Dk _ _ _ _ _ _ _ _ (if (120 : Int32) ≤ x3 then some (x2, S) else (f_X5_ahead Z S).bind fun r2 => (if r2 = 42 then f_X5_product_B41 F Z g a1 (f_X5_product_L8 F Z g a1 n) S x2 x3 else (f_X5_ahead Z S).bind fun r3 => (if r3 = 47 then f_X5_product_B41 F Z g a1 (f_X5_product_L8 F Z g a1 n) S x2 x3 else (f_X5_ahead Z S).bind fun r4 => (if r4 = 37 then f_X5_product_B41 F Z g a1 (f_X5_product_L8 F Z g a1 n) S x2 x3 else some (x2, S)))))
    refine k_iload_n (q := 3) C dX5_product_8 rfl rfl ?_
    refine k_bipush (v := 120) C dX5_product_9 rfl ?_
    refine k_icmp_ge (tgt := 79) C dX5_product_11 (by decide) (fun _ => ?_) (fun _ => ?_)
    · refine k_iload_n (q := 2) C dX5_product_79 rfl rfl ?_
      exact k_iret C rfl ⟨rfl, rfl⟩ dX5_product_80
    · refine k_aload_n (q := 0) C dX5_product_14 rfl rfl ?_
      refine k_cVI C ct_X5_ahead my_5_ahead ml_5_67 rfl ⟨by omega, Nat.le_of_ble_eq_true rfl⟩ (recvC (b := 100) (ci := 5) rfl ⟨rfl, rfl⟩ am_119 rfl rfl) rfl (Nat.le_of_ble_eq_true rfl) dX5_product_15 ⟨Nat.le_refl _, Nat.le_refl _⟩ (fun r2 _ => ?_)
      refine k_bipush (v := 42) C dX5_product_18 rfl ?_
      refine k_icmp_eq (tgt := 41) C dX5_product_20 (by decide) (fun _ => ?_) (fun _ => ?_)
      · exact kb_X5_product_B41 C hg_operand ih _ _ _
      · refine k_aload_n (q := 0) C dX5_product_23 rfl rfl ?_
        refine k_cVI C ct_X5_ahead my_5_ahead ml_5_67 rfl ⟨by omega, Nat.le_of_ble_eq_true rfl⟩ (recvC (b := 100) (ci := 5) rfl ⟨rfl, rfl⟩ am_119 rfl rfl) rfl (Nat.le_of_ble_eq_true rfl) dX5_product_24 ⟨Nat.le_refl _, Nat.le_refl _⟩ (fun r3 _ => ?_)
        refine k_bipush (v := 47) C dX5_product_27 rfl ?_
        refine k_icmp_eq (tgt := 41) C dX5_product_29 (by decide) (fun _ => ?_) (fun _ => ?_)
        · exact kb_X5_product_B41 C hg_operand ih _ _ _
        · refine k_aload_n (q := 0) C dX5_product_32 rfl rfl ?_
          refine k_cVI C ct_X5_ahead my_5_ahead ml_5_67 rfl ⟨by omega, Nat.le_of_ble_eq_true rfl⟩ (recvC (b := 100) (ci := 5) rfl ⟨rfl, rfl⟩ am_119 rfl rfl) rfl (Nat.le_of_ble_eq_true rfl) dX5_product_33 ⟨Nat.le_refl _, Nat.le_refl _⟩ (fun r4 _ => ?_)
          refine k_bipush (v := 37) C dX5_product_36 rfl ?_
          refine k_icmp_ne (tgt := 79) C dX5_product_38 (by decide) (fun _ => ?_) (fun _ => ?_)
          · refine k_iload_n (q := 2) C dX5_product_79 rfl rfl ?_
            exact k_iret C rfl ⟨rfl, rfl⟩ dX5_product_80
          · exact kb_X5_product_B41 C hg_operand ih _ _ _
set_option maxRecDepth 20000 in
theorem kw_X5_product {X : GX} {θ : TH} {ad Y : Nat → Nat} {d : Nat} {F : Nat} {Z : Zt} {g : Nat → St → Int32 → Int32 → Option (Int32 × St)} {S : St} {a1 : Int32} (C : CX (mE X θ (wdC θ ad Y Z S) 5) RX5 cX5_product (some .int) (2 + (d + 1)) 0 0) (hg_operand : ∀ (S : St) (a1 : Int32) (r : Int32 × St), g 5 S a1 0 = some r → Ct X.2.1 θ yX5_operand cX5_operand 4 (some .int) (2 + d) 0 0 [.ref (ad 119), .int a1] (wdC θ ad Y Z S) (PIS (wdC θ ad Y Z) r)) : Dk (mE X θ (wdC θ ad Y Z S) 5) (mT X θ (wdC θ ad Y Z S) 5 (PIS (wdC θ ad Y Z))) 0 0 (wdC θ ad Y Z S) [(0, .ref (ad 119)), (1, .int a1)] [] 0 (f_X5_product F Z g S a1) := by
  show Dk _ _ _ _ _ _ _ _ ((g 5 S a1 0).bind fun r1 => f_X5_product_L8 F Z g a1 F r1.2 r1.1 0)
  refine k_aload_n (q := 0) C dX5_product_0 rfl rfl ?_
  refine k_iload_n (q := 1) C dX5_product_1 rfl rfl ?_
  refine k_cVI C (hg_operand _ _) my_5_operand ml_5_73 rfl ⟨Nat.le_refl _, Nat.le_of_ble_eq_true rfl⟩ (recvC (b := 100) (ci := 5) rfl ⟨rfl, rfl⟩ am_119 rfl rfl) rfl (Nat.le_of_ble_eq_true rfl) dX5_product_2 ⟨Nat.le_refl _, Nat.le_refl _⟩ (fun r1 _ => ?_)
  refine k_istore_n (lv' := [(2, .int r1.1), (0, .ref (ad 119)), (1, .int a1)]) C dX5_product_5 rfl (Nat.le_of_ble_eq_true rfl) rfl ?_
  refine k_iconst (v := 0) C dX5_product_6 rfl ?_
  refine k_istore_n (lv' := [(3, .int 0), (2, .int r1.1), (0, .ref (ad 119)), (1, .int a1)]) C dX5_product_7 rfl (Nat.le_of_ble_eq_true rfl) rfl ?_
  refine Dk.loc [2, 3, 1, 0] rfl ?_
  exact kb_X5_product_L8 C hg_operand _ _ _ _
