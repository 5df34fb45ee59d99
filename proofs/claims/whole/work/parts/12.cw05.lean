set_option maxRecDepth 20000 in
theorem kw_X10_state {X : GX} {θ : TH} {ad Y : Nat → Nat} {F : Nat} {Z : Zt} {S : St} {a1 : Int32} {a2 : Int32} (C : CX (mE X θ (wdC θ ad Y Z S) 3) RX10 cX10_state (some .int) 2 0 0)  : Dk (mE X θ (wdC θ ad Y Z S) 3) (mT X θ (wdC θ ad Y Z S) 3 (PI (wdC θ ad Y Z S))) 0 0 (wdC θ ad Y Z S) [(0, .ref (ad 219)), (1, .int a1), (2, .int a2)] [] 0 (f_X10_state F Z S a1 a2) := by
  show Dk _ _ _ _ _ _ _ _ ((f_X10_isPlace Z S a1 a2).bind fun r1 => (if r1 = 0 then some ((-1 : Int32)) else (f_X7_upIn F Z S a1 a2).bind fun r2 => some r2))
  refine k_aload_n (q := 0) C dX10_state_0 rfl rfl ?_
  refine k_iload_n (q := 1) C dX10_state_1 rfl rfl ?_
  refine k_iload_n (q := 2) C dX10_state_2 rfl rfl ?_
  refine k_cVI C ct_X10_isPlace my_10_isPlace ml_10_115 rfl ⟨Nat.le_of_ble_eq_true rfl, Nat.le_of_ble_eq_true rfl⟩ (recvC (b := 200) (ci := 10) rfl ⟨rfl, rfl⟩ am_219 rfl rfl) rfl (Nat.le_of_ble_eq_true rfl) dX10_state_3 ⟨Nat.le_refl _, Nat.le_refl _⟩ (fun r1 _ => ?_)
  refine k_if_eq (tgt := 21) C dX10_state_6 (by decide) (fun _ => ?_) (fun _ => ?_)
  · refine k_iconst (v := (-1)) C dX10_state_21 rfl ?_
    exact k_iret C rfl ⟨rfl, rfl⟩ dX10_state_22
  · refine k_aload_n (q := 0) C dX10_state_9 rfl rfl ?_
    refine c_get (b := 200) (ci := 10) (kf := 0) (N := 9) C rfl ⟨rfl, rfl⟩ am_219 rfl lay_10 kk_10_0 fl_10_10 rfl dX10_state_10 ?_
    refine k_iload_n (q := 1) C dX10_state_13 rfl rfl ?_
    refine k_iload_n (q := 2) C dX10_state_14 rfl rfl ?_
    refine k_cVI C ct_X7_upIn my_7_upIn ml_10_119 rfl ⟨Nat.le_of_ble_eq_true rfl, Nat.le_of_ble_eq_true rfl⟩ (recvC (b := 140) (ci := 7) rfl ⟨rfl, rfl⟩ am_159 rfl rfl) rfl (Nat.le_of_ble_eq_true rfl) dX10_state_15 ⟨Nat.le_refl _, Nat.le_refl _⟩ (fun r2 _ => ?_)
    refine k_goto (tgt := 22) C dX10_state_18 (by decide) ?_
    exact k_iret C rfl ⟨rfl, rfl⟩ dX10_state_22
theorem ct_X10_state {l : Launch} {θ : TH} {ad Y : Nat → Nat} {S : St} {F : Nat} {Z : Zt} {a1 : Int32} {a2 : Int32}  : ∀ r, f_X10_state F Z S a1 a2 = some r → Ct l θ yX10_state cX10_state 3 (some .int) 2 0 0 [.ref (ad 219), .int a1, .int a2] (wdC θ ad Y Z S) (PI (wdC θ ad Y Z S) r) :=
  fun r hr => Ct.of (by decide +kernel) (Nat.le_of_ble_eq_true rfl) (fun X _ C _ => kw_X10_state C  r hr)
set_option maxRecDepth 20000 in
theorem kw_X10_deed {X : GX} {θ : TH} {ad Y : Nat → Nat} {Z : Zt} {S : St} {a1 : Int32} {a2 : Int32} (C : CX (mE X θ (wdC θ ad Y Z S) 3) RX10 cX10_deed (some .int) 1 0 0)  : Dk (mE X θ (wdC θ ad Y Z S) 3) (mT X θ (wdC θ ad Y Z S) 3 (PIS (wdC θ ad Y Z))) 0 0 (wdC θ ad Y Z S) [(0, .ref (ad 219)), (1, .int a1), (2, .int a2)] [] 0 (f_X10_deed Z S a1 a2) := by
  show Dk _ _ _ _ _ _ _ _ (if a1 < 0 then some ((-1 : Int32), S) else if a2 < 0 then some ((-1 : Int32), S) else (f_X1_isSo (a1 / 100) (jrem a1 100) (a2 / 10) (jrem a2 10)).bind fun r1 => (if r1 = 0 then some ((-1 : Int32), S) else (f_X1_add Z S (a1 / 100) (jrem a1 100) (a2 / 10) (jrem a2 10)).bind fun r2 => some (r2.1, r2.2)))
  refine k_iload_n (q := 1) C dX10_deed_0 rfl rfl ?_
  refine k_if_lt (tgt := 34) C dX10_deed_1 (by decide) (fun _ => ?_) (fun _ => ?_)
  · refine k_iconst (v := (-1)) C dX10_deed_34 rfl ?_
    exact k_iret C rfl ⟨rfl, rfl⟩ dX10_deed_35
  · refine k_iload_n (q := 2) C dX10_deed_4 rfl rfl ?_
    refine k_if_lt (tgt := 34) C dX10_deed_5 (by decide) (fun _ => ?_) (fun _ => ?_)
    · refine k_iconst (v := (-1)) C dX10_deed_34 rfl ?_
      exact k_iret C rfl ⟨rfl, rfl⟩ dX10_deed_35
    · refine k_aload_n (q := 0) C dX10_deed_8 rfl rfl ?_
      refine c_get (b := 200) (ci := 10) (kf := 2) (N := 9) C rfl ⟨rfl, rfl⟩ am_219 rfl lay_10 kk_10_2 fl_10_26 rfl dX10_deed_9 ?_
      refine k_iload_n (q := 1) C dX10_deed_12 rfl rfl ?_
      refine k_bipush (v := 100) C dX10_deed_13 rfl ?_
      refine k_idiv C dX10_deed_15 (by decide) ?_
      refine k_iload_n (q := 1) C dX10_deed_16 rfl rfl ?_
      refine k_bipush (v := 100) C dX10_deed_17 rfl ?_
      refine k_irem C dX10_deed_19 (by decide) ?_
      refine k_iload_n (q := 2) C dX10_deed_20 rfl rfl ?_
      refine k_bipush (v := 10) C dX10_deed_21 rfl ?_
      refine k_idiv C dX10_deed_23 (by decide) ?_
      refine k_iload_n (q := 2) C dX10_deed_24 rfl rfl ?_
      refine k_bipush (v := 10) C dX10_deed_25 rfl ?_
      refine k_irem C dX10_deed_27 (by decide) ?_
      refine k_cVI C ct_X1_isSo my_1_isSo ml_10_123 rfl ⟨Nat.le_of_ble_eq_true rfl, Nat.le_of_ble_eq_true rfl⟩ (recvC (b := 20) (ci := 1) rfl ⟨rfl, rfl⟩ am_39 rfl rfl) rfl (Nat.le_of_ble_eq_true rfl) dX10_deed_28 ⟨Nat.le_refl _, Nat.le_refl _⟩ (fun r1 _ => ?_)
      refine k_if_ne (tgt := 36) C dX10_deed_31 (by decide) (fun _ => ?_) (fun _ => ?_)
      · refine k_aload_n (q := 0) C dX10_deed_36 rfl rfl ?_
        refine c_get (b := 200) (ci := 10) (kf := 2) (N := 9) C rfl ⟨rfl, rfl⟩ am_219 rfl lay_10 kk_10_2 fl_10_26 rfl dX10_deed_37 ?_
        refine k_iload_n (q := 1) C dX10_deed_40 rfl rfl ?_
        refine k_bipush (v := 100) C dX10_deed_41 rfl ?_
        refine k_idiv C dX10_deed_43 (by decide) ?_
        refine k_iload_n (q := 1) C dX10_deed_44 rfl rfl ?_
        refine k_bipush (v := 100) C dX10_deed_45 rfl ?_
        refine k_irem C dX10_deed_47 (by decide) ?_
        refine k_iload_n (q := 2) C dX10_deed_48 rfl rfl ?_
        refine k_bipush (v := 10) C dX10_deed_49 rfl ?_
        refine k_idiv C dX10_deed_51 (by decide) ?_
        refine k_iload_n (q := 2) C dX10_deed_52 rfl rfl ?_
        refine k_bipush (v := 10) C dX10_deed_53 rfl ?_
        refine k_irem C dX10_deed_55 (by decide) ?_
        refine k_cVI C ct_X1_add my_1_add ml_10_126 rfl ⟨Nat.le_of_ble_eq_true rfl, Nat.le_of_ble_eq_true rfl⟩ (recvC (b := 20) (ci := 1) rfl ⟨rfl, rfl⟩ am_39 rfl rfl) rfl (Nat.le_of_ble_eq_true rfl) dX10_deed_56 ⟨Nat.le_refl _, Nat.le_refl _⟩ (fun r2 _ => ?_)
        exact k_iret C rfl ⟨rfl, rfl⟩ dX10_deed_59
      · refine k_iconst (v := (-1)) C dX10_deed_34 rfl ?_
        exact k_iret C rfl ⟨rfl, rfl⟩ dX10_deed_35
theorem ct_X10_deed {l : Launch} {θ : TH} {ad Y : Nat → Nat} {S : St} {Z : Zt} {a1 : Int32} {a2 : Int32}  : ∀ r, f_X10_deed Z S a1 a2 = some r → Ct l θ yX10_deed cX10_deed 3 (some .int) 1 0 0 [.ref (ad 219), .int a1, .int a2] (wdC θ ad Y Z S) (PIS (wdC θ ad Y Z) r) :=
  fun r hr => Ct.of (by decide +kernel) (Nat.le_of_ble_eq_true rfl) (fun X _ C _ => kw_X10_deed C  r hr)
set_option maxRecDepth 20000 in
theorem kw_X10_deedFromRow {X : GX} {θ : TH} {ad Y : Nat → Nat} {Z : Zt} {S : St} {a1 : Int32} {a2 : Int32} {a3 : Int32} (C : CX (mE X θ (wdC θ ad Y Z S) 9) RX10 cX10_deedFromRow (some .boolean) 4 0 0)  : Dk (mE X θ (wdC θ ad Y Z S) 9) (mT X θ (wdC θ ad Y Z S) 9 (PIS (wdC θ ad Y Z))) 0 0 (wdC θ ad Y Z S) [(0, .ref (ad 219)), (1, .int a1), (2, .int a2), (3, .int a3)] [] 0 (f_X10_deedFromRow Z S a1 a2 a3) := by
  show Dk _ _ _ _ _ _ _ _ ((f_X6_holdsBytes Z S a1).bind fun r1 => (if r1 = 0 then some ((0 : Int32), S) else (f_X6_hasPlaces Z S a1 a2 (a3 + 4)).bind fun r2 => (if r2 = 0 then some ((0 : Int32), S) else (f_X6_at Z S a1 (a2 + a3)).bind fun r3 => (f_X6_at Z S a1 ((a2 + a3) + 1)).bind fun r4 => (f_X6_at Z S a1 ((a2 + a3) + 2)).bind fun r5 => (f_X6_at Z S a1 ((a2 + a3) + 3)).bind fun r6 => (f_X1_isSo r3.toInt32 r4.toInt32 r5.toInt32 r6.toInt32).bind fun r7 => (if r7 = 0 then some ((0 : Int32), S) else (f_X1_add Z S r3.toInt32 r4.toInt32 r5.toInt32 r6.toInt32).bind fun r8 => (if r8.1 < 0 then some ((0 : Int32), r8.2) else some ((1 : Int32), r8.2))))))
  refine k_aload_n (q := 0) C dX10_deedFromRow_0 rfl rfl ?_
  refine c_get (b := 200) (ci := 10) (kf := 8) (N := 9) C rfl ⟨rfl, rfl⟩ am_219 rfl lay_10 kk_10_8 fl_10_72 rfl dX10_deedFromRow_1 ?_
  refine k_iload_n (q := 1) C dX10_deedFromRow_4 rfl rfl ?_
  refine k_cVI C ct_X6_holdsBytes my_6_holdsBytes ml_10_136 rfl ⟨Nat.le_of_ble_eq_true rfl, Nat.le_of_ble_eq_true rfl⟩ (recvC (b := 120) (ci := 6) rfl ⟨rfl, rfl⟩ am_139 rfl rfl) rfl (Nat.le_of_ble_eq_true rfl) dX10_deedFromRow_5 ⟨Nat.le_refl _, Nat.le_refl _⟩ (fun r1 _ => ?_)
  refine k_if_eq (tgt := 26) C dX10_deedFromRow_8 (by decide) (fun _ => ?_) (fun _ => ?_)
  · refine k_iconst (v := 0) C dX10_deedFromRow_26 rfl ?_
    exact k_iret C rfl ⟨rfl, rfl⟩ dX10_deedFromRow_27
  · refine k_aload_n (q := 0) C dX10_deedFromRow_11 rfl rfl ?_
    refine c_get (b := 200) (ci := 10) (kf := 8) (N := 9) C rfl ⟨rfl, rfl⟩ am_219 rfl lay_10 kk_10_8 fl_10_72 rfl dX10_deedFromRow_12 ?_
    refine k_iload_n (q := 1) C dX10_deedFromRow_15 rfl rfl ?_
    refine k_iload_n (q := 2) C dX10_deedFromRow_16 rfl rfl ?_
    refine k_iload_n (q := 3) C dX10_deedFromRow_17 rfl rfl ?_
    refine k_iconst (v := 4) C dX10_deedFromRow_18 rfl ?_
    refine k_iadd C dX10_deedFromRow_19 ?_
    refine k_cVI C ct_X6_hasPlaces my_6_hasPlaces ml_10_266 rfl ⟨Nat.le_of_ble_eq_true rfl, Nat.le_of_ble_eq_true rfl⟩ (recvC (b := 120) (ci := 6) rfl ⟨rfl, rfl⟩ am_139 rfl rfl) rfl (Nat.le_of_ble_eq_true rfl) dX10_deedFromRow_20 ⟨Nat.le_refl _, Nat.le_refl _⟩ (fun r2 _ => ?_)
    refine k_if_ne (tgt := 28) C dX10_deedFromRow_23 (by decide) (fun _ => ?_) (fun _ => ?_)
    · refine k_iload_n (q := 2) C dX10_deedFromRow_28 rfl rfl ?_
      refine k_iload_n (q := 3) C dX10_deedFromRow_29 rfl rfl ?_
      refine k_iadd C dX10_deedFromRow_30 ?_
      refine k_istore (lv' := [(4, .int (a2 + a3)), (0, .ref (ad 219)), (1, .int a1), (2, .int a2), (3, .int a3)]) C dX10_deedFromRow_31 (Nat.le_of_ble_eq_true rfl) rfl ?_
      refine k_aload_n (q := 1) C dX10_deedFromRow_33 rfl rfl ?_
      refine c_get (b := 200) (ci := 10) (kf := 8) (N := 9) C rfl ⟨rfl, rfl⟩ am_219 rfl lay_10 kk_10_8 fl_10_72 rfl dX10_deedFromRow_34 ?_
      refine k_iload_n (q := 2) C dX10_deedFromRow_37 rfl rfl ?_
      refine k_iload (q := 0) C dX10_deedFromRow_38 rfl ?_
      refine k_cVL C ct_X6_at my_6_at ml_10_255 rfl ⟨Nat.le_of_ble_eq_true rfl, Nat.le_of_ble_eq_true rfl⟩ (recvC (b := 120) (ci := 6) rfl ⟨rfl, rfl⟩ am_139 rfl rfl) rfl (Nat.le_of_ble_eq_true rfl) dX10_deedFromRow_40 ⟨Nat.le_refl _, Nat.le_refl _⟩ (fun r3 _ => ?_)
      refine k_l2i C dX10_deedFromRow_43 ?_
      refine k_istore (lv' := [(5, .int r3.toInt32), (4, .int (a2 + a3)), (0, .ref (ad 219)), (1, .int a1), (2, .int a2), (3, .int a3)]) C dX10_deedFromRow_44 (Nat.le_of_ble_eq_true rfl) rfl ?_
      refine k_aload_n (q := 2) C dX10_deedFromRow_46 rfl rfl ?_
      refine c_get (b := 200) (ci := 10) (kf := 8) (N := 9) C rfl ⟨rfl, rfl⟩ am_219 rfl lay_10 kk_10_8 fl_10_72 rfl dX10_deedFromRow_47 ?_
      refine k_iload_n (q := 3) C dX10_deedFromRow_50 rfl rfl ?_
      refine k_iload (q := 1) C dX10_deedFromRow_51 rfl ?_
      refine k_iconst (v := 1) C dX10_deedFromRow_53 rfl ?_
      refine k_iadd C dX10_deedFromRow_54 ?_
      refine k_cVL C ct_X6_at my_6_at ml_10_255 rfl ⟨Nat.le_of_ble_eq_true rfl, Nat.le_of_ble_eq_true rfl⟩ (recvC (b := 120) (ci := 6) rfl ⟨rfl, rfl⟩ am_139 rfl rfl) rfl (Nat.le_of_ble_eq_true rfl) dX10_deedFromRow_55 ⟨Nat.le_refl _, Nat.le_refl _⟩ (fun r4 _ => ?_)
      refine k_l2i C dX10_deedFromRow_58 ?_
      refine k_istore (lv' := [(6, .int r4.toInt32), (5, .int r3.toInt32), (4, .int (a2 + a3)), (0, .ref (ad 219)), (1, .int a1), (2, .int a2), (3, .int a3)]) C dX10_deedFromRow_59 (Nat.le_of_ble_eq_true rfl) rfl ?_
      refine k_aload_n (q := 3) C dX10_deedFromRow_61 rfl rfl ?_
      refine c_get (b := 200) (ci := 10) (kf := 8) (N := 9) C rfl ⟨rfl, rfl⟩ am_219 rfl lay_10 kk_10_8 fl_10_72 rfl dX10_deedFromRow_62 ?_
      refine k_iload_n (q := 4) C dX10_deedFromRow_65 rfl rfl ?_
      refine k_iload (q := 2) C dX10_deedFromRow_66 rfl ?_
      refine k_iconst (v := 2) C dX10_deedFromRow_68 rfl ?_
      refine k_iadd C dX10_deedFromRow_69 ?_
      refine k_cVL C ct_X6_at my_6_at ml_10_255 rfl ⟨Nat.le_of_ble_eq_true rfl, Nat.le_of_ble_eq_true rfl⟩ (recvC (b := 120) (ci := 6) rfl ⟨rfl, rfl⟩ am_139 rfl rfl) rfl (Nat.le_of_ble_eq_true rfl) dX10_deedFromRow_70 ⟨Nat.le_refl _, Nat.le_refl _⟩ (fun r5 _ => ?_)
      refine k_l2i C dX10_deedFromRow_73 ?_
      refine k_istore (lv' := [(7, .int r5.toInt32), (6, .int r4.toInt32), (5, .int r3.toInt32), (4, .int (a2 + a3)), (0, .ref (ad 219)), (1, .int a1), (2, .int a2), (3, .int a3)]) C dX10_deedFromRow_74 (Nat.le_of_ble_eq_true rfl) rfl ?_
      refine k_aload_n (q := 4) C dX10_deedFromRow_76 rfl rfl ?_
      refine c_get (b := 200) (ci := 10) (kf := 8) (N := 9) C rfl ⟨rfl, rfl⟩ am_219 rfl lay_10 kk_10_8 fl_10_72 rfl dX10_deedFromRow_77 ?_
      refine k_iload_n (q := 5) C dX10_deedFromRow_80 rfl rfl ?_
      refine k_iload (q := 3) C dX10_deedFromRow_81 rfl ?_
      refine k_iconst (v := 3) C dX10_deedFromRow_83 rfl ?_
      refine k_iadd C dX10_deedFromRow_84 ?_
      refine k_cVL C ct_X6_at my_6_at ml_10_255 rfl ⟨Nat.le_of_ble_eq_true rfl, Nat.le_of_ble_eq_true rfl⟩ (recvC (b := 120) (ci := 6) rfl ⟨rfl, rfl⟩ am_139 rfl rfl) rfl (Nat.le_of_ble_eq_true rfl) dX10_deedFromRow_85 ⟨Nat.le_refl _, Nat.le_refl _⟩ (fun r6 _ => ?_)
      refine k_l2i C dX10_deedFromRow_88 ?_
      refine k_istore (lv' := [(8, .int r6.toInt32), (7, .int r5.toInt32), (6, .int r4.toInt32), (5, .int r3.toInt32), (4, .int (a2 + a3)), (0, .ref (ad 219)), (1, .int a1), (2, .int a2), (3, .int a3)]) C dX10_deedFromRow_89 (Nat.le_of_ble_eq_true rfl) rfl ?_
      refine k_aload_n (q := 5) C dX10_deedFromRow_91 rfl rfl ?_
      refine c_get (b := 200) (ci := 10) (kf := 2) (N := 9) C rfl ⟨rfl, rfl⟩ am_219 rfl lay_10 kk_10_2 fl_10_26 rfl dX10_deedFromRow_92 ?_
      refine k_iload (q := 3) C dX10_deedFromRow_95 rfl ?_
      refine k_iload (q := 2) C dX10_deedFromRow_97 rfl ?_
      refine k_iload (q := 1) C dX10_deedFromRow_99 rfl ?_
      refine k_iload (q := 0) C dX10_deedFromRow_101 rfl ?_
      refine k_cVI C ct_X1_isSo my_1_isSo ml_10_123 rfl ⟨Nat.le_of_ble_eq_true rfl, Nat.le_of_ble_eq_true rfl⟩ (recvC (b := 20) (ci := 1) rfl ⟨rfl, rfl⟩ am_39 rfl rfl) rfl (Nat.le_of_ble_eq_true rfl) dX10_deedFromRow_103 ⟨Nat.le_refl _, Nat.le_refl _⟩ (fun r7 _ => ?_)
      refine k_if_eq (tgt := 131) C dX10_deedFromRow_106 (by decide) (fun _ => ?_) (fun _ => ?_)
      · refine k_iconst (v := 0) C dX10_deedFromRow_131 rfl ?_
        exact k_iret C rfl ⟨rfl, rfl⟩ dX10_deedFromRow_132
      · refine k_aload_n (q := 5) C dX10_deedFromRow_109 rfl rfl ?_
        refine c_get (b := 200) (ci := 10) (kf := 2) (N := 9) C rfl ⟨rfl, rfl⟩ am_219 rfl lay_10 kk_10_2 fl_10_26 rfl dX10_deedFromRow_110 ?_
        refine k_iload (q := 3) C dX10_deedFromRow_113 rfl ?_
        refine k_iload (q := 2) C dX10_deedFromRow_115 rfl ?_
        refine k_iload (q := 1) C dX10_deedFromRow_117 rfl ?_
        refine k_iload (q := 0) C dX10_deedFromRow_119 rfl ?_
        refine k_cVI C ct_X1_add my_1_add ml_10_126 rfl ⟨Nat.le_of_ble_eq_true rfl, Nat.le_of_ble_eq_true rfl⟩ (recvC (b := 20) (ci := 1) rfl ⟨rfl, rfl⟩ am_39 rfl rfl) rfl (Nat.le_of_ble_eq_true rfl) dX10_deedFromRow_121 ⟨Nat.le_refl _, Nat.le_refl _⟩ (fun r8 _ => ?_)
        refine k_if_lt (tgt := 131) C dX10_deedFromRow_124 (by decide) (fun _ => ?_) (fun _ => ?_)
        · refine k_iconst (v := 0) C dX10_deedFromRow_131 rfl ?_
          exact k_iret C rfl ⟨rfl, rfl⟩ dX10_deedFromRow_132
        · refine k_iconst (v := 1) C dX10_deedFromRow_127 rfl ?_
          refine k_goto (tgt := 132) C dX10_deedFromRow_128 (by decide) ?_
          exact k_iret C rfl ⟨rfl, rfl⟩ dX10_deedFromRow_132
    · refine k_iconst (v := 0) C dX10_deedFromRow_26 rfl ?_
      exact k_iret C rfl ⟨rfl, rfl⟩ dX10_deedFromRow_27
theorem ct_X10_deedFromRow {l : Launch} {θ : TH} {ad Y : Nat → Nat} {S : St} {Z : Zt} {a1 : Int32} {a2 : Int32} {a3 : Int32}  : ∀ r, f_X10_deedFromRow Z S a1 a2 a3 = some r → Ct l θ yX10_deedFromRow cX10_deedFromRow 9 (some .boolean) 4 0 0 [.ref (ad 219), .int a1, .int a2, .int a3] (wdC θ ad Y Z S) (PIS (wdC θ ad Y Z) r) :=
  fun r hr => Ct.of (by decide +kernel) (Nat.le_of_ble_eq_true rfl) (fun X _ C _ => kw_X10_deedFromRow C  r hr)
set_option maxRecDepth 20000 in
theorem kb_X10_deeds_L52 {X : GX} {θ : TH} {ad Y : Nat → Nat} {S0 : St} {F : Nat} {Z : Zt} {a1 : Int32} {a2 : Int32} {a3 : Int32} (C : CX (mE X θ (wdC θ ad Y Z S0) 5) RX10 cX10_deeds (some .int) 5 0 0)  : ∀ (n : Nat) (S : St) (x4 : Int32), Dk (mE X θ (wdC θ ad Y Z S0) 5) (mT X θ (wdC θ ad Y Z S0) 5 (PIS (wdC θ ad Y Z))) 0 0 (wdC θ ad Y Z S) [(0, .ref (ad 219)), (1, .int a1), (2, .int a2), (3, .int a3), (4, .int x4)] [] 52 (f_X10_deeds_L52 F Z a1 a2 a3 n S x4) := by
  intro n
  induction n with
  | zero => intro S x4; exact Dk.none
  | succ n ih =>
    intro S x4
    show Dk _ _ _ _ _ _ _ _ (if a3 ≤ x4 then some (x4, S) else (f_X10_deedFromRow Z S a1 a2 (4 * x4)).bind fun r4 => (if r4.1 = 0 then some (x4, r4.2) else f_X10_deeds_L52 F Z a1 a2 a3 n r4.2 (x4 + 1)))
    refine k_iload (q := 4) C dX10_deeds_52 rfl ?_
    refine k_iload_n (q := 3) C dX10_deeds_54 rfl rfl ?_
    refine k_icmp_ge (tgt := 77) C dX10_deeds_55 (by decide) (fun _ => ?_) (fun _ => ?_)
    · refine k_iload (q := 4) C dX10_deeds_77 rfl ?_
      exact k_iret C rfl ⟨rfl, rfl⟩ dX10_deeds_79
    · refine k_aload_n (q := 0) C dX10_deeds_58 rfl rfl ?_
      refine k_iload_n (q := 1) C dX10_deeds_59 rfl rfl ?_
      refine k_iload_n (q := 2) C dX10_deeds_60 rfl rfl ?_
      refine k_iconst (v := 4) C dX10_deeds_61 rfl ?_
      refine k_iload (q := 4) C dX10_deeds_62 rfl ?_
      refine k_imul C dX10_deeds_64 ?_
      refine k_cVI C ct_X10_deedFromRow my_10_deedFromRow ml_10_139 rfl ⟨Nat.le_of_ble_eq_true rfl, Nat.le_of_ble_eq_true rfl⟩ (recvC (b := 200) (ci := 10) rfl ⟨rfl, rfl⟩ am_219 rfl rfl) rfl (Nat.le_of_ble_eq_true rfl) dX10_deeds_65 ⟨Nat.le_refl _, Nat.le_refl _⟩ (fun r4 _ => ?_)
      refine k_if_eq (tgt := 77) C dX10_deeds_68 (by decide) (fun _ => ?_) (fun _ => ?_)
      · refine k_iload (q := 4) C dX10_deeds_77 rfl ?_
        exact k_iret C rfl ⟨rfl, rfl⟩ dX10_deeds_79
      · refine k_iinc (q := 4) (v := x4 + 1) (lv' := [(4, .int (x4 + 1)), (0, .ref (ad 219)), (1, .int a1), (2, .int a2), (3, .int a3)]) C dX10_deeds_71 rfl rfl (Nat.le_of_ble_eq_true rfl) rfl ?_
        refine k_goto (tgt := 52) C dX10_deeds_74 (by decide) ?_
        refine Dk.loc [1, 2, 3, 4, 0] rfl ?_
        exact ih _ _
set_option maxRecDepth 20000 in
theorem kw_X10_deeds {X : GX} {θ : TH} {ad Y : Nat → Nat} {F : Nat} {Z : Zt} {S : St} {a1 : Int32} {a2 : Int32} {a3 : Int32} (C : CX (mE X θ (wdC θ ad Y Z S) 5) RX10 cX10_deeds (some .int) 5 0 0)  : Dk (mE X θ (wdC θ ad Y Z S) 5) (mT X θ (wdC θ ad Y Z S) 5 (PIS (wdC θ ad Y Z))) 0 0 (wdC θ ad Y Z S) [(0, .ref (ad 219)), (1, .int a1), (2, .int a2), (3, .int a3)] [] 0 (f_X10_deeds F Z S a1 a2 a3) := by
  show Dk _ _ _ _ _ _ _ _ ((f_X6_has a1).bind fun r1 => (if r1 = 0 then some ((-1 : Int32), S) else if a3 < 1 then some ((-1 : Int32), S) else if a3 ≤ 12 then (f_X6_isEmpty Z S a1).bind fun r2 => (if r2 = 0 then (f_X6_holdsBytes Z S a1).bind fun r3 => (if r3 = 0 then some ((-12 : Int32), S) else f_X10_deeds_L52 F Z a1 a2 a3 F S 0) else f_X10_deeds_L52 F Z a1 a2 a3 F S 0) else some ((-1 : Int32), S)))
  refine k_aload_n (q := 0) C dX10_deeds_0 rfl rfl ?_
  refine c_get (b := 200) (ci := 10) (kf := 8) (N := 9) C rfl ⟨rfl, rfl⟩ am_219 rfl lay_10 kk_10_8 fl_10_72 rfl dX10_deeds_1 ?_
  refine k_iload_n (q := 1) C dX10_deeds_4 rfl rfl ?_
  refine k_cVI C ct_X6_has my_6_has ml_10_130 rfl ⟨Nat.le_of_ble_eq_true rfl, Nat.le_of_ble_eq_true rfl⟩ (recvC (b := 120) (ci := 6) rfl ⟨rfl, rfl⟩ am_139 rfl rfl) rfl (Nat.le_of_ble_eq_true rfl) dX10_deeds_5 ⟨Nat.le_refl _, Nat.le_refl _⟩ (fun r1 _ => ?_)
  refine k_if_eq (tgt := 22) C dX10_deeds_8 (by decide) (fun _ => ?_) (fun _ => ?_)
  · refine k_iconst (v := (-1)) C dX10_deeds_22 rfl ?_
    exact k_iret C rfl ⟨rfl, rfl⟩ dX10_deeds_23
  · refine k_iload_n (q := 3) C dX10_deeds_11 rfl rfl ?_
    refine k_iconst (v := 1) C dX10_deeds_12 rfl ?_
    refine k_icmp_lt (tgt := 22) C dX10_deeds_13 (by decide) (fun _ => ?_) (fun _ => ?_)
    · refine k_iconst (v := (-1)) C dX10_deeds_22 rfl ?_
      exact k_iret C rfl ⟨rfl, rfl⟩ dX10_deeds_23
    · refine k_iload_n (q := 3) C dX10_deeds_16 rfl rfl ?_
      refine k_bipush (v := 12) C dX10_deeds_17 rfl ?_
      refine k_icmp_le (tgt := 24) C dX10_deeds_19 (by decide) (fun _ => ?_) (fun _ => ?_)
      · refine k_aload_n (q := 0) C dX10_deeds_24 rfl rfl ?_
        refine c_get (b := 200) (ci := 10) (kf := 8) (N := 9) C rfl ⟨rfl, rfl⟩ am_219 rfl lay_10 kk_10_8 fl_10_72 rfl dX10_deeds_25 ?_
        refine k_iload_n (q := 1) C dX10_deeds_28 rfl rfl ?_
        refine k_cVI C ct_X6_isEmpty my_6_isEmpty ml_10_133 rfl ⟨Nat.le_of_ble_eq_true rfl, Nat.le_of_ble_eq_true rfl⟩ (recvC (b := 120) (ci := 6) rfl ⟨rfl, rfl⟩ am_139 rfl rfl) rfl (Nat.le_of_ble_eq_true rfl) dX10_deeds_29 ⟨Nat.le_refl _, Nat.le_refl _⟩ (fun r2 _ => ?_)
        refine k_if_ne (tgt := 49) C dX10_deeds_32 (by decide) (fun _ => ?_) (fun _ => ?_)
        · refine k_iconst (v := 0) C dX10_deeds_49 rfl ?_
          refine k_istore (lv' := [(4, .int 0), (0, .ref (ad 219)), (1, .int a1), (2, .int a2), (3, .int a3)]) C dX10_deeds_50 (Nat.le_of_ble_eq_true rfl) rfl ?_
          refine Dk.loc [1, 2, 3, 4, 0] rfl ?_
          exact kb_X10_deeds_L52 C _ _ _
        · refine k_aload_n (q := 0) C dX10_deeds_35 rfl rfl ?_
          refine c_get (b := 200) (ci := 10) (kf := 8) (N := 9) C rfl ⟨rfl, rfl⟩ am_219 rfl lay_10 kk_10_8 fl_10_72 rfl dX10_deeds_36 ?_
          refine k_iload_n (q := 1) C dX10_deeds_39 rfl rfl ?_
          refine k_cVI C ct_X6_holdsBytes my_6_holdsBytes ml_10_136 rfl ⟨Nat.le_of_ble_eq_true rfl, Nat.le_of_ble_eq_true rfl⟩ (recvC (b := 120) (ci := 6) rfl ⟨rfl, rfl⟩ am_139 rfl rfl) rfl (Nat.le_of_ble_eq_true rfl) dX10_deeds_40 ⟨Nat.le_refl _, Nat.le_refl _⟩ (fun r3 _ => ?_)
          refine k_if_ne (tgt := 49) C dX10_deeds_43 (by decide) (fun _ => ?_) (fun _ => ?_)
          · refine k_iconst (v := 0) C dX10_deeds_49 rfl ?_
            refine k_istore (lv' := [(4, .int 0), (0, .ref (ad 219)), (1, .int a1), (2, .int a2), (3, .int a3)]) C dX10_deeds_50 (Nat.le_of_ble_eq_true rfl) rfl ?_
            refine Dk.loc [1, 2, 3, 4, 0] rfl ?_
            exact kb_X10_deeds_L52 C _ _ _
          · refine k_bipush (v := (-12)) C dX10_deeds_46 rfl ?_
            exact k_iret C rfl ⟨rfl, rfl⟩ dX10_deeds_48
      · refine k_iconst (v := (-1)) C dX10_deeds_22 rfl ?_
        exact k_iret C rfl ⟨rfl, rfl⟩ dX10_deeds_23
theorem ct_X10_deeds {l : Launch} {θ : TH} {ad Y : Nat → Nat} {S : St} {F : Nat} {Z : Zt} {a1 : Int32} {a2 : Int32} {a3 : Int32}  : ∀ r, f_X10_deeds F Z S a1 a2 a3 = some r → Ct l θ yX10_deeds cX10_deeds 5 (some .int) 5 0 0 [.ref (ad 219), .int a1, .int a2, .int a3] (wdC θ ad Y Z S) (PIS (wdC θ ad Y Z) r) :=
  fun r hr => Ct.of (by decide +kernel) (Nat.le_of_ble_eq_true rfl) (fun X _ C _ => kw_X10_deeds C  r hr)
set_option maxRecDepth 20000 in
theorem kw_X10_of {X : GX} {θ : TH} {ad Y : Nat → Nat} {Z : Zt} {S : St} {a1 : Int32} {a2 : Int32} (C : CX (mE X θ (wdC θ ad Y Z S) 3) RX10 cX10_of (some .int) 2 0 0)  : Dk (mE X θ (wdC θ ad Y Z S) 3) (mT X θ (wdC θ ad Y Z S) 3 (PI (wdC θ ad Y Z S))) 0 0 (wdC θ ad Y Z S) [(0, .ref (ad 219)), (1, .int a1), (2, .int a2)] [] 0 (f_X10_of Z S a1 a2) := by
  show Dk _ _ _ _ _ _ _ _ ((f_X1_has Z S a1).bind fun r1 => (if r1 = 0 then some ((-1 : Int32)) else if a2 < 0 then some ((-1 : Int32)) else if (3 : Int32) < a2 then some ((-1 : Int32)) else (f_X1_told Z S a1 a2).bind fun r2 => some r2))
  refine k_aload_n (q := 0) C dX10_of_0 rfl rfl ?_
  refine c_get (b := 200) (ci := 10) (kf := 2) (N := 9) C rfl ⟨rfl, rfl⟩ am_219 rfl lay_10 kk_10_2 fl_10_26 rfl dX10_of_1 ?_
  refine k_iload_n (q := 1) C dX10_of_4 rfl rfl ?_
  refine k_cVI C ct_X1_has my_1_has ml_10_142 rfl ⟨Nat.le_of_ble_eq_true rfl, Nat.le_of_ble_eq_true rfl⟩ (recvC (b := 20) (ci := 1) rfl ⟨rfl, rfl⟩ am_39 rfl rfl) rfl (Nat.le_of_ble_eq_true rfl) dX10_of_5 ⟨Nat.le_refl _, Nat.le_refl _⟩ (fun r1 _ => ?_)
  refine k_if_eq (tgt := 32) C dX10_of_8 (by decide) (fun _ => ?_) (fun _ => ?_)
  · refine k_iconst (v := (-1)) C dX10_of_32 rfl ?_
    exact k_iret C rfl ⟨rfl, rfl⟩ dX10_of_33
  · refine k_iload_n (q := 2) C dX10_of_11 rfl rfl ?_
    refine k_if_lt (tgt := 32) C dX10_of_12 (by decide) (fun _ => ?_) (fun _ => ?_)
    · refine k_iconst (v := (-1)) C dX10_of_32 rfl ?_
      exact k_iret C rfl ⟨rfl, rfl⟩ dX10_of_33
    · refine k_iload_n (q := 2) C dX10_of_15 rfl rfl ?_
      refine k_iconst (v := 3) C dX10_of_16 rfl ?_
      refine k_icmp_gt (tgt := 32) C dX10_of_17 (by decide) (fun _ => ?_) (fun _ => ?_)
      · refine k_iconst (v := (-1)) C dX10_of_32 rfl ?_
        exact k_iret C rfl ⟨rfl, rfl⟩ dX10_of_33
      · refine k_aload_n (q := 0) C dX10_of_20 rfl rfl ?_
        refine c_get (b := 200) (ci := 10) (kf := 2) (N := 9) C rfl ⟨rfl, rfl⟩ am_219 rfl lay_10 kk_10_2 fl_10_26 rfl dX10_of_21 ?_
        refine k_iload_n (q := 1) C dX10_of_24 rfl rfl ?_
        refine k_iload_n (q := 2) C dX10_of_25 rfl rfl ?_
        refine k_cVI C ct_X1_told my_1_told ml_10_143 rfl ⟨Nat.le_of_ble_eq_true rfl, Nat.le_of_ble_eq_true rfl⟩ (recvC (b := 20) (ci := 1) rfl ⟨rfl, rfl⟩ am_39 rfl rfl) rfl (Nat.le_of_ble_eq_true rfl) dX10_of_26 ⟨Nat.le_refl _, Nat.le_refl _⟩ (fun r2 _ => ?_)
        refine k_goto (tgt := 33) C dX10_of_29 (by decide) ?_
        exact k_iret C rfl ⟨rfl, rfl⟩ dX10_of_33
theorem ct_X10_of {l : Launch} {θ : TH} {ad Y : Nat → Nat} {S : St} {Z : Zt} {a1 : Int32} {a2 : Int32}  : ∀ r, f_X10_of Z S a1 a2 = some r → Ct l θ yX10_of cX10_of 3 (some .int) 2 0 0 [.ref (ad 219), .int a1, .int a2] (wdC θ ad Y Z S) (PI (wdC θ ad Y Z S) r) :=
  fun r hr => Ct.of (by decide +kernel) (Nat.le_of_ble_eq_true rfl) (fun X _ C _ => kw_X10_of C  r hr)
set_option maxRecDepth 20000 in
theorem kw_X10_isCase {X : GX} {θ : TH} {ad Y : Nat → Nat} {Z : Zt} {S : St} {a1 : Int32} {a2 : Int32} (C : CX (mE X θ (wdC θ ad Y Z S) 3) RX10 cX10_isCase (some .boolean) 2 0 0)  : Dk (mE X θ (wdC θ ad Y Z S) 3) (mT X θ (wdC θ ad Y Z S) 3 (PI (wdC θ ad Y Z S))) 0 0 (wdC θ ad Y Z S) [(0, .ref (ad 219)), (1, .int a1), (2, .int a2)] [] 0 (f_X10_isCase Z S a1 a2) := by
  show Dk _ _ _ _ _ _ _ _ (if a1 < 0 then some ((0 : Int32)) else (f_X1_has Z S (a1 / 10)).bind fun r1 => (if r1 = 0 then some ((0 : Int32)) else (f_X10_isPlace Z S (jrem a1 10) a2).bind fun r2 => (if r2 = 0 then some ((0 : Int32)) else some ((1 : Int32)))))
  refine k_iload_n (q := 1) C dX10_isCase_0 rfl rfl ?_
  refine k_if_lt (tgt := 34) C dX10_isCase_1 (by decide) (fun _ => ?_) (fun _ => ?_)
  · refine k_iconst (v := 0) C dX10_isCase_34 rfl ?_
    exact k_iret C rfl ⟨rfl, rfl⟩ dX10_isCase_35
  · refine k_aload_n (q := 0) C dX10_isCase_4 rfl rfl ?_
    refine c_get (b := 200) (ci := 10) (kf := 2) (N := 9) C rfl ⟨rfl, rfl⟩ am_219 rfl lay_10 kk_10_2 fl_10_26 rfl dX10_isCase_5 ?_
    refine k_iload_n (q := 1) C dX10_isCase_8 rfl rfl ?_
    refine k_bipush (v := 10) C dX10_isCase_9 rfl ?_
    refine k_idiv C dX10_isCase_11 (by decide) ?_
    refine k_cVI C ct_X1_has my_1_has ml_10_142 rfl ⟨Nat.le_of_ble_eq_true rfl, Nat.le_of_ble_eq_true rfl⟩ (recvC (b := 20) (ci := 1) rfl ⟨rfl, rfl⟩ am_39 rfl rfl) rfl (Nat.le_of_ble_eq_true rfl) dX10_isCase_12 ⟨Nat.le_refl _, Nat.le_refl _⟩ (fun r1 _ => ?_)
    refine k_if_eq (tgt := 34) C dX10_isCase_15 (by decide) (fun _ => ?_) (fun _ => ?_)
    · refine k_iconst (v := 0) C dX10_isCase_34 rfl ?_
      exact k_iret C rfl ⟨rfl, rfl⟩ dX10_isCase_35
    · refine k_aload_n (q := 0) C dX10_isCase_18 rfl rfl ?_
      refine k_iload_n (q := 1) C dX10_isCase_19 rfl rfl ?_
      refine k_bipush (v := 10) C dX10_isCase_20 rfl ?_
      refine k_irem C dX10_isCase_22 (by decide) ?_
      refine k_iload_n (q := 2) C dX10_isCase_23 rfl rfl ?_
      refine k_cVI C ct_X10_isPlace my_10_isPlace ml_10_115 rfl ⟨Nat.le_of_ble_eq_true rfl, Nat.le_of_ble_eq_true rfl⟩ (recvC (b := 200) (ci := 10) rfl ⟨rfl, rfl⟩ am_219 rfl rfl) rfl (Nat.le_of_ble_eq_true rfl) dX10_isCase_24 ⟨Nat.le_refl _, Nat.le_refl _⟩ (fun r2 _ => ?_)
      refine k_if_eq (tgt := 34) C dX10_isCase_27 (by decide) (fun _ => ?_) (fun _ => ?_)
      · refine k_iconst (v := 0) C dX10_isCase_34 rfl ?_
        exact k_iret C rfl ⟨rfl, rfl⟩ dX10_isCase_35
      · refine k_iconst (v := 1) C dX10_isCase_30 rfl ?_
        refine k_goto (tgt := 35) C dX10_isCase_31 (by decide) ?_
        exact k_iret C rfl ⟨rfl, rfl⟩ dX10_isCase_35
theorem ct_X10_isCase {l : Launch} {θ : TH} {ad Y : Nat → Nat} {S : St} {Z : Zt} {a1 : Int32} {a2 : Int32}  : ∀ r, f_X10_isCase Z S a1 a2 = some r → Ct l θ yX10_isCase cX10_isCase 3 (some .boolean) 2 0 0 [.ref (ad 219), .int a1, .int a2] (wdC θ ad Y Z S) (PI (wdC θ ad Y Z S) r) :=
  fun r hr => Ct.of (by decide +kernel) (Nat.le_of_ble_eq_true rfl) (fun X _ C _ => kw_X10_isCase C  r hr)
set_option maxRecDepth 20000 in
theorem kw_X10_costs {X : GX} {θ : TH} {ad : Nat → Nat} {Y : Nat → Nat} {F : Nat} {S : St} {Z : Zt} {a1 : Int32} {a2 : Int32} {a3 : Int32} (C : CX (mE X θ (wdC θ ad Y Z S) 4) RX10 cX10_costs (some .int) 5 (nd 80 Z) (9216 * nd 80 Z))  : Dk (mE X θ (wdC θ ad Y Z S) 4) (mTa X θ (wdC θ ad Y Z S) 4 (nd 80 Z) (9216 * nd 80 Z) (PIA θ ad)) 0 0 (wdC θ ad Y Z S) [(0, .ref (ad 219)), (1, .int a1), (2, .int a2), (3, .int a3)] [] 0 (f_X10_costs F S Z a1 a2 a3) := by
  have hb := @BD1.z Z
  show Dk _ _ _ _ _ _ _ _ ((f_X10_isCase Z S a1 a3).bind fun r1 => (if r1 = 0 then some ((-2000000000 : Int32), S, Z) else if a2 < 0 then some ((-2000000000 : Int32), S, Z) else (f_X1_hoursOf Z S (a1 / 10)).bind fun r2 => (if a2 < r2 then (f_X4_open F 80 S Z (a1 / 10) (jrem a1 10)).bind fun r3 => (f_X4_costOf F 80 r3.2 r3.1 a2 a3).bind fun r7 => some (r7.1, r7.2, r3.2) else some ((-2000000000 : Int32), S, Z))))
  refine k_aload_n (q := 0) C dX10_costs_0 rfl rfl ?_
  refine k_iload_n (q := 1) C dX10_costs_1 rfl rfl ?_
  refine k_iload_n (q := 3) C dX10_costs_2 rfl rfl ?_
  refine k_cVI C ct_X10_isCase my_10_isCase ml_10_146 rfl ⟨Nat.le_of_ble_eq_true rfl, Nat.le_of_ble_eq_true rfl⟩ (recvC (b := 200) (ci := 10) rfl ⟨rfl, rfl⟩ am_219 rfl rfl) rfl (Nat.le_of_ble_eq_true rfl) dX10_costs_3 hb.e (fun r1 _ => ?_)
  refine k_if_eq (tgt := 28) C dX10_costs_6 (by decide) (fun _ => ?_) (fun _ => ?_)
  · refine k_ldc C co_10_152 dX10_costs_28 ?_
    exact k_iretA hb.e C ⟨rfl, _, rfl⟩ dX10_costs_30
  · refine k_iload_n (q := 2) C dX10_costs_9 rfl rfl ?_
    refine k_if_lt (tgt := 28) C dX10_costs_10 (by decide) (fun _ => ?_) (fun _ => ?_)
    · refine k_ldc C co_10_152 dX10_costs_28 ?_
      exact k_iretA hb.e C ⟨rfl, _, rfl⟩ dX10_costs_30
    · refine k_iload_n (q := 2) C dX10_costs_13 rfl rfl ?_
      refine k_aload_n (q := 0) C dX10_costs_14 rfl rfl ?_
      refine c_get (b := 200) (ci := 10) (kf := 2) (N := 9) C rfl ⟨rfl, rfl⟩ am_219 rfl lay_10 kk_10_2 fl_10_26 rfl dX10_costs_15 ?_
      refine k_iload_n (q := 1) C dX10_costs_18 rfl rfl ?_
      refine k_bipush (v := 10) C dX10_costs_19 rfl ?_
      refine k_idiv C dX10_costs_21 (by decide) ?_
      refine k_cVI C ct_X1_hoursOf my_1_hoursOf ml_10_149 rfl ⟨Nat.le_of_ble_eq_true rfl, Nat.le_of_ble_eq_true rfl⟩ (recvC (b := 20) (ci := 1) rfl ⟨rfl, rfl⟩ am_39 rfl rfl) rfl (Nat.le_of_ble_eq_true rfl) dX10_costs_22 hb.e (fun r2 _ => ?_)
      refine k_icmp_lt (tgt := 31) C dX10_costs_25 (by decide) (fun _ => ?_) (fun _ => ?_)
      · refine k_aload_n (q := 0) C dX10_costs_31 rfl rfl ?_
        refine c_get (b := 200) (ci := 10) (kf := 3) (N := 9) C rfl ⟨rfl, rfl⟩ am_219 rfl lay_10 kk_10_3 fl_10_35 rfl dX10_costs_32 ?_
        refine k_iload_n (q := 1) C dX10_costs_35 rfl rfl ?_
        refine k_bipush (v := 10) C dX10_costs_36 rfl ?_
        refine k_idiv C dX10_costs_38 (by decide) ?_
        refine k_iload_n (q := 1) C dX10_costs_39 rfl rfl ?_
        refine k_bipush (v := 10) C dX10_costs_40 rfl ?_
        refine k_irem C dX10_costs_42 (by decide) ?_
        refine k_cAV C ct_X4_open_80 my_4_open ml_10_153 rfl ⟨Nat.le_of_ble_eq_true rfl, Nat.le_of_ble_eq_true rfl⟩ (recvC (b := 80) (ci := 4) rfl ⟨rfl, rfl⟩ am_99 rfl rfl) rfl (Nat.le_of_ble_eq_true rfl) dX10_costs_43 hb (fun r3 Y4 hr5 => ?_)
        refine k_aload_n (q := 0) C dX10_costs_46 rfl rfl ?_
        refine c_get (b := 200) (ci := 10) (kf := 3) (N := 9) C rfl ⟨rfl, rfl⟩ am_219 rfl lay_10 kk_10_3 fl_10_35 rfl dX10_costs_47 ?_
        refine k_iload_n (q := 2) C dX10_costs_50 rfl rfl ?_
        refine k_iload_n (q := 3) C dX10_costs_51 rfl rfl ?_
        refine k_cVI C ct_X4_costOf_80 my_4_costOf ml_10_157 rfl ⟨Nat.le_of_ble_eq_true rfl, Nat.le_of_ble_eq_true rfl⟩ (recvC (b := 80) (ci := 4) rfl ⟨rfl, rfl⟩ am_99 rfl rfl) rfl (Nat.le_of_ble_eq_true rfl) dX10_costs_52 (BD1.o hb (za_open1 hr5)).e (fun r7 _ => ?_)
        exact k_iretA (BD1.o hb (za_open1 hr5)).e C ⟨rfl, _, rfl⟩ dX10_costs_55
      · refine k_ldc C co_10_152 dX10_costs_28 ?_
        exact k_iretA hb.e C ⟨rfl, _, rfl⟩ dX10_costs_30
theorem ct_X10_costs {l : Launch} {θ : TH} {ad Y : Nat → Nat} {S : St} {Z : Zt} {F : Nat} {a1 : Int32} {a2 : Int32} {a3 : Int32}  : ∀ r, f_X10_costs F S Z a1 a2 a3 = some r → Ct l θ yX10_costs cX10_costs 4 (some .int) 5 (nd 80 Z) (9216 * nd 80 Z) [.ref (ad 219), .int a1, .int a2, .int a3] (wdC θ ad Y Z S) (PIA θ ad r) :=
  fun r hr => Ct.of (by decide +kernel) (Nat.le_of_ble_eq_true rfl) (fun X _ C _ => kw_X10_costs C  r hr)
set_option maxRecDepth 20000 in
theorem kw_X10_may {X : GX} {θ : TH} {ad : Nat → Nat} {Y : Nat → Nat} {F : Nat} {S : St} {Z : Zt} {a1 : Int32} {a2 : Int32} (C : CX (mE X θ (wdC θ ad Y Z S) 3) RX10 cX10_may (some .int) 5 (nd 80 Z) (9216 * nd 80 Z))  : Dk (mE X θ (wdC θ ad Y Z S) 3) (mTa X θ (wdC θ ad Y Z S) 3 (nd 80 Z) (9216 * nd 80 Z) (PIA θ ad)) 0 0 (wdC θ ad Y Z S) [(0, .ref (ad 219)), (1, .int a1), (2, .int a2)] [] 0 (f_X10_may F S Z a1 a2) := by
  have hb := @BD1.z Z
  show Dk _ _ _ _ _ _ _ _ ((f_X10_isCase Z S a1 a2).bind fun r1 => (if r1 = 0 then some ((-2000000000 : Int32), S, Z) else (f_X4_open F 80 S Z (a1 / 10) (jrem a1 10)).bind fun r2 => (f_X4_costBegun F 80 r2.2 r2.1 a2).bind fun r6 => some (r6.1, r6.2, r2.2)))
  refine k_aload_n (q := 0) C dX10_may_0 rfl rfl ?_
  refine k_iload_n (q := 1) C dX10_may_1 rfl rfl ?_
  refine k_iload_n (q := 2) C dX10_may_2 rfl rfl ?_
  refine k_cVI C ct_X10_isCase my_10_isCase ml_10_146 rfl ⟨Nat.le_of_ble_eq_true rfl, Nat.le_of_ble_eq_true rfl⟩ (recvC (b := 200) (ci := 10) rfl ⟨rfl, rfl⟩ am_219 rfl rfl) rfl (Nat.le_of_ble_eq_true rfl) dX10_may_3 hb.e (fun r1 _ => ?_)
  refine k_if_ne (tgt := 12) C dX10_may_6 (by decide) (fun _ => ?_) (fun _ => ?_)
  · refine k_aload_n (q := 0) C dX10_may_12 rfl rfl ?_
    refine c_get (b := 200) (ci := 10) (kf := 3) (N := 9) C rfl ⟨rfl, rfl⟩ am_219 rfl lay_10 kk_10_3 fl_10_35 rfl dX10_may_13 ?_
    refine k_iload_n (q := 1) C dX10_may_16 rfl rfl ?_
    refine k_bipush (v := 10) C dX10_may_17 rfl ?_
    refine k_idiv C dX10_may_19 (by decide) ?_
    refine k_iload_n (q := 1) C dX10_may_20 rfl rfl ?_
    refine k_bipush (v := 10) C dX10_may_21 rfl ?_
    refine k_irem C dX10_may_23 (by decide) ?_
    refine k_cAV C ct_X4_open_80 my_4_open ml_10_153 rfl ⟨Nat.le_of_ble_eq_true rfl, Nat.le_of_ble_eq_true rfl⟩ (recvC (b := 80) (ci := 4) rfl ⟨rfl, rfl⟩ am_99 rfl rfl) rfl (Nat.le_of_ble_eq_true rfl) dX10_may_24 hb (fun r2 Y3 hr4 => ?_)
    refine k_aload_n (q := 0) C dX10_may_27 rfl rfl ?_
    refine c_get (b := 200) (ci := 10) (kf := 3) (N := 9) C rfl ⟨rfl, rfl⟩ am_219 rfl lay_10 kk_10_3 fl_10_35 rfl dX10_may_28 ?_
    refine k_iload_n (q := 2) C dX10_may_31 rfl rfl ?_
    refine k_cVI C ct_X4_costBegun_80 my_4_costBegun ml_10_160 rfl ⟨Nat.le_of_ble_eq_true rfl, Nat.le_of_ble_eq_true rfl⟩ (recvC (b := 80) (ci := 4) rfl ⟨rfl, rfl⟩ am_99 rfl rfl) rfl (Nat.le_of_ble_eq_true rfl) dX10_may_32 (BD1.o hb (za_open1 hr4)).e (fun r6 _ => ?_)
    exact k_iretA (BD1.o hb (za_open1 hr4)).e C ⟨rfl, _, rfl⟩ dX10_may_35
  · refine k_ldc C co_10_152 dX10_may_9 ?_
    exact k_iretA hb.e C ⟨rfl, _, rfl⟩ dX10_may_11
theorem ct_X10_may {l : Launch} {θ : TH} {ad Y : Nat → Nat} {S : St} {Z : Zt} {F : Nat} {a1 : Int32} {a2 : Int32}  : ∀ r, f_X10_may F S Z a1 a2 = some r → Ct l θ yX10_may cX10_may 3 (some .int) 5 (nd 80 Z) (9216 * nd 80 Z) [.ref (ad 219), .int a1, .int a2] (wdC θ ad Y Z S) (PIA θ ad r) :=
  fun r hr => Ct.of (by decide +kernel) (Nat.le_of_ble_eq_true rfl) (fun X _ C _ => kw_X10_may C  r hr)
set_option maxRecDepth 20000 in
theorem kw_X10_now {X : GX} {θ : TH} {ad : Nat → Nat} {Y : Nat → Nat} {F : Nat} {S : St} {Z : Zt} {a1 : Int32} {a2 : Int32} (C : CX (mE X θ (wdC θ ad Y Z S) 3) RX10 cX10_now (some .int) 6 (nd 80 Z) (9216 * nd 80 Z))  : Dk (mE X θ (wdC θ ad Y Z S) 3) (mTa X θ (wdC θ ad Y Z S) 3 (nd 80 Z) (9216 * nd 80 Z) (PIA θ ad)) 0 0 (wdC θ ad Y Z S) [(0, .ref (ad 219)), (1, .int a1), (2, .int a2)] [] 0 (f_X10_now F S Z a1 a2) := by
  have hb := @BD1.z Z
  show Dk _ _ _ _ _ _ _ _ ((f_X10_isPlace Z S a1 a2).bind fun r1 => (if r1 = 0 then some ((-1 : Int32), S, Z) else (f_X2_lawfulDeeds F S Z a1 a2).bind fun r2 => some (r2.1, r2.2.1, r2.2.2)))
  refine k_aload_n (q := 0) C dX10_now_0 rfl rfl ?_
  refine k_iload_n (q := 1) C dX10_now_1 rfl rfl ?_
  refine k_iload_n (q := 2) C dX10_now_2 rfl rfl ?_
  refine k_cVI C ct_X10_isPlace my_10_isPlace ml_10_115 rfl ⟨Nat.le_of_ble_eq_true rfl, Nat.le_of_ble_eq_true rfl⟩ (recvC (b := 200) (ci := 10) rfl ⟨rfl, rfl⟩ am_219 rfl rfl) rfl (Nat.le_of_ble_eq_true rfl) dX10_now_3 hb.e (fun r1 _ => ?_)
  refine k_if_eq (tgt := 21) C dX10_now_6 (by decide) (fun _ => ?_) (fun _ => ?_)
  · refine k_iconst (v := (-1)) C dX10_now_21 rfl ?_
    exact k_iretA hb.e C ⟨rfl, _, rfl⟩ dX10_now_22
  · refine k_aload_n (q := 0) C dX10_now_9 rfl rfl ?_
    refine c_get (b := 200) (ci := 10) (kf := 4) (N := 9) C rfl ⟨rfl, rfl⟩ am_219 rfl lay_10 kk_10_4 fl_10_44 rfl dX10_now_10 ?_
    refine k_iload_n (q := 1) C dX10_now_13 rfl rfl ?_
    refine k_iload_n (q := 2) C dX10_now_14 rfl rfl ?_
    refine k_cAI C ct_X2_lawfulDeeds my_2_lawfulDeeds ml_10_163 rfl ⟨Nat.le_of_ble_eq_true rfl, Nat.le_of_ble_eq_true rfl⟩ (recvC (b := 40) (ci := 2) rfl ⟨rfl, rfl⟩ am_59 rfl rfl) rfl (Nat.le_of_ble_eq_true rfl) dX10_now_15 hb (fun r2 Y3 hr4 => ?_)
    refine k_goto (tgt := 22) C dX10_now_18 (by decide) ?_
    exact k_iretA hb C ⟨rfl, _, rfl⟩ dX10_now_22
theorem ct_X10_now {l : Launch} {θ : TH} {ad Y : Nat → Nat} {S : St} {Z : Zt} {F : Nat} {a1 : Int32} {a2 : Int32}  : ∀ r, f_X10_now F S Z a1 a2 = some r → Ct l θ yX10_now cX10_now 3 (some .int) 6 (nd 80 Z) (9216 * nd 80 Z) [.ref (ad 219), .int a1, .int a2] (wdC θ ad Y Z S) (PIA θ ad r) :=
  fun r hr => Ct.of (by decide +kernel) (Nat.le_of_ble_eq_true rfl) (fun X _ C _ => kw_X10_now C  r hr)
set_option maxRecDepth 20000 in
theorem kw_X10_when {X : GX} {θ : TH} {ad : Nat → Nat} {Y : Nat → Nat} {F : Nat} {S : St} {Z : Zt} {a1 : Int32} {a2 : Int32} {a3 : Int32} (C : CX (mE X θ (wdC θ ad Y Z S) 4) RX10 cX10_when (some .int) 6 (nd 80 Z) (9216 * nd 80 Z))  : Dk (mE X θ (wdC θ ad Y Z S) 4) (mTa X θ (wdC θ ad Y Z S) 4 (nd 80 Z) (9216 * nd 80 Z) (PIA θ ad)) 0 0 (wdC θ ad Y Z S) [(0, .ref (ad 219)), (1, .int a1), (2, .int a2), (3, .int a3)] [] 0 (f_X10_when F S Z a1 a2 a3) := by
  have hb := @BD1.z Z
  show Dk _ _ _ _ _ _ _ _ ((f_X10_isCase Z S a1 a2).bind fun r1 => (if r1 = 0 then some ((-1 : Int32), S, Z) else if a3 < 0 then some ((-1 : Int32), S, Z) else if a3 ≤ 1 then (f_X4_open F 80 S Z (a1 / 10) (jrem a1 10)).bind fun r2 => (if a3 = 0 then (f_X2_lawfulTill F r2.2 r2.1 a2).bind fun r7 => some (r7.1, r7.2, r2.2) else (f_X2_lawfulFrom F r2.2 r2.1 a2 2000).bind fun r6 => some (r6.1, r6.2, r2.2)) else some ((-1 : Int32), S, Z)))
  refine k_aload_n (q := 0) C dX10_when_0 rfl rfl ?_
  refine k_iload_n (q := 1) C dX10_when_1 rfl rfl ?_
  refine k_iload_n (q := 2) C dX10_when_2 rfl rfl ?_
  refine k_cVI C ct_X10_isCase my_10_isCase ml_10_146 rfl ⟨Nat.le_of_ble_eq_true rfl, Nat.le_of_ble_eq_true rfl⟩ (recvC (b := 200) (ci := 10) rfl ⟨rfl, rfl⟩ am_219 rfl rfl) rfl (Nat.le_of_ble_eq_true rfl) dX10_when_3 hb.e (fun r1 _ => ?_)
  refine k_if_eq (tgt := 18) C dX10_when_6 (by decide) (fun _ => ?_) (fun _ => ?_)
  · refine k_iconst (v := (-1)) C dX10_when_18 rfl ?_
    exact k_iretA hb.e C ⟨rfl, _, rfl⟩ dX10_when_19
  · refine k_iload_n (q := 3) C dX10_when_9 rfl rfl ?_
    refine k_if_lt (tgt := 18) C dX10_when_10 (by decide) (fun _ => ?_) (fun _ => ?_)
    · refine k_iconst (v := (-1)) C dX10_when_18 rfl ?_
      exact k_iretA hb.e C ⟨rfl, _, rfl⟩ dX10_when_19
    · refine k_iload_n (q := 3) C dX10_when_13 rfl rfl ?_
      refine k_iconst (v := 1) C dX10_when_14 rfl ?_
      refine k_icmp_le (tgt := 20) C dX10_when_15 (by decide) (fun _ => ?_) (fun _ => ?_)
      · refine k_aload_n (q := 0) C dX10_when_20 rfl rfl ?_
        refine c_get (b := 200) (ci := 10) (kf := 3) (N := 9) C rfl ⟨rfl, rfl⟩ am_219 rfl lay_10 kk_10_3 fl_10_35 rfl dX10_when_21 ?_
        refine k_iload_n (q := 1) C dX10_when_24 rfl rfl ?_
        refine k_bipush (v := 10) C dX10_when_25 rfl ?_
        refine k_idiv C dX10_when_27 (by decide) ?_
        refine k_iload_n (q := 1) C dX10_when_28 rfl rfl ?_
        refine k_bipush (v := 10) C dX10_when_29 rfl ?_
        refine k_irem C dX10_when_31 (by decide) ?_
        refine k_cAV C ct_X4_open_80 my_4_open ml_10_153 rfl ⟨Nat.le_of_ble_eq_true rfl, Nat.le_of_ble_eq_true rfl⟩ (recvC (b := 80) (ci := 4) rfl ⟨rfl, rfl⟩ am_99 rfl rfl) rfl (Nat.le_of_ble_eq_true rfl) dX10_when_32 hb (fun r2 Y3 hr4 => ?_)
        refine k_iload_n (q := 3) C dX10_when_35 rfl rfl ?_
        refine k_if_ne (tgt := 50) C dX10_when_36 (by decide) (fun _ => ?_) (fun _ => ?_)
        · refine k_aload_n (q := 0) C dX10_when_50 rfl rfl ?_
          refine c_get (b := 200) (ci := 10) (kf := 4) (N := 9) C rfl ⟨rfl, rfl⟩ am_219 rfl lay_10 kk_10_4 fl_10_44 rfl dX10_when_51 ?_
          refine k_iload_n (q := 2) C dX10_when_54 rfl rfl ?_
          refine k_sipush (v := 2000) C dX10_when_55 rfl ?_
          refine k_cVI C ct_X2_lawfulFrom my_2_lawfulFrom ml_10_169 rfl ⟨Nat.le_of_ble_eq_true rfl, Nat.le_of_ble_eq_true rfl⟩ (recvC (b := 40) (ci := 2) rfl ⟨rfl, rfl⟩ am_59 rfl rfl) rfl (Nat.le_of_ble_eq_true rfl) dX10_when_58 (BD1.o hb (za_open1 hr4)).e (fun r6 _ => ?_)
          exact k_iretA (BD1.o hb (za_open1 hr4)).e C ⟨rfl, _, rfl⟩ dX10_when_61
        · refine k_aload_n (q := 0) C dX10_when_39 rfl rfl ?_
          refine c_get (b := 200) (ci := 10) (kf := 4) (N := 9) C rfl ⟨rfl, rfl⟩ am_219 rfl lay_10 kk_10_4 fl_10_44 rfl dX10_when_40 ?_
          refine k_iload_n (q := 2) C dX10_when_43 rfl rfl ?_
          refine k_cVI C ct_X2_lawfulTill my_2_lawfulTill ml_10_166 rfl ⟨Nat.le_of_ble_eq_true rfl, Nat.le_of_ble_eq_true rfl⟩ (recvC (b := 40) (ci := 2) rfl ⟨rfl, rfl⟩ am_59 rfl rfl) rfl (Nat.le_of_ble_eq_true rfl) dX10_when_44 (BD1.o hb (za_open1 hr4)).e (fun r7 _ => ?_)
          refine k_goto (tgt := 61) C dX10_when_47 (by decide) ?_
          exact k_iretA (BD1.o hb (za_open1 hr4)).e C ⟨rfl, _, rfl⟩ dX10_when_61
      · refine k_iconst (v := (-1)) C dX10_when_18 rfl ?_
        exact k_iretA hb.e C ⟨rfl, _, rfl⟩ dX10_when_19
theorem ct_X10_when {l : Launch} {θ : TH} {ad Y : Nat → Nat} {S : St} {Z : Zt} {F : Nat} {a1 : Int32} {a2 : Int32} {a3 : Int32}  : ∀ r, f_X10_when F S Z a1 a2 a3 = some r → Ct l θ yX10_when cX10_when 4 (some .int) 6 (nd 80 Z) (9216 * nd 80 Z) [.ref (ad 219), .int a1, .int a2, .int a3] (wdC θ ad Y Z S) (PIA θ ad r) :=
  fun r hr => Ct.of (by decide +kernel) (Nat.le_of_ble_eq_true rfl) (fun X _ C _ => kw_X10_when C  r hr)
set_option maxRecDepth 20000 in
theorem kw_X10_cheapest {X : GX} {θ : TH} {ad : Nat → Nat} {Y : Nat → Nat} {F : Nat} {S : St} {Z : Zt} {a1 : Int32} {a2 : Int32} {a3 : Int32} {a4 : Int32} (C : CX (mE X θ (wdC θ ad Y Z S) 5) RX10 cX10_cheapest (some .int) 6 (nd 80 Z) (9216 * nd 80 Z))  : Dk (mE X θ (wdC θ ad Y Z S) 5) (mTa X θ (wdC θ ad Y Z S) 5 (nd 80 Z) (9216 * nd 80 Z) (PIA θ ad)) 0 0 (wdC θ ad Y Z S) [(0, .ref (ad 219)), (1, .int a1), (2, .int a2), (3, .int a3), (4, .int a4)] [] 0 (f_X10_cheapest F S Z a1 a2 a3 a4) := by
  have hb := @BD1.z Z
  show Dk _ _ _ _ _ _ _ _ ((f_X10_isCase Z S a1 a2).bind fun r1 => (if r1 = 0 then some ((-2000000000 : Int32), S, Z) else if a3 < 1 then some ((-2000000000 : Int32), S, Z) else if (500 : Int32) < a3 then some ((-2000000000 : Int32), S, Z) else if a4 < 0 then some ((-2000000000 : Int32), S, Z) else if a4 ≤ 1 then (f_X4_open F 80 S Z (a1 / 10) (jrem a1 10)).bind fun r2 => (f_X2_leastCosts F r2.2 r2.1 a2 a3 a4).bind fun r6 => some (r6.1, r6.2, r2.2) else some ((-2000000000 : Int32), S, Z)))
  refine k_aload_n (q := 0) C dX10_cheapest_0 rfl rfl ?_
  refine k_iload_n (q := 1) C dX10_cheapest_1 rfl rfl ?_
  refine k_iload_n (q := 2) C dX10_cheapest_2 rfl rfl ?_
  refine k_cVI C ct_X10_isCase my_10_isCase ml_10_146 rfl ⟨Nat.le_of_ble_eq_true rfl, Nat.le_of_ble_eq_true rfl⟩ (recvC (b := 200) (ci := 10) rfl ⟨rfl, rfl⟩ am_219 rfl rfl) rfl (Nat.le_of_ble_eq_true rfl) dX10_cheapest_3 hb.e (fun r1 _ => ?_)
  refine k_if_eq (tgt := 32) C dX10_cheapest_6 (by decide) (fun _ => ?_) (fun _ => ?_)
  · refine k_ldc C co_10_152 dX10_cheapest_32 ?_
    exact k_iretA hb.e C ⟨rfl, _, rfl⟩ dX10_cheapest_34
  · refine k_iload_n (q := 3) C dX10_cheapest_9 rfl rfl ?_
    refine k_iconst (v := 1) C dX10_cheapest_10 rfl ?_
    refine k_icmp_lt (tgt := 32) C dX10_cheapest_11 (by decide) (fun _ => ?_) (fun _ => ?_)
    · refine k_ldc C co_10_152 dX10_cheapest_32 ?_
      exact k_iretA hb.e C ⟨rfl, _, rfl⟩ dX10_cheapest_34
    · refine k_iload_n (q := 3) C dX10_cheapest_14 rfl rfl ?_
      refine k_sipush (v := 500) C dX10_cheapest_15 rfl ?_
      refine k_icmp_gt (tgt := 32) C dX10_cheapest_18 (by decide) (fun _ => ?_) (fun _ => ?_)
      · refine k_ldc C co_10_152 dX10_cheapest_32 ?_
        exact k_iretA hb.e C ⟨rfl, _, rfl⟩ dX10_cheapest_34
      · refine k_iload (q := 4) C dX10_cheapest_21 rfl ?_
        refine k_if_lt (tgt := 32) C dX10_cheapest_23 (by decide) (fun _ => ?_) (fun _ => ?_)
        · refine k_ldc C co_10_152 dX10_cheapest_32 ?_
          exact k_iretA hb.e C ⟨rfl, _, rfl⟩ dX10_cheapest_34
        · refine k_iload (q := 4) C dX10_cheapest_26 rfl ?_
          refine k_iconst (v := 1) C dX10_cheapest_28 rfl ?_
          refine k_icmp_le (tgt := 35) C dX10_cheapest_29 (by decide) (fun _ => ?_) (fun _ => ?_)
          · refine k_aload_n (q := 0) C dX10_cheapest_35 rfl rfl ?_
            refine c_get (b := 200) (ci := 10) (kf := 3) (N := 9) C rfl ⟨rfl, rfl⟩ am_219 rfl lay_10 kk_10_3 fl_10_35 rfl dX10_cheapest_36 ?_
            refine k_iload_n (q := 1) C dX10_cheapest_39 rfl rfl ?_
            refine k_bipush (v := 10) C dX10_cheapest_40 rfl ?_
            refine k_idiv C dX10_cheapest_42 (by decide) ?_
            refine k_iload_n (q := 1) C dX10_cheapest_43 rfl rfl ?_
            refine k_bipush (v := 10) C dX10_cheapest_44 rfl ?_
            refine k_irem C dX10_cheapest_46 (by decide) ?_
            refine k_cAV C ct_X4_open_80 my_4_open ml_10_153 rfl ⟨Nat.le_of_ble_eq_true rfl, Nat.le_of_ble_eq_true rfl⟩ (recvC (b := 80) (ci := 4) rfl ⟨rfl, rfl⟩ am_99 rfl rfl) rfl (Nat.le_of_ble_eq_true rfl) dX10_cheapest_47 hb (fun r2 Y3 hr4 => ?_)
            refine k_aload_n (q := 0) C dX10_cheapest_50 rfl rfl ?_
            refine c_get (b := 200) (ci := 10) (kf := 4) (N := 9) C rfl ⟨rfl, rfl⟩ am_219 rfl lay_10 kk_10_4 fl_10_44 rfl dX10_cheapest_51 ?_
            refine k_iload_n (q := 2) C dX10_cheapest_54 rfl rfl ?_
            refine k_iload_n (q := 3) C dX10_cheapest_55 rfl rfl ?_
            refine k_iload (q := 4) C dX10_cheapest_56 rfl ?_
            refine k_cVI C ct_X2_leastCosts my_2_leastCosts ml_10_172 rfl ⟨Nat.le_of_ble_eq_true rfl, Nat.le_of_ble_eq_true rfl⟩ (recvC (b := 40) (ci := 2) rfl ⟨rfl, rfl⟩ am_59 rfl rfl) rfl (Nat.le_of_ble_eq_true rfl) dX10_cheapest_58 (BD1.o hb (za_open1 hr4)).e (fun r6 _ => ?_)
            exact k_iretA (BD1.o hb (za_open1 hr4)).e C ⟨rfl, _, rfl⟩ dX10_cheapest_61
          · refine k_ldc C co_10_152 dX10_cheapest_32 ?_
            exact k_iretA hb.e C ⟨rfl, _, rfl⟩ dX10_cheapest_34
theorem ct_X10_cheapest {l : Launch} {θ : TH} {ad Y : Nat → Nat} {S : St} {Z : Zt} {F : Nat} {a1 : Int32} {a2 : Int32} {a3 : Int32} {a4 : Int32}  : ∀ r, f_X10_cheapest F S Z a1 a2 a3 a4 = some r → Ct l θ yX10_cheapest cX10_cheapest 5 (some .int) 6 (nd 80 Z) (9216 * nd 80 Z) [.ref (ad 219), .int a1, .int a2, .int a3, .int a4] (wdC θ ad Y Z S) (PIA θ ad r) :=
  fun r hr => Ct.of (by decide +kernel) (Nat.le_of_ble_eq_true rfl) (fun X _ C _ => kw_X10_cheapest C  r hr)
set_option maxRecDepth 20000 in
theorem kw_X10_broken {X : GX} {θ : TH} {ad : Nat → Nat} {Y : Nat → Nat} {F : Nat} {S : St} {Z : Zt} {a1 : Int32} {a2 : Int32} {a3 : Int32} (C : CX (mE X θ (wdC θ ad Y Z S) 4) RX10 cX10_broken (some .int) 7 (nd 80 Z) (9216 * nd 80 Z))  : Dk (mE X θ (wdC θ ad Y Z S) 4) (mTa X θ (wdC θ ad Y Z S) 4 (nd 80 Z) (9216 * nd 80 Z) (PIA θ ad)) 0 0 (wdC θ ad Y Z S) [(0, .ref (ad 219)), (1, .int a1), (2, .int a2), (3, .int a3)] [] 0 (f_X10_broken F S Z a1 a2 a3) := by
  have hb := @BD1.z Z
  show Dk _ _ _ _ _ _ _ _ ((f_X10_isCase Z S a1 a2).bind fun r1 => (if r1 = 0 then some ((-2000000000 : Int32), S, Z) else if a3 < 0 then some ((-2000000000 : Int32), S, Z) else if a3 ≤ 2 then (f_X4_open F 80 S Z (a1 / 10) (jrem a1 10)).bind fun r2 => (f_X1_hoursOf r2.2 r2.1 (a1 / 10)).bind fun r6 => (f_X2_doneWithRests F r2.2 r2.1 r6 a2 a3).bind fun r7 => some (r7.1, r7.2, r2.2) else some ((-2000000000 : Int32), S, Z)))
  refine k_aload_n (q := 0) C dX10_broken_0 rfl rfl ?_
  refine k_iload_n (q := 1) C dX10_broken_1 rfl rfl ?_
  refine k_iload_n (q := 2) C dX10_broken_2 rfl rfl ?_
  refine k_cVI C ct_X10_isCase my_10_isCase ml_10_146 rfl ⟨Nat.le_of_ble_eq_true rfl, Nat.le_of_ble_eq_true rfl⟩ (recvC (b := 200) (ci := 10) rfl ⟨rfl, rfl⟩ am_219 rfl rfl) rfl (Nat.le_of_ble_eq_true rfl) dX10_broken_3 hb.e (fun r1 _ => ?_)
  refine k_if_eq (tgt := 18) C dX10_broken_6 (by decide) (fun _ => ?_) (fun _ => ?_)
  · refine k_ldc C co_10_152 dX10_broken_18 ?_
    exact k_iretA hb.e C ⟨rfl, _, rfl⟩ dX10_broken_20
  · refine k_iload_n (q := 3) C dX10_broken_9 rfl rfl ?_
    refine k_if_lt (tgt := 18) C dX10_broken_10 (by decide) (fun _ => ?_) (fun _ => ?_)
    · refine k_ldc C co_10_152 dX10_broken_18 ?_
      exact k_iretA hb.e C ⟨rfl, _, rfl⟩ dX10_broken_20
    · refine k_iload_n (q := 3) C dX10_broken_13 rfl rfl ?_
      refine k_iconst (v := 2) C dX10_broken_14 rfl ?_
      refine k_icmp_le (tgt := 21) C dX10_broken_15 (by decide) (fun _ => ?_) (fun _ => ?_)
      · refine k_aload_n (q := 0) C dX10_broken_21 rfl rfl ?_
        refine c_get (b := 200) (ci := 10) (kf := 3) (N := 9) C rfl ⟨rfl, rfl⟩ am_219 rfl lay_10 kk_10_3 fl_10_35 rfl dX10_broken_22 ?_
        refine k_iload_n (q := 1) C dX10_broken_25 rfl rfl ?_
        refine k_bipush (v := 10) C dX10_broken_26 rfl ?_
        refine k_idiv C dX10_broken_28 (by decide) ?_
        refine k_iload_n (q := 1) C dX10_broken_29 rfl rfl ?_
        refine k_bipush (v := 10) C dX10_broken_30 rfl ?_
        refine k_irem C dX10_broken_32 (by decide) ?_
        refine k_cAV C ct_X4_open_80 my_4_open ml_10_153 rfl ⟨Nat.le_of_ble_eq_true rfl, Nat.le_of_ble_eq_true rfl⟩ (recvC (b := 80) (ci := 4) rfl ⟨rfl, rfl⟩ am_99 rfl rfl) rfl (Nat.le_of_ble_eq_true rfl) dX10_broken_33 hb (fun r2 Y3 hr4 => ?_)
        refine k_aload_n (q := 0) C dX10_broken_36 rfl rfl ?_
        refine c_get (b := 200) (ci := 10) (kf := 4) (N := 9) C rfl ⟨rfl, rfl⟩ am_219 rfl lay_10 kk_10_4 fl_10_44 rfl dX10_broken_37 ?_
        refine k_aload_n (q := 0) C dX10_broken_40 rfl rfl ?_
        refine c_get (b := 200) (ci := 10) (kf := 2) (N := 9) C rfl ⟨rfl, rfl⟩ am_219 rfl lay_10 kk_10_2 fl_10_26 rfl dX10_broken_41 ?_
        refine k_iload_n (q := 1) C dX10_broken_44 rfl rfl ?_
        refine k_bipush (v := 10) C dX10_broken_45 rfl ?_
        refine k_idiv C dX10_broken_47 (by decide) ?_
        refine k_cVI C ct_X1_hoursOf my_1_hoursOf ml_10_149 rfl ⟨Nat.le_of_ble_eq_true rfl, Nat.le_of_ble_eq_true rfl⟩ (recvC (b := 20) (ci := 1) rfl ⟨rfl, rfl⟩ am_39 rfl rfl) rfl (Nat.le_of_ble_eq_true rfl) dX10_broken_48 (BD1.o hb (za_open1 hr4)).e (fun r6 _ => ?_)
        refine k_iload_n (q := 2) C dX10_broken_51 rfl rfl ?_
        refine k_iload_n (q := 3) C dX10_broken_52 rfl rfl ?_
        refine k_cVI C ct_X2_doneWithRests my_2_doneWithRests ml_10_175 rfl ⟨Nat.le_of_ble_eq_true rfl, Nat.le_of_ble_eq_true rfl⟩ (recvC (b := 40) (ci := 2) rfl ⟨rfl, rfl⟩ am_59 rfl rfl) rfl (Nat.le_of_ble_eq_true rfl) dX10_broken_53 (BD1.o hb (za_open1 hr4)).e (fun r7 _ => ?_)
        exact k_iretA (BD1.o hb (za_open1 hr4)).e C ⟨rfl, _, rfl⟩ dX10_broken_56
      · refine k_ldc C co_10_152 dX10_broken_18 ?_
        exact k_iretA hb.e C ⟨rfl, _, rfl⟩ dX10_broken_20
theorem ct_X10_broken {l : Launch} {θ : TH} {ad Y : Nat → Nat} {S : St} {Z : Zt} {F : Nat} {a1 : Int32} {a2 : Int32} {a3 : Int32}  : ∀ r, f_X10_broken F S Z a1 a2 a3 = some r → Ct l θ yX10_broken cX10_broken 4 (some .int) 7 (nd 80 Z) (9216 * nd 80 Z) [.ref (ad 219), .int a1, .int a2, .int a3] (wdC θ ad Y Z S) (PIA θ ad r) :=
  fun r hr => Ct.of (by decide +kernel) (Nat.le_of_ble_eq_true rfl) (fun X _ C _ => kw_X10_broken C  r hr)
set_option maxRecDepth 20000 in
theorem kw_X10_elsewhere {X : GX} {θ : TH} {ad : Nat → Nat} {Y : Nat → Nat} {F : Nat} {S : St} {Z : Zt} {a1 : Int32} {a2 : Int32} {a3 : Int32} (C : CX (mE X θ (wdC θ ad Y Z S) 4) RX10 cX10_elsewhere (some .int) 7 (nd 80 Z) (9216 * nd 80 Z))  : Dk (mE X θ (wdC θ ad Y Z S) 4) (mTa X θ (wdC θ ad Y Z S) 4 (nd 80 Z) (9216 * nd 80 Z) (PIA θ ad)) 0 0 (wdC θ ad Y Z S) [(0, .ref (ad 219)), (1, .int a1), (2, .int a2), (3, .int a3)] [] 0 (f_X10_elsewhere F S Z a1 a2 a3) := by
  have hb := @BD1.z Z
  show Dk _ _ _ _ _ _ _ _ ((f_X10_isCase Z S a1 a2).bind fun r1 => (if r1 = 0 then some ((-1 : Int32), S, Z) else if a3 < 0 then some ((-1 : Int32), S, Z) else if a3 ≤ 1 then (f_X2_soonestByWays F S Z (a1 / 10) (jrem a1 10) a2 a3).bind fun r2 => some (r2.1, r2.2.1, r2.2.2) else some ((-1 : Int32), S, Z)))
  refine k_aload_n (q := 0) C dX10_elsewhere_0 rfl rfl ?_
  refine k_iload_n (q := 1) C dX10_elsewhere_1 rfl rfl ?_
  refine k_iload_n (q := 2) C dX10_elsewhere_2 rfl rfl ?_
  refine k_cVI C ct_X10_isCase my_10_isCase ml_10_146 rfl ⟨Nat.le_of_ble_eq_true rfl, Nat.le_of_ble_eq_true rfl⟩ (recvC (b := 200) (ci := 10) rfl ⟨rfl, rfl⟩ am_219 rfl rfl) rfl (Nat.le_of_ble_eq_true rfl) dX10_elsewhere_3 hb.e (fun r1 _ => ?_)
  refine k_if_eq (tgt := 18) C dX10_elsewhere_6 (by decide) (fun _ => ?_) (fun _ => ?_)
  · refine k_iconst (v := (-1)) C dX10_elsewhere_18 rfl ?_
    exact k_iretA hb.e C ⟨rfl, _, rfl⟩ dX10_elsewhere_19
  · refine k_iload_n (q := 3) C dX10_elsewhere_9 rfl rfl ?_
    refine k_if_lt (tgt := 18) C dX10_elsewhere_10 (by decide) (fun _ => ?_) (fun _ => ?_)
    · refine k_iconst (v := (-1)) C dX10_elsewhere_18 rfl ?_
      exact k_iretA hb.e C ⟨rfl, _, rfl⟩ dX10_elsewhere_19
    · refine k_iload_n (q := 3) C dX10_elsewhere_13 rfl rfl ?_
      refine k_iconst (v := 1) C dX10_elsewhere_14 rfl ?_
      refine k_icmp_le (tgt := 20) C dX10_elsewhere_15 (by decide) (fun _ => ?_) (fun _ => ?_)
      · refine k_aload_n (q := 0) C dX10_elsewhere_20 rfl rfl ?_
        refine c_get (b := 200) (ci := 10) (kf := 4) (N := 9) C rfl ⟨rfl, rfl⟩ am_219 rfl lay_10 kk_10_4 fl_10_44 rfl dX10_elsewhere_21 ?_
        refine k_iload_n (q := 1) C dX10_elsewhere_24 rfl rfl ?_
        refine k_bipush (v := 10) C dX10_elsewhere_25 rfl ?_
        refine k_idiv C dX10_elsewhere_27 (by decide) ?_
        refine k_iload_n (q := 1) C dX10_elsewhere_28 rfl rfl ?_
        refine k_bipush (v := 10) C dX10_elsewhere_29 rfl ?_
        refine k_irem C dX10_elsewhere_31 (by decide) ?_
        refine k_iload_n (q := 2) C dX10_elsewhere_32 rfl rfl ?_
        refine k_iload_n (q := 3) C dX10_elsewhere_33 rfl rfl ?_
        refine k_cAI C ct_X2_soonestByWays my_2_soonestByWays ml_10_178 rfl ⟨Nat.le_of_ble_eq_true rfl, Nat.le_of_ble_eq_true rfl⟩ (recvC (b := 40) (ci := 2) rfl ⟨rfl, rfl⟩ am_59 rfl rfl) rfl (Nat.le_of_ble_eq_true rfl) dX10_elsewhere_34 hb (fun r2 Y3 hr4 => ?_)
        exact k_iretA hb C ⟨rfl, _, rfl⟩ dX10_elsewhere_37
      · refine k_iconst (v := (-1)) C dX10_elsewhere_18 rfl ?_
        exact k_iretA hb.e C ⟨rfl, _, rfl⟩ dX10_elsewhere_19
theorem ct_X10_elsewhere {l : Launch} {θ : TH} {ad Y : Nat → Nat} {S : St} {Z : Zt} {F : Nat} {a1 : Int32} {a2 : Int32} {a3 : Int32}  : ∀ r, f_X10_elsewhere F S Z a1 a2 a3 = some r → Ct l θ yX10_elsewhere cX10_elsewhere 4 (some .int) 7 (nd 80 Z) (9216 * nd 80 Z) [.ref (ad 219), .int a1, .int a2, .int a3] (wdC θ ad Y Z S) (PIA θ ad r) :=
  fun r hr => Ct.of (by decide +kernel) (Nat.le_of_ble_eq_true rfl) (fun X _ C _ => kw_X10_elsewhere C  r hr)
set_option maxRecDepth 20000 in
theorem kw_X10_harm {X : GX} {θ : TH} {ad : Nat → Nat} {Y : Nat → Nat} {F : Nat} {S : St} {Z : Zt} {a1 : Int32} {a2 : Int32} {a3 : Int32} (C : CX (mE X θ (wdC θ ad Y Z S) 4) RX10 cX10_harm (some .int) 6 (nd 80 Z + nd 300 Z) (9216 * (nd 80 Z + nd 300 Z)))  : Dk (mE X θ (wdC θ ad Y Z S) 4) (mTa X θ (wdC θ ad Y Z S) 4 (nd 80 Z + nd 300 Z) (9216 * (nd 80 Z + nd 300 Z)) (PIA θ ad)) 0 0 (wdC θ ad Y Z S) [(0, .ref (ad 219)), (1, .int a1), (2, .int a2), (3, .int a3)] [] 0 (f_X10_harm F S Z a1 a2 a3) := by
  have hb := @BD2.z Z
  show Dk _ _ _ _ _ _ _ _ (if a1 < 0 then some ((-1 : Int32), S, Z) else (f_X1_has Z S (a1 / 100)).bind fun r1 => (if r1 = 0 then some ((-1 : Int32), S, Z) else (f_X1_has Z S (jrem a1 100)).bind fun r2 => (if r2 = 0 then some ((-1 : Int32), S, Z) else if (a1 / 100) = (jrem a1 100) then some ((-1 : Int32), S, Z) else (f_X10_isPlace Z S a2 a3).bind fun r3 => (if r3 = 0 then some ((-1 : Int32), S, Z) else (f_X2_firstHarm F S Z (a1 / 100) (jrem a1 100) a2 a3).bind fun r4 => some (r4.1, r4.2.1, r4.2.2)))))
  refine k_iload_n (q := 1) C dX10_harm_0 rfl rfl ?_
  refine k_if_lt (tgt := 43) C dX10_harm_1 (by decide) (fun _ => ?_) (fun _ => ?_)
  · refine k_iconst (v := (-1)) C dX10_harm_43 rfl ?_
    exact k_iretA hb.e C ⟨rfl, _, rfl⟩ dX10_harm_44
  · refine k_aload_n (q := 0) C dX10_harm_4 rfl rfl ?_
    refine c_get (b := 200) (ci := 10) (kf := 2) (N := 9) C rfl ⟨rfl, rfl⟩ am_219 rfl lay_10 kk_10_2 fl_10_26 rfl dX10_harm_5 ?_
    refine k_iload_n (q := 1) C dX10_harm_8 rfl rfl ?_
    refine k_bipush (v := 100) C dX10_harm_9 rfl ?_
    refine k_idiv C dX10_harm_11 (by decide) ?_
    refine k_cVI C ct_X1_has my_1_has ml_10_142 rfl ⟨Nat.le_of_ble_eq_true rfl, Nat.le_of_ble_eq_true rfl⟩ (recvC (b := 20) (ci := 1) rfl ⟨rfl, rfl⟩ am_39 rfl rfl) rfl (Nat.le_of_ble_eq_true rfl) dX10_harm_12 hb.e (fun r1 _ => ?_)
    refine k_if_eq (tgt := 43) C dX10_harm_15 (by decide) (fun _ => ?_) (fun _ => ?_)
    · refine k_iconst (v := (-1)) C dX10_harm_43 rfl ?_
      exact k_iretA hb.e C ⟨rfl, _, rfl⟩ dX10_harm_44
    · refine k_aload_n (q := 0) C dX10_harm_18 rfl rfl ?_
      refine c_get (b := 200) (ci := 10) (kf := 2) (N := 9) C rfl ⟨rfl, rfl⟩ am_219 rfl lay_10 kk_10_2 fl_10_26 rfl dX10_harm_19 ?_
      refine k_iload_n (q := 1) C dX10_harm_22 rfl rfl ?_
      refine k_bipush (v := 100) C dX10_harm_23 rfl ?_
      refine k_irem C dX10_harm_25 (by decide) ?_
      refine k_cVI C ct_X1_has my_1_has ml_10_142 rfl ⟨Nat.le_of_ble_eq_true rfl, Nat.le_of_ble_eq_true rfl⟩ (recvC (b := 20) (ci := 1) rfl ⟨rfl, rfl⟩ am_39 rfl rfl) rfl (Nat.le_of_ble_eq_true rfl) dX10_harm_26 hb.e (fun r2 _ => ?_)
      refine k_if_eq (tgt := 43) C dX10_harm_29 (by decide) (fun _ => ?_) (fun _ => ?_)
      · refine k_iconst (v := (-1)) C dX10_harm_43 rfl ?_
        exact k_iretA hb.e C ⟨rfl, _, rfl⟩ dX10_harm_44
      · refine k_iload_n (q := 1) C dX10_harm_32 rfl rfl ?_
        refine k_bipush (v := 100) C dX10_harm_33 rfl ?_
        refine k_idiv C dX10_harm_35 (by decide) ?_
        refine k_iload_n (q := 1) C dX10_harm_36 rfl rfl ?_
        refine k_bipush (v := 100) C dX10_harm_37 rfl ?_
        refine k_irem C dX10_harm_39 (by decide) ?_
        refine k_icmp_ne (tgt := 45) C dX10_harm_40 (by decide) (fun _ => ?_) (fun _ => ?_)
        · refine k_aload_n (q := 0) C dX10_harm_45 rfl rfl ?_
          refine k_iload_n (q := 2) C dX10_harm_46 rfl rfl ?_
          refine k_iload_n (q := 3) C dX10_harm_47 rfl rfl ?_
          refine k_cVI C ct_X10_isPlace my_10_isPlace ml_10_115 rfl ⟨Nat.le_of_ble_eq_true rfl, Nat.le_of_ble_eq_true rfl⟩ (recvC (b := 200) (ci := 10) rfl ⟨rfl, rfl⟩ am_219 rfl rfl) rfl (Nat.le_of_ble_eq_true rfl) dX10_harm_48 hb.e (fun r3 _ => ?_)
          refine k_if_eq (tgt := 74) C dX10_harm_51 (by decide) (fun _ => ?_) (fun _ => ?_)
          · refine k_iconst (v := (-1)) C dX10_harm_74 rfl ?_
            exact k_iretA hb.e C ⟨rfl, _, rfl⟩ dX10_harm_75
          · refine k_aload_n (q := 0) C dX10_harm_54 rfl rfl ?_
            refine c_get (b := 200) (ci := 10) (kf := 4) (N := 9) C rfl ⟨rfl, rfl⟩ am_219 rfl lay_10 kk_10_4 fl_10_44 rfl dX10_harm_55 ?_
            refine k_iload_n (q := 1) C dX10_harm_58 rfl rfl ?_
            refine k_bipush (v := 100) C dX10_harm_59 rfl ?_
            refine k_idiv C dX10_harm_61 (by decide) ?_
            refine k_iload_n (q := 1) C dX10_harm_62 rfl rfl ?_
            refine k_bipush (v := 100) C dX10_harm_63 rfl ?_
            refine k_irem C dX10_harm_65 (by decide) ?_
            refine k_iload_n (q := 2) C dX10_harm_66 rfl rfl ?_
            refine k_iload_n (q := 3) C dX10_harm_67 rfl rfl ?_
            refine k_cAI C ct_X2_firstHarm my_2_firstHarm ml_10_181 rfl ⟨Nat.le_of_ble_eq_true rfl, Nat.le_of_ble_eq_true rfl⟩ (recvC (b := 40) (ci := 2) rfl ⟨rfl, rfl⟩ am_59 rfl rfl) rfl (Nat.le_of_ble_eq_true rfl) dX10_harm_68 hb (fun r4 Y5 hr6 => ?_)
            refine k_goto (tgt := 75) C dX10_harm_71 (by decide) ?_
            exact k_iretA hb C ⟨rfl, _, rfl⟩ dX10_harm_75
        · refine k_iconst (v := (-1)) C dX10_harm_43 rfl ?_
          exact k_iretA hb.e C ⟨rfl, _, rfl⟩ dX10_harm_44
theorem ct_X10_harm {l : Launch} {θ : TH} {ad Y : Nat → Nat} {S : St} {Z : Zt} {F : Nat} {a1 : Int32} {a2 : Int32} {a3 : Int32}  : ∀ r, f_X10_harm F S Z a1 a2 a3 = some r → Ct l θ yX10_harm cX10_harm 4 (some .int) 6 (nd 80 Z + nd 300 Z) (9216 * (nd 80 Z + nd 300 Z)) [.ref (ad 219), .int a1, .int a2, .int a3] (wdC θ ad Y Z S) (PIA θ ad r) :=
  fun r hr => Ct.of (by decide +kernel) (Nat.le_of_ble_eq_true rfl) (fun X _ C _ => kw_X10_harm C  r hr)
set_option maxRecDepth 20000 in
theorem kw_X10_next {X : GX} {θ : TH} {ad Y : Nat → Nat} {F : Nat} {Z : Zt} {S : St} {a1 : Int32} {a2 : Int32} {a3 : Int32} (C : CX (mE X θ (wdC θ ad Y Z S) 4) RX10 cX10_next (some .int) 4 0 0)  : Dk (mE X θ (wdC θ ad Y Z S) 4) (mT X θ (wdC θ ad Y Z S) 4 (PI (wdC θ ad Y Z S))) 0 0 (wdC θ ad Y Z S) [(0, .ref (ad 219)), (1, .int a1), (2, .int a2), (3, .int a3)] [] 0 (f_X10_next F Z S a1 a2 a3) := by
  show Dk _ _ _ _ _ _ _ _ ((f_X10_isPlace Z S a1 a2).bind fun r1 => (if r1 = 0 then some ((-1 : Int32)) else (f_X7_isState Z S a3).bind fun r2 => (if r2 = 0 then some ((-1 : Int32)) else (f_X2_firstWith F Z S a1 a2 a3).bind fun r3 => some r3)))
  refine k_aload_n (q := 0) C dX10_next_0 rfl rfl ?_
  refine k_iload_n (q := 1) C dX10_next_1 rfl rfl ?_
  refine k_iload_n (q := 2) C dX10_next_2 rfl rfl ?_
  refine k_cVI C ct_X10_isPlace my_10_isPlace ml_10_115 rfl ⟨Nat.le_of_ble_eq_true rfl, Nat.le_of_ble_eq_true rfl⟩ (recvC (b := 200) (ci := 10) rfl ⟨rfl, rfl⟩ am_219 rfl rfl) rfl (Nat.le_of_ble_eq_true rfl) dX10_next_3 ⟨Nat.le_refl _, Nat.le_refl _⟩ (fun r1 _ => ?_)
  refine k_if_eq (tgt := 33) C dX10_next_6 (by decide) (fun _ => ?_) (fun _ => ?_)
  · refine k_iconst (v := (-1)) C dX10_next_33 rfl ?_
    exact k_iret C rfl ⟨rfl, rfl⟩ dX10_next_34
  · refine k_aload_n (q := 0) C dX10_next_9 rfl rfl ?_
    refine c_get (b := 200) (ci := 10) (kf := 0) (N := 9) C rfl ⟨rfl, rfl⟩ am_219 rfl lay_10 kk_10_0 fl_10_10 rfl dX10_next_10 ?_
    refine k_iload_n (q := 3) C dX10_next_13 rfl rfl ?_
    refine k_cVI C ct_X7_isState my_7_isState ml_10_184 rfl ⟨Nat.le_of_ble_eq_true rfl, Nat.le_of_ble_eq_true rfl⟩ (recvC (b := 140) (ci := 7) rfl ⟨rfl, rfl⟩ am_159 rfl rfl) rfl (Nat.le_of_ble_eq_true rfl) dX10_next_14 ⟨Nat.le_refl _, Nat.le_refl _⟩ (fun r2 _ => ?_)
    refine k_if_eq (tgt := 33) C dX10_next_17 (by decide) (fun _ => ?_) (fun _ => ?_)
    · refine k_iconst (v := (-1)) C dX10_next_33 rfl ?_
      exact k_iret C rfl ⟨rfl, rfl⟩ dX10_next_34
    · refine k_aload_n (q := 0) C dX10_next_20 rfl rfl ?_
      refine c_get (b := 200) (ci := 10) (kf := 4) (N := 9) C rfl ⟨rfl, rfl⟩ am_219 rfl lay_10 kk_10_4 fl_10_44 rfl dX10_next_21 ?_
      refine k_iload_n (q := 1) C dX10_next_24 rfl rfl ?_
      refine k_iload_n (q := 2) C dX10_next_25 rfl rfl ?_
      refine k_iload_n (q := 3) C dX10_next_26 rfl rfl ?_
      refine k_cVI C ct_X2_firstWith my_2_firstWith ml_10_187 rfl ⟨Nat.le_of_ble_eq_true rfl, Nat.le_of_ble_eq_true rfl⟩ (recvC (b := 40) (ci := 2) rfl ⟨rfl, rfl⟩ am_59 rfl rfl) rfl (Nat.le_of_ble_eq_true rfl) dX10_next_27 ⟨Nat.le_refl _, Nat.le_refl _⟩ (fun r3 _ => ?_)
      refine k_goto (tgt := 34) C dX10_next_30 (by decide) ?_
      exact k_iret C rfl ⟨rfl, rfl⟩ dX10_next_34
theorem ct_X10_next {l : Launch} {θ : TH} {ad Y : Nat → Nat} {S : St} {F : Nat} {Z : Zt} {a1 : Int32} {a2 : Int32} {a3 : Int32}  : ∀ r, f_X10_next F Z S a1 a2 a3 = some r → Ct l θ yX10_next cX10_next 4 (some .int) 4 0 0 [.ref (ad 219), .int a1, .int a2, .int a3] (wdC θ ad Y Z S) (PI (wdC θ ad Y Z S) r) :=
  fun r hr => Ct.of (by decide +kernel) (Nat.le_of_ble_eq_true rfl) (fun X _ C _ => kw_X10_next C  r hr)
set_option maxRecDepth 20000 in
theorem kw_X10_many {X : GX} {θ : TH} {ad Y : Nat → Nat} {F : Nat} {Z : Zt} {S : St} {a1 : Int32} {a2 : Int32} {a3 : Int32} {a4 : Int32} (C : CX (mE X θ (wdC θ ad Y Z S) 5) RX10 cX10_many (some .int) 3 0 0)  : Dk (mE X θ (wdC θ ad Y Z S) 5) (mT X θ (wdC θ ad Y Z S) 5 (PI (wdC θ ad Y Z S))) 0 0 (wdC θ ad Y Z S) [(0, .ref (ad 219)), (1, .int a1), (2, .int a2), (3, .int a3), (4, .int a4)] [] 0 (f_X10_many F Z S a1 a2 a3 a4) := by
  show Dk _ _ _ _ _ _ _ _ ((f_X10_isPlace Z S a1 a2).bind fun r1 => (if r1 = 0 then some ((-1 : Int32)) else if a3 < 1 then some ((-1 : Int32)) else if (10000 : Int32) < a3 then some ((-1 : Int32)) else (f_X7_isState Z S a4).bind fun r2 => (if r2 = 0 then some ((-1 : Int32)) else (f_X7_hoursWith F Z S a1 a2 a3 a4).bind fun r3 => some r3)))
  refine k_aload_n (q := 0) C dX10_many_0 rfl rfl ?_
  refine k_iload_n (q := 1) C dX10_many_1 rfl rfl ?_
  refine k_iload_n (q := 2) C dX10_many_2 rfl rfl ?_
  refine k_cVI C ct_X10_isPlace my_10_isPlace ml_10_115 rfl ⟨Nat.le_of_ble_eq_true rfl, Nat.le_of_ble_eq_true rfl⟩ (recvC (b := 200) (ci := 10) rfl ⟨rfl, rfl⟩ am_219 rfl rfl) rfl (Nat.le_of_ble_eq_true rfl) dX10_many_3 ⟨Nat.le_refl _, Nat.le_refl _⟩ (fun r1 _ => ?_)
  refine k_if_eq (tgt := 33) C dX10_many_6 (by decide) (fun _ => ?_) (fun _ => ?_)
  · refine k_iconst (v := (-1)) C dX10_many_33 rfl ?_
    exact k_iret C rfl ⟨rfl, rfl⟩ dX10_many_34
  · refine k_iload_n (q := 3) C dX10_many_9 rfl rfl ?_
    refine k_iconst (v := 1) C dX10_many_10 rfl ?_
    refine k_icmp_lt (tgt := 33) C dX10_many_11 (by decide) (fun _ => ?_) (fun _ => ?_)
    · refine k_iconst (v := (-1)) C dX10_many_33 rfl ?_
      exact k_iret C rfl ⟨rfl, rfl⟩ dX10_many_34
    · refine k_iload_n (q := 3) C dX10_many_14 rfl rfl ?_
      refine k_sipush (v := 10000) C dX10_many_15 rfl ?_
      refine k_icmp_gt (tgt := 33) C dX10_many_18 (by decide) (fun _ => ?_) (fun _ => ?_)
      · refine k_iconst (v := (-1)) C dX10_many_33 rfl ?_
        exact k_iret C rfl ⟨rfl, rfl⟩ dX10_many_34
      · refine k_aload_n (q := 0) C dX10_many_21 rfl rfl ?_
        refine c_get (b := 200) (ci := 10) (kf := 0) (N := 9) C rfl ⟨rfl, rfl⟩ am_219 rfl lay_10 kk_10_0 fl_10_10 rfl dX10_many_22 ?_
        refine k_iload (q := 4) C dX10_many_25 rfl ?_
        refine k_cVI C ct_X7_isState my_7_isState ml_10_184 rfl ⟨Nat.le_of_ble_eq_true rfl, Nat.le_of_ble_eq_true rfl⟩ (recvC (b := 140) (ci := 7) rfl ⟨rfl, rfl⟩ am_159 rfl rfl) rfl (Nat.le_of_ble_eq_true rfl) dX10_many_27 ⟨Nat.le_refl _, Nat.le_refl _⟩ (fun r2 _ => ?_)
        refine k_if_ne (tgt := 35) C dX10_many_30 (by decide) (fun _ => ?_) (fun _ => ?_)
        · refine k_aload_n (q := 0) C dX10_many_35 rfl rfl ?_
          refine c_get (b := 200) (ci := 10) (kf := 0) (N := 9) C rfl ⟨rfl, rfl⟩ am_219 rfl lay_10 kk_10_0 fl_10_10 rfl dX10_many_36 ?_
          refine k_iload_n (q := 1) C dX10_many_39 rfl rfl ?_
          refine k_iload_n (q := 2) C dX10_many_40 rfl rfl ?_
          refine k_iload_n (q := 3) C dX10_many_41 rfl rfl ?_
          refine k_iload (q := 4) C dX10_many_42 rfl ?_
          refine k_cVI C ct_X7_hoursWith my_7_hoursWith ml_10_190 rfl ⟨Nat.le_of_ble_eq_true rfl, Nat.le_of_ble_eq_true rfl⟩ (recvC (b := 140) (ci := 7) rfl ⟨rfl, rfl⟩ am_159 rfl rfl) rfl (Nat.le_of_ble_eq_true rfl) dX10_many_44 ⟨Nat.le_refl _, Nat.le_refl _⟩ (fun r3 _ => ?_)
          exact k_iret C rfl ⟨rfl, rfl⟩ dX10_many_47
        · refine k_iconst (v := (-1)) C dX10_many_33 rfl ?_
          exact k_iret C rfl ⟨rfl, rfl⟩ dX10_many_34
theorem ct_X10_many {l : Launch} {θ : TH} {ad Y : Nat → Nat} {S : St} {F : Nat} {Z : Zt} {a1 : Int32} {a2 : Int32} {a3 : Int32} {a4 : Int32}  : ∀ r, f_X10_many F Z S a1 a2 a3 a4 = some r → Ct l θ yX10_many cX10_many 5 (some .int) 3 0 0 [.ref (ad 219), .int a1, .int a2, .int a3, .int a4] (wdC θ ad Y Z S) (PI (wdC θ ad Y Z S) r) :=
  fun r hr => Ct.of (by decide +kernel) (Nat.le_of_ble_eq_true rfl) (fun X _ C _ => kw_X10_many C  r hr)
set_option maxRecDepth 20000 in
theorem kw_X10_longest {X : GX} {θ : TH} {ad Y : Nat → Nat} {F : Nat} {Z : Zt} {S : St} {a1 : Int32} {a2 : Int32} {a3 : Int32} {a4 : Int32} (C : CX (mE X θ (wdC θ ad Y Z S) 5) RX10 cX10_longest (some .int) 3 0 0)  : Dk (mE X θ (wdC θ ad Y Z S) 5) (mT X θ (wdC θ ad Y Z S) 5 (PI (wdC θ ad Y Z S))) 0 0 (wdC θ ad Y Z S) [(0, .ref (ad 219)), (1, .int a1), (2, .int a2), (3, .int a3), (4, .int a4)] [] 0 (f_X10_longest F Z S a1 a2 a3 a4) := by
  show Dk _ _ _ _ _ _ _ _ ((f_X10_isPlace Z S a1 a2).bind fun r1 => (if r1 = 0 then some ((-1 : Int32)) else if a3 < 1 then some ((-1 : Int32)) else if (10000 : Int32) < a3 then some ((-1 : Int32)) else if a4 < 0 then some ((-1 : Int32)) else if a4 ≤ 1 then (f_X2_longestRow F Z S a1 a2 a3 a4).bind fun r2 => some r2 else some ((-1 : Int32))))
  refine k_aload_n (q := 0) C dX10_longest_0 rfl rfl ?_
  refine k_iload_n (q := 1) C dX10_longest_1 rfl rfl ?_
  refine k_iload_n (q := 2) C dX10_longest_2 rfl rfl ?_
  refine k_cVI C ct_X10_isPlace my_10_isPlace ml_10_115 rfl ⟨Nat.le_of_ble_eq_true rfl, Nat.le_of_ble_eq_true rfl⟩ (recvC (b := 200) (ci := 10) rfl ⟨rfl, rfl⟩ am_219 rfl rfl) rfl (Nat.le_of_ble_eq_true rfl) dX10_longest_3 ⟨Nat.le_refl _, Nat.le_refl _⟩ (fun r1 _ => ?_)
  refine k_if_eq (tgt := 32) C dX10_longest_6 (by decide) (fun _ => ?_) (fun _ => ?_)
  · refine k_iconst (v := (-1)) C dX10_longest_32 rfl ?_
    exact k_iret C rfl ⟨rfl, rfl⟩ dX10_longest_33
  · refine k_iload_n (q := 3) C dX10_longest_9 rfl rfl ?_
    refine k_iconst (v := 1) C dX10_longest_10 rfl ?_
    refine k_icmp_lt (tgt := 32) C dX10_longest_11 (by decide) (fun _ => ?_) (fun _ => ?_)
    · refine k_iconst (v := (-1)) C dX10_longest_32 rfl ?_
      exact k_iret C rfl ⟨rfl, rfl⟩ dX10_longest_33
    · refine k_iload_n (q := 3) C dX10_longest_14 rfl rfl ?_
      refine k_sipush (v := 10000) C dX10_longest_15 rfl ?_
      refine k_icmp_gt (tgt := 32) C dX10_longest_18 (by decide) (fun _ => ?_) (fun _ => ?_)
      · refine k_iconst (v := (-1)) C dX10_longest_32 rfl ?_
        exact k_iret C rfl ⟨rfl, rfl⟩ dX10_longest_33
      · refine k_iload (q := 4) C dX10_longest_21 rfl ?_
        refine k_if_lt (tgt := 32) C dX10_longest_23 (by decide) (fun _ => ?_) (fun _ => ?_)
        · refine k_iconst (v := (-1)) C dX10_longest_32 rfl ?_
          exact k_iret C rfl ⟨rfl, rfl⟩ dX10_longest_33
        · refine k_iload (q := 4) C dX10_longest_26 rfl ?_
          refine k_iconst (v := 1) C dX10_longest_28 rfl ?_
          refine k_icmp_le (tgt := 34) C dX10_longest_29 (by decide) (fun _ => ?_) (fun _ => ?_)
          · refine k_aload_n (q := 0) C dX10_longest_34 rfl rfl ?_
            refine c_get (b := 200) (ci := 10) (kf := 4) (N := 9) C rfl ⟨rfl, rfl⟩ am_219 rfl lay_10 kk_10_4 fl_10_44 rfl dX10_longest_35 ?_
            refine k_iload_n (q := 1) C dX10_longest_38 rfl rfl ?_
            refine k_iload_n (q := 2) C dX10_longest_39 rfl rfl ?_
            refine k_iload_n (q := 3) C dX10_longest_40 rfl rfl ?_
            refine k_iload (q := 4) C dX10_longest_41 rfl ?_
            refine k_cVI C ct_X2_longestRow my_2_longestRow ml_10_193 rfl ⟨Nat.le_of_ble_eq_true rfl, Nat.le_of_ble_eq_true rfl⟩ (recvC (b := 40) (ci := 2) rfl ⟨rfl, rfl⟩ am_59 rfl rfl) rfl (Nat.le_of_ble_eq_true rfl) dX10_longest_43 ⟨Nat.le_refl _, Nat.le_refl _⟩ (fun r2 _ => ?_)
            exact k_iret C rfl ⟨rfl, rfl⟩ dX10_longest_46
          · refine k_iconst (v := (-1)) C dX10_longest_32 rfl ?_
            exact k_iret C rfl ⟨rfl, rfl⟩ dX10_longest_33
theorem ct_X10_longest {l : Launch} {θ : TH} {ad Y : Nat → Nat} {S : St} {F : Nat} {Z : Zt} {a1 : Int32} {a2 : Int32} {a3 : Int32} {a4 : Int32}  : ∀ r, f_X10_longest F Z S a1 a2 a3 a4 = some r → Ct l θ yX10_longest cX10_longest 5 (some .int) 3 0 0 [.ref (ad 219), .int a1, .int a2, .int a3, .int a4] (wdC θ ad Y Z S) (PI (wdC θ ad Y Z S) r) :=
  fun r hr => Ct.of (by decide +kernel) (Nat.le_of_ble_eq_true rfl) (fun X _ C _ => kw_X10_longest C  r hr)
set_option maxRecDepth 20000 in
theorem kw_X10_round {X : GX} {θ : TH} {ad Y : Nat → Nat} {F : Nat} {Z : Zt} {S : St}  (C : CX (mE X θ (wdC θ ad Y Z S) 1) RX10 cX10_round (some .int) 3 0 0)  : Dk (mE X θ (wdC θ ad Y Z S) 1) (mT X θ (wdC θ ad Y Z S) 1 (PI (wdC θ ad Y Z S))) 0 0 (wdC θ ad Y Z S) [(0, .ref (ad 219))] [] 0 (f_X10_round F Z S) := by
  show Dk _ _ _ _ _ _ _ _ ((f_X7_moonCount Z S).bind fun r1 => (if r1 = 0 then some ((-5 : Int32)) else (f_X7_roundOfAll F Z S).bind fun r2 => some r2))
  refine k_aload_n (q := 0) C dX10_round_0 rfl rfl ?_
  refine c_get (b := 200) (ci := 10) (kf := 0) (N := 9) C rfl ⟨rfl, rfl⟩ am_219 rfl lay_10 kk_10_0 fl_10_10 rfl dX10_round_1 ?_
  refine k_cVI C ct_X7_moonCount my_7_moonCount ml_10_196 rfl ⟨Nat.le_of_ble_eq_true rfl, Nat.le_of_ble_eq_true rfl⟩ (recvC (b := 140) (ci := 7) rfl ⟨rfl, rfl⟩ am_159 rfl rfl) rfl (Nat.le_of_ble_eq_true rfl) dX10_round_4 ⟨Nat.le_refl _, Nat.le_refl _⟩ (fun r1 _ => ?_)
  refine k_if_ne (tgt := 15) C dX10_round_7 (by decide) (fun _ => ?_) (fun _ => ?_)
  · refine k_aload_n (q := 0) C dX10_round_15 rfl rfl ?_
    refine c_get (b := 200) (ci := 10) (kf := 0) (N := 9) C rfl ⟨rfl, rfl⟩ am_219 rfl lay_10 kk_10_0 fl_10_10 rfl dX10_round_16 ?_
    refine k_cVI C ct_X7_roundOfAll my_7_roundOfAll ml_10_199 rfl ⟨Nat.le_of_ble_eq_true rfl, Nat.le_of_ble_eq_true rfl⟩ (recvC (b := 140) (ci := 7) rfl ⟨rfl, rfl⟩ am_159 rfl rfl) rfl (Nat.le_of_ble_eq_true rfl) dX10_round_19 ⟨Nat.le_refl _, Nat.le_refl _⟩ (fun r2 _ => ?_)
    exact k_iret C rfl ⟨rfl, rfl⟩ dX10_round_22
  · refine k_bipush (v := (-5)) C dX10_round_10 rfl ?_
    refine k_goto (tgt := 22) C dX10_round_12 (by decide) ?_
    exact k_iret C rfl ⟨rfl, rfl⟩ dX10_round_22
theorem ct_X10_round {l : Launch} {θ : TH} {ad Y : Nat → Nat} {S : St} {F : Nat} {Z : Zt}   : ∀ r, f_X10_round F Z S = some r → Ct l θ yX10_round cX10_round 1 (some .int) 3 0 0 [.ref (ad 219)] (wdC θ ad Y Z S) (PI (wdC θ ad Y Z S) r) :=
  fun r hr => Ct.of (by decide +kernel) (Nat.le_of_ble_eq_true rfl) (fun X _ C _ => kw_X10_round C  r hr)
set_option maxRecDepth 20000 in
theorem kw_X10_odds {X : GX} {θ : TH} {ad : Nat → Nat} {Y : Nat → Nat} {F : Nat} {S : St} {Z : Zt} {a1 : Int32} {a2 : Int32} {a3 : Int32} (C : CX (mE X θ (wdC θ ad Y Z S) 4) RX10 cX10_odds (some .int) 6 (nd 80 Z) (9216 * nd 80 Z))  : Dk (mE X θ (wdC θ ad Y Z S) 4) (mTa X θ (wdC θ ad Y Z S) 4 (nd 80 Z) (9216 * nd 80 Z) (PIA θ ad)) 0 0 (wdC θ ad Y Z S) [(0, .ref (ad 219)), (1, .int a1), (2, .int a2), (3, .int a3)] [] 0 (f_X10_odds F S Z a1 a2 a3) := by
  have hb := @BD1.z Z
  show Dk _ _ _ _ _ _ _ _ ((f_X10_isCase Z S a1 a2).bind fun r1 => (if r1 = 0 then some ((-1 : Int32), S, Z) else if a3 < 0 then some ((-1 : Int32), S, Z) else if a3 ≤ 100 then (f_X1_told Z S (a1 / 10) 3).bind fun r2 => (if r2 = 2 then (f_X4_open F 80 S Z (a1 / 10) (jrem a1 10)).bind fun r3 => (f_X1_hoursOf r3.2 r3.1 (a1 / 10)).bind fun r7 => (f_X2_oddsByClouds F r3.2 r3.1 r7 a2 a3).bind fun r8 => some (r8.1, r8.2, r3.2) else some ((-5 : Int32), S, Z)) else some ((-1 : Int32), S, Z)))
  refine k_aload_n (q := 0) C dX10_odds_0 rfl rfl ?_
  refine k_iload_n (q := 1) C dX10_odds_1 rfl rfl ?_
  refine k_iload_n (q := 2) C dX10_odds_2 rfl rfl ?_
  refine k_cVI C ct_X10_isCase my_10_isCase ml_10_146 rfl ⟨Nat.le_of_ble_eq_true rfl, Nat.le_of_ble_eq_true rfl⟩ (recvC (b := 200) (ci := 10) rfl ⟨rfl, rfl⟩ am_219 rfl rfl) rfl (Nat.le_of_ble_eq_true rfl) dX10_odds_3 hb.e (fun r1 _ => ?_)
  refine k_if_eq (tgt := 19) C dX10_odds_6 (by decide) (fun _ => ?_) (fun _ => ?_)
  · refine k_iconst (v := (-1)) C dX10_odds_19 rfl ?_
    exact k_iretA hb.e C ⟨rfl, _, rfl⟩ dX10_odds_20
  · refine k_iload_n (q := 3) C dX10_odds_9 rfl rfl ?_
    refine k_if_lt (tgt := 19) C dX10_odds_10 (by decide) (fun _ => ?_) (fun _ => ?_)
    · refine k_iconst (v := (-1)) C dX10_odds_19 rfl ?_
      exact k_iretA hb.e C ⟨rfl, _, rfl⟩ dX10_odds_20
    · refine k_iload_n (q := 3) C dX10_odds_13 rfl rfl ?_
      refine k_bipush (v := 100) C dX10_odds_14 rfl ?_
      refine k_icmp_le (tgt := 21) C dX10_odds_16 (by decide) (fun _ => ?_) (fun _ => ?_)
      · refine k_aload_n (q := 0) C dX10_odds_21 rfl rfl ?_
        refine c_get (b := 200) (ci := 10) (kf := 2) (N := 9) C rfl ⟨rfl, rfl⟩ am_219 rfl lay_10 kk_10_2 fl_10_26 rfl dX10_odds_22 ?_
        refine k_iload_n (q := 1) C dX10_odds_25 rfl rfl ?_
        refine k_bipush (v := 10) C dX10_odds_26 rfl ?_
        refine k_idiv C dX10_odds_28 (by decide) ?_
        refine k_iconst (v := 3) C dX10_odds_29 rfl ?_
        refine k_cVI C ct_X1_told my_1_told ml_10_143 rfl ⟨Nat.le_of_ble_eq_true rfl, Nat.le_of_ble_eq_true rfl⟩ (recvC (b := 20) (ci := 1) rfl ⟨rfl, rfl⟩ am_39 rfl rfl) rfl (Nat.le_of_ble_eq_true rfl) dX10_odds_30 hb.e (fun r2 _ => ?_)
        refine k_iconst (v := 2) C dX10_odds_33 rfl ?_
        refine k_icmp_eq (tgt := 40) C dX10_odds_34 (by decide) (fun _ => ?_) (fun _ => ?_)
        · refine k_aload_n (q := 0) C dX10_odds_40 rfl rfl ?_
          refine c_get (b := 200) (ci := 10) (kf := 3) (N := 9) C rfl ⟨rfl, rfl⟩ am_219 rfl lay_10 kk_10_3 fl_10_35 rfl dX10_odds_41 ?_
          refine k_iload_n (q := 1) C dX10_odds_44 rfl rfl ?_
          refine k_bipush (v := 10) C dX10_odds_45 rfl ?_
          refine k_idiv C dX10_odds_47 (by decide) ?_
          refine k_iload_n (q := 1) C dX10_odds_48 rfl rfl ?_
          refine k_bipush (v := 10) C dX10_odds_49 rfl ?_
          refine k_irem C dX10_odds_51 (by decide) ?_
          refine k_cAV C ct_X4_open_80 my_4_open ml_10_153 rfl ⟨Nat.le_of_ble_eq_true rfl, Nat.le_of_ble_eq_true rfl⟩ (recvC (b := 80) (ci := 4) rfl ⟨rfl, rfl⟩ am_99 rfl rfl) rfl (Nat.le_of_ble_eq_true rfl) dX10_odds_52 hb (fun r3 Y4 hr5 => ?_)
          refine k_aload_n (q := 0) C dX10_odds_55 rfl rfl ?_
          refine c_get (b := 200) (ci := 10) (kf := 4) (N := 9) C rfl ⟨rfl, rfl⟩ am_219 rfl lay_10 kk_10_4 fl_10_44 rfl dX10_odds_56 ?_
          refine k_aload_n (q := 0) C dX10_odds_59 rfl rfl ?_
          refine c_get (b := 200) (ci := 10) (kf := 2) (N := 9) C rfl ⟨rfl, rfl⟩ am_219 rfl lay_10 kk_10_2 fl_10_26 rfl dX10_odds_60 ?_
          refine k_iload_n (q := 1) C dX10_odds_63 rfl rfl ?_
          refine k_bipush (v := 10) C dX10_odds_64 rfl ?_
          refine k_idiv C dX10_odds_66 (by decide) ?_
          refine k_cVI C ct_X1_hoursOf my_1_hoursOf ml_10_149 rfl ⟨Nat.le_of_ble_eq_true rfl, Nat.le_of_ble_eq_true rfl⟩ (recvC (b := 20) (ci := 1) rfl ⟨rfl, rfl⟩ am_39 rfl rfl) rfl (Nat.le_of_ble_eq_true rfl) dX10_odds_67 (BD1.o hb (za_open1 hr5)).e (fun r7 _ => ?_)
          refine k_iload_n (q := 2) C dX10_odds_70 rfl rfl ?_
          refine k_iload_n (q := 3) C dX10_odds_71 rfl rfl ?_
          refine k_cVI C ct_X2_oddsByClouds my_2_oddsByClouds ml_10_202 rfl ⟨Nat.le_of_ble_eq_true rfl, Nat.le_of_ble_eq_true rfl⟩ (recvC (b := 40) (ci := 2) rfl ⟨rfl, rfl⟩ am_59 rfl rfl) rfl (Nat.le_of_ble_eq_true rfl) dX10_odds_72 (BD1.o hb (za_open1 hr5)).e (fun r8 _ => ?_)
          exact k_iretA (BD1.o hb (za_open1 hr5)).e C ⟨rfl, _, rfl⟩ dX10_odds_75
        · refine k_bipush (v := (-5)) C dX10_odds_37 rfl ?_
          exact k_iretA hb.e C ⟨rfl, _, rfl⟩ dX10_odds_39
      · refine k_iconst (v := (-1)) C dX10_odds_19 rfl ?_
        exact k_iretA hb.e C ⟨rfl, _, rfl⟩ dX10_odds_20
theorem ct_X10_odds {l : Launch} {θ : TH} {ad Y : Nat → Nat} {S : St} {Z : Zt} {F : Nat} {a1 : Int32} {a2 : Int32} {a3 : Int32}  : ∀ r, f_X10_odds F S Z a1 a2 a3 = some r → Ct l θ yX10_odds cX10_odds 4 (some .int) 6 (nd 80 Z) (9216 * nd 80 Z) [.ref (ad 219), .int a1, .int a2, .int a3] (wdC θ ad Y Z S) (PIA θ ad r) :=
  fun r hr => Ct.of (by decide +kernel) (Nat.le_of_ble_eq_true rfl) (fun X _ C _ => kw_X10_odds C  r hr)
set_option maxRecDepth 20000 in
theorem kw_X10_promise {X : GX} {θ : TH} {ad Y : Nat → Nat} {Z : Zt} {S : St} {a1 : Int32} {a2 : Int32} (C : CX (mE X θ (wdC θ ad Y Z S) 3) RX10 cX10_promise (some .int) 3 0 0)  : Dk (mE X θ (wdC θ ad Y Z S) 3) (mT X θ (wdC θ ad Y Z S) 3 (PIS (wdC θ ad Y Z))) 0 0 (wdC θ ad Y Z S) [(0, .ref (ad 219)), (1, .int a1), (2, .int a2)] [] 0 (f_X10_promise Z S a1 a2) := by
  show Dk _ _ _ _ _ _ _ _ ((f_X10_isCase Z S a1 a2).bind fun r1 => (if r1 = 0 then some ((-1 : Int32), S) else (f_X9_add Z S (a1 / 10) (jrem a1 10) a2).bind fun r2 => some (r2.1, r2.2)))
  refine k_aload_n (q := 0) C dX10_promise_0 rfl rfl ?_
  refine k_iload_n (q := 1) C dX10_promise_1 rfl rfl ?_
  refine k_iload_n (q := 2) C dX10_promise_2 rfl rfl ?_
  refine k_cVI C ct_X10_isCase my_10_isCase ml_10_146 rfl ⟨Nat.le_of_ble_eq_true rfl, Nat.le_of_ble_eq_true rfl⟩ (recvC (b := 200) (ci := 10) rfl ⟨rfl, rfl⟩ am_219 rfl rfl) rfl (Nat.le_of_ble_eq_true rfl) dX10_promise_3 ⟨Nat.le_refl _, Nat.le_refl _⟩ (fun r1 _ => ?_)
  refine k_if_eq (tgt := 28) C dX10_promise_6 (by decide) (fun _ => ?_) (fun _ => ?_)
  · refine k_iconst (v := (-1)) C dX10_promise_28 rfl ?_
    exact k_iret C rfl ⟨rfl, rfl⟩ dX10_promise_29
  · refine k_aload_n (q := 0) C dX10_promise_9 rfl rfl ?_
    refine c_get (b := 200) (ci := 10) (kf := 5) (N := 9) C rfl ⟨rfl, rfl⟩ am_219 rfl lay_10 kk_10_5 fl_10_51 rfl dX10_promise_10 ?_
    refine k_iload_n (q := 1) C dX10_promise_13 rfl rfl ?_
    refine k_bipush (v := 10) C dX10_promise_14 rfl ?_
    refine k_idiv C dX10_promise_16 (by decide) ?_
    refine k_iload_n (q := 1) C dX10_promise_17 rfl rfl ?_
    refine k_bipush (v := 10) C dX10_promise_18 rfl ?_
    refine k_irem C dX10_promise_20 (by decide) ?_
    refine k_iload_n (q := 2) C dX10_promise_21 rfl rfl ?_
    refine k_cVI C ct_X9_add my_9_add ml_10_205 rfl ⟨Nat.le_of_ble_eq_true rfl, Nat.le_of_ble_eq_true rfl⟩ (recvC (b := 180) (ci := 9) rfl ⟨rfl, rfl⟩ am_199 rfl rfl) rfl (Nat.le_of_ble_eq_true rfl) dX10_promise_22 ⟨Nat.le_refl _, Nat.le_refl _⟩ (fun r2 _ => ?_)
    refine k_goto (tgt := 29) C dX10_promise_25 (by decide) ?_
    exact k_iret C rfl ⟨rfl, rfl⟩ dX10_promise_29
theorem ct_X10_promise {l : Launch} {θ : TH} {ad Y : Nat → Nat} {S : St} {Z : Zt} {a1 : Int32} {a2 : Int32}  : ∀ r, f_X10_promise Z S a1 a2 = some r → Ct l θ yX10_promise cX10_promise 3 (some .int) 3 0 0 [.ref (ad 219), .int a1, .int a2] (wdC θ ad Y Z S) (PIS (wdC θ ad Y Z) r) :=
  fun r hr => Ct.of (by decide +kernel) (Nat.le_of_ble_eq_true rfl) (fun X _ C _ => kw_X10_promise C  r hr)
set_option maxRecDepth 20000 in
theorem kw_X10_judge {X : GX} {θ : TH} {ad : Nat → Nat} {Y : Nat → Nat} {F : Nat} {S : St} {Z : Zt}  (C : CX (mE X θ (wdC θ ad Y Z S) 1) RX10 cX10_judge (some .int) 6 (nd 80 Z) (9216 * nd 80 Z))  : Dk (mE X θ (wdC θ ad Y Z S) 1) (mTa X θ (wdC θ ad Y Z S) 1 (nd 80 Z) (9216 * nd 80 Z) (PIA θ ad)) 0 0 (wdC θ ad Y Z S) [(0, .ref (ad 219))] [] 0 (f_X10_judge F S Z) := by
  have hb := @BD1.z Z
  show Dk _ _ _ _ _ _ _ _ ((f_X9_firstBroken F S Z).bind fun r1 => some (r1.1, r1.2.1, r1.2.2))
  refine k_aload_n (q := 0) C dX10_judge_0 rfl rfl ?_
  refine c_get (b := 200) (ci := 10) (kf := 5) (N := 9) C rfl ⟨rfl, rfl⟩ am_219 rfl lay_10 kk_10_5 fl_10_51 rfl dX10_judge_1 ?_
  refine k_cAI C ct_X9_firstBroken my_9_firstBroken ml_10_207 rfl ⟨Nat.le_of_ble_eq_true rfl, Nat.le_of_ble_eq_true rfl⟩ (recvC (b := 180) (ci := 9) rfl ⟨rfl, rfl⟩ am_199 rfl rfl) rfl (Nat.le_of_ble_eq_true rfl) dX10_judge_4 hb (fun r1 Y2 hr3 => ?_)
  exact k_iretA hb C ⟨rfl, _, rfl⟩ dX10_judge_7
theorem ct_X10_judge {l : Launch} {θ : TH} {ad Y : Nat → Nat} {S : St} {Z : Zt} {F : Nat}   : ∀ r, f_X10_judge F S Z = some r → Ct l θ yX10_judge cX10_judge 1 (some .int) 6 (nd 80 Z) (9216 * nd 80 Z) [.ref (ad 219)] (wdC θ ad Y Z S) (PIA θ ad r) :=
  fun r hr => Ct.of (by decide +kernel) (Nat.le_of_ble_eq_true rfl) (fun X _ C _ => kw_X10_judge C  r hr)
set_option maxRecDepth 20000 in
theorem kw_X10_dated {X : GX} {θ : TH} {ad : Nat → Nat} {Y : Nat → Nat} {F : Nat} {S : St} {Z : Zt} {a1 : Int32} (C : CX (mE X θ (wdC θ ad Y Z S) 2) RX10 cX10_dated (some .int) 6 (nd 80 Z) (9216 * nd 80 Z))  : Dk (mE X θ (wdC θ ad Y Z S) 2) (mTa X θ (wdC θ ad Y Z S) 2 (nd 80 Z) (9216 * nd 80 Z) (PIA θ ad)) 0 0 (wdC θ ad Y Z S) [(0, .ref (ad 219)), (1, .int a1)] [] 0 (f_X10_dated F S Z a1) := by
  have hb := @BD1.z Z
  show Dk _ _ _ _ _ _ _ _ ((f_X9_has Z S a1).bind fun r1 => (if r1 = 0 then some ((-1 : Int32), S, Z) else (f_X9_nearestLawful F S Z a1).bind fun r2 => some (r2.1, r2.2.1, r2.2.2)))
  refine k_aload_n (q := 0) C dX10_dated_0 rfl rfl ?_
  refine c_get (b := 200) (ci := 10) (kf := 5) (N := 9) C rfl ⟨rfl, rfl⟩ am_219 rfl lay_10 kk_10_5 fl_10_51 rfl dX10_dated_1 ?_
  refine k_iload_n (q := 1) C dX10_dated_4 rfl rfl ?_
  refine k_cVI C ct_X9_has my_9_has ml_10_210 rfl ⟨Nat.le_of_ble_eq_true rfl, Nat.le_of_ble_eq_true rfl⟩ (recvC (b := 180) (ci := 9) rfl ⟨rfl, rfl⟩ am_199 rfl rfl) rfl (Nat.le_of_ble_eq_true rfl) dX10_dated_5 hb.e (fun r1 _ => ?_)
  refine k_if_eq (tgt := 22) C dX10_dated_8 (by decide) (fun _ => ?_) (fun _ => ?_)
  · refine k_iconst (v := (-1)) C dX10_dated_22 rfl ?_
    exact k_iretA hb.e C ⟨rfl, _, rfl⟩ dX10_dated_23
  · refine k_aload_n (q := 0) C dX10_dated_11 rfl rfl ?_
    refine c_get (b := 200) (ci := 10) (kf := 5) (N := 9) C rfl ⟨rfl, rfl⟩ am_219 rfl lay_10 kk_10_5 fl_10_51 rfl dX10_dated_12 ?_
    refine k_iload_n (q := 1) C dX10_dated_15 rfl rfl ?_
    refine k_cAI C ct_X9_nearestLawful my_9_nearestLawful ml_10_211 rfl ⟨Nat.le_of_ble_eq_true rfl, Nat.le_of_ble_eq_true rfl⟩ (recvC (b := 180) (ci := 9) rfl ⟨rfl, rfl⟩ am_199 rfl rfl) rfl (Nat.le_of_ble_eq_true rfl) dX10_dated_16 hb (fun r2 Y3 hr4 => ?_)
    refine k_goto (tgt := 23) C dX10_dated_19 (by decide) ?_
    exact k_iretA hb C ⟨rfl, _, rfl⟩ dX10_dated_23
theorem ct_X10_dated {l : Launch} {θ : TH} {ad Y : Nat → Nat} {S : St} {Z : Zt} {F : Nat} {a1 : Int32}  : ∀ r, f_X10_dated F S Z a1 = some r → Ct l θ yX10_dated cX10_dated 2 (some .int) 6 (nd 80 Z) (9216 * nd 80 Z) [.ref (ad 219), .int a1] (wdC θ ad Y Z S) (PIA θ ad r) :=
  fun r hr => Ct.of (by decide +kernel) (Nat.le_of_ble_eq_true rfl) (fun X _ C _ => kw_X10_dated C  r hr)
set_option maxRecDepth 20000 in
theorem kw_X10_claims {X : GX} {θ : TH} {ad : Nat → Nat} {Y : Nat → Nat} {F : Nat} {S : St} {Z : Zt} {a1 : Int32} {a2 : Int32} (C : CX (mE X θ (wdC θ ad Y Z S) 3) RX10 cX10_claims (some .int) 6 (nd 80 Z) (9216 * nd 80 Z))  : Dk (mE X θ (wdC θ ad Y Z S) 3) (mTa X θ (wdC θ ad Y Z S) 3 (nd 80 Z) (9216 * nd 80 Z) (PIA θ ad)) 0 0 (wdC θ ad Y Z S) [(0, .ref (ad 219)), (1, .int a1), (2, .int a2)] [] 0 (f_X10_claims F S Z a1 a2) := by
  have hb := @BD1.z Z
  show Dk _ _ _ _ _ _ _ _ ((f_X9_has Z S a1).bind fun r1 => (if r1 = 0 then some ((-1 : Int32), S, Z) else if a2 < 1 then some ((-1 : Int32), S, Z) else if (2000 : Int32) < a2 then some ((-1 : Int32), S, Z) else (f_X9_claimHours F S Z a1 a2).bind fun r2 => some (r2.1, r2.2.1, r2.2.2)))
  refine k_aload_n (q := 0) C dX10_claims_0 rfl rfl ?_
  refine c_get (b := 200) (ci := 10) (kf := 5) (N := 9) C rfl ⟨rfl, rfl⟩ am_219 rfl lay_10 kk_10_5 fl_10_51 rfl dX10_claims_1 ?_
  refine k_iload_n (q := 1) C dX10_claims_4 rfl rfl ?_
  refine k_cVI C ct_X9_has my_9_has ml_10_210 rfl ⟨Nat.le_of_ble_eq_true rfl, Nat.le_of_ble_eq_true rfl⟩ (recvC (b := 180) (ci := 9) rfl ⟨rfl, rfl⟩ am_199 rfl rfl) rfl (Nat.le_of_ble_eq_true rfl) dX10_claims_5 hb.e (fun r1 _ => ?_)
  refine k_if_eq (tgt := 35) C dX10_claims_8 (by decide) (fun _ => ?_) (fun _ => ?_)
  · refine k_iconst (v := (-1)) C dX10_claims_35 rfl ?_
    exact k_iretA hb.e C ⟨rfl, _, rfl⟩ dX10_claims_36
  · refine k_iload_n (q := 2) C dX10_claims_11 rfl rfl ?_
    refine k_iconst (v := 1) C dX10_claims_12 rfl ?_
    refine k_icmp_lt (tgt := 35) C dX10_claims_13 (by decide) (fun _ => ?_) (fun _ => ?_)
    · refine k_iconst (v := (-1)) C dX10_claims_35 rfl ?_
      exact k_iretA hb.e C ⟨rfl, _, rfl⟩ dX10_claims_36
    · refine k_iload_n (q := 2) C dX10_claims_16 rfl rfl ?_
      refine k_sipush (v := 2000) C dX10_claims_17 rfl ?_
      refine k_icmp_gt (tgt := 35) C dX10_claims_20 (by decide) (fun _ => ?_) (fun _ => ?_)
      · refine k_iconst (v := (-1)) C dX10_claims_35 rfl ?_
        exact k_iretA hb.e C ⟨rfl, _, rfl⟩ dX10_claims_36
      · refine k_aload_n (q := 0) C dX10_claims_23 rfl rfl ?_
        refine c_get (b := 200) (ci := 10) (kf := 5) (N := 9) C rfl ⟨rfl, rfl⟩ am_219 rfl lay_10 kk_10_5 fl_10_51 rfl dX10_claims_24 ?_
        refine k_iload_n (q := 1) C dX10_claims_27 rfl rfl ?_
        refine k_iload_n (q := 2) C dX10_claims_28 rfl rfl ?_
        refine k_cAI C ct_X9_claimHours my_9_claimHours ml_10_214 rfl ⟨Nat.le_of_ble_eq_true rfl, Nat.le_of_ble_eq_true rfl⟩ (recvC (b := 180) (ci := 9) rfl ⟨rfl, rfl⟩ am_199 rfl rfl) rfl (Nat.le_of_ble_eq_true rfl) dX10_claims_29 hb (fun r2 Y3 hr4 => ?_)
        refine k_goto (tgt := 36) C dX10_claims_32 (by decide) ?_
        exact k_iretA hb C ⟨rfl, _, rfl⟩ dX10_claims_36
theorem ct_X10_claims {l : Launch} {θ : TH} {ad Y : Nat → Nat} {S : St} {Z : Zt} {F : Nat} {a1 : Int32} {a2 : Int32}  : ∀ r, f_X10_claims F S Z a1 a2 = some r → Ct l θ yX10_claims cX10_claims 3 (some .int) 6 (nd 80 Z) (9216 * nd 80 Z) [.ref (ad 219), .int a1, .int a2] (wdC θ ad Y Z S) (PIA θ ad r) :=
  fun r hr => Ct.of (by decide +kernel) (Nat.le_of_ble_eq_true rfl) (fun X _ C _ => kw_X10_claims C  r hr)
set_option maxRecDepth 20000 in
theorem kb_X10_year_B41 {X : GX} {θ : TH} {ad : Nat → Nat} {Y0 : Nat → Nat} {S0 : St} {Z0 : Zt} {F : Nat} {a1 : Int32} {a2 : Int32} {a3 : Int32} {a4 : Int32} (C : CX (mE X θ (wdC θ ad Y0 Z0 S0) 5) RX10 cX10_year (some .int) 7 (nd 80 Z0) (9216 * nd 80 Z0))  (S : St) (Z : Zt) (Y : Nat → Nat) (k1 n1 : Nat) (hb : BD1 k1 n1 Z (nd 80 Z0) (9216 * nd 80 Z0)) : Dk (mE X θ (wdC θ ad Y0 Z0 S0) 5) (mTa X θ (wdC θ ad Y0 Z0 S0) 5 (nd 80 Z0) (9216 * nd 80 Z0) (PIA θ ad)) k1 n1 (wdC θ ad Y Z S) [(0, .ref (ad 219)), (1, .int a1), (2, .int a2), (3, .int a3), (4, .int a4)] [] 41 (f_X10_year_B41 F a1 a2 a3 a4 S Z) := by
  show Dk _ _ _ _ _ _ _ _ (if a1 = (-1) then (f_X1_size Z S).bind fun r7 => (if r7 = 0 then some ((-5 : Int32), S, Z) else (f_X2_deedOfYear F S Z a2 a3 a4).bind fun r8 => some (r8.1, r8.2.1, r8.2.2)) else (f_X2_lawfulHours F S Z a1 a2 a3 a4).bind fun r3 => some (r3.1, r3.2.1, r3.2.2))
  refine k_iload_n (q := 1) C dX10_year_41 rfl rfl ?_
  refine k_iconst (v := (-1)) C dX10_year_42 rfl ?_
  refine k_icmp_ne (tgt := 73) C dX10_year_43 (by decide) (fun _ => ?_) (fun _ => ?_)
  · refine k_aload_n (q := 0) C dX10_year_73 rfl rfl ?_
    refine c_get (b := 200) (ci := 10) (kf := 4) (N := 9) C rfl ⟨rfl, rfl⟩ am_219 rfl lay_10 kk_10_4 fl_10_44 rfl dX10_year_74 ?_
    refine k_iload_n (q := 1) C dX10_year_77 rfl rfl ?_
    refine k_iload_n (q := 2) C dX10_year_78 rfl rfl ?_
    refine k_iload_n (q := 3) C dX10_year_79 rfl rfl ?_
    refine k_iload (q := 4) C dX10_year_80 rfl ?_
    refine k_cAI C ct_X2_lawfulHours my_2_lawfulHours ml_10_223 rfl ⟨Nat.le_of_ble_eq_true rfl, Nat.le_of_ble_eq_true rfl⟩ (recvC (b := 40) (ci := 2) rfl ⟨rfl, rfl⟩ am_59 rfl rfl) rfl (Nat.le_of_ble_eq_true rfl) dX10_year_82 hb (fun r3 Y4 hr5 => ?_)
    exact k_iretA (BD1.o hb (za_lawfulHours1 hr5)).e C ⟨rfl, _, rfl⟩ dX10_year_85
  · refine k_aload_n (q := 0) C dX10_year_46 rfl rfl ?_
    refine c_get (b := 200) (ci := 10) (kf := 2) (N := 9) C rfl ⟨rfl, rfl⟩ am_219 rfl lay_10 kk_10_2 fl_10_26 rfl dX10_year_47 ?_
    refine k_cVI C ct_X1_size my_1_size ml_10_217 rfl ⟨Nat.le_of_ble_eq_true rfl, Nat.le_of_ble_eq_true rfl⟩ (recvC (b := 20) (ci := 1) rfl ⟨rfl, rfl⟩ am_39 rfl rfl) rfl (Nat.le_of_ble_eq_true rfl) dX10_year_50 hb.e (fun r7 _ => ?_)
    refine k_if_ne (tgt := 61) C dX10_year_53 (by decide) (fun _ => ?_) (fun _ => ?_)
    · refine k_aload_n (q := 0) C dX10_year_61 rfl rfl ?_
      refine c_get (b := 200) (ci := 10) (kf := 4) (N := 9) C rfl ⟨rfl, rfl⟩ am_219 rfl lay_10 kk_10_4 fl_10_44 rfl dX10_year_62 ?_
      refine k_iload_n (q := 2) C dX10_year_65 rfl rfl ?_
      refine k_iload_n (q := 3) C dX10_year_66 rfl rfl ?_
      refine k_iload (q := 4) C dX10_year_67 rfl ?_
      refine k_cAI C ct_X2_deedOfYear my_2_deedOfYear ml_10_220 rfl ⟨Nat.le_of_ble_eq_true rfl, Nat.le_of_ble_eq_true rfl⟩ (recvC (b := 40) (ci := 2) rfl ⟨rfl, rfl⟩ am_59 rfl rfl) rfl (Nat.le_of_ble_eq_true rfl) dX10_year_69 hb (fun r8 Y9 hr10 => ?_)
      exact k_iretA hb C ⟨rfl, _, rfl⟩ dX10_year_72
    · refine k_bipush (v := (-5)) C dX10_year_56 rfl ?_
      refine k_goto (tgt := 72) C dX10_year_58 (by decide) ?_
      exact k_iretA hb.e C ⟨rfl, _, rfl⟩ dX10_year_72
set_option maxRecDepth 20000 in
theorem kw_X10_year {X : GX} {θ : TH} {ad : Nat → Nat} {Y : Nat → Nat} {F : Nat} {S : St} {Z : Zt} {a1 : Int32} {a2 : Int32} {a3 : Int32} {a4 : Int32} (C : CX (mE X θ (wdC θ ad Y Z S) 5) RX10 cX10_year (some .int) 7 (nd 80 Z) (9216 * nd 80 Z))  : Dk (mE X θ (wdC θ ad Y Z S) 5) (mTa X θ (wdC θ ad Y Z S) 5 (nd 80 Z) (9216 * nd 80 Z) (PIA θ ad)) 0 0 (wdC θ ad Y Z S) [(0, .ref (ad 219)), (1, .int a1), (2, .int a2), (3, .int a3), (4, .int a4)] [] 0 (f_X10_year F S Z a1 a2 a3 a4) := by
  have hb := @BD1.z Z
  show Dk _ _ _ _ _ _ _ _ ((f_X10_isPlace Z S a2 a3).bind fun r1 => (if r1 = 0 then some ((-1 : Int32), S, Z) else if a4 < 1 then some ((-1 : Int32), S, Z) else if (600 : Int32) < a4 then some ((-1 : Int32), S, Z) else if a1 = (-1) then f_X10_year_B41 F a1 a2 a3 a4 S Z else (f_X1_has Z S a1).bind fun r2 => (if r2 = 0 then some ((-1 : Int32), S, Z) else f_X10_year_B41 F a1 a2 a3 a4 S Z)))
  refine k_aload_n (q := 0) C dX10_year_0 rfl rfl ?_
  refine k_iload_n (q := 2) C dX10_year_1 rfl rfl ?_
  refine k_iload_n (q := 3) C dX10_year_2 rfl rfl ?_
  refine k_cVI C ct_X10_isPlace my_10_isPlace ml_10_115 rfl ⟨Nat.le_of_ble_eq_true rfl, Nat.le_of_ble_eq_true rfl⟩ (recvC (b := 200) (ci := 10) rfl ⟨rfl, rfl⟩ am_219 rfl rfl) rfl (Nat.le_of_ble_eq_true rfl) dX10_year_3 hb.e (fun r1 _ => ?_)
  refine k_if_eq (tgt := 39) C dX10_year_6 (by decide) (fun _ => ?_) (fun _ => ?_)
  · refine k_iconst (v := (-1)) C dX10_year_39 rfl ?_
    exact k_iretA hb.e C ⟨rfl, _, rfl⟩ dX10_year_40
  · refine k_iload (q := 4) C dX10_year_9 rfl ?_
    refine k_iconst (v := 1) C dX10_year_11 rfl ?_
    refine k_icmp_lt (tgt := 39) C dX10_year_12 (by decide) (fun _ => ?_) (fun _ => ?_)
    · refine k_iconst (v := (-1)) C dX10_year_39 rfl ?_
      exact k_iretA hb.e C ⟨rfl, _, rfl⟩ dX10_year_40
    · refine k_iload (q := 4) C dX10_year_15 rfl ?_
      refine k_sipush (v := 600) C dX10_year_17 rfl ?_
      refine k_icmp_gt (tgt := 39) C dX10_year_20 (by decide) (fun _ => ?_) (fun _ => ?_)
      · refine k_iconst (v := (-1)) C dX10_year_39 rfl ?_
        exact k_iretA hb.e C ⟨rfl, _, rfl⟩ dX10_year_40
      · refine k_iload_n (q := 1) C dX10_year_23 rfl rfl ?_
        refine k_iconst (v := (-1)) C dX10_year_24 rfl ?_
        refine k_icmp_eq (tgt := 41) C dX10_year_25 (by decide) (fun _ => ?_) (fun _ => ?_)
        · exact kb_X10_year_B41 C _ _ _ _ _ hb
        · refine k_aload_n (q := 0) C dX10_year_28 rfl rfl ?_
          refine c_get (b := 200) (ci := 10) (kf := 2) (N := 9) C rfl ⟨rfl, rfl⟩ am_219 rfl lay_10 kk_10_2 fl_10_26 rfl dX10_year_29 ?_
          refine k_iload_n (q := 1) C dX10_year_32 rfl rfl ?_
          refine k_cVI C ct_X1_has my_1_has ml_10_142 rfl ⟨Nat.le_of_ble_eq_true rfl, Nat.le_of_ble_eq_true rfl⟩ (recvC (b := 20) (ci := 1) rfl ⟨rfl, rfl⟩ am_39 rfl rfl) rfl (Nat.le_of_ble_eq_true rfl) dX10_year_33 hb.e (fun r2 _ => ?_)
          refine k_if_ne (tgt := 41) C dX10_year_36 (by decide) (fun _ => ?_) (fun _ => ?_)
          · exact kb_X10_year_B41 C _ _ _ _ _ hb
          · refine k_iconst (v := (-1)) C dX10_year_39 rfl ?_
            exact k_iretA hb.e C ⟨rfl, _, rfl⟩ dX10_year_40
theorem ct_X10_year {l : Launch} {θ : TH} {ad Y : Nat → Nat} {S : St} {Z : Zt} {F : Nat} {a1 : Int32} {a2 : Int32} {a3 : Int32} {a4 : Int32}  : ∀ r, f_X10_year F S Z a1 a2 a3 a4 = some r → Ct l θ yX10_year cX10_year 5 (some .int) 7 (nd 80 Z) (9216 * nd 80 Z) [.ref (ad 219), .int a1, .int a2, .int a3, .int a4] (wdC θ ad Y Z S) (PIA θ ad r) :=
  fun r hr => Ct.of (by decide +kernel) (Nat.le_of_ble_eq_true rfl) (fun X _ C _ => kw_X10_year C  r hr)
set_option maxRecDepth 20000 in
theorem kw_X10_undo {X : GX} {θ : TH} {ad Y : Nat → Nat} {Z : Zt} {S : St}  (C : CX (mE X θ (wdC θ ad Y Z S) 1) RX10 cX10_undo (some .int) 4 0 0)  : Dk (mE X θ (wdC θ ad Y Z S) 1) (mT X θ (wdC θ ad Y Z S) 1 (PIS (wdC θ ad Y Z))) 0 0 (wdC θ ad Y Z S) [(0, .ref (ad 219))] [] 0 (f_X10_undo Z S) := by
  show Dk _ _ _ _ _ _ _ _ ((f_X3_takeBack Z S).bind fun r1 => some (r1.1, r1.2))
  refine k_aload_n (q := 0) C dX10_undo_0 rfl rfl ?_
  refine c_get (b := 200) (ci := 10) (kf := 6) (N := 9) C rfl ⟨rfl, rfl⟩ am_219 rfl lay_10 kk_10_6 fl_10_58 rfl dX10_undo_1 ?_
  refine k_cVI C ct_X3_takeBack my_3_takeBack ml_10_226 rfl ⟨Nat.le_of_ble_eq_true rfl, Nat.le_of_ble_eq_true rfl⟩ (recvC (b := 60) (ci := 3) rfl ⟨rfl, rfl⟩ am_79 rfl rfl) rfl (Nat.le_of_ble_eq_true rfl) dX10_undo_4 ⟨Nat.le_refl _, Nat.le_refl _⟩ (fun r1 _ => ?_)
  exact k_iret C rfl ⟨rfl, rfl⟩ dX10_undo_7
theorem ct_X10_undo {l : Launch} {θ : TH} {ad Y : Nat → Nat} {S : St} {Z : Zt}   : ∀ r, f_X10_undo Z S = some r → Ct l θ yX10_undo cX10_undo 1 (some .int) 4 0 0 [.ref (ad 219)] (wdC θ ad Y Z S) (PIS (wdC θ ad Y Z) r) :=
  fun r hr => Ct.of (by decide +kernel) (Nat.le_of_ble_eq_true rfl) (fun X _ C _ => kw_X10_undo C  r hr)
set_option maxRecDepth 20000 in
theorem kw_X10_redo {X : GX} {θ : TH} {ad Y : Nat → Nat} {Z : Zt} {S : St}  (C : CX (mE X θ (wdC θ ad Y Z S) 1) RX10 cX10_redo (some .int) 4 0 0)  : Dk (mE X θ (wdC θ ad Y Z S) 1) (mT X θ (wdC θ ad Y Z S) 1 (PIS (wdC θ ad Y Z))) 0 0 (wdC θ ad Y Z S) [(0, .ref (ad 219))] [] 0 (f_X10_redo Z S) := by
  show Dk _ _ _ _ _ _ _ _ ((f_X3_doAgain Z S).bind fun r1 => some (r1.1, r1.2))
  refine k_aload_n (q := 0) C dX10_redo_0 rfl rfl ?_
  refine c_get (b := 200) (ci := 10) (kf := 6) (N := 9) C rfl ⟨rfl, rfl⟩ am_219 rfl lay_10 kk_10_6 fl_10_58 rfl dX10_redo_1 ?_
  refine k_cVI C ct_X3_doAgain my_3_doAgain ml_10_229 rfl ⟨Nat.le_of_ble_eq_true rfl, Nat.le_of_ble_eq_true rfl⟩ (recvC (b := 60) (ci := 3) rfl ⟨rfl, rfl⟩ am_79 rfl rfl) rfl (Nat.le_of_ble_eq_true rfl) dX10_redo_4 ⟨Nat.le_refl _, Nat.le_refl _⟩ (fun r1 _ => ?_)
  exact k_iret C rfl ⟨rfl, rfl⟩ dX10_redo_7
theorem ct_X10_redo {l : Launch} {θ : TH} {ad Y : Nat → Nat} {S : St} {Z : Zt}   : ∀ r, f_X10_redo Z S = some r → Ct l θ yX10_redo cX10_redo 1 (some .int) 4 0 0 [.ref (ad 219)] (wdC θ ad Y Z S) (PIS (wdC θ ad Y Z) r) :=
  fun r hr => Ct.of (by decide +kernel) (Nat.le_of_ble_eq_true rfl) (fun X _ C _ => kw_X10_redo C  r hr)
set_option maxRecDepth 20000 in
theorem kw_X10_body {X : GX} {θ : TH} {ad Y : Nat → Nat} {Z : Zt} {S : St} {a1 : Int32} (C : CX (mE X θ (wdC θ ad Y Z S) 2) RX10 cX10_body (some .int) 1 0 0)  : Dk (mE X θ (wdC θ ad Y Z S) 2) (mT X θ (wdC θ ad Y Z S) 2 (PIS (wdC θ ad Y Z))) 0 0 (wdC θ ad Y Z S) [(0, .ref (ad 219)), (1, .int a1)] [] 0 (f_X10_body Z S a1) := by
  show Dk _ _ _ _ _ _ _ _ (if a1 < 0 then some ((-1 : Int32), S) else if a1 < 8 then (f_X0_add Z S a1).bind fun r1 => some (r1.1, r1.2) else some ((-1 : Int32), S))
  refine k_iload_n (q := 1) C dX10_body_0 rfl rfl ?_
  refine k_if_lt (tgt := 10) C dX10_body_1 (by decide) (fun _ => ?_) (fun _ => ?_)
  · refine k_iconst (v := (-1)) C dX10_body_10 rfl ?_
    refine k_goto (tgt := 22) C dX10_body_11 (by decide) ?_
    exact k_iret C rfl ⟨rfl, rfl⟩ dX10_body_22
  · refine k_iload_n (q := 1) C dX10_body_4 rfl rfl ?_
    refine k_bipush (v := 8) C dX10_body_5 rfl ?_
    refine k_icmp_lt (tgt := 14) C dX10_body_7 (by decide) (fun _ => ?_) (fun _ => ?_)
    · refine k_aload_n (q := 0) C dX10_body_14 rfl rfl ?_
      refine c_get (b := 200) (ci := 10) (kf := 7) (N := 9) C rfl ⟨rfl, rfl⟩ am_219 rfl lay_10 kk_10_7 fl_10_65 rfl dX10_body_15 ?_
      refine k_iload_n (q := 1) C dX10_body_18 rfl rfl ?_
      refine k_cVI C ct_X0_add my_0_add ml_10_232 rfl ⟨Nat.le_of_ble_eq_true rfl, Nat.le_of_ble_eq_true rfl⟩ (recvC (b := 0) (ci := 0) rfl ⟨rfl, rfl⟩ am_19 rfl rfl) rfl (Nat.le_of_ble_eq_true rfl) dX10_body_19 ⟨Nat.le_refl _, Nat.le_refl _⟩ (fun r1 _ => ?_)
      exact k_iret C rfl ⟨rfl, rfl⟩ dX10_body_22
    · refine k_iconst (v := (-1)) C dX10_body_10 rfl ?_
      refine k_goto (tgt := 22) C dX10_body_11 (by decide) ?_
      exact k_iret C rfl ⟨rfl, rfl⟩ dX10_body_22
theorem ct_X10_body {l : Launch} {θ : TH} {ad Y : Nat → Nat} {S : St} {Z : Zt} {a1 : Int32}  : ∀ r, f_X10_body Z S a1 = some r → Ct l θ yX10_body cX10_body 2 (some .int) 1 0 0 [.ref (ad 219), .int a1] (wdC θ ad Y Z S) (PIS (wdC θ ad Y Z) r) :=
  fun r hr => Ct.of (by decide +kernel) (Nat.le_of_ble_eq_true rfl) (fun X _ C _ => kw_X10_body C  r hr)
set_option maxRecDepth 20000 in
theorem kw_X10_act {X : GX} {θ : TH} {ad Y : Nat → Nat} {F : Nat} {Z : Zt} {S : St} {a1 : Int32} {a2 : Int32} {a3 : Int32} (C : CX (mE X θ (wdC θ ad Y Z S) 4) RX10 cX10_act (some .int) 64 0 0)  : Dk (mE X θ (wdC θ ad Y Z S) 4) (mT X θ (wdC θ ad Y Z S) 4 (PIS (wdC θ ad Y Z))) 0 0 (wdC θ ad Y Z S) [(0, .ref (ad 219)), (1, .int a1), (2, .int a2), (3, .int a3)] [] 0 (f_X10_act F Z S a1 a2 a3) := by
  show Dk _ _ _ _ _ _ _ _ ((f_X0_play F Z S a1 a2 a3).bind fun r1 => some (r1.1, r1.2))
  refine k_aload_n (q := 0) C dX10_act_0 rfl rfl ?_
  refine c_get (b := 200) (ci := 10) (kf := 7) (N := 9) C rfl ⟨rfl, rfl⟩ am_219 rfl lay_10 kk_10_7 fl_10_65 rfl dX10_act_1 ?_
  refine k_iload_n (q := 1) C dX10_act_4 rfl rfl ?_
  refine k_iload_n (q := 2) C dX10_act_5 rfl rfl ?_
  refine k_iload_n (q := 3) C dX10_act_6 rfl rfl ?_
  refine k_cVI C ct_X0_play my_0_play ml_10_234 rfl ⟨Nat.le_of_ble_eq_true rfl, Nat.le_of_ble_eq_true rfl⟩ (recvC (b := 0) (ci := 0) rfl ⟨rfl, rfl⟩ am_19 rfl rfl) rfl (Nat.le_of_ble_eq_true rfl) dX10_act_7 ⟨Nat.le_refl _, Nat.le_refl _⟩ (fun r1 _ => ?_)
  exact k_iret C rfl ⟨rfl, rfl⟩ dX10_act_10
theorem ct_X10_act {l : Launch} {θ : TH} {ad Y : Nat → Nat} {S : St} {F : Nat} {Z : Zt} {a1 : Int32} {a2 : Int32} {a3 : Int32}  : ∀ r, f_X10_act F Z S a1 a2 a3 = some r → Ct l θ yX10_act cX10_act 4 (some .int) 64 0 0 [.ref (ad 219), .int a1, .int a2, .int a3] (wdC θ ad Y Z S) (PIS (wdC θ ad Y Z) r) :=
  fun r hr => Ct.of (by decide +kernel) (Nat.le_of_ble_eq_true rfl) (fun X _ C _ => kw_X10_act C  r hr)
set_option maxRecDepth 20000 in
theorem kw_X10_trace {X : GX} {θ : TH} {ad Y : Nat → Nat} {Z : Zt} {S : St} {a1 : Int32} (C : CX (mE X θ (wdC θ ad Y Z S) 2) RX10 cX10_trace (some .int) 1 0 0)  : Dk (mE X θ (wdC θ ad Y Z S) 2) (mT X θ (wdC θ ad Y Z S) 2 (PI (wdC θ ad Y Z S))) 0 0 (wdC θ ad Y Z S) [(0, .ref (ad 219)), (1, .int a1)] [] 0 (f_X10_trace Z S a1) := by
  show Dk _ _ _ _ _ _ _ _ ((f_X0_traced Z S a1).bind fun r1 => some r1)
  refine k_aload_n (q := 0) C dX10_trace_0 rfl rfl ?_
  refine c_get (b := 200) (ci := 10) (kf := 7) (N := 9) C rfl ⟨rfl, rfl⟩ am_219 rfl lay_10 kk_10_7 fl_10_65 rfl dX10_trace_1 ?_
  refine k_iload_n (q := 1) C dX10_trace_4 rfl rfl ?_
  refine k_cVI C ct_X0_traced my_0_traced ml_10_237 rfl ⟨Nat.le_of_ble_eq_true rfl, Nat.le_of_ble_eq_true rfl⟩ (recvC (b := 0) (ci := 0) rfl ⟨rfl, rfl⟩ am_19 rfl rfl) rfl (Nat.le_of_ble_eq_true rfl) dX10_trace_5 ⟨Nat.le_refl _, Nat.le_refl _⟩ (fun r1 _ => ?_)
  exact k_iret C rfl ⟨rfl, rfl⟩ dX10_trace_8
theorem ct_X10_trace {l : Launch} {θ : TH} {ad Y : Nat → Nat} {S : St} {Z : Zt} {a1 : Int32}  : ∀ r, f_X10_trace Z S a1 = some r → Ct l θ yX10_trace cX10_trace 2 (some .int) 1 0 0 [.ref (ad 219), .int a1] (wdC θ ad Y Z S) (PI (wdC θ ad Y Z S) r) :=
  fun r hr => Ct.of (by decide +kernel) (Nat.le_of_ble_eq_true rfl) (fun X _ C _ => kw_X10_trace C  r hr)
set_option maxRecDepth 20000 in
theorem kb_X10_keep_B29 {X : GX} {θ : TH} {ad Y : Nat → Nat} {S0 : St} {Z : Zt} {a1 : Int32} {a2 : Int32} (C : CX (mE X θ (wdC θ ad Y Z S0) 3) RX10 cX10_keep (some .int) 2 0 0)  (S : St) : Dk (mE X θ (wdC θ ad Y Z S0) 3) (mT X θ (wdC θ ad Y Z S0) 3 (PIS (wdC θ ad Y Z))) 0 0 (wdC θ ad Y Z S) [(0, .ref (ad 219)), (1, .int a1), (2, .int a2)] [] 29 (f_X10_keep_B29 Z a1 a2 S) := by
  show Dk _ _ _ _ _ _ _ _ ((f_X6_holdBody Z S a1 a2).bind fun r3 => some ((1 : Int32), r3))
  refine k_aload_n (q := 0) C dX10_keep_29 rfl rfl ?_
  refine c_get (b := 200) (ci := 10) (kf := 8) (N := 9) C rfl ⟨rfl, rfl⟩ am_219 rfl lay_10 kk_10_8 fl_10_72 rfl dX10_keep_30 ?_
  refine k_iload_n (q := 1) C dX10_keep_33 rfl rfl ?_
  refine k_iload_n (q := 2) C dX10_keep_34 rfl rfl ?_
  refine k_cVV C ct_X6_holdBody my_6_holdBody ml_10_241 rfl ⟨Nat.le_of_ble_eq_true rfl, Nat.le_of_ble_eq_true rfl⟩ (recvC (b := 120) (ci := 6) rfl ⟨rfl, rfl⟩ am_139 rfl rfl) rfl (Nat.le_of_ble_eq_true rfl) dX10_keep_35 ⟨Nat.le_refl _, Nat.le_refl _⟩ (fun r3 _ => ?_)
  refine k_iconst (v := 1) C dX10_keep_38 rfl ?_
  exact k_iret C rfl ⟨rfl, rfl⟩ dX10_keep_39
set_option maxRecDepth 20000 in
theorem kw_X10_keep {X : GX} {θ : TH} {ad Y : Nat → Nat} {Z : Zt} {S : St} {a1 : Int32} {a2 : Int32} (C : CX (mE X θ (wdC θ ad Y Z S) 3) RX10 cX10_keep (some .int) 2 0 0)  : Dk (mE X θ (wdC θ ad Y Z S) 3) (mT X θ (wdC θ ad Y Z S) 3 (PIS (wdC θ ad Y Z))) 0 0 (wdC θ ad Y Z S) [(0, .ref (ad 219)), (1, .int a1), (2, .int a2)] [] 0 (f_X10_keep Z S a1 a2) := by
  show Dk _ _ _ _ _ _ _ _ ((f_X6_has a1).bind fun r1 => (if r1 = 0 then some ((-1 : Int32), S) else if a2 = (-1) then f_X10_keep_B29 Z a1 a2 S else (f_X0_has Z S a2).bind fun r2 => (if r2 = 0 then some ((-1 : Int32), S) else f_X10_keep_B29 Z a1 a2 S)))
  refine k_aload_n (q := 0) C dX10_keep_0 rfl rfl ?_
  refine c_get (b := 200) (ci := 10) (kf := 8) (N := 9) C rfl ⟨rfl, rfl⟩ am_219 rfl lay_10 kk_10_8 fl_10_72 rfl dX10_keep_1 ?_
  refine k_iload_n (q := 1) C dX10_keep_4 rfl rfl ?_
  refine k_cVI C ct_X6_has my_6_has ml_10_130 rfl ⟨Nat.le_of_ble_eq_true rfl, Nat.le_of_ble_eq_true rfl⟩ (recvC (b := 120) (ci := 6) rfl ⟨rfl, rfl⟩ am_139 rfl rfl) rfl (Nat.le_of_ble_eq_true rfl) dX10_keep_5 ⟨Nat.le_refl _, Nat.le_refl _⟩ (fun r1 _ => ?_)
  refine k_if_eq (tgt := 27) C dX10_keep_8 (by decide) (fun _ => ?_) (fun _ => ?_)
  · refine k_iconst (v := (-1)) C dX10_keep_27 rfl ?_
    exact k_iret C rfl ⟨rfl, rfl⟩ dX10_keep_28
  · refine k_iload_n (q := 2) C dX10_keep_11 rfl rfl ?_
    refine k_iconst (v := (-1)) C dX10_keep_12 rfl ?_
    refine k_icmp_eq (tgt := 29) C dX10_keep_13 (by decide) (fun _ => ?_) (fun _ => ?_)
    · exact kb_X10_keep_B29 C _
    · refine k_aload_n (q := 0) C dX10_keep_16 rfl rfl ?_
      refine c_get (b := 200) (ci := 10) (kf := 7) (N := 9) C rfl ⟨rfl, rfl⟩ am_219 rfl lay_10 kk_10_7 fl_10_65 rfl dX10_keep_17 ?_
      refine k_iload_n (q := 2) C dX10_keep_20 rfl rfl ?_
      refine k_cVI C ct_X0_has my_0_has ml_10_240 rfl ⟨Nat.le_of_ble_eq_true rfl, Nat.le_of_ble_eq_true rfl⟩ (recvC (b := 0) (ci := 0) rfl ⟨rfl, rfl⟩ am_19 rfl rfl) rfl (Nat.le_of_ble_eq_true rfl) dX10_keep_21 ⟨Nat.le_refl _, Nat.le_refl _⟩ (fun r2 _ => ?_)
      refine k_if_ne (tgt := 29) C dX10_keep_24 (by decide) (fun _ => ?_) (fun _ => ?_)
      · exact kb_X10_keep_B29 C _
      · refine k_iconst (v := (-1)) C dX10_keep_27 rfl ?_
        exact k_iret C rfl ⟨rfl, rfl⟩ dX10_keep_28
theorem ct_X10_keep {l : Launch} {θ : TH} {ad Y : Nat → Nat} {S : St} {Z : Zt} {a1 : Int32} {a2 : Int32}  : ∀ r, f_X10_keep Z S a1 a2 = some r → Ct l θ yX10_keep cX10_keep 3 (some .int) 2 0 0 [.ref (ad 219), .int a1, .int a2] (wdC θ ad Y Z S) (PIS (wdC θ ad Y Z) r) :=
  fun r hr => Ct.of (by decide +kernel) (Nat.le_of_ble_eq_true rfl) (fun X _ C _ => kw_X10_keep C  r hr)
set_option maxRecDepth 20000 in
theorem kw_X10_row {X : GX} {θ : TH} {ad Y : Nat → Nat} {F : Nat} {Z : Zt} {S : St} {a1 : Int32} {a2 : Int32} {a3 : Int32} (C : CX (mE X θ (wdC θ ad Y Z S) 4) RX10 cX10_row (some .int) 2 0 0)  : Dk (mE X θ (wdC θ ad Y Z S) 4) (mT X θ (wdC θ ad Y Z S) 4 (PIS (wdC θ ad Y Z))) 0 0 (wdC θ ad Y Z S) [(0, .ref (ad 219)), (1, .int a1), (2, .int a2), (3, .int a3)] [] 0 (f_X10_row F Z S a1 a2 a3) := by
  show Dk _ _ _ _ _ _ _ _ ((f_X6_has a1).bind fun r1 => (if r1 = 0 then some ((-1 : Int32), S) else if a2 < 0 then some ((-1 : Int32), S) else if (4 : Int32) < a2 then some ((-1 : Int32), S) else if a3 ≤ 60 then if (0 : Int32) ≤ a3 then (f_X6_holdRow F Z S a1 a2 a3).bind fun r2 => some ((1 : Int32), r2) else some ((-14 : Int32), S) else some ((-1 : Int32), S)))
  refine k_aload_n (q := 0) C dX10_row_0 rfl rfl ?_
  refine c_get (b := 200) (ci := 10) (kf := 8) (N := 9) C rfl ⟨rfl, rfl⟩ am_219 rfl lay_10 kk_10_8 fl_10_72 rfl dX10_row_1 ?_
  refine k_iload_n (q := 1) C dX10_row_4 rfl rfl ?_
  refine k_cVI C ct_X6_has my_6_has ml_10_130 rfl ⟨Nat.le_of_ble_eq_true rfl, Nat.le_of_ble_eq_true rfl⟩ (recvC (b := 120) (ci := 6) rfl ⟨rfl, rfl⟩ am_139 rfl rfl) rfl (Nat.le_of_ble_eq_true rfl) dX10_row_5 ⟨Nat.le_refl _, Nat.le_refl _⟩ (fun r1 _ => ?_)
  refine k_if_eq (tgt := 26) C dX10_row_8 (by decide) (fun _ => ?_) (fun _ => ?_)
  · refine k_iconst (v := (-1)) C dX10_row_26 rfl ?_
    exact k_iret C rfl ⟨rfl, rfl⟩ dX10_row_27
  · refine k_iload_n (q := 2) C dX10_row_11 rfl rfl ?_
    refine k_if_lt (tgt := 26) C dX10_row_12 (by decide) (fun _ => ?_) (fun _ => ?_)
    · refine k_iconst (v := (-1)) C dX10_row_26 rfl ?_
      exact k_iret C rfl ⟨rfl, rfl⟩ dX10_row_27
    · refine k_iload_n (q := 2) C dX10_row_15 rfl rfl ?_
      refine k_iconst (v := 4) C dX10_row_16 rfl ?_
      refine k_icmp_gt (tgt := 26) C dX10_row_17 (by decide) (fun _ => ?_) (fun _ => ?_)
      · refine k_iconst (v := (-1)) C dX10_row_26 rfl ?_
        exact k_iret C rfl ⟨rfl, rfl⟩ dX10_row_27
      · refine k_iload_n (q := 3) C dX10_row_20 rfl rfl ?_
        refine k_bipush (v := 60) C dX10_row_21 rfl ?_
        refine k_icmp_le (tgt := 28) C dX10_row_23 (by decide) (fun _ => ?_) (fun _ => ?_)
        · refine k_iload_n (q := 3) C dX10_row_28 rfl rfl ?_
          refine k_if_ge (tgt := 35) C dX10_row_29 (by decide) (fun _ => ?_) (fun _ => ?_)
          · refine k_aload_n (q := 0) C dX10_row_35 rfl rfl ?_
            refine c_get (b := 200) (ci := 10) (kf := 8) (N := 9) C rfl ⟨rfl, rfl⟩ am_219 rfl lay_10 kk_10_8 fl_10_72 rfl dX10_row_36 ?_
            refine k_iload_n (q := 1) C dX10_row_39 rfl rfl ?_
            refine k_iload_n (q := 2) C dX10_row_40 rfl rfl ?_
            refine k_iload_n (q := 3) C dX10_row_41 rfl rfl ?_
            refine k_cVV C ct_X6_holdRow my_6_holdRow ml_10_244 rfl ⟨Nat.le_of_ble_eq_true rfl, Nat.le_of_ble_eq_true rfl⟩ (recvC (b := 120) (ci := 6) rfl ⟨rfl, rfl⟩ am_139 rfl rfl) rfl (Nat.le_of_ble_eq_true rfl) dX10_row_42 ⟨Nat.le_refl _, Nat.le_refl _⟩ (fun r2 _ => ?_)
            refine k_iconst (v := 1) C dX10_row_45 rfl ?_
            exact k_iret C rfl ⟨rfl, rfl⟩ dX10_row_46
          · refine k_bipush (v := (-14)) C dX10_row_32 rfl ?_
            exact k_iret C rfl ⟨rfl, rfl⟩ dX10_row_34
        · refine k_iconst (v := (-1)) C dX10_row_26 rfl ?_
          exact k_iret C rfl ⟨rfl, rfl⟩ dX10_row_27
theorem ct_X10_row {l : Launch} {θ : TH} {ad Y : Nat → Nat} {S : St} {F : Nat} {Z : Zt} {a1 : Int32} {a2 : Int32} {a3 : Int32}  : ∀ r, f_X10_row F Z S a1 a2 a3 = some r → Ct l θ yX10_row cX10_row 4 (some .int) 2 0 0 [.ref (ad 219), .int a1, .int a2, .int a3] (wdC θ ad Y Z S) (PIS (wdC θ ad Y Z) r) :=
  fun r hr => Ct.of (by decide +kernel) (Nat.le_of_ble_eq_true rfl) (fun X _ C _ => kw_X10_row C  r hr)
set_option maxRecDepth 20000 in
theorem kw_X10_put {X : GX} {θ : TH} {ad Y : Nat → Nat} {Z : Zt} {S : St} {a1 : Int32} {a2 : Int32} {a3 : Int64} (C : CX (mE X θ (wdC θ ad Y Z S) 6) RX10 cX10_put (some .int) 4 0 0)  : Dk (mE X θ (wdC θ ad Y Z S) 6) (mT X θ (wdC θ ad Y Z S) 6 (PIS (wdC θ ad Y Z))) 0 0 (wdC θ ad Y Z S) [(0, .ref (ad 219)), (1, .int a1), (2, .int a2), (3, .long a3)] [] 0 (f_X10_put Z S a1 a2 a3) := by
  show Dk _ _ _ _ _ _ _ _ ((f_X6_refusal Z S a1 a2).bind fun r1 => (if r1 = 0 then (f_X6_setAt Z S a1 a2 a3).bind fun r2 => some ((1 : Int32), r2) else some (r1, S)))
  refine k_aload_n (q := 0) C dX10_put_0 rfl rfl ?_
  refine c_get (b := 200) (ci := 10) (kf := 8) (N := 9) C rfl ⟨rfl, rfl⟩ am_219 rfl lay_10 kk_10_8 fl_10_72 rfl dX10_put_1 ?_
  refine k_iload_n (q := 1) C dX10_put_4 rfl rfl ?_
  refine k_iload_n (q := 2) C dX10_put_5 rfl rfl ?_
  refine k_cVI C ct_X6_refusal my_6_refusal ml_10_248 rfl ⟨Nat.le_of_ble_eq_true rfl, Nat.le_of_ble_eq_true rfl⟩ (recvC (b := 120) (ci := 6) rfl ⟨rfl, rfl⟩ am_139 rfl rfl) rfl (Nat.le_of_ble_eq_true rfl) dX10_put_6 ⟨Nat.le_refl _, Nat.le_refl _⟩ (fun r1 _ => ?_)
  refine k_istore (lv' := [(5, .int r1), (0, .ref (ad 219)), (1, .int a1), (2, .int a2), (3, .long a3)]) C dX10_put_9 (Nat.le_of_ble_eq_true rfl) rfl ?_
  refine k_iload (q := 0) C dX10_put_11 rfl ?_
  refine k_if_eq (tgt := 19) C dX10_put_13 (by decide) (fun _ => ?_) (fun _ => ?_)
  · refine k_aload_n (q := 1) C dX10_put_19 rfl rfl ?_
    refine c_get (b := 200) (ci := 10) (kf := 8) (N := 9) C rfl ⟨rfl, rfl⟩ am_219 rfl lay_10 kk_10_8 fl_10_72 rfl dX10_put_20 ?_
    refine k_iload_n (q := 2) C dX10_put_23 rfl rfl ?_
    refine k_iload_n (q := 3) C dX10_put_24 rfl rfl ?_
    refine k_lload_n (q := 4) C dX10_put_25 rfl rfl ?_
    refine k_cVV C ct_X6_setAt my_6_setAt ml_10_251 rfl ⟨Nat.le_of_ble_eq_true rfl, Nat.le_of_ble_eq_true rfl⟩ (recvC (b := 120) (ci := 6) rfl ⟨rfl, rfl⟩ am_139 rfl rfl) rfl (Nat.le_of_ble_eq_true rfl) dX10_put_26 ⟨Nat.le_refl _, Nat.le_refl _⟩ (fun r2 _ => ?_)
    refine k_iconst (v := 1) C dX10_put_29 rfl ?_
    exact k_iret C rfl ⟨rfl, rfl⟩ dX10_put_30
  · refine k_iload (q := 0) C dX10_put_16 rfl ?_
    exact k_iret C rfl ⟨rfl, rfl⟩ dX10_put_18
theorem ct_X10_put {l : Launch} {θ : TH} {ad Y : Nat → Nat} {S : St} {Z : Zt} {a1 : Int32} {a2 : Int32} {a3 : Int64}  : ∀ r, f_X10_put Z S a1 a2 a3 = some r → Ct l θ yX10_put cX10_put 6 (some .int) 4 0 0 [.ref (ad 219), .int a1, .int a2, .long a3] (wdC θ ad Y Z S) (PIS (wdC θ ad Y Z) r) :=
  fun r hr => Ct.of (by decide +kernel) (Nat.le_of_ble_eq_true rfl) (fun X _ C _ => kw_X10_put C  r hr)
set_option maxRecDepth 20000 in
theorem kw_X10_element {X : GX} {θ : TH} {ad Y : Nat → Nat} {Z : Zt} {S : St} {a1 : Int32} {a2 : Int32} (C : CX (mE X θ (wdC θ ad Y Z S) 3) RX10 cX10_element (some .long) 4 0 0)  : Dk (mE X θ (wdC θ ad Y Z S) 3) (mT X θ (wdC θ ad Y Z S) 3 (PL (wdC θ ad Y Z S))) 0 0 (wdC θ ad Y Z S) [(0, .ref (ad 219)), (1, .int a1), (2, .int a2)] [] 0 (f_X10_element Z S a1 a2) := by
  show Dk _ _ _ _ _ _ _ _ ((f_X6_refusal Z S a1 a2).bind fun r1 => (if r1 = 0 then (f_X6_at Z S a1 a2).bind fun r2 => some r2 else some ((-9223372036854775808 : Int64))))
  refine k_aload_n (q := 0) C dX10_element_0 rfl rfl ?_
  refine c_get (b := 200) (ci := 10) (kf := 8) (N := 9) C rfl ⟨rfl, rfl⟩ am_219 rfl lay_10 kk_10_8 fl_10_72 rfl dX10_element_1 ?_
  refine k_iload_n (q := 1) C dX10_element_4 rfl rfl ?_
  refine k_iload_n (q := 2) C dX10_element_5 rfl rfl ?_
  refine k_cVI C ct_X6_refusal my_6_refusal ml_10_248 rfl ⟨Nat.le_of_ble_eq_true rfl, Nat.le_of_ble_eq_true rfl⟩ (recvC (b := 120) (ci := 6) rfl ⟨rfl, rfl⟩ am_139 rfl rfl) rfl (Nat.le_of_ble_eq_true rfl) dX10_element_6 ⟨Nat.le_refl _, Nat.le_refl _⟩ (fun r1 _ => ?_)
  refine k_if_ne (tgt := 24) C dX10_element_9 (by decide) (fun _ => ?_) (fun _ => ?_)
  · refine k_ldc2 C co_10_261 dX10_element_24 ?_
    exact k_lret C ⟨rfl, rfl⟩ dX10_element_27
  · refine k_aload_n (q := 0) C dX10_element_12 rfl rfl ?_
    refine c_get (b := 200) (ci := 10) (kf := 8) (N := 9) C rfl ⟨rfl, rfl⟩ am_219 rfl lay_10 kk_10_8 fl_10_72 rfl dX10_element_13 ?_
    refine k_iload_n (q := 1) C dX10_element_16 rfl rfl ?_
    refine k_iload_n (q := 2) C dX10_element_17 rfl rfl ?_
    refine k_cVL C ct_X6_at my_6_at ml_10_255 rfl ⟨Nat.le_of_ble_eq_true rfl, Nat.le_of_ble_eq_true rfl⟩ (recvC (b := 120) (ci := 6) rfl ⟨rfl, rfl⟩ am_139 rfl rfl) rfl (Nat.le_of_ble_eq_true rfl) dX10_element_18 ⟨Nat.le_refl _, Nat.le_refl _⟩ (fun r2 _ => ?_)
    refine k_goto (tgt := 27) C dX10_element_21 (by decide) ?_
    exact k_lret C ⟨rfl, rfl⟩ dX10_element_27
theorem ct_X10_element {l : Launch} {θ : TH} {ad Y : Nat → Nat} {S : St} {Z : Zt} {a1 : Int32} {a2 : Int32}  : ∀ r, f_X10_element Z S a1 a2 = some r → Ct l θ yX10_element cX10_element 3 (some .long) 4 0 0 [.ref (ad 219), .int a1, .int a2] (wdC θ ad Y Z S) (PL (wdC θ ad Y Z S) r) :=
  fun r hr => Ct.of (by decide +kernel) (Nat.le_of_ble_eq_true rfl) (fun X _ C _ => kw_X10_element C  r hr)
set_option maxRecDepth 20000 in
theorem kw_X10_shift {X : GX} {θ : TH} {ad Y : Nat → Nat} {Z : Zt} {S : St} {a1 : Int32} {a2 : Int32} {a3 : Int32} {a4 : Int32} {a5 : Int32} (C : CX (mE X θ (wdC θ ad Y Z S) 6) RX10 cX10_shift (some .int) 4 0 0)  : Dk (mE X θ (wdC θ ad Y Z S) 6) (mT X θ (wdC θ ad Y Z S) 6 (PIS (wdC θ ad Y Z))) 0 0 (wdC θ ad Y Z S) [(0, .ref (ad 219)), (1, .int a1), (2, .int a2), (3, .int a3), (4, .int a4), (5, .int a5)] [] 0 (f_X10_shift Z S a1 a2 a3 a4 a5) := by
  show Dk _ _ _ _ _ _ _ _ ((f_X6_has a1).bind fun r1 => (if r1 = 0 then some ((-1 : Int32), S) else (f_X6_has a3).bind fun r2 => (if r2 = 0 then some ((-1 : Int32), S) else (f_X6_isEmpty Z S a1).bind fun r3 => (if r3 = 0 then (f_X6_isEmpty Z S a3).bind fun r4 => (if r4 = 0 then (f_X6_holdsLikeRows Z S a1 a3).bind fun r5 => (if r5 = 0 then some ((-12 : Int32), S) else (f_X6_hasPlaces Z S a1 a2 a5).bind fun r6 => (if r6 = 0 then some ((-13 : Int32), S) else (f_X6_hasPlaces Z S a3 a4 a5).bind fun r7 => (if r7 = 0 then some ((-13 : Int32), S) else (f_X6_copy Z S a1 a2 a3 a4 a5).bind fun r8 => some (a5, r8)))) else some ((-11 : Int32), S)) else some ((-11 : Int32), S)))))
  refine k_aload_n (q := 0) C dX10_shift_0 rfl rfl ?_
  refine c_get (b := 200) (ci := 10) (kf := 8) (N := 9) C rfl ⟨rfl, rfl⟩ am_219 rfl lay_10 kk_10_8 fl_10_72 rfl dX10_shift_1 ?_
  refine k_iload_n (q := 1) C dX10_shift_4 rfl rfl ?_
  refine k_cVI C ct_X6_has my_6_has ml_10_130 rfl ⟨Nat.le_of_ble_eq_true rfl, Nat.le_of_ble_eq_true rfl⟩ (recvC (b := 120) (ci := 6) rfl ⟨rfl, rfl⟩ am_139 rfl rfl) rfl (Nat.le_of_ble_eq_true rfl) dX10_shift_5 ⟨Nat.le_refl _, Nat.le_refl _⟩ (fun r1 _ => ?_)
  refine k_if_eq (tgt := 22) C dX10_shift_8 (by decide) (fun _ => ?_) (fun _ => ?_)
  · refine k_iconst (v := (-1)) C dX10_shift_22 rfl ?_
    exact k_iret C rfl ⟨rfl, rfl⟩ dX10_shift_23
  · refine k_aload_n (q := 0) C dX10_shift_11 rfl rfl ?_
    refine c_get (b := 200) (ci := 10) (kf := 8) (N := 9) C rfl ⟨rfl, rfl⟩ am_219 rfl lay_10 kk_10_8 fl_10_72 rfl dX10_shift_12 ?_
    refine k_iload_n (q := 3) C dX10_shift_15 rfl rfl ?_
    refine k_cVI C ct_X6_has my_6_has ml_10_130 rfl ⟨Nat.le_of_ble_eq_true rfl, Nat.le_of_ble_eq_true rfl⟩ (recvC (b := 120) (ci := 6) rfl ⟨rfl, rfl⟩ am_139 rfl rfl) rfl (Nat.le_of_ble_eq_true rfl) dX10_shift_16 ⟨Nat.le_refl _, Nat.le_refl _⟩ (fun r2 _ => ?_)
    refine k_if_ne (tgt := 24) C dX10_shift_19 (by decide) (fun _ => ?_) (fun _ => ?_)
    · refine k_aload_n (q := 0) C dX10_shift_24 rfl rfl ?_
      refine c_get (b := 200) (ci := 10) (kf := 8) (N := 9) C rfl ⟨rfl, rfl⟩ am_219 rfl lay_10 kk_10_8 fl_10_72 rfl dX10_shift_25 ?_
      refine k_iload_n (q := 1) C dX10_shift_28 rfl rfl ?_
      refine k_cVI C ct_X6_isEmpty my_6_isEmpty ml_10_133 rfl ⟨Nat.le_of_ble_eq_true rfl, Nat.le_of_ble_eq_true rfl⟩ (recvC (b := 120) (ci := 6) rfl ⟨rfl, rfl⟩ am_139 rfl rfl) rfl (Nat.le_of_ble_eq_true rfl) dX10_shift_29 ⟨Nat.le_refl _, Nat.le_refl _⟩ (fun r3 _ => ?_)
      refine k_if_ne (tgt := 46) C dX10_shift_32 (by decide) (fun _ => ?_) (fun _ => ?_)
      · refine k_bipush (v := (-11)) C dX10_shift_46 rfl ?_
        exact k_iret C rfl ⟨rfl, rfl⟩ dX10_shift_48
      · refine k_aload_n (q := 0) C dX10_shift_35 rfl rfl ?_
        refine c_get (b := 200) (ci := 10) (kf := 8) (N := 9) C rfl ⟨rfl, rfl⟩ am_219 rfl lay_10 kk_10_8 fl_10_72 rfl dX10_shift_36 ?_
        refine k_iload_n (q := 3) C dX10_shift_39 rfl rfl ?_
        refine k_cVI C ct_X6_isEmpty my_6_isEmpty ml_10_133 rfl ⟨Nat.le_of_ble_eq_true rfl, Nat.le_of_ble_eq_true rfl⟩ (recvC (b := 120) (ci := 6) rfl ⟨rfl, rfl⟩ am_139 rfl rfl) rfl (Nat.le_of_ble_eq_true rfl) dX10_shift_40 ⟨Nat.le_refl _, Nat.le_refl _⟩ (fun r4 _ => ?_)
        refine k_if_eq (tgt := 49) C dX10_shift_43 (by decide) (fun _ => ?_) (fun _ => ?_)
        · refine k_aload_n (q := 0) C dX10_shift_49 rfl rfl ?_
          refine c_get (b := 200) (ci := 10) (kf := 8) (N := 9) C rfl ⟨rfl, rfl⟩ am_219 rfl lay_10 kk_10_8 fl_10_72 rfl dX10_shift_50 ?_
          refine k_iload_n (q := 1) C dX10_shift_53 rfl rfl ?_
          refine k_iload_n (q := 3) C dX10_shift_54 rfl rfl ?_
          refine k_cVI C ct_X6_holdsLikeRows my_6_holdsLikeRows ml_10_263 rfl ⟨Nat.le_of_ble_eq_true rfl, Nat.le_of_ble_eq_true rfl⟩ (recvC (b := 120) (ci := 6) rfl ⟨rfl, rfl⟩ am_139 rfl rfl) rfl (Nat.le_of_ble_eq_true rfl) dX10_shift_55 ⟨Nat.le_refl _, Nat.le_refl _⟩ (fun r5 _ => ?_)
          refine k_if_ne (tgt := 64) C dX10_shift_58 (by decide) (fun _ => ?_) (fun _ => ?_)
          · refine k_aload_n (q := 0) C dX10_shift_64 rfl rfl ?_
            refine c_get (b := 200) (ci := 10) (kf := 8) (N := 9) C rfl ⟨rfl, rfl⟩ am_219 rfl lay_10 kk_10_8 fl_10_72 rfl dX10_shift_65 ?_
            refine k_iload_n (q := 1) C dX10_shift_68 rfl rfl ?_
            refine k_iload_n (q := 2) C dX10_shift_69 rfl rfl ?_
            refine k_iload (q := 5) C dX10_shift_70 rfl ?_
            refine k_cVI C ct_X6_hasPlaces my_6_hasPlaces ml_10_266 rfl ⟨Nat.le_of_ble_eq_true rfl, Nat.le_of_ble_eq_true rfl⟩ (recvC (b := 120) (ci := 6) rfl ⟨rfl, rfl⟩ am_139 rfl rfl) rfl (Nat.le_of_ble_eq_true rfl) dX10_shift_72 ⟨Nat.le_refl _, Nat.le_refl _⟩ (fun r6 _ => ?_)
            refine k_if_eq (tgt := 93) C dX10_shift_75 (by decide) (fun _ => ?_) (fun _ => ?_)
            · refine k_bipush (v := (-13)) C dX10_shift_93 rfl ?_
              exact k_iret C rfl ⟨rfl, rfl⟩ dX10_shift_95
            · refine k_aload_n (q := 0) C dX10_shift_78 rfl rfl ?_
              refine c_get (b := 200) (ci := 10) (kf := 8) (N := 9) C rfl ⟨rfl, rfl⟩ am_219 rfl lay_10 kk_10_8 fl_10_72 rfl dX10_shift_79 ?_
              refine k_iload_n (q := 3) C dX10_shift_82 rfl rfl ?_
              refine k_iload (q := 4) C dX10_shift_83 rfl ?_
              refine k_iload (q := 5) C dX10_shift_85 rfl ?_
              refine k_cVI C ct_X6_hasPlaces my_6_hasPlaces ml_10_266 rfl ⟨Nat.le_of_ble_eq_true rfl, Nat.le_of_ble_eq_true rfl⟩ (recvC (b := 120) (ci := 6) rfl ⟨rfl, rfl⟩ am_139 rfl rfl) rfl (Nat.le_of_ble_eq_true rfl) dX10_shift_87 ⟨Nat.le_refl _, Nat.le_refl _⟩ (fun r7 _ => ?_)
              refine k_if_ne (tgt := 96) C dX10_shift_90 (by decide) (fun _ => ?_) (fun _ => ?_)
              · refine k_aload_n (q := 0) C dX10_shift_96 rfl rfl ?_
                refine c_get (b := 200) (ci := 10) (kf := 8) (N := 9) C rfl ⟨rfl, rfl⟩ am_219 rfl lay_10 kk_10_8 fl_10_72 rfl dX10_shift_97 ?_
                refine k_iload_n (q := 1) C dX10_shift_100 rfl rfl ?_
                refine k_iload_n (q := 2) C dX10_shift_101 rfl rfl ?_
                refine k_iload_n (q := 3) C dX10_shift_102 rfl rfl ?_
                refine k_iload (q := 4) C dX10_shift_103 rfl ?_
                refine k_iload (q := 5) C dX10_shift_105 rfl ?_
                refine k_cVV C ct_X6_copy my_6_copy ml_10_269 rfl ⟨Nat.le_of_ble_eq_true rfl, Nat.le_of_ble_eq_true rfl⟩ (recvC (b := 120) (ci := 6) rfl ⟨rfl, rfl⟩ am_139 rfl rfl) rfl (Nat.le_of_ble_eq_true rfl) dX10_shift_107 ⟨Nat.le_refl _, Nat.le_refl _⟩ (fun r8 _ => ?_)
                refine k_iload (q := 5) C dX10_shift_110 rfl ?_
                exact k_iret C rfl ⟨rfl, rfl⟩ dX10_shift_112
              · refine k_bipush (v := (-13)) C dX10_shift_93 rfl ?_
                exact k_iret C rfl ⟨rfl, rfl⟩ dX10_shift_95
          · refine k_bipush (v := (-12)) C dX10_shift_61 rfl ?_
            exact k_iret C rfl ⟨rfl, rfl⟩ dX10_shift_63
        · refine k_bipush (v := (-11)) C dX10_shift_46 rfl ?_
          exact k_iret C rfl ⟨rfl, rfl⟩ dX10_shift_48
    · refine k_iconst (v := (-1)) C dX10_shift_22 rfl ?_
      exact k_iret C rfl ⟨rfl, rfl⟩ dX10_shift_23
theorem ct_X10_shift {l : Launch} {θ : TH} {ad Y : Nat → Nat} {S : St} {Z : Zt} {a1 : Int32} {a2 : Int32} {a3 : Int32} {a4 : Int32} {a5 : Int32}  : ∀ r, f_X10_shift Z S a1 a2 a3 a4 a5 = some r → Ct l θ yX10_shift cX10_shift 6 (some .int) 4 0 0 [.ref (ad 219), .int a1, .int a2, .int a3, .int a4, .int a5] (wdC θ ad Y Z S) (PIS (wdC θ ad Y Z) r) :=
  fun r hr => Ct.of (by decide +kernel) (Nat.le_of_ble_eq_true rfl) (fun X _ C _ => kw_X10_shift C  r hr)
set_option maxRecDepth 20000 in
theorem kw_X10_taken {X : GX} {θ : TH} {ad Y : Nat → Nat} {F : Nat} {Z : Zt} {S : St} {a1 : Int32} {a2 : Int32} (C : CX (mE X θ (wdC θ ad Y Z S) 4) RX10 cX10_taken (some .int) 2 0 0)  : Dk (mE X θ (wdC θ ad Y Z S) 4) (mT X θ (wdC θ ad Y Z S) 4 (PI (wdC θ ad Y Z S))) 0 0 (wdC θ ad Y Z S) [(0, .ref (ad 219)), (1, .int a1), (2, .int a2)] [] 0 (f_X10_taken F Z S a1 a2) := by
  show Dk _ _ _ _ _ _ _ _ ((f_X6_has a1).bind fun r1 => (if r1 = 0 then some ((-1 : Int32)) else if a2 < 0 then some ((-1 : Int32)) else if a2 < 8 then (f_X6_isEmpty Z S a1).bind fun r2 => (if r2 = 0 then (f_X6_bodyOn Z S a1).bind fun r3 => (f_X0_kindOf Z S r3).bind fun r4 => (f_X0_isUnder F Z S r4 a2).bind fun r5 => (if r5 = 0 then some ((-12 : Int32)) else some r4) else some ((-11 : Int32))) else some ((-1 : Int32))))
  refine k_aload_n (q := 0) C dX10_taken_0 rfl rfl ?_
  refine c_get (b := 200) (ci := 10) (kf := 8) (N := 9) C rfl ⟨rfl, rfl⟩ am_219 rfl lay_10 kk_10_8 fl_10_72 rfl dX10_taken_1 ?_
  refine k_iload_n (q := 1) C dX10_taken_4 rfl rfl ?_
  refine k_cVI C ct_X6_has my_6_has ml_10_130 rfl ⟨Nat.le_of_ble_eq_true rfl, Nat.le_of_ble_eq_true rfl⟩ (recvC (b := 120) (ci := 6) rfl ⟨rfl, rfl⟩ am_139 rfl rfl) rfl (Nat.le_of_ble_eq_true rfl) dX10_taken_5 ⟨Nat.le_refl _, Nat.le_refl _⟩ (fun r1 _ => ?_)
  refine k_if_eq (tgt := 21) C dX10_taken_8 (by decide) (fun _ => ?_) (fun _ => ?_)
  · refine k_iconst (v := (-1)) C dX10_taken_21 rfl ?_
    exact k_iret C rfl ⟨rfl, rfl⟩ dX10_taken_22
  · refine k_iload_n (q := 2) C dX10_taken_11 rfl rfl ?_
    refine k_if_lt (tgt := 21) C dX10_taken_12 (by decide) (fun _ => ?_) (fun _ => ?_)
    · refine k_iconst (v := (-1)) C dX10_taken_21 rfl ?_
      exact k_iret C rfl ⟨rfl, rfl⟩ dX10_taken_22
    · refine k_iload_n (q := 2) C dX10_taken_15 rfl rfl ?_
      refine k_bipush (v := 8) C dX10_taken_16 rfl ?_
      refine k_icmp_lt (tgt := 23) C dX10_taken_18 (by decide) (fun _ => ?_) (fun _ => ?_)
      · refine k_aload_n (q := 0) C dX10_taken_23 rfl rfl ?_
        refine c_get (b := 200) (ci := 10) (kf := 8) (N := 9) C rfl ⟨rfl, rfl⟩ am_219 rfl lay_10 kk_10_8 fl_10_72 rfl dX10_taken_24 ?_
        refine k_iload_n (q := 1) C dX10_taken_27 rfl rfl ?_
        refine k_cVI C ct_X6_isEmpty my_6_isEmpty ml_10_133 rfl ⟨Nat.le_of_ble_eq_true rfl, Nat.le_of_ble_eq_true rfl⟩ (recvC (b := 120) (ci := 6) rfl ⟨rfl, rfl⟩ am_139 rfl rfl) rfl (Nat.le_of_ble_eq_true rfl) dX10_taken_28 ⟨Nat.le_refl _, Nat.le_refl _⟩ (fun r2 _ => ?_)
        refine k_if_eq (tgt := 37) C dX10_taken_31 (by decide) (fun _ => ?_) (fun _ => ?_)
        · refine k_aload_n (q := 0) C dX10_taken_37 rfl rfl ?_
          refine c_get (b := 200) (ci := 10) (kf := 7) (N := 9) C rfl ⟨rfl, rfl⟩ am_219 rfl lay_10 kk_10_7 fl_10_65 rfl dX10_taken_38 ?_
          refine k_aload_n (q := 0) C dX10_taken_41 rfl rfl ?_
          refine c_get (b := 200) (ci := 10) (kf := 8) (N := 9) C rfl ⟨rfl, rfl⟩ am_219 rfl lay_10 kk_10_8 fl_10_72 rfl dX10_taken_42 ?_
          refine k_iload_n (q := 1) C dX10_taken_45 rfl rfl ?_
          refine k_cVI C ct_X6_bodyOn my_6_bodyOn ml_10_273 rfl ⟨Nat.le_of_ble_eq_true rfl, Nat.le_of_ble_eq_true rfl⟩ (recvC (b := 120) (ci := 6) rfl ⟨rfl, rfl⟩ am_139 rfl rfl) rfl (Nat.le_of_ble_eq_true rfl) dX10_taken_46 ⟨Nat.le_refl _, Nat.le_refl _⟩ (fun r3 _ => ?_)
          refine k_cVI C ct_X0_kindOf my_0_kindOf ml_10_276 rfl ⟨Nat.le_of_ble_eq_true rfl, Nat.le_of_ble_eq_true rfl⟩ (recvC (b := 0) (ci := 0) rfl ⟨rfl, rfl⟩ am_19 rfl rfl) rfl (Nat.le_of_ble_eq_true rfl) dX10_taken_49 ⟨Nat.le_refl _, Nat.le_refl _⟩ (fun r4 _ => ?_)
          refine k_istore_n (lv' := [(3, .int r4), (0, .ref (ad 219)), (1, .int a1), (2, .int a2)]) C dX10_taken_52 rfl (Nat.le_of_ble_eq_true rfl) rfl ?_
          refine k_aload_n (q := 1) C dX10_taken_53 rfl rfl ?_
          refine c_get (b := 200) (ci := 10) (kf := 7) (N := 9) C rfl ⟨rfl, rfl⟩ am_219 rfl lay_10 kk_10_7 fl_10_65 rfl dX10_taken_54 ?_
          refine k_iload_n (q := 0) C dX10_taken_57 rfl rfl ?_
          refine k_iload_n (q := 3) C dX10_taken_58 rfl rfl ?_
          refine k_cVI C ct_X0_isUnder my_0_isUnder ml_10_279 rfl ⟨Nat.le_of_ble_eq_true rfl, Nat.le_of_ble_eq_true rfl⟩ (recvC (b := 0) (ci := 0) rfl ⟨rfl, rfl⟩ am_19 rfl rfl) rfl (Nat.le_of_ble_eq_true rfl) dX10_taken_59 ⟨Nat.le_refl _, Nat.le_refl _⟩ (fun r5 _ => ?_)
          refine k_if_eq (tgt := 69) C dX10_taken_62 (by decide) (fun _ => ?_) (fun _ => ?_)
          · refine k_bipush (v := (-12)) C dX10_taken_69 rfl ?_
            exact k_iret C rfl ⟨rfl, rfl⟩ dX10_taken_71
          · refine k_iload_n (q := 0) C dX10_taken_65 rfl rfl ?_
            refine k_goto (tgt := 71) C dX10_taken_66 (by decide) ?_
            exact k_iret C rfl ⟨rfl, rfl⟩ dX10_taken_71
        · refine k_bipush (v := (-11)) C dX10_taken_34 rfl ?_
          exact k_iret C rfl ⟨rfl, rfl⟩ dX10_taken_36
      · refine k_iconst (v := (-1)) C dX10_taken_21 rfl ?_
        exact k_iret C rfl ⟨rfl, rfl⟩ dX10_taken_22
theorem ct_X10_taken {l : Launch} {θ : TH} {ad Y : Nat → Nat} {S : St} {F : Nat} {Z : Zt} {a1 : Int32} {a2 : Int32}  : ∀ r, f_X10_taken F Z S a1 a2 = some r → Ct l θ yX10_taken cX10_taken 4 (some .int) 2 0 0 [.ref (ad 219), .int a1, .int a2] (wdC θ ad Y Z S) (PI (wdC θ ad Y Z S) r) :=
  fun r hr => Ct.of (by decide +kernel) (Nat.le_of_ble_eq_true rfl) (fun X _ C _ => kw_X10_taken C  r hr)
set_option maxRecDepth 20000 in
theorem kw_X10_count {X : GX} {θ : TH} {ad Y : Nat → Nat} {Z : Zt} {S : St} {a1 : Int32} (C : CX (mE X θ (wdC θ ad Y Z S) 2) RX10 cX10_count (some .int) 1 0 0)  : Dk (mE X θ (wdC θ ad Y Z S) 2) (mT X θ (wdC θ ad Y Z S) 2 (PI (wdC θ ad Y Z S))) 0 0 (wdC θ ad Y Z S) [(0, .ref (ad 219)), (1, .int a1)] [] 0 (f_X10_count Z S a1) := by
  show Dk _ _ _ _ _ _ _ _ (if a1 = 0 then (f_X7_moonCount Z S).bind fun r1 => some r1 else if a1 = 1 then (f_X7_valleyCount Z S).bind fun r2 => some r2 else if a1 = 2 then (f_X1_size Z S).bind fun r3 => some r3 else if a1 = 3 then (f_X9_size Z S).bind fun r4 => some r4 else if a1 = 4 then (f_X5_size Z S).bind fun r5 => some r5 else if a1 = 5 then (f_X3_size Z S).bind fun r6 => some r6 else if a1 = 6 then (f_X0_size Z S).bind fun r7 => some r7 else if a1 = 7 then (f_X0_ran Z S).bind fun r8 => some r8 else some ((-1 : Int32)))
  refine k_iload_n (q := 1) C dX10_count_0 rfl rfl ?_
  refine k_case (c := 0) (fun q1 => ?_) (fun q1 => ?_)
  · refine k_tableIn (off := 47) (tgt := 48) C dX10_count_1 (by rw [q1]; decide) (by rw [q1]; decide) (by rw [q1]; rfl) (by decide) ?_
    refine k_aload_n (q := 0) C dX10_count_48 rfl rfl ?_
    refine c_get (b := 200) (ci := 10) (kf := 0) (N := 9) C rfl ⟨rfl, rfl⟩ am_219 rfl lay_10 kk_10_0 fl_10_10 rfl dX10_count_49 ?_
    refine k_cVI C ct_X7_moonCount my_7_moonCount ml_10_196 rfl ⟨Nat.le_of_ble_eq_true rfl, Nat.le_of_ble_eq_true rfl⟩ (recvC (b := 140) (ci := 7) rfl ⟨rfl, rfl⟩ am_159 rfl rfl) rfl (Nat.le_of_ble_eq_true rfl) dX10_count_52 ⟨Nat.le_refl _, Nat.le_refl _⟩ (fun r1 _ => ?_)
    exact k_iret C rfl ⟨rfl, rfl⟩ dX10_count_55
  refine k_case (c := 1) (fun q2 => ?_) (fun q2 => ?_)
  · refine k_tableIn (off := 55) (tgt := 56) C dX10_count_1 (by rw [q2]; decide) (by rw [q2]; decide) (by rw [q2]; rfl) (by decide) ?_
    refine k_aload_n (q := 0) C dX10_count_56 rfl rfl ?_
    refine c_get (b := 200) (ci := 10) (kf := 0) (N := 9) C rfl ⟨rfl, rfl⟩ am_219 rfl lay_10 kk_10_0 fl_10_10 rfl dX10_count_57 ?_
    refine k_cVI C ct_X7_valleyCount my_7_valleyCount ml_10_282 rfl ⟨Nat.le_of_ble_eq_true rfl, Nat.le_of_ble_eq_true rfl⟩ (recvC (b := 140) (ci := 7) rfl ⟨rfl, rfl⟩ am_159 rfl rfl) rfl (Nat.le_of_ble_eq_true rfl) dX10_count_60 ⟨Nat.le_refl _, Nat.le_refl _⟩ (fun r2 _ => ?_)
    exact k_iret C rfl ⟨rfl, rfl⟩ dX10_count_63
  refine k_case (c := 2) (fun q3 => ?_) (fun q3 => ?_)
  · refine k_tableIn (off := 63) (tgt := 64) C dX10_count_1 (by rw [q3]; decide) (by rw [q3]; decide) (by rw [q3]; rfl) (by decide) ?_
    refine k_aload_n (q := 0) C dX10_count_64 rfl rfl ?_
    refine c_get (b := 200) (ci := 10) (kf := 2) (N := 9) C rfl ⟨rfl, rfl⟩ am_219 rfl lay_10 kk_10_2 fl_10_26 rfl dX10_count_65 ?_
    refine k_cVI C ct_X1_size my_1_size ml_10_217 rfl ⟨Nat.le_of_ble_eq_true rfl, Nat.le_of_ble_eq_true rfl⟩ (recvC (b := 20) (ci := 1) rfl ⟨rfl, rfl⟩ am_39 rfl rfl) rfl (Nat.le_of_ble_eq_true rfl) dX10_count_68 ⟨Nat.le_refl _, Nat.le_refl _⟩ (fun r3 _ => ?_)
    exact k_iret C rfl ⟨rfl, rfl⟩ dX10_count_71
  refine k_case (c := 3) (fun q4 => ?_) (fun q4 => ?_)
  · refine k_tableIn (off := 71) (tgt := 72) C dX10_count_1 (by rw [q4]; decide) (by rw [q4]; decide) (by rw [q4]; rfl) (by decide) ?_
    refine k_aload_n (q := 0) C dX10_count_72 rfl rfl ?_
    refine c_get (b := 200) (ci := 10) (kf := 5) (N := 9) C rfl ⟨rfl, rfl⟩ am_219 rfl lay_10 kk_10_5 fl_10_51 rfl dX10_count_73 ?_
    refine k_cVI C ct_X9_size my_9_size ml_10_285 rfl ⟨Nat.le_of_ble_eq_true rfl, Nat.le_of_ble_eq_true rfl⟩ (recvC (b := 180) (ci := 9) rfl ⟨rfl, rfl⟩ am_199 rfl rfl) rfl (Nat.le_of_ble_eq_true rfl) dX10_count_76 ⟨Nat.le_refl _, Nat.le_refl _⟩ (fun r4 _ => ?_)
    exact k_iret C rfl ⟨rfl, rfl⟩ dX10_count_79
  refine k_case (c := 4) (fun q5 => ?_) (fun q5 => ?_)
  · refine k_tableIn (off := 79) (tgt := 80) C dX10_count_1 (by rw [q5]; decide) (by rw [q5]; decide) (by rw [q5]; rfl) (by decide) ?_
    refine k_aload_n (q := 0) C dX10_count_80 rfl rfl ?_
    refine c_get (b := 200) (ci := 10) (kf := 1) (N := 9) C rfl ⟨rfl, rfl⟩ am_219 rfl lay_10 kk_10_1 fl_10_19 rfl dX10_count_81 ?_
    refine k_cVI C ct_X5_size my_5_size ml_10_286 rfl ⟨Nat.le_of_ble_eq_true rfl, Nat.le_of_ble_eq_true rfl⟩ (recvC (b := 100) (ci := 5) rfl ⟨rfl, rfl⟩ am_119 rfl rfl) rfl (Nat.le_of_ble_eq_true rfl) dX10_count_84 ⟨Nat.le_refl _, Nat.le_refl _⟩ (fun r5 _ => ?_)
    exact k_iret C rfl ⟨rfl, rfl⟩ dX10_count_87
  refine k_case (c := 5) (fun q6 => ?_) (fun q6 => ?_)
  · refine k_tableIn (off := 87) (tgt := 88) C dX10_count_1 (by rw [q6]; decide) (by rw [q6]; decide) (by rw [q6]; rfl) (by decide) ?_
    refine k_aload_n (q := 0) C dX10_count_88 rfl rfl ?_
    refine c_get (b := 200) (ci := 10) (kf := 6) (N := 9) C rfl ⟨rfl, rfl⟩ am_219 rfl lay_10 kk_10_6 fl_10_58 rfl dX10_count_89 ?_
    refine k_cVI C ct_X3_size my_3_size ml_10_287 rfl ⟨Nat.le_of_ble_eq_true rfl, Nat.le_of_ble_eq_true rfl⟩ (recvC (b := 60) (ci := 3) rfl ⟨rfl, rfl⟩ am_79 rfl rfl) rfl (Nat.le_of_ble_eq_true rfl) dX10_count_92 ⟨Nat.le_refl _, Nat.le_refl _⟩ (fun r6 _ => ?_)
    exact k_iret C rfl ⟨rfl, rfl⟩ dX10_count_95
  refine k_case (c := 6) (fun q7 => ?_) (fun q7 => ?_)
  · refine k_tableIn (off := 95) (tgt := 96) C dX10_count_1 (by rw [q7]; decide) (by rw [q7]; decide) (by rw [q7]; rfl) (by decide) ?_
    refine k_aload_n (q := 0) C dX10_count_96 rfl rfl ?_
    refine c_get (b := 200) (ci := 10) (kf := 7) (N := 9) C rfl ⟨rfl, rfl⟩ am_219 rfl lay_10 kk_10_7 fl_10_65 rfl dX10_count_97 ?_
    refine k_cVI C ct_X0_size my_0_size ml_10_288 rfl ⟨Nat.le_of_ble_eq_true rfl, Nat.le_of_ble_eq_true rfl⟩ (recvC (b := 0) (ci := 0) rfl ⟨rfl, rfl⟩ am_19 rfl rfl) rfl (Nat.le_of_ble_eq_true rfl) dX10_count_100 ⟨Nat.le_refl _, Nat.le_refl _⟩ (fun r7 _ => ?_)
    exact k_iret C rfl ⟨rfl, rfl⟩ dX10_count_103
  refine k_case (c := 7) (fun q8 => ?_) (fun q8 => ?_)
  · refine k_tableIn (off := 103) (tgt := 104) C dX10_count_1 (by rw [q8]; decide) (by rw [q8]; decide) (by rw [q8]; rfl) (by decide) ?_
    refine k_aload_n (q := 0) C dX10_count_104 rfl rfl ?_
    refine c_get (b := 200) (ci := 10) (kf := 7) (N := 9) C rfl ⟨rfl, rfl⟩ am_219 rfl lay_10 kk_10_7 fl_10_65 rfl dX10_count_105 ?_
    refine k_cVI C ct_X0_ran my_0_ran ml_10_289 rfl ⟨Nat.le_of_ble_eq_true rfl, Nat.le_of_ble_eq_true rfl⟩ (recvC (b := 0) (ci := 0) rfl ⟨rfl, rfl⟩ am_19 rfl rfl) rfl (Nat.le_of_ble_eq_true rfl) dX10_count_108 ⟨Nat.le_refl _, Nat.le_refl _⟩ (fun r8 _ => ?_)
    exact k_iret C rfl ⟨rfl, rfl⟩ dX10_count_111
  refine k_tableOut (tgt := 112) C dX10_count_1 (by have zq1 := i32ne q1 (z := 0) rfl; have zq2 := i32ne q2 (z := 1) rfl; have zq3 := i32ne q3 (z := 2) rfl; have zq4 := i32ne q4 (z := 3) rfl; have zq5 := i32ne q5 (z := 4) rfl; have zq6 := i32ne q6 (z := 5) rfl; have zq7 := i32ne q7 (z := 6) rfl; have zq8 := i32ne q8 (z := 7) rfl; omega) (by decide) ?_
  refine k_iconst (v := (-1)) C dX10_count_112 rfl ?_
  exact k_iret C rfl ⟨rfl, rfl⟩ dX10_count_113
theorem ct_X10_count {l : Launch} {θ : TH} {ad Y : Nat → Nat} {S : St} {Z : Zt} {a1 : Int32}  : ∀ r, f_X10_count Z S a1 = some r → Ct l θ yX10_count cX10_count 2 (some .int) 1 0 0 [.ref (ad 219), .int a1] (wdC θ ad Y Z S) (PI (wdC θ ad Y Z S) r) :=
  fun r hr => Ct.of (by decide +kernel) (Nat.le_of_ble_eq_true rfl) (fun X _ C _ => kw_X10_count C  r hr)
