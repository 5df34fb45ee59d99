theorem ct_X5_product {l : Launch} {θ : TH} {ad Y : Nat → Nat} {S : St} {d : Nat} {F : Nat} {Z : Zt} {g : Nat → St → Int32 → Int32 → Option (Int32 × St)} {a1 : Int32} (hg_operand : ∀ (S : St) (a1 : Int32) (r : Int32 × St), g 5 S a1 0 = some r → Ct l θ yX5_operand cX5_operand 4 (some .int) (2 + d) 0 0 [.ref (ad 119), .int a1] (wdC θ ad Y Z S) (PIS (wdC θ ad Y Z) r)) : ∀ r, f_X5_product F Z g S a1 = some r → Ct l θ yX5_product cX5_product 5 (some .int) (2 + (d + 1)) 0 0 [.ref (ad 119), .int a1] (wdC θ ad Y Z S) (PIS (wdC θ ad Y Z) r) :=
  fun r hr => Ct.of (by decide) (Nat.le_of_ble_eq_true rfl) (fun X hX C _ => by subst hX; exact kw_X5_product C hg_operand r hr)
set_option maxRecDepth 20000 in
theorem kb_X5_sum_B32 {X : GX} {θ : TH} {ad Y : Nat → Nat} {S0 : St} {d : Nat} {F : Nat} {Z : Zt} {g : Nat → St → Int32 → Int32 → Option (Int32 × St)} {a1 : Int32} {K8 : St → Int32 → Int32 → Option (Int32 × St)} (C : CX (mE X θ (wdC θ ad Y Z S0) 5) RX5 cX5_sum (some .int) (2 + (d + 1)) 0 0) (hg_product : ∀ (S : St) (a1 : Int32) (r : Int32 × St), g 4 S a1 0 = some r → Ct X.2.1 θ yX5_product cX5_product 5 (some .int) (2 + d) 0 0 [.ref (ad 119), .int a1] (wdC θ ad Y Z S) (PIS (wdC θ ad Y Z) r)) (hK8 : ∀ (S : St) (x2 : Int32) (x3 : Int32), Dk (mE X θ (wdC θ ad Y Z S0) 5) (mT X θ (wdC θ ad Y Z S0) 5 (PIS (wdC θ ad Y Z))) 0 0 (wdC θ ad Y Z S) [(0, .ref (ad 119)), (1, .int a1), (2, .int x2), (3, .int x3)] [] 8 (K8 S x2 x3)) (S : St) (x2 : Int32) (x3 : Int32) : Dk (mE X θ (wdC θ ad Y Z S0) 5) (mT X θ (wdC θ ad Y Z S0) 5 (PIS (wdC θ ad Y Z))) 0 0 (wdC θ ad Y Z S) [(0, .ref (ad 119)), (1, .int a1), (2, .int x2), (3, .int x3)] [] 32 (f_X5_sum_B32 F Z g a1 K8 S x2 x3) := by
  show Dk _ _ _ _ _ _ _ _ ((f_X5_ahead Z S).bind fun r4 => (g 4 (sf S 102 ((S.1 102) + 1)) a1 0).bind fun r5 => (f_X8_addStep 1060 Z r5.2 r4 x2 r5.1).bind fun r6 => K8 r6.2 r6.1 (x3 + 1))
  refine k_aload_n (q := 0) C dX5_sum_32 rfl rfl ?_
  refine k_cVI C ct_X5_ahead my_5_ahead ml_5_67 rfl ⟨by omega, Nat.le_of_ble_eq_true rfl⟩ (recvC (b := 100) (ci := 5) rfl ⟨rfl, rfl⟩ am_119 rfl rfl) rfl (Nat.le_of_ble_eq_true rfl) dX5_sum_33 ⟨Nat.le_refl _, Nat.le_refl _⟩ (fun r4 _ => ?_)
  refine k_istore (lv' := [(4, .int r4), (0, .ref (ad 119)), (1, .int a1), (2, .int x2), (3, .int x3)]) C dX5_sum_36 (Nat.le_of_ble_eq_true rfl) rfl ?_
  refine k_aload_n (q := 1) C dX5_sum_38 rfl rfl ?_
  refine k_dup C dX5_sum_39 rfl ?_
  refine c_get (b := 100) (ci := 5) (kf := 2) (N := 5) (v := .int (S.1 102)) C rfl ⟨rfl, rfl⟩ am_119 rfl lay_5 kk_5_2 fl_5_19 rfl dX5_sum_40 ?_
  refine k_iconst (v := 1) C dX5_sum_43 rfl ?_
  refine k_iadd C dX5_sum_44 ?_
  refine c_puti (b := 100) (ci := 5) (kf := 2) (N := 5) C rfl ⟨rfl, rfl⟩ am_119 rfl lay_5 tyX5 tyX5_ok nmX5 kk_5_2 fl_5_19 pf_5_2 dX5_sum_45 ?_
  refine k_aload_n (q := 1) C dX5_sum_48 rfl rfl ?_
  refine c_get (b := 100) (ci := 5) (kf := 4) (N := 5) C rfl ⟨rfl, rfl⟩ am_119 rfl lay_5 kk_5_4 fl_5_28 rfl dX5_sum_49 ?_
  refine k_iload (q := 0) C dX5_sum_52 rfl ?_
  refine k_iload_n (q := 3) C dX5_sum_54 rfl rfl ?_
  refine k_aload_n (q := 1) C dX5_sum_55 rfl rfl ?_
  refine k_iload_n (q := 2) C dX5_sum_56 rfl rfl ?_
  refine k_cVI C (hg_product _ _) my_5_product ml_5_70 rfl ⟨Nat.le_refl _, Nat.le_of_ble_eq_true rfl⟩ (recvC (b := 100) (ci := 5) rfl ⟨rfl, rfl⟩ am_119 rfl rfl) rfl (Nat.le_of_ble_eq_true rfl) dX5_sum_57 ⟨Nat.le_refl _, Nat.le_refl _⟩ (fun r5 _ => ?_)
  refine k_cVI C ct_X8_addStep_1060 my_8_addStep ml_5_57 rfl ⟨by omega, Nat.le_of_ble_eq_true rfl⟩ (recvC (b := 1060) (ci := 8) rfl ⟨rfl, rfl⟩ am_1079 rfl rfl) rfl (Nat.le_of_ble_eq_true rfl) dX5_sum_60 ⟨Nat.le_refl _, Nat.le_refl _⟩ (fun r6 _ => ?_)
  refine k_istore_n (lv' := [(2, .int r6.1), (4, .int r4), (0, .ref (ad 119)), (1, .int a1), (3, .int x3)]) C dX5_sum_63 rfl (Nat.le_of_ble_eq_true rfl) rfl ?_
  refine k_iinc (q := 4) (v := x3 + 1) (lv' := [(3, .int (x3 + 1)), (2, .int r6.1), (4, .int r4), (0, .ref (ad 119)), (1, .int a1)]) C dX5_sum_64 rfl rfl (Nat.le_of_ble_eq_true rfl) rfl ?_
  refine k_goto (tgt := 8) C dX5_sum_67 (by decide) ?_
  refine Dk.loc [3, 4, 1, 0] rfl ?_
  exact hK8 _ _ _
set_option maxRecDepth 20000 in
theorem kb_X5_sum_L8 {X : GX} {θ : TH} {ad Y : Nat → Nat} {S0 : St} {d : Nat} {F : Nat} {Z : Zt} {g : Nat → St → Int32 → Int32 → Option (Int32 × St)} {a1 : Int32} (C : CX (mE X θ (wdC θ ad Y Z S0) 5) RX5 cX5_sum (some .int) (2 + (d + 1)) 0 0) (hg_product : ∀ (S : St) (a1 : Int32) (r : Int32 × St), g 4 S a1 0 = some r → Ct X.2.1 θ yX5_product cX5_product 5 (some .int) (2 + d) 0 0 [.ref (ad 119), .int a1] (wdC θ ad Y Z S) (PIS (wdC θ ad Y Z) r)) : ∀ (n : Nat) (S : St) (x2 : Int32) (x3 : Int32), Dk (mE X θ (wdC θ ad Y Z S0) 5) (mT X θ (wdC θ ad Y Z S0) 5 (PIS (wdC θ ad Y Z))) 0 0 (wdC θ ad Y Z S) [(0, .ref (ad 119)), (1, .int a1), (2, .int x2), (3, .int x3)] [] 8 (f_X5_sum_L8 F Z g a1 n S x2 x3) := by
  intro n
  induction n with
  | zero => intro S x2 x3; exact Dk.none
  | succ n ih =>
    intro S x2 x3
    show Dk _ _ _ _ _ _ _ _ (if (120 : Int32) ≤ x3 then some (x2, S) else (f_X5_ahead Z S).bind fun r2 => (if r2 = 43 then f_X5_sum_B32 F Z g a1 (f_X5_sum_L8 F Z g a1 n) S x2 x3 else (f_X5_ahead Z S).bind fun r3 => (if r3 = 45 then f_X5_sum_B32 F Z g a1 (f_X5_sum_L8 F Z g a1 n) S x2 x3 else some (x2, S))))
    refine k_iload_n (q := 3) C dX5_sum_8 rfl rfl ?_
    refine k_bipush (v := 120) C dX5_sum_9 rfl ?_
    refine k_icmp_ge (tgt := 70) C dX5_sum_11 (by decide) (fun _ => ?_) (fun _ => ?_)
    · refine k_iload_n (q := 2) C dX5_sum_70 rfl rfl ?_
      exact k_iret C rfl ⟨rfl, rfl⟩ dX5_sum_71
    · refine k_aload_n (q := 0) C dX5_sum_14 rfl rfl ?_
      refine k_cVI C ct_X5_ahead my_5_ahead ml_5_67 rfl ⟨by omega, Nat.le_of_ble_eq_true rfl⟩ (recvC (b := 100) (ci := 5) rfl ⟨rfl, rfl⟩ am_119 rfl rfl) rfl (Nat.le_of_ble_eq_true rfl) dX5_sum_15 ⟨Nat.le_refl _, Nat.le_refl _⟩ (fun r2 _ => ?_)
      refine k_bipush (v := 43) C dX5_sum_18 rfl ?_
      refine k_icmp_eq (tgt := 32) C dX5_sum_20 (by decide) (fun _ => ?_) (fun _ => ?_)
      · exact kb_X5_sum_B32 C hg_product ih _ _ _
      · refine k_aload_n (q := 0) C dX5_sum_23 rfl rfl ?_
        refine k_cVI C ct_X5_ahead my_5_ahead ml_5_67 rfl ⟨by omega, Nat.le_of_ble_eq_true rfl⟩ (recvC (b := 100) (ci := 5) rfl ⟨rfl, rfl⟩ am_119 rfl rfl) rfl (Nat.le_of_ble_eq_true rfl) dX5_sum_24 ⟨Nat.le_refl _, Nat.le_refl _⟩ (fun r3 _ => ?_)
        refine k_bipush (v := 45) C dX5_sum_27 rfl ?_
        refine k_icmp_ne (tgt := 70) C dX5_sum_29 (by decide) (fun _ => ?_) (fun _ => ?_)
        · refine k_iload_n (q := 2) C dX5_sum_70 rfl rfl ?_
          exact k_iret C rfl ⟨rfl, rfl⟩ dX5_sum_71
        · exact kb_X5_sum_B32 C hg_product ih _ _ _
set_option maxRecDepth 20000 in
theorem kw_X5_sum {X : GX} {θ : TH} {ad Y : Nat → Nat} {d : Nat} {F : Nat} {Z : Zt} {g : Nat → St → Int32 → Int32 → Option (Int32 × St)} {S : St} {a1 : Int32} (C : CX (mE X θ (wdC θ ad Y Z S) 5) RX5 cX5_sum (some .int) (2 + (d + 1)) 0 0) (hg_product : ∀ (S : St) (a1 : Int32) (r : Int32 × St), g 4 S a1 0 = some r → Ct X.2.1 θ yX5_product cX5_product 5 (some .int) (2 + d) 0 0 [.ref (ad 119), .int a1] (wdC θ ad Y Z S) (PIS (wdC θ ad Y Z) r)) : Dk (mE X θ (wdC θ ad Y Z S) 5) (mT X θ (wdC θ ad Y Z S) 5 (PIS (wdC θ ad Y Z))) 0 0 (wdC θ ad Y Z S) [(0, .ref (ad 119)), (1, .int a1)] [] 0 (f_X5_sum F Z g S a1) := by
  show Dk _ _ _ _ _ _ _ _ ((g 4 S a1 0).bind fun r1 => f_X5_sum_L8 F Z g a1 F r1.2 r1.1 0)
  refine k_aload_n (q := 0) C dX5_sum_0 rfl rfl ?_
  refine k_iload_n (q := 1) C dX5_sum_1 rfl rfl ?_
  refine k_cVI C (hg_product _ _) my_5_product ml_5_70 rfl ⟨Nat.le_refl _, Nat.le_of_ble_eq_true rfl⟩ (recvC (b := 100) (ci := 5) rfl ⟨rfl, rfl⟩ am_119 rfl rfl) rfl (Nat.le_of_ble_eq_true rfl) dX5_sum_2 ⟨Nat.le_refl _, Nat.le_refl _⟩ (fun r1 _ => ?_)
  refine k_istore_n (lv' := [(2, .int r1.1), (0, .ref (ad 119)), (1, .int a1)]) C dX5_sum_5 rfl (Nat.le_of_ble_eq_true rfl) rfl ?_
  refine k_iconst (v := 0) C dX5_sum_6 rfl ?_
  refine k_istore_n (lv' := [(3, .int 0), (2, .int r1.1), (0, .ref (ad 119)), (1, .int a1)]) C dX5_sum_7 rfl (Nat.le_of_ble_eq_true rfl) rfl ?_
  refine Dk.loc [2, 3, 1, 0] rfl ?_
  exact kb_X5_sum_L8 C hg_product _ _ _ _
theorem ct_X5_sum {l : Launch} {θ : TH} {ad Y : Nat → Nat} {S : St} {d : Nat} {F : Nat} {Z : Zt} {g : Nat → St → Int32 → Int32 → Option (Int32 × St)} {a1 : Int32} (hg_product : ∀ (S : St) (a1 : Int32) (r : Int32 × St), g 4 S a1 0 = some r → Ct l θ yX5_product cX5_product 5 (some .int) (2 + d) 0 0 [.ref (ad 119), .int a1] (wdC θ ad Y Z S) (PIS (wdC θ ad Y Z) r)) : ∀ r, f_X5_sum F Z g S a1 = some r → Ct l θ yX5_sum cX5_sum 5 (some .int) (2 + (d + 1)) 0 0 [.ref (ad 119), .int a1] (wdC θ ad Y Z S) (PIS (wdC θ ad Y Z) r) :=
  fun r hr => Ct.of (by decide) (Nat.le_of_ble_eq_true rfl) (fun X hX C _ => by subst hX; exact kw_X5_sum C hg_product r hr)
set_option maxRecDepth 20000 in
theorem kb_X5_compared_B29 {X : GX} {θ : TH} {ad Y : Nat → Nat} {S0 : St} {d : Nat} {F : Nat} {Z : Zt} {g : Nat → St → Int32 → Int32 → Option (Int32 × St)} {a1 : Int32} (C : CX (mE X θ (wdC θ ad Y Z S0) 4) RX5 cX5_compared (some .int) (2 + (d + 1)) 0 0) (hg_sum : ∀ (S : St) (a1 : Int32) (r : Int32 × St), g 3 S a1 0 = some r → Ct X.2.1 θ yX5_sum cX5_sum 5 (some .int) (2 + d) 0 0 [.ref (ad 119), .int a1] (wdC θ ad Y Z S) (PIS (wdC θ ad Y Z) r)) (S : St) (x2 : Int32) (x3 : Int32) : Dk (mE X θ (wdC θ ad Y Z S0) 4) (mT X θ (wdC θ ad Y Z S0) 4 (PIS (wdC θ ad Y Z))) 0 0 (wdC θ ad Y Z S) [(0, .ref (ad 119)), (1, .int a1), (2, .int x2), (3, .int x3)] [] 29 (f_X5_compared_B29 F Z g a1 S x2 x3) := by
  show Dk _ _ _ _ _ _ _ _ ((g 3 (sf S 102 ((S.1 102) + 1)) a1 0).bind fun r3 => (f_X8_addStep 1060 Z r3.2 x3 x2 r3.1).bind fun r4 => some (r4.1, r4.2))
  refine k_aload_n (q := 0) C dX5_compared_29 rfl rfl ?_
  refine k_dup C dX5_compared_30 rfl ?_
  refine c_get (b := 100) (ci := 5) (kf := 2) (N := 5) (v := .int (S.1 102)) C rfl ⟨rfl, rfl⟩ am_119 rfl lay_5 kk_5_2 fl_5_19 rfl dX5_compared_31 ?_
  refine k_iconst (v := 1) C dX5_compared_34 rfl ?_
  refine k_iadd C dX5_compared_35 ?_
  refine c_puti (b := 100) (ci := 5) (kf := 2) (N := 5) C rfl ⟨rfl, rfl⟩ am_119 rfl lay_5 tyX5 tyX5_ok nmX5 kk_5_2 fl_5_19 pf_5_2 dX5_compared_36 ?_
  refine k_aload_n (q := 0) C dX5_compared_39 rfl rfl ?_
  refine c_get (b := 100) (ci := 5) (kf := 4) (N := 5) C rfl ⟨rfl, rfl⟩ am_119 rfl lay_5 kk_5_4 fl_5_28 rfl dX5_compared_40 ?_
  refine k_iload_n (q := 3) C dX5_compared_43 rfl rfl ?_
  refine k_iload_n (q := 2) C dX5_compared_44 rfl rfl ?_
  refine k_aload_n (q := 0) C dX5_compared_45 rfl rfl ?_
  refine k_iload_n (q := 1) C dX5_compared_46 rfl rfl ?_
  refine k_cVI C (hg_sum _ _) my_5_sum ml_5_64 rfl ⟨Nat.le_refl _, Nat.le_of_ble_eq_true rfl⟩ (recvC (b := 100) (ci := 5) rfl ⟨rfl, rfl⟩ am_119 rfl rfl) rfl (Nat.le_of_ble_eq_true rfl) dX5_compared_47 ⟨Nat.le_refl _, Nat.le_refl _⟩ (fun r3 _ => ?_)
  refine k_cVI C ct_X8_addStep_1060 my_8_addStep ml_5_57 rfl ⟨by omega, Nat.le_of_ble_eq_true rfl⟩ (recvC (b := 1060) (ci := 8) rfl ⟨rfl, rfl⟩ am_1079 rfl rfl) rfl (Nat.le_of_ble_eq_true rfl) dX5_compared_50 ⟨Nat.le_refl _, Nat.le_refl _⟩ (fun r4 _ => ?_)
  refine k_istore_n (lv' := [(2, .int r4.1), (0, .ref (ad 119)), (1, .int a1), (3, .int x3)]) C dX5_compared_53 rfl (Nat.le_of_ble_eq_true rfl) rfl ?_
  refine k_iload_n (q := 0) C dX5_compared_54 rfl rfl ?_
  exact k_iret C rfl ⟨rfl, rfl⟩ dX5_compared_55
set_option maxRecDepth 20000 in
theorem kw_X5_compared {X : GX} {θ : TH} {ad Y : Nat → Nat} {d : Nat} {F : Nat} {Z : Zt} {g : Nat → St → Int32 → Int32 → Option (Int32 × St)} {S : St} {a1 : Int32} (C : CX (mE X θ (wdC θ ad Y Z S) 4) RX5 cX5_compared (some .int) (2 + (d + 1)) 0 0) (hg_sum : ∀ (S : St) (a1 : Int32) (r : Int32 × St), g 3 S a1 0 = some r → Ct X.2.1 θ yX5_sum cX5_sum 5 (some .int) (2 + d) 0 0 [.ref (ad 119), .int a1] (wdC θ ad Y Z S) (PIS (wdC θ ad Y Z) r)) : Dk (mE X θ (wdC θ ad Y Z S) 4) (mT X θ (wdC θ ad Y Z S) 4 (PIS (wdC θ ad Y Z))) 0 0 (wdC θ ad Y Z S) [(0, .ref (ad 119)), (1, .int a1)] [] 0 (f_X5_compared F Z g S a1) := by
  show Dk _ _ _ _ _ _ _ _ ((g 3 S a1 0).bind fun r1 => (f_X5_ahead Z r1.2).bind fun r2 => (if r2 = 60 then f_X5_compared_B29 F Z g a1 r1.2 r1.1 r2 else if r2 = 61 then f_X5_compared_B29 F Z g a1 r1.2 r1.1 r2 else if r2 = 62 then f_X5_compared_B29 F Z g a1 r1.2 r1.1 r2 else some (r1.1, r1.2)))
  refine k_aload_n (q := 0) C dX5_compared_0 rfl rfl ?_
  refine k_iload_n (q := 1) C dX5_compared_1 rfl rfl ?_
  refine k_cVI C (hg_sum _ _) my_5_sum ml_5_64 rfl ⟨Nat.le_refl _, Nat.le_of_ble_eq_true rfl⟩ (recvC (b := 100) (ci := 5) rfl ⟨rfl, rfl⟩ am_119 rfl rfl) rfl (Nat.le_of_ble_eq_true rfl) dX5_compared_2 ⟨Nat.le_refl _, Nat.le_refl _⟩ (fun r1 _ => ?_)
  refine k_istore_n (lv' := [(2, .int r1.1), (0, .ref (ad 119)), (1, .int a1)]) C dX5_compared_5 rfl (Nat.le_of_ble_eq_true rfl) rfl ?_
  refine k_aload_n (q := 1) C dX5_compared_6 rfl rfl ?_
  refine k_cVI C ct_X5_ahead my_5_ahead ml_5_67 rfl ⟨by omega, Nat.le_of_ble_eq_true rfl⟩ (recvC (b := 100) (ci := 5) rfl ⟨rfl, rfl⟩ am_119 rfl rfl) rfl (Nat.le_of_ble_eq_true rfl) dX5_compared_7 ⟨Nat.le_refl _, Nat.le_refl _⟩ (fun r2 _ => ?_)
  refine k_istore_n (lv' := [(3, .int r2), (2, .int r1.1), (0, .ref (ad 119)), (1, .int a1)]) C dX5_compared_10 rfl (Nat.le_of_ble_eq_true rfl) rfl ?_
  refine k_iload_n (q := 0) C dX5_compared_11 rfl rfl ?_
  refine k_bipush (v := 60) C dX5_compared_12 rfl ?_
  refine k_icmp_eq (tgt := 29) C dX5_compared_14 (by decide) (fun _ => ?_) (fun _ => ?_)
  · refine Dk.loc [2, 3, 1, 0] rfl ?_
    exact kb_X5_compared_B29 C hg_sum _ _ _
  · refine k_iload_n (q := 0) C dX5_compared_17 rfl rfl ?_
    refine k_bipush (v := 61) C dX5_compared_18 rfl ?_
    refine k_icmp_eq (tgt := 29) C dX5_compared_20 (by decide) (fun _ => ?_) (fun _ => ?_)
    · refine Dk.loc [2, 3, 1, 0] rfl ?_
      exact kb_X5_compared_B29 C hg_sum _ _ _
    · refine k_iload_n (q := 0) C dX5_compared_23 rfl rfl ?_
      refine k_bipush (v := 62) C dX5_compared_24 rfl ?_
      refine k_icmp_ne (tgt := 54) C dX5_compared_26 (by decide) (fun _ => ?_) (fun _ => ?_)
      · refine k_iload_n (q := 1) C dX5_compared_54 rfl rfl ?_
        exact k_iret C rfl ⟨rfl, rfl⟩ dX5_compared_55
      · refine Dk.loc [2, 3, 1, 0] rfl ?_
        exact kb_X5_compared_B29 C hg_sum _ _ _
theorem ct_X5_compared {l : Launch} {θ : TH} {ad Y : Nat → Nat} {S : St} {d : Nat} {F : Nat} {Z : Zt} {g : Nat → St → Int32 → Int32 → Option (Int32 × St)} {a1 : Int32} (hg_sum : ∀ (S : St) (a1 : Int32) (r : Int32 × St), g 3 S a1 0 = some r → Ct l θ yX5_sum cX5_sum 5 (some .int) (2 + d) 0 0 [.ref (ad 119), .int a1] (wdC θ ad Y Z S) (PIS (wdC θ ad Y Z) r)) : ∀ r, f_X5_compared F Z g S a1 = some r → Ct l θ yX5_compared cX5_compared 4 (some .int) (2 + (d + 1)) 0 0 [.ref (ad 119), .int a1] (wdC θ ad Y Z S) (PIS (wdC θ ad Y Z) r) :=
  fun r hr => Ct.of (by decide) (Nat.le_of_ble_eq_true rfl) (fun X hX C _ => by subst hX; exact kw_X5_compared C hg_sum r hr)
set_option maxRecDepth 20000 in
theorem kb_X5_allOf_L8 {X : GX} {θ : TH} {ad Y : Nat → Nat} {S0 : St} {d : Nat} {F : Nat} {Z : Zt} {g : Nat → St → Int32 → Int32 → Option (Int32 × St)} {a1 : Int32} (C : CX (mE X θ (wdC θ ad Y Z S0) 4) RX5 cX5_allOf (some .int) (2 + (d + 1)) 0 0) (hg_compared : ∀ (S : St) (a1 : Int32) (r : Int32 × St), g 2 S a1 0 = some r → Ct X.2.1 θ yX5_compared cX5_compared 4 (some .int) (2 + d) 0 0 [.ref (ad 119), .int a1] (wdC θ ad Y Z S) (PIS (wdC θ ad Y Z) r)) : ∀ (n : Nat) (S : St) (x2 : Int32) (x3 : Int32), Dk (mE X θ (wdC θ ad Y Z S0) 4) (mT X θ (wdC θ ad Y Z S0) 4 (PIS (wdC θ ad Y Z))) 0 0 (wdC θ ad Y Z S) [(0, .ref (ad 119)), (1, .int a1), (2, .int x2), (3, .int x3)] [] 8 (f_X5_allOf_L8 F Z g a1 n S x2 x3) := by
  intro n
  induction n with
  | zero => intro S x2 x3; exact Dk.none
  | succ n ih =>
    intro S x2 x3
    show Dk _ _ _ _ _ _ _ _ (if (120 : Int32) ≤ x3 then some (x2, S) else (f_X5_took Z S 38).bind fun r2 => (if r2.1 = 0 then some (x2, r2.2) else (g 2 r2.2 a1 0).bind fun r3 => (f_X8_addStep 1060 Z r3.2 38 x2 r3.1).bind fun r4 => f_X5_allOf_L8 F Z g a1 n r4.2 r4.1 (x3 + 1)))
    refine k_iload_n (q := 3) C dX5_allOf_8 rfl rfl ?_
    refine k_bipush (v := 120) C dX5_allOf_9 rfl ?_
    refine k_icmp_ge (tgt := 45) C dX5_allOf_11 (by decide) (fun _ => ?_) (fun _ => ?_)
    · refine k_iload_n (q := 2) C dX5_allOf_45 rfl rfl ?_
      exact k_iret C rfl ⟨rfl, rfl⟩ dX5_allOf_46
    · refine k_aload_n (q := 0) C dX5_allOf_14 rfl rfl ?_
      refine k_bipush (v := 38) C dX5_allOf_15 rfl ?_
      refine k_cVI C ct_X5_took my_5_took ml_5_38 rfl ⟨by omega, Nat.le_of_ble_eq_true rfl⟩ (recvC (b := 100) (ci := 5) rfl ⟨rfl, rfl⟩ am_119 rfl rfl) rfl (Nat.le_of_ble_eq_true rfl) dX5_allOf_17 ⟨Nat.le_refl _, Nat.le_refl _⟩ (fun r2 _ => ?_)
      refine k_if_eq (tgt := 45) C dX5_allOf_20 (by decide) (fun _ => ?_) (fun _ => ?_)
      · refine k_iload_n (q := 2) C dX5_allOf_45 rfl rfl ?_
        exact k_iret C rfl ⟨rfl, rfl⟩ dX5_allOf_46
      · refine k_aload_n (q := 0) C dX5_allOf_23 rfl rfl ?_
        refine c_get (b := 100) (ci := 5) (kf := 4) (N := 5) C rfl ⟨rfl, rfl⟩ am_119 rfl lay_5 kk_5_4 fl_5_28 rfl dX5_allOf_24 ?_
        refine k_bipush (v := 38) C dX5_allOf_27 rfl ?_
        refine k_iload_n (q := 2) C dX5_allOf_29 rfl rfl ?_
        refine k_aload_n (q := 0) C dX5_allOf_30 rfl rfl ?_
        refine k_iload_n (q := 1) C dX5_allOf_31 rfl rfl ?_
        refine k_cVI C (hg_compared _ _) my_5_compared ml_5_61 rfl ⟨Nat.le_refl _, Nat.le_of_ble_eq_true rfl⟩ (recvC (b := 100) (ci := 5) rfl ⟨rfl, rfl⟩ am_119 rfl rfl) rfl (Nat.le_of_ble_eq_true rfl) dX5_allOf_32 ⟨Nat.le_refl _, Nat.le_refl _⟩ (fun r3 _ => ?_)
        refine k_cVI C ct_X8_addStep_1060 my_8_addStep ml_5_57 rfl ⟨by omega, Nat.le_of_ble_eq_true rfl⟩ (recvC (b := 1060) (ci := 8) rfl ⟨rfl, rfl⟩ am_1079 rfl rfl) rfl (Nat.le_of_ble_eq_true rfl) dX5_allOf_35 ⟨Nat.le_refl _, Nat.le_refl _⟩ (fun r4 _ => ?_)
        refine k_istore_n (lv' := [(2, .int r4.1), (0, .ref (ad 119)), (1, .int a1), (3, .int x3)]) C dX5_allOf_38 rfl (Nat.le_of_ble_eq_true rfl) rfl ?_
        refine k_iinc (q := 3) (v := x3 + 1) (lv' := [(3, .int (x3 + 1)), (2, .int r4.1), (0, .ref (ad 119)), (1, .int a1)]) C dX5_allOf_39 rfl rfl (Nat.le_of_ble_eq_true rfl) rfl ?_
        refine k_goto (tgt := 8) C dX5_allOf_42 (by decide) ?_
        refine Dk.loc [2, 3, 1, 0] rfl ?_
        exact ih _ _ _
set_option maxRecDepth 20000 in
theorem kw_X5_allOf {X : GX} {θ : TH} {ad Y : Nat → Nat} {d : Nat} {F : Nat} {Z : Zt} {g : Nat → St → Int32 → Int32 → Option (Int32 × St)} {S : St} {a1 : Int32} (C : CX (mE X θ (wdC θ ad Y Z S) 4) RX5 cX5_allOf (some .int) (2 + (d + 1)) 0 0) (hg_compared : ∀ (S : St) (a1 : Int32) (r : Int32 × St), g 2 S a1 0 = some r → Ct X.2.1 θ yX5_compared cX5_compared 4 (some .int) (2 + d) 0 0 [.ref (ad 119), .int a1] (wdC θ ad Y Z S) (PIS (wdC θ ad Y Z) r)) : Dk (mE X θ (wdC θ ad Y Z S) 4) (mT X θ (wdC θ ad Y Z S) 4 (PIS (wdC θ ad Y Z))) 0 0 (wdC θ ad Y Z S) [(0, .ref (ad 119)), (1, .int a1)] [] 0 (f_X5_allOf F Z g S a1) := by
  show Dk _ _ _ _ _ _ _ _ ((g 2 S a1 0).bind fun r1 => f_X5_allOf_L8 F Z g a1 F r1.2 r1.1 0)
  refine k_aload_n (q := 0) C dX5_allOf_0 rfl rfl ?_
  refine k_iload_n (q := 1) C dX5_allOf_1 rfl rfl ?_
  refine k_cVI C (hg_compared _ _) my_5_compared ml_5_61 rfl ⟨Nat.le_refl _, Nat.le_of_ble_eq_true rfl⟩ (recvC (b := 100) (ci := 5) rfl ⟨rfl, rfl⟩ am_119 rfl rfl) rfl (Nat.le_of_ble_eq_true rfl) dX5_allOf_2 ⟨Nat.le_refl _, Nat.le_refl _⟩ (fun r1 _ => ?_)
  refine k_istore_n (lv' := [(2, .int r1.1), (0, .ref (ad 119)), (1, .int a1)]) C dX5_allOf_5 rfl (Nat.le_of_ble_eq_true rfl) rfl ?_
  refine k_iconst (v := 0) C dX5_allOf_6 rfl ?_
  refine k_istore_n (lv' := [(3, .int 0), (2, .int r1.1), (0, .ref (ad 119)), (1, .int a1)]) C dX5_allOf_7 rfl (Nat.le_of_ble_eq_true rfl) rfl ?_
  refine Dk.loc [2, 3, 1, 0] rfl ?_
  exact kb_X5_allOf_L8 C hg_compared _ _ _ _
theorem ct_X5_allOf {l : Launch} {θ : TH} {ad Y : Nat → Nat} {S : St} {d : Nat} {F : Nat} {Z : Zt} {g : Nat → St → Int32 → Int32 → Option (Int32 × St)} {a1 : Int32} (hg_compared : ∀ (S : St) (a1 : Int32) (r : Int32 × St), g 2 S a1 0 = some r → Ct l θ yX5_compared cX5_compared 4 (some .int) (2 + d) 0 0 [.ref (ad 119), .int a1] (wdC θ ad Y Z S) (PIS (wdC θ ad Y Z) r)) : ∀ r, f_X5_allOf F Z g S a1 = some r → Ct l θ yX5_allOf cX5_allOf 4 (some .int) (2 + (d + 1)) 0 0 [.ref (ad 119), .int a1] (wdC θ ad Y Z S) (PIS (wdC θ ad Y Z) r) :=
  fun r hr => Ct.of (by decide) (Nat.le_of_ble_eq_true rfl) (fun X hX C _ => by subst hX; exact kw_X5_allOf C hg_compared r hr)
set_option maxRecDepth 20000 in
theorem kb_X5_anyOf_L8 {X : GX} {θ : TH} {ad Y : Nat → Nat} {S0 : St} {d : Nat} {F : Nat} {Z : Zt} {g : Nat → St → Int32 → Int32 → Option (Int32 × St)} {a1 : Int32} (C : CX (mE X θ (wdC θ ad Y Z S0) 4) RX5 cX5_anyOf (some .int) (2 + (d + 1)) 0 0) (hg_allOf : ∀ (S : St) (a1 : Int32) (r : Int32 × St), g 1 S a1 0 = some r → Ct X.2.1 θ yX5_allOf cX5_allOf 4 (some .int) (2 + d) 0 0 [.ref (ad 119), .int a1] (wdC θ ad Y Z S) (PIS (wdC θ ad Y Z) r)) : ∀ (n : Nat) (S : St) (x2 : Int32) (x3 : Int32), Dk (mE X θ (wdC θ ad Y Z S0) 4) (mT X θ (wdC θ ad Y Z S0) 4 (PIS (wdC θ ad Y Z))) 0 0 (wdC θ ad Y Z S) [(0, .ref (ad 119)), (1, .int a1), (2, .int x2), (3, .int x3)] [] 8 (f_X5_anyOf_L8 F Z g a1 n S x2 x3) := by
  intro n
  induction n with
  | zero => intro S x2 x3; exact Dk.none
  | succ n ih =>
    intro S x2 x3
    show Dk _ _ _ _ _ _ _ _ (if (120 : Int32) ≤ x3 then some (x2, S) else (f_X5_took Z S 124).bind fun r2 => (if r2.1 = 0 then some (x2, r2.2) else (g 1 r2.2 a1 0).bind fun r3 => (f_X8_addStep 1060 Z r3.2 124 x2 r3.1).bind fun r4 => f_X5_anyOf_L8 F Z g a1 n r4.2 r4.1 (x3 + 1)))
    refine k_iload_n (q := 3) C dX5_anyOf_8 rfl rfl ?_
    refine k_bipush (v := 120) C dX5_anyOf_9 rfl ?_
    refine k_icmp_ge (tgt := 45) C dX5_anyOf_11 (by decide) (fun _ => ?_) (fun _ => ?_)
    · refine k_iload_n (q := 2) C dX5_anyOf_45 rfl rfl ?_
      exact k_iret C rfl ⟨rfl, rfl⟩ dX5_anyOf_46
    · refine k_aload_n (q := 0) C dX5_anyOf_14 rfl rfl ?_
      refine k_bipush (v := 124) C dX5_anyOf_15 rfl ?_
      refine k_cVI C ct_X5_took my_5_took ml_5_38 rfl ⟨by omega, Nat.le_of_ble_eq_true rfl⟩ (recvC (b := 100) (ci := 5) rfl ⟨rfl, rfl⟩ am_119 rfl rfl) rfl (Nat.le_of_ble_eq_true rfl) dX5_anyOf_17 ⟨Nat.le_refl _, Nat.le_refl _⟩ (fun r2 _ => ?_)
      refine k_if_eq (tgt := 45) C dX5_anyOf_20 (by decide) (fun _ => ?_) (fun _ => ?_)
      · refine k_iload_n (q := 2) C dX5_anyOf_45 rfl rfl ?_
        exact k_iret C rfl ⟨rfl, rfl⟩ dX5_anyOf_46
      · refine k_aload_n (q := 0) C dX5_anyOf_23 rfl rfl ?_
        refine c_get (b := 100) (ci := 5) (kf := 4) (N := 5) C rfl ⟨rfl, rfl⟩ am_119 rfl lay_5 kk_5_4 fl_5_28 rfl dX5_anyOf_24 ?_
        refine k_bipush (v := 124) C dX5_anyOf_27 rfl ?_
        refine k_iload_n (q := 2) C dX5_anyOf_29 rfl rfl ?_
        refine k_aload_n (q := 0) C dX5_anyOf_30 rfl rfl ?_
        refine k_iload_n (q := 1) C dX5_anyOf_31 rfl rfl ?_
        refine k_cVI C (hg_allOf _ _) my_5_allOf ml_5_54 rfl ⟨Nat.le_refl _, Nat.le_of_ble_eq_true rfl⟩ (recvC (b := 100) (ci := 5) rfl ⟨rfl, rfl⟩ am_119 rfl rfl) rfl (Nat.le_of_ble_eq_true rfl) dX5_anyOf_32 ⟨Nat.le_refl _, Nat.le_refl _⟩ (fun r3 _ => ?_)
        refine k_cVI C ct_X8_addStep_1060 my_8_addStep ml_5_57 rfl ⟨by omega, Nat.le_of_ble_eq_true rfl⟩ (recvC (b := 1060) (ci := 8) rfl ⟨rfl, rfl⟩ am_1079 rfl rfl) rfl (Nat.le_of_ble_eq_true rfl) dX5_anyOf_35 ⟨Nat.le_refl _, Nat.le_refl _⟩ (fun r4 _ => ?_)
        refine k_istore_n (lv' := [(2, .int r4.1), (0, .ref (ad 119)), (1, .int a1), (3, .int x3)]) C dX5_anyOf_38 rfl (Nat.le_of_ble_eq_true rfl) rfl ?_
        refine k_iinc (q := 3) (v := x3 + 1) (lv' := [(3, .int (x3 + 1)), (2, .int r4.1), (0, .ref (ad 119)), (1, .int a1)]) C dX5_anyOf_39 rfl rfl (Nat.le_of_ble_eq_true rfl) rfl ?_
        refine k_goto (tgt := 8) C dX5_anyOf_42 (by decide) ?_
        refine Dk.loc [2, 3, 1, 0] rfl ?_
        exact ih _ _ _
set_option maxRecDepth 20000 in
theorem kw_X5_anyOf {X : GX} {θ : TH} {ad Y : Nat → Nat} {d : Nat} {F : Nat} {Z : Zt} {g : Nat → St → Int32 → Int32 → Option (Int32 × St)} {S : St} {a1 : Int32} (C : CX (mE X θ (wdC θ ad Y Z S) 4) RX5 cX5_anyOf (some .int) (2 + (d + 1)) 0 0) (hg_allOf : ∀ (S : St) (a1 : Int32) (r : Int32 × St), g 1 S a1 0 = some r → Ct X.2.1 θ yX5_allOf cX5_allOf 4 (some .int) (2 + d) 0 0 [.ref (ad 119), .int a1] (wdC θ ad Y Z S) (PIS (wdC θ ad Y Z) r)) : Dk (mE X θ (wdC θ ad Y Z S) 4) (mT X θ (wdC θ ad Y Z S) 4 (PIS (wdC θ ad Y Z))) 0 0 (wdC θ ad Y Z S) [(0, .ref (ad 119)), (1, .int a1)] [] 0 (f_X5_anyOf F Z g S a1) := by
  show Dk _ _ _ _ _ _ _ _ ((g 1 S a1 0).bind fun r1 => f_X5_anyOf_L8 F Z g a1 F r1.2 r1.1 0)
  refine k_aload_n (q := 0) C dX5_anyOf_0 rfl rfl ?_
  refine k_iload_n (q := 1) C dX5_anyOf_1 rfl rfl ?_
  refine k_cVI C (hg_allOf _ _) my_5_allOf ml_5_54 rfl ⟨Nat.le_refl _, Nat.le_of_ble_eq_true rfl⟩ (recvC (b := 100) (ci := 5) rfl ⟨rfl, rfl⟩ am_119 rfl rfl) rfl (Nat.le_of_ble_eq_true rfl) dX5_anyOf_2 ⟨Nat.le_refl _, Nat.le_refl _⟩ (fun r1 _ => ?_)
  refine k_istore_n (lv' := [(2, .int r1.1), (0, .ref (ad 119)), (1, .int a1)]) C dX5_anyOf_5 rfl (Nat.le_of_ble_eq_true rfl) rfl ?_
  refine k_iconst (v := 0) C dX5_anyOf_6 rfl ?_
  refine k_istore_n (lv' := [(3, .int 0), (2, .int r1.1), (0, .ref (ad 119)), (1, .int a1)]) C dX5_anyOf_7 rfl (Nat.le_of_ble_eq_true rfl) rfl ?_
  refine Dk.loc [2, 3, 1, 0] rfl ?_
  exact kb_X5_anyOf_L8 C hg_allOf _ _ _ _
theorem ct_X5_anyOf {l : Launch} {θ : TH} {ad Y : Nat → Nat} {S : St} {d : Nat} {F : Nat} {Z : Zt} {g : Nat → St → Int32 → Int32 → Option (Int32 × St)} {a1 : Int32} (hg_allOf : ∀ (S : St) (a1 : Int32) (r : Int32 × St), g 1 S a1 0 = some r → Ct l θ yX5_allOf cX5_allOf 4 (some .int) (2 + d) 0 0 [.ref (ad 119), .int a1] (wdC θ ad Y Z S) (PIS (wdC θ ad Y Z) r)) : ∀ r, f_X5_anyOf F Z g S a1 = some r → Ct l θ yX5_anyOf cX5_anyOf 4 (some .int) (2 + (d + 1)) 0 0 [.ref (ad 119), .int a1] (wdC θ ad Y Z S) (PIS (wdC θ ad Y Z) r) :=
  fun r hr => Ct.of (by decide) (Nat.le_of_ble_eq_true rfl) (fun X hX C _ => by subst hX; exact kw_X5_anyOf C hg_allOf r hr)
theorem cr_C_all0 {l : Launch} {θ : TH} {ad Y : Nat → Nat} {F : Nat} {Z : Zt} : ∀ d : Nat, (∀ (S : St) (a1 : Int32) (r : Int32 × St), R_C_0 F Z d 0 S a1 0 = some r → Ct l θ yX5_anyOf cX5_anyOf 4 (some .int) (2 + d) 0 0 [.ref (ad 119), .int a1] (wdC θ ad Y Z S) (PIS (wdC θ ad Y Z) r)) ∧ (∀ (S : St) (a1 : Int32) (r : Int32 × St), R_C_0 F Z d 1 S a1 0 = some r → Ct l θ yX5_allOf cX5_allOf 4 (some .int) (2 + d) 0 0 [.ref (ad 119), .int a1] (wdC θ ad Y Z S) (PIS (wdC θ ad Y Z) r)) ∧ (∀ (S : St) (a1 : Int32) (r : Int32 × St), R_C_0 F Z d 2 S a1 0 = some r → Ct l θ yX5_compared cX5_compared 4 (some .int) (2 + d) 0 0 [.ref (ad 119), .int a1] (wdC θ ad Y Z S) (PIS (wdC θ ad Y Z) r)) ∧ (∀ (S : St) (a1 : Int32) (r : Int32 × St), R_C_0 F Z d 3 S a1 0 = some r → Ct l θ yX5_sum cX5_sum 5 (some .int) (2 + d) 0 0 [.ref (ad 119), .int a1] (wdC θ ad Y Z S) (PIS (wdC θ ad Y Z) r)) ∧ (∀ (S : St) (a1 : Int32) (r : Int32 × St), R_C_0 F Z d 4 S a1 0 = some r → Ct l θ yX5_product cX5_product 5 (some .int) (2 + d) 0 0 [.ref (ad 119), .int a1] (wdC θ ad Y Z S) (PIS (wdC θ ad Y Z) r)) ∧ (∀ (S : St) (a1 : Int32) (r : Int32 × St), R_C_0 F Z d 5 S a1 0 = some r → Ct l θ yX5_operand cX5_operand 4 (some .int) (2 + d) 0 0 [.ref (ad 119), .int a1] (wdC θ ad Y Z S) (PIS (wdC θ ad Y Z) r)) ∧ (∀ (S : St) (a1 a2 : Int32) (r : Int32 × St), R_C_0 F Z d 6 S a1 a2 = some r → Ct l θ yX5_opened cX5_opened 4 (some .int) (2 + d) 0 0 [.ref (ad 119), .int a1, .int a2] (wdC θ ad Y Z S) (PIS (wdC θ ad Y Z) r)) := by
  intro d
  induction d with
  | zero => exact ⟨fun S _ r h => (by simp [R_C_0] at h), fun S _ r h => (by simp [R_C_0] at h), fun S _ r h => (by simp [R_C_0] at h), fun S _ r h => (by simp [R_C_0] at h), fun S _ r h => (by simp [R_C_0] at h), fun S _ r h => (by simp [R_C_0] at h), fun S _ _ r h => (by simp [R_C_0] at h)⟩
  | succ d ih =>
    obtain ⟨i0, i1, i2, i3, i4, i5, i6⟩ := ih
    exact ⟨fun S _ r h => ct_X5_anyOf (F := F) i1 r h, fun S _ r h => ct_X5_allOf (F := F) i2 r h, fun S _ r h => ct_X5_compared (F := F) i3 r h, fun S _ r h => ct_X5_sum (F := F) i4 r h, fun S _ r h => ct_X5_product (F := F) i5 r h, fun S _ r h => ct_X5_operand (F := F) i6 r h, fun S _ _ r h => ct_X5_opened (F := F) i5 i0 r h⟩
theorem cr_X5_anyOf {l : Launch} {θ : TH} {ad Y : Nat → Nat} {F d : Nat} {Z : Zt} {S : St} {a1 : Int32} : ∀ (r : Int32 × St), R_C_0 F Z d 0 S a1 0 = some r → Ct l θ yX5_anyOf cX5_anyOf 4 (some .int) (2 + d) 0 0 [.ref (ad 119), .int a1] (wdC θ ad Y Z S) (PIS (wdC θ ad Y Z) r) := fun r h => (cr_C_all0 (l := l) (θ := θ) (ad := ad) (Y := Y) (F := F) (Z := Z) d).1 S a1 r h
theorem cr_X5_allOf {l : Launch} {θ : TH} {ad Y : Nat → Nat} {F d : Nat} {Z : Zt} {S : St} {a1 : Int32} : ∀ (r : Int32 × St), R_C_0 F Z d 1 S a1 0 = some r → Ct l θ yX5_allOf cX5_allOf 4 (some .int) (2 + d) 0 0 [.ref (ad 119), .int a1] (wdC θ ad Y Z S) (PIS (wdC θ ad Y Z) r) := fun r h => (cr_C_all0 (l := l) (θ := θ) (ad := ad) (Y := Y) (F := F) (Z := Z) d).2.1 S a1 r h
theorem cr_X5_compared {l : Launch} {θ : TH} {ad Y : Nat → Nat} {F d : Nat} {Z : Zt} {S : St} {a1 : Int32} : ∀ (r : Int32 × St), R_C_0 F Z d 2 S a1 0 = some r → Ct l θ yX5_compared cX5_compared 4 (some .int) (2 + d) 0 0 [.ref (ad 119), .int a1] (wdC θ ad Y Z S) (PIS (wdC θ ad Y Z) r) := fun r h => (cr_C_all0 (l := l) (θ := θ) (ad := ad) (Y := Y) (F := F) (Z := Z) d).2.2.1 S a1 r h
theorem cr_X5_sum {l : Launch} {θ : TH} {ad Y : Nat → Nat} {F d : Nat} {Z : Zt} {S : St} {a1 : Int32} : ∀ (r : Int32 × St), R_C_0 F Z d 3 S a1 0 = some r → Ct l θ yX5_sum cX5_sum 5 (some .int) (2 + d) 0 0 [.ref (ad 119), .int a1] (wdC θ ad Y Z S) (PIS (wdC θ ad Y Z) r) := fun r h => (cr_C_all0 (l := l) (θ := θ) (ad := ad) (Y := Y) (F := F) (Z := Z) d).2.2.2.1 S a1 r h
theorem cr_X5_product {l : Launch} {θ : TH} {ad Y : Nat → Nat} {F d : Nat} {Z : Zt} {S : St} {a1 : Int32} : ∀ (r : Int32 × St), R_C_0 F Z d 4 S a1 0 = some r → Ct l θ yX5_product cX5_product 5 (some .int) (2 + d) 0 0 [.ref (ad 119), .int a1] (wdC θ ad Y Z S) (PIS (wdC θ ad Y Z) r) := fun r h => (cr_C_all0 (l := l) (θ := θ) (ad := ad) (Y := Y) (F := F) (Z := Z) d).2.2.2.2.1 S a1 r h
theorem cr_X5_operand {l : Launch} {θ : TH} {ad Y : Nat → Nat} {F d : Nat} {Z : Zt} {S : St} {a1 : Int32} : ∀ (r : Int32 × St), R_C_0 F Z d 5 S a1 0 = some r → Ct l θ yX5_operand cX5_operand 4 (some .int) (2 + d) 0 0 [.ref (ad 119), .int a1] (wdC θ ad Y Z S) (PIS (wdC θ ad Y Z) r) := fun r h => (cr_C_all0 (l := l) (θ := θ) (ad := ad) (Y := Y) (F := F) (Z := Z) d).2.2.2.2.2.1 S a1 r h
theorem cr_X5_opened {l : Launch} {θ : TH} {ad Y : Nat → Nat} {F d : Nat} {Z : Zt} {S : St} {a1 : Int32} {a2 : Int32} : ∀ (r : Int32 × St), R_C_0 F Z d 6 S a1 a2 = some r → Ct l θ yX5_opened cX5_opened 4 (some .int) (2 + d) 0 0 [.ref (ad 119), .int a1, .int a2] (wdC θ ad Y Z S) (PIS (wdC θ ad Y Z) r) := fun r h => (cr_C_all0 (l := l) (θ := θ) (ad := ad) (Y := Y) (F := F) (Z := Z) d).2.2.2.2.2.2 S a1 a2 r h
set_option maxRecDepth 20000 in
theorem kw_X8_addLine_1060 {X : GX} {θ : TH} {ad Y : Nat → Nat} {Z : Zt} {S : St} {a1 : Int32} {a2 : Int32} (C : CX (mE X θ (wdC θ ad Y Z S) 3) RX8 cX8_addLine none 0 0 0)  : Dk (mE X θ (wdC θ ad Y Z S) 3) (mT X θ (wdC θ ad Y Z S) 3 (PVS (wdC θ ad Y Z))) 0 0 (wdC θ ad Y Z S) [(0, .ref (Y 1079)), (1, .int a1), (2, .int a2)] [] 0 (f_X8_addLine 1060 Z S a1 a2) := by
  show Dk _ _ _ _ _ _ _ _ (if (120 : Int32) ≤ (S.1 1066) then some S else chk (inr (S.1 1066) 120) (chk (inr (S.1 1066) 120) (some (sf (sa (sa S 1063 (S.1 1066).toNatClampNeg a1) 1064 (S.1 1066).toNatClampNeg a2) 1066 ((S.1 1066) + 1)))))
  refine k_aload_n (q := 0) C dX8_addLine_0 rfl rfl ?_
  refine c_get (b := 1060) (ci := 8) (kf := 6) (N := 7) (v := .int (S.1 1066)) C rfl ⟨rfl, rfl⟩ am_1079 rfl lay_8 kk_8_6 fl_8_31 rfl dX8_addLine_1 ?_
  refine k_bipush (v := 120) C dX8_addLine_4 rfl ?_
  refine k_icmp_ge (tgt := 39) C dX8_addLine_6 (by decide) (fun _ => ?_) (fun _ => ?_)
  · exact k_vret C ⟨rfl, rfl⟩ dX8_addLine_39
  · refine k_aload_n (q := 0) C dX8_addLine_9 rfl rfl ?_
    refine c_get (b := 1060) (ci := 8) (kf := 3) (N := 7) C rfl ⟨rfl, rfl⟩ am_1079 rfl lay_8 kk_8_3 fl_8_21 rfl dX8_addLine_10 ?_
    refine k_aload_n (q := 0) C dX8_addLine_13 rfl rfl ?_
    refine c_get (b := 1060) (ci := 8) (kf := 6) (N := 7) (v := .int (S.1 1066)) C rfl ⟨rfl, rfl⟩ am_1079 rfl lay_8 kk_8_6 fl_8_31 rfl dX8_addLine_14 ?_
    refine k_iload_n (q := 1) C dX8_addLine_17 rfl rfl ?_
    refine c_iast (i := 1063) C rfl am_1063 ak_1063 rfl dX8_addLine_18 ?_
    refine k_aload_n (q := 0) C dX8_addLine_19 rfl rfl ?_
    refine c_get (b := 1060) (ci := 8) (kf := 4) (N := 7) C rfl ⟨rfl, rfl⟩ am_1079 rfl lay_8 kk_8_4 fl_8_24 rfl dX8_addLine_20 ?_
    refine k_aload_n (q := 0) C dX8_addLine_23 rfl rfl ?_
    refine c_get (b := 1060) (ci := 8) (kf := 6) (N := 7) (v := .int (S.1 1066)) C rfl ⟨rfl, rfl⟩ am_1079 rfl lay_8 kk_8_6 fl_8_31 rfl dX8_addLine_24 ?_
    refine k_iload_n (q := 2) C dX8_addLine_27 rfl rfl ?_
    refine c_iast (i := 1064) C rfl am_1064 ak_1064 rfl dX8_addLine_28 ?_
    refine k_aload_n (q := 0) C dX8_addLine_29 rfl rfl ?_
    refine k_dup C dX8_addLine_30 rfl ?_
    refine c_get (b := 1060) (ci := 8) (kf := 6) (N := 7) (v := .int (S.1 1066)) C rfl ⟨rfl, rfl⟩ am_1079 rfl lay_8 kk_8_6 fl_8_31 rfl dX8_addLine_31 ?_
    refine k_iconst (v := 1) C dX8_addLine_34 rfl ?_
    refine k_iadd C dX8_addLine_35 ?_
    refine c_puti (b := 1060) (ci := 8) (kf := 6) (N := 7) C rfl ⟨rfl, rfl⟩ am_1079 rfl lay_8 tyX8 tyX8_ok nmX8 kk_8_6 fl_8_31 pf_8_6 dX8_addLine_36 ?_
    exact k_vret C ⟨rfl, rfl⟩ dX8_addLine_39
theorem ct_X8_addLine_1060 {l : Launch} {θ : TH} {ad Y : Nat → Nat} {S : St} {Z : Zt} {a1 : Int32} {a2 : Int32}  : ∀ r, f_X8_addLine 1060 Z S a1 a2 = some r → Ct l θ yX8_addLine cX8_addLine 3 none 0 0 0 [.ref (Y 1079), .int a1, .int a2] (wdC θ ad Y Z S) (PVS (wdC θ ad Y Z) r) :=
  fun r hr => Ct.of (by decide +kernel) (Nat.le_of_ble_eq_true rfl) (fun X _ C _ => kw_X8_addLine_1060 C  r hr)
set_option maxRecDepth 20000 in
theorem kw_X5_readLine {X : GX} {θ : TH} {ad Y : Nat → Nat} {F : Nat} {Z : Zt} {S : St}  (C : CX (mE X θ (wdC θ ad Y Z S) 2) RX5 cX5_readLine none 63 0 0)  : Dk (mE X θ (wdC θ ad Y Z S) 2) (mT X θ (wdC θ ad Y Z S) 2 (PVS (wdC θ ad Y Z))) 0 0 (wdC θ ad Y Z S) [(0, .ref (ad 119))] [] 0 (f_X5_readLine F Z S) := by
  show Dk _ _ _ _ _ _ _ _ ((R_C_0 F Z 60 0 S 0 0).bind fun r1 => (f_X5_took Z r1.2 63).bind fun r2 => (if r2.1 = 0 then (f_X8_addLine 1060 Z r2.2 (-1) r1.1).bind fun r3 => some r3 else (R_C_0 F Z 60 0 r2.2 0 0).bind fun r4 => (f_X8_addLine 1060 Z r4.2 r1.1 r4.1).bind fun r5 => some r5))
  refine k_aload_n (q := 0) C dX5_readLine_0 rfl rfl ?_
  refine k_iconst (v := 0) C dX5_readLine_1 rfl ?_
  refine k_cVI C (cr_X5_anyOf (d := 60)) my_5_anyOf ml_5_46 rfl ⟨Nat.le_of_ble_eq_true rfl, Nat.le_of_ble_eq_true rfl⟩ (recvC (b := 100) (ci := 5) rfl ⟨rfl, rfl⟩ am_119 rfl rfl) rfl (Nat.le_of_ble_eq_true rfl) dX5_readLine_2 ⟨Nat.le_refl _, Nat.le_refl _⟩ (fun r1 _ => ?_)
  refine k_istore_n (lv' := [(1, .int r1.1), (0, .ref (ad 119))]) C dX5_readLine_5 rfl (Nat.le_of_ble_eq_true rfl) rfl ?_
  refine k_aload_n (q := 1) C dX5_readLine_6 rfl rfl ?_
  refine k_bipush (v := 63) C dX5_readLine_7 rfl ?_
  refine k_cVI C ct_X5_took my_5_took ml_5_38 rfl ⟨Nat.le_of_ble_eq_true rfl, Nat.le_of_ble_eq_true rfl⟩ (recvC (b := 100) (ci := 5) rfl ⟨rfl, rfl⟩ am_119 rfl rfl) rfl (Nat.le_of_ble_eq_true rfl) dX5_readLine_9 ⟨Nat.le_refl _, Nat.le_refl _⟩ (fun r2 _ => ?_)
  refine k_if_eq (tgt := 31) C dX5_readLine_12 (by decide) (fun _ => ?_) (fun _ => ?_)
  · refine k_aload_n (q := 1) C dX5_readLine_31 rfl rfl ?_
    refine c_get (b := 100) (ci := 5) (kf := 4) (N := 5) C rfl ⟨rfl, rfl⟩ am_119 rfl lay_5 kk_5_4 fl_5_28 rfl dX5_readLine_32 ?_
    refine k_iconst (v := (-1)) C dX5_readLine_35 rfl ?_
    refine k_iload_n (q := 0) C dX5_readLine_36 rfl rfl ?_
    refine k_cVV C ct_X8_addLine_1060 my_8_addLine ml_5_50 rfl ⟨Nat.le_of_ble_eq_true rfl, Nat.le_of_ble_eq_true rfl⟩ (recvC (b := 1060) (ci := 8) rfl ⟨rfl, rfl⟩ am_1079 rfl rfl) rfl (Nat.le_of_ble_eq_true rfl) dX5_readLine_37 ⟨Nat.le_refl _, Nat.le_refl _⟩ (fun r3 _ => ?_)
    exact k_vret C ⟨rfl, rfl⟩ dX5_readLine_40
  · refine k_aload_n (q := 1) C dX5_readLine_15 rfl rfl ?_
    refine c_get (b := 100) (ci := 5) (kf := 4) (N := 5) C rfl ⟨rfl, rfl⟩ am_119 rfl lay_5 kk_5_4 fl_5_28 rfl dX5_readLine_16 ?_
    refine k_iload_n (q := 0) C dX5_readLine_19 rfl rfl ?_
    refine k_aload_n (q := 1) C dX5_readLine_20 rfl rfl ?_
    refine k_iconst (v := 0) C dX5_readLine_21 rfl ?_
    refine k_cVI C (cr_X5_anyOf (d := 60)) my_5_anyOf ml_5_46 rfl ⟨Nat.le_of_ble_eq_true rfl, Nat.le_of_ble_eq_true rfl⟩ (recvC (b := 100) (ci := 5) rfl ⟨rfl, rfl⟩ am_119 rfl rfl) rfl (Nat.le_of_ble_eq_true rfl) dX5_readLine_22 ⟨Nat.le_refl _, Nat.le_refl _⟩ (fun r4 _ => ?_)
    refine k_cVV C ct_X8_addLine_1060 my_8_addLine ml_5_50 rfl ⟨Nat.le_of_ble_eq_true rfl, Nat.le_of_ble_eq_true rfl⟩ (recvC (b := 1060) (ci := 8) rfl ⟨rfl, rfl⟩ am_1079 rfl rfl) rfl (Nat.le_of_ble_eq_true rfl) dX5_readLine_25 ⟨Nat.le_refl _, Nat.le_refl _⟩ (fun r5 _ => ?_)
    refine k_goto (tgt := 40) C dX5_readLine_28 (by decide) ?_
    exact k_vret C ⟨rfl, rfl⟩ dX5_readLine_40
theorem ct_X5_readLine {l : Launch} {θ : TH} {ad Y : Nat → Nat} {S : St} {F : Nat} {Z : Zt}   : ∀ r, f_X5_readLine F Z S = some r → Ct l θ yX5_readLine cX5_readLine 2 none 63 0 0 [.ref (ad 119)] (wdC θ ad Y Z S) (PVS (wdC θ ad Y Z) r) :=
  fun r hr => Ct.of (by decide +kernel) (Nat.le_of_ble_eq_true rfl) (fun X _ C _ => kw_X5_readLine C  r hr)
set_option maxRecDepth 20000 in
theorem kw_X8_clear_1060 {X : GX} {θ : TH} {ad Y : Nat → Nat} {Z : Zt} {S : St}  (C : CX (mE X θ (wdC θ ad Y Z S) 1) RX8 cX8_clear none 0 0 0)  : Dk (mE X θ (wdC θ ad Y Z S) 1) (mT X θ (wdC θ ad Y Z S) 1 (PVS (wdC θ ad Y Z))) 0 0 (wdC θ ad Y Z S) [(0, .ref (Y 1079))] [] 0 (f_X8_clear 1060 Z S) := by
  show Dk _ _ _ _ _ _ _ _ (some (sf (sf S 1065 0) 1066 0))
  refine k_aload_n (q := 0) C dX8_clear_0 rfl rfl ?_
  refine k_iconst (v := 0) C dX8_clear_1 rfl ?_
  refine c_puti (b := 1060) (ci := 8) (kf := 5) (N := 7) C rfl ⟨rfl, rfl⟩ am_1079 rfl lay_8 tyX8 tyX8_ok nmX8 kk_8_5 fl_8_27 pf_8_5 dX8_clear_2 ?_
  refine k_aload_n (q := 0) C dX8_clear_5 rfl rfl ?_
  refine k_iconst (v := 0) C dX8_clear_6 rfl ?_
  refine c_puti (b := 1060) (ci := 8) (kf := 6) (N := 7) C rfl ⟨rfl, rfl⟩ am_1079 rfl lay_8 tyX8 tyX8_ok nmX8 kk_8_6 fl_8_31 pf_8_6 dX8_clear_7 ?_
  exact k_vret C ⟨rfl, rfl⟩ dX8_clear_10
theorem ct_X8_clear_1060 {l : Launch} {θ : TH} {ad Y : Nat → Nat} {S : St} {Z : Zt}   : ∀ r, f_X8_clear 1060 Z S = some r → Ct l θ yX8_clear cX8_clear 1 none 0 0 0 [.ref (Y 1079)] (wdC θ ad Y Z S) (PVS (wdC θ ad Y Z) r) :=
  fun r hr => Ct.of (by decide +kernel) (Nat.le_of_ble_eq_true rfl) (fun X _ C _ => kw_X8_clear_1060 C  r hr)
set_option maxRecDepth 20000 in
theorem kb_X5_read_B48 {X : GX} {θ : TH} {ad Y : Nat → Nat} {S0 : St} {F : Nat} {Z : Zt} (C : CX (mE X θ (wdC θ ad Y Z S0) 2) RX5 cX5_read (some .int) 64 0 0)  (S : St) : Dk (mE X θ (wdC θ ad Y Z S0) 2) (mT X θ (wdC θ ad Y Z S0) 2 (PIS (wdC θ ad Y Z))) 0 0 (wdC θ ad Y Z S) [(0, .ref (ad 119))] [] 48 (f_X5_read_B48 F Z S) := by
  show Dk _ _ _ _ _ _ _ _ (if (S.1 101) ≤ (S.1 102) then some (S.1 103, sf S 101 0) else (f_X5_failed Z S).bind fun r5 => some (r5.2.1 103, sf r5.2 101 0))
  refine k_aload_n (q := 0) C dX5_read_48 rfl rfl ?_
  refine c_get (b := 100) (ci := 5) (kf := 2) (N := 5) (v := .int (S.1 102)) C rfl ⟨rfl, rfl⟩ am_119 rfl lay_5 kk_5_2 fl_5_19 rfl dX5_read_49 ?_
  refine k_aload_n (q := 0) C dX5_read_52 rfl rfl ?_
  refine c_get (b := 100) (ci := 5) (kf := 1) (N := 5) (v := .int (S.1 101)) C rfl ⟨rfl, rfl⟩ am_119 rfl lay_5 kk_5_1 fl_5_15 rfl dX5_read_53 ?_
  refine k_icmp_ge (tgt := 64) C dX5_read_56 (by decide) (fun _ => ?_) (fun _ => ?_)
  · refine k_aload_n (q := 0) C dX5_read_64 rfl rfl ?_
    refine k_iconst (v := 0) C dX5_read_65 rfl ?_
    refine c_puti (b := 100) (ci := 5) (kf := 1) (N := 5) C rfl ⟨rfl, rfl⟩ am_119 rfl lay_5 tyX5 tyX5_ok nmX5 kk_5_1 fl_5_15 pf_5_1 dX5_read_66 ?_
    refine k_aload_n (q := 0) C dX5_read_69 rfl rfl ?_
    refine c_get (b := 100) (ci := 5) (kf := 3) (N := 5) (v := .int (S.1 103)) C rfl ⟨rfl, rfl⟩ am_119 rfl lay_5 kk_5_3 fl_5_22 rfl dX5_read_70 ?_
    exact k_iret C rfl ⟨rfl, rfl⟩ dX5_read_73
  · refine k_aload_n (q := 0) C dX5_read_59 rfl rfl ?_
    refine k_cVI C ct_X5_failed my_5_failed ml_5_42 rfl ⟨Nat.le_of_ble_eq_true rfl, Nat.le_of_ble_eq_true rfl⟩ (recvC (b := 100) (ci := 5) rfl ⟨rfl, rfl⟩ am_119 rfl rfl) rfl (Nat.le_of_ble_eq_true rfl) dX5_read_60 ⟨Nat.le_refl _, Nat.le_refl _⟩ (fun r5 _ => ?_)
    refine k_pop C dX5_read_63 rfl ?_
    refine k_aload_n (q := 0) C dX5_read_64 rfl rfl ?_
    refine k_iconst (v := 0) C dX5_read_65 rfl ?_
    refine c_puti (b := 100) (ci := 5) (kf := 1) (N := 5) C rfl ⟨rfl, rfl⟩ am_119 rfl lay_5 tyX5 tyX5_ok nmX5 kk_5_1 fl_5_15 pf_5_1 dX5_read_66 ?_
    refine k_aload_n (q := 0) C dX5_read_69 rfl rfl ?_
    refine c_get (b := 100) (ci := 5) (kf := 3) (N := 5) (v := .int (r5.2.1 103)) C rfl ⟨rfl, rfl⟩ am_119 rfl lay_5 kk_5_3 fl_5_22 rfl dX5_read_70 ?_
    exact k_iret C rfl ⟨rfl, rfl⟩ dX5_read_73
set_option maxRecDepth 20000 in
theorem kb_X5_read_L23 {X : GX} {θ : TH} {ad Y : Nat → Nat} {S0 : St} {F : Nat} {Z : Zt} (C : CX (mE X θ (wdC θ ad Y Z S0) 2) RX5 cX5_read (some .int) 64 0 0)  : ∀ (n : Nat) (S : St) (x1 : Int32), Dk (mE X θ (wdC θ ad Y Z S0) 2) (mT X θ (wdC θ ad Y Z S0) 2 (PIS (wdC θ ad Y Z))) 0 0 (wdC θ ad Y Z S) [(0, .ref (ad 119)), (1, .int x1)] [] 23 (f_X5_read_L23 F Z n S x1) := by
  intro n
  induction n with
  | zero => intro S x1; exact Dk.none
  | succ n ih =>
    intro S x1
    show Dk _ _ _ _ _ _ _ _ (if (120 : Int32) ≤ x1 then f_X5_read_B48 F Z S else (f_X5_took Z S 59).bind fun r3 => (if r3.1 = 0 then f_X5_read_B48 F Z r3.2 else (f_X5_readLine F Z r3.2).bind fun r4 => f_X5_read_L23 F Z n r4 (x1 + 1)))
    refine k_iload_n (q := 1) C dX5_read_23 rfl rfl ?_
    refine k_bipush (v := 120) C dX5_read_24 rfl ?_
    refine k_icmp_ge (tgt := 48) C dX5_read_26 (by decide) (fun _ => ?_) (fun _ => ?_)
    · refine Dk.loc [0] rfl ?_
      exact kb_X5_read_B48 C _
    · refine k_aload_n (q := 0) C dX5_read_29 rfl rfl ?_
      refine k_bipush (v := 59) C dX5_read_30 rfl ?_
      refine k_cVI C ct_X5_took my_5_took ml_5_38 rfl ⟨Nat.le_of_ble_eq_true rfl, Nat.le_of_ble_eq_true rfl⟩ (recvC (b := 100) (ci := 5) rfl ⟨rfl, rfl⟩ am_119 rfl rfl) rfl (Nat.le_of_ble_eq_true rfl) dX5_read_32 ⟨Nat.le_refl _, Nat.le_refl _⟩ (fun r3 _ => ?_)
      refine k_if_eq (tgt := 48) C dX5_read_35 (by decide) (fun _ => ?_) (fun _ => ?_)
      · refine Dk.loc [0] rfl ?_
        exact kb_X5_read_B48 C _
      · refine k_aload_n (q := 0) C dX5_read_38 rfl rfl ?_
        refine k_cVV C ct_X5_readLine my_5_readLine ml_5_35 rfl ⟨Nat.le_of_ble_eq_true rfl, Nat.le_of_ble_eq_true rfl⟩ (recvC (b := 100) (ci := 5) rfl ⟨rfl, rfl⟩ am_119 rfl rfl) rfl (Nat.le_of_ble_eq_true rfl) dX5_read_39 ⟨Nat.le_refl _, Nat.le_refl _⟩ (fun r4 _ => ?_)
        refine k_iinc (q := 1) (v := x1 + 1) (lv' := [(1, .int (x1 + 1)), (0, .ref (ad 119))]) C dX5_read_42 rfl rfl (Nat.le_of_ble_eq_true rfl) rfl ?_
        refine k_goto (tgt := 23) C dX5_read_45 (by decide) ?_
        refine Dk.loc [1, 0] rfl ?_
        exact ih _ _
set_option maxRecDepth 20000 in
theorem kw_X5_read {X : GX} {θ : TH} {ad Y : Nat → Nat} {F : Nat} {Z : Zt} {S : St}  (C : CX (mE X θ (wdC θ ad Y Z S) 2) RX5 cX5_read (some .int) 64 0 0)  : Dk (mE X θ (wdC θ ad Y Z S) 2) (mT X θ (wdC θ ad Y Z S) 2 (PIS (wdC θ ad Y Z))) 0 0 (wdC θ ad Y Z S) [(0, .ref (ad 119))] [] 0 (f_X5_read F Z S) := by
  show Dk _ _ _ _ _ _ _ _ ((f_X8_clear 1060 Z (sf (sf S 102 0) 103 (-1))).bind fun r1 => (f_X5_readLine F Z r1).bind fun r2 => f_X5_read_L23 F Z F r2 0)
  refine k_aload_n (q := 0) C dX5_read_0 rfl rfl ?_
  refine k_iconst (v := 0) C dX5_read_1 rfl ?_
  refine c_puti (b := 100) (ci := 5) (kf := 2) (N := 5) C rfl ⟨rfl, rfl⟩ am_119 rfl lay_5 tyX5 tyX5_ok nmX5 kk_5_2 fl_5_19 pf_5_2 dX5_read_2 ?_
  refine k_aload_n (q := 0) C dX5_read_5 rfl rfl ?_
  refine k_iconst (v := (-1)) C dX5_read_6 rfl ?_
  refine c_puti (b := 100) (ci := 5) (kf := 3) (N := 5) C rfl ⟨rfl, rfl⟩ am_119 rfl lay_5 tyX5 tyX5_ok nmX5 kk_5_3 fl_5_22 pf_5_3 dX5_read_7 ?_
  refine k_aload_n (q := 0) C dX5_read_10 rfl rfl ?_
  refine c_get (b := 100) (ci := 5) (kf := 4) (N := 5) C rfl ⟨rfl, rfl⟩ am_119 rfl lay_5 kk_5_4 fl_5_28 rfl dX5_read_11 ?_
  refine k_cVV C ct_X8_clear_1060 my_8_clear ml_5_32 rfl ⟨Nat.le_of_ble_eq_true rfl, Nat.le_of_ble_eq_true rfl⟩ (recvC (b := 1060) (ci := 8) rfl ⟨rfl, rfl⟩ am_1079 rfl rfl) rfl (Nat.le_of_ble_eq_true rfl) dX5_read_14 ⟨Nat.le_refl _, Nat.le_refl _⟩ (fun r1 _ => ?_)
  refine k_aload_n (q := 0) C dX5_read_17 rfl rfl ?_
  refine k_cVV C ct_X5_readLine my_5_readLine ml_5_35 rfl ⟨Nat.le_of_ble_eq_true rfl, Nat.le_of_ble_eq_true rfl⟩ (recvC (b := 100) (ci := 5) rfl ⟨rfl, rfl⟩ am_119 rfl rfl) rfl (Nat.le_of_ble_eq_true rfl) dX5_read_18 ⟨Nat.le_refl _, Nat.le_refl _⟩ (fun r2 _ => ?_)
  refine k_iconst (v := 0) C dX5_read_21 rfl ?_
  refine k_istore_n (lv' := [(1, .int 0), (0, .ref (ad 119))]) C dX5_read_22 rfl (Nat.le_of_ble_eq_true rfl) rfl ?_
  refine Dk.loc [1, 0] rfl ?_
  exact kb_X5_read_L23 C _ _ _
theorem ct_X5_read {l : Launch} {θ : TH} {ad Y : Nat → Nat} {S : St} {F : Nat} {Z : Zt}   : ∀ r, f_X5_read F Z S = some r → Ct l θ yX5_read cX5_read 2 (some .int) 64 0 0 [.ref (ad 119)] (wdC θ ad Y Z S) (PIS (wdC θ ad Y Z) r) :=
  fun r hr => Ct.of (by decide +kernel) (Nat.le_of_ble_eq_true rfl) (fun X _ C _ => kw_X5_read C  r hr)
set_option maxRecDepth 20000 in
theorem kw_X6_has {X : GX} {θ : TH} {ws : va_W} {o : Nat}   {a1 : Int32} (C : CX (mE X θ (ws) 2) RX6 cX6_has (some .boolean) 0 0 0)  : Dk (mE X θ (ws) 2) (mT X θ (ws) 2 (PI ws)) 0 0 ws [(0, .ref o), (1, .int a1)] [] 0 (f_X6_has a1) := by
  show Dk _ _ _ _ _ _ _ _ (if a1 < 0 then some ((0 : Int32)) else if (6 : Int32) ≤ a1 then some ((0 : Int32)) else some ((1 : Int32)))
  refine k_iload_n (q := 1) C dX6_has_0 rfl rfl ?_
  refine k_if_lt (tgt := 14) C dX6_has_1 (by decide) (fun _ => ?_) (fun _ => ?_)
  · refine k_iconst (v := 0) C dX6_has_14 rfl ?_
    exact k_iret C rfl ⟨rfl, rfl⟩ dX6_has_15
  · refine k_iload_n (q := 1) C dX6_has_4 rfl rfl ?_
    refine k_bipush (v := 6) C dX6_has_5 rfl ?_
    refine k_icmp_ge (tgt := 14) C dX6_has_7 (by decide) (fun _ => ?_) (fun _ => ?_)
    · refine k_iconst (v := 0) C dX6_has_14 rfl ?_
      exact k_iret C rfl ⟨rfl, rfl⟩ dX6_has_15
    · refine k_iconst (v := 1) C dX6_has_10 rfl ?_
      refine k_goto (tgt := 15) C dX6_has_11 (by decide) ?_
      exact k_iret C rfl ⟨rfl, rfl⟩ dX6_has_15
theorem ct_X6_has {l : Launch} {θ : TH} {ws : va_W} {o : Nat}  {a1 : Int32}  : ∀ r, f_X6_has a1 = some r → Ct l θ yX6_has cX6_has 2 (some .boolean) 0 0 0 [.ref o, .int a1] (ws) (PI ws r) :=
  fun r hr => Ct.of (by decide +kernel) (Nat.le_of_ble_eq_true rfl) (fun X _ C _ => kw_X6_has C  r hr)
set_option maxRecDepth 20000 in
theorem kw_X6_isEmpty {X : GX} {θ : TH} {ad Y : Nat → Nat} {Z : Zt} {S : St} {a1 : Int32} (C : CX (mE X θ (wdC θ ad Y Z S) 2) RX6 cX6_isEmpty (some .boolean) 1 0 0)  : Dk (mE X θ (wdC θ ad Y Z S) 2) (mT X θ (wdC θ ad Y Z S) 2 (PI (wdC θ ad Y Z S))) 0 0 (wdC θ ad Y Z S) [(0, .ref (ad 139)), (1, .int a1)] [] 0 (f_X6_isEmpty Z S a1) := by
  show Dk _ _ _ _ _ _ _ _ ((f_X6_has a1).bind fun r1 => (if r1 = 0 then some ((1 : Int32)) else chk (inr a1 6) ((if (S.2.1 120 (a1).toNatClampNeg) = (-1) then some ((1 : Int32)) else some ((0 : Int32))))))
  refine k_aload_n (q := 0) C dX6_isEmpty_0 rfl rfl ?_
  refine k_iload_n (q := 1) C dX6_isEmpty_1 rfl rfl ?_
  refine k_cVI C ct_X6_has my_6_has ml_6_31 rfl ⟨Nat.le_of_ble_eq_true rfl, Nat.le_of_ble_eq_true rfl⟩ (recvC (b := 120) (ci := 6) rfl ⟨rfl, rfl⟩ am_139 rfl rfl) rfl (Nat.le_of_ble_eq_true rfl) dX6_isEmpty_2 ⟨Nat.le_refl _, Nat.le_refl _⟩ (fun r1 _ => ?_)
  refine k_if_eq (tgt := 18) C dX6_isEmpty_5 (by decide) (fun _ => ?_) (fun _ => ?_)
  · refine k_iconst (v := 1) C dX6_isEmpty_18 rfl ?_
    refine k_goto (tgt := 23) C dX6_isEmpty_19 (by decide) ?_
    exact k_iret C rfl ⟨rfl, rfl⟩ dX6_isEmpty_23
  · refine k_aload_n (q := 0) C dX6_isEmpty_8 rfl rfl ?_
    refine c_get (b := 120) (ci := 6) (kf := 0) (N := 4) C rfl ⟨rfl, rfl⟩ am_139 rfl lay_6 kk_6_0 fl_6_9 rfl dX6_isEmpty_9 ?_
    refine k_iload_n (q := 1) C dX6_isEmpty_12 rfl rfl ?_
    refine c_iald (i := 120) (v := S.2.1 120 (a1).toNatClampNeg) C rfl am_120 ak_120 rfl rfl dX6_isEmpty_13 ?_
    refine k_iconst (v := (-1)) C dX6_isEmpty_14 rfl ?_
    refine k_icmp_ne (tgt := 22) C dX6_isEmpty_15 (by decide) (fun _ => ?_) (fun _ => ?_)
    · refine k_iconst (v := 0) C dX6_isEmpty_22 rfl ?_
      exact k_iret C rfl ⟨rfl, rfl⟩ dX6_isEmpty_23
    · refine k_iconst (v := 1) C dX6_isEmpty_18 rfl ?_
      refine k_goto (tgt := 23) C dX6_isEmpty_19 (by decide) ?_
      exact k_iret C rfl ⟨rfl, rfl⟩ dX6_isEmpty_23
theorem ct_X6_isEmpty {l : Launch} {θ : TH} {ad Y : Nat → Nat} {S : St} {Z : Zt} {a1 : Int32}  : ∀ r, f_X6_isEmpty Z S a1 = some r → Ct l θ yX6_isEmpty cX6_isEmpty 2 (some .boolean) 1 0 0 [.ref (ad 139), .int a1] (wdC θ ad Y Z S) (PI (wdC θ ad Y Z S) r) :=
  fun r hr => Ct.of (by decide +kernel) (Nat.le_of_ble_eq_true rfl) (fun X _ C _ => kw_X6_isEmpty C  r hr)
set_option maxRecDepth 20000 in
theorem kw_X6_holdsRow {X : GX} {θ : TH} {ad Y : Nat → Nat} {Z : Zt} {S : St} {a1 : Int32} (C : CX (mE X θ (wdC θ ad Y Z S) 2) RX6 cX6_holdsRow (some .boolean) 1 0 0)  : Dk (mE X θ (wdC θ ad Y Z S) 2) (mT X θ (wdC θ ad Y Z S) 2 (PI (wdC θ ad Y Z S))) 0 0 (wdC θ ad Y Z S) [(0, .ref (ad 139)), (1, .int a1)] [] 0 (f_X6_holdsRow Z S a1) := by
  show Dk _ _ _ _ _ _ _ _ ((f_X6_has a1).bind fun r1 => (if r1 = 0 then some ((0 : Int32)) else chk (inr a1 6) ((if (S.2.1 120 (a1).toNatClampNeg) < 0 then some ((0 : Int32)) else some ((1 : Int32))))))
  refine k_aload_n (q := 0) C dX6_holdsRow_0 rfl rfl ?_
  refine k_iload_n (q := 1) C dX6_holdsRow_1 rfl rfl ?_
  refine k_cVI C ct_X6_has my_6_has ml_6_31 rfl ⟨Nat.le_of_ble_eq_true rfl, Nat.le_of_ble_eq_true rfl⟩ (recvC (b := 120) (ci := 6) rfl ⟨rfl, rfl⟩ am_139 rfl rfl) rfl (Nat.le_of_ble_eq_true rfl) dX6_holdsRow_2 ⟨Nat.le_refl _, Nat.le_refl _⟩ (fun r1 _ => ?_)
  refine k_if_eq (tgt := 21) C dX6_holdsRow_5 (by decide) (fun _ => ?_) (fun _ => ?_)
  · refine k_iconst (v := 0) C dX6_holdsRow_21 rfl ?_
    exact k_iret C rfl ⟨rfl, rfl⟩ dX6_holdsRow_22
  · refine k_aload_n (q := 0) C dX6_holdsRow_8 rfl rfl ?_
    refine c_get (b := 120) (ci := 6) (kf := 0) (N := 4) C rfl ⟨rfl, rfl⟩ am_139 rfl lay_6 kk_6_0 fl_6_9 rfl dX6_holdsRow_9 ?_
    refine k_iload_n (q := 1) C dX6_holdsRow_12 rfl rfl ?_
    refine c_iald (i := 120) (v := S.2.1 120 (a1).toNatClampNeg) C rfl am_120 ak_120 rfl rfl dX6_holdsRow_13 ?_
    refine k_if_lt (tgt := 21) C dX6_holdsRow_14 (by decide) (fun _ => ?_) (fun _ => ?_)
    · refine k_iconst (v := 0) C dX6_holdsRow_21 rfl ?_
      exact k_iret C rfl ⟨rfl, rfl⟩ dX6_holdsRow_22
    · refine k_iconst (v := 1) C dX6_holdsRow_17 rfl ?_
      refine k_goto (tgt := 22) C dX6_holdsRow_18 (by decide) ?_
      exact k_iret C rfl ⟨rfl, rfl⟩ dX6_holdsRow_22
theorem ct_X6_holdsRow {l : Launch} {θ : TH} {ad Y : Nat → Nat} {S : St} {Z : Zt} {a1 : Int32}  : ∀ r, f_X6_holdsRow Z S a1 = some r → Ct l θ yX6_holdsRow cX6_holdsRow 2 (some .boolean) 1 0 0 [.ref (ad 139), .int a1] (wdC θ ad Y Z S) (PI (wdC θ ad Y Z S) r) :=
  fun r hr => Ct.of (by decide +kernel) (Nat.le_of_ble_eq_true rfl) (fun X _ C _ => kw_X6_holdsRow C  r hr)
set_option maxRecDepth 20000 in
theorem kw_X6_holdsBytes {X : GX} {θ : TH} {ad Y : Nat → Nat} {Z : Zt} {S : St} {a1 : Int32} (C : CX (mE X θ (wdC θ ad Y Z S) 2) RX6 cX6_holdsBytes (some .boolean) 1 0 0)  : Dk (mE X θ (wdC θ ad Y Z S) 2) (mT X θ (wdC θ ad Y Z S) 2 (PI (wdC θ ad Y Z S))) 0 0 (wdC θ ad Y Z S) [(0, .ref (ad 139)), (1, .int a1)] [] 0 (f_X6_holdsBytes Z S a1) := by
  show Dk _ _ _ _ _ _ _ _ ((f_X6_has a1).bind fun r1 => (if r1 = 0 then some ((0 : Int32)) else chk (inr a1 6) ((if (S.2.1 120 (a1).toNatClampNeg) = 0 then some ((1 : Int32)) else some ((0 : Int32))))))
  refine k_aload_n (q := 0) C dX6_holdsBytes_0 rfl rfl ?_
  refine k_iload_n (q := 1) C dX6_holdsBytes_1 rfl rfl ?_
  refine k_cVI C ct_X6_has my_6_has ml_6_31 rfl ⟨Nat.le_of_ble_eq_true rfl, Nat.le_of_ble_eq_true rfl⟩ (recvC (b := 120) (ci := 6) rfl ⟨rfl, rfl⟩ am_139 rfl rfl) rfl (Nat.le_of_ble_eq_true rfl) dX6_holdsBytes_2 ⟨Nat.le_refl _, Nat.le_refl _⟩ (fun r1 _ => ?_)
  refine k_if_eq (tgt := 21) C dX6_holdsBytes_5 (by decide) (fun _ => ?_) (fun _ => ?_)
  · refine k_iconst (v := 0) C dX6_holdsBytes_21 rfl ?_
    exact k_iret C rfl ⟨rfl, rfl⟩ dX6_holdsBytes_22
  · refine k_aload_n (q := 0) C dX6_holdsBytes_8 rfl rfl ?_
    refine c_get (b := 120) (ci := 6) (kf := 0) (N := 4) C rfl ⟨rfl, rfl⟩ am_139 rfl lay_6 kk_6_0 fl_6_9 rfl dX6_holdsBytes_9 ?_
    refine k_iload_n (q := 1) C dX6_holdsBytes_12 rfl rfl ?_
    refine c_iald (i := 120) (v := S.2.1 120 (a1).toNatClampNeg) C rfl am_120 ak_120 rfl rfl dX6_holdsBytes_13 ?_
    refine k_if_ne (tgt := 21) C dX6_holdsBytes_14 (by decide) (fun _ => ?_) (fun _ => ?_)
    · refine k_iconst (v := 0) C dX6_holdsBytes_21 rfl ?_
      exact k_iret C rfl ⟨rfl, rfl⟩ dX6_holdsBytes_22
    · refine k_iconst (v := 1) C dX6_holdsBytes_17 rfl ?_
      refine k_goto (tgt := 22) C dX6_holdsBytes_18 (by decide) ?_
      exact k_iret C rfl ⟨rfl, rfl⟩ dX6_holdsBytes_22
theorem ct_X6_holdsBytes {l : Launch} {θ : TH} {ad Y : Nat → Nat} {S : St} {Z : Zt} {a1 : Int32}  : ∀ r, f_X6_holdsBytes Z S a1 = some r → Ct l θ yX6_holdsBytes cX6_holdsBytes 2 (some .boolean) 1 0 0 [.ref (ad 139), .int a1] (wdC θ ad Y Z S) (PI (wdC θ ad Y Z S) r) :=
  fun r hr => Ct.of (by decide +kernel) (Nat.le_of_ble_eq_true rfl) (fun X _ C _ => kw_X6_holdsBytes C  r hr)
set_option maxRecDepth 20000 in
theorem kw_X6_holdsLikeRows {X : GX} {θ : TH} {ad Y : Nat → Nat} {Z : Zt} {S : St} {a1 : Int32} {a2 : Int32} (C : CX (mE X θ (wdC θ ad Y Z S) 3) RX6 cX6_holdsLikeRows (some .boolean) 2 0 0)  : Dk (mE X θ (wdC θ ad Y Z S) 3) (mT X θ (wdC θ ad Y Z S) 3 (PI (wdC θ ad Y Z S))) 0 0 (wdC θ ad Y Z S) [(0, .ref (ad 139)), (1, .int a1), (2, .int a2)] [] 0 (f_X6_holdsLikeRows Z S a1 a2) := by
  show Dk _ _ _ _ _ _ _ _ ((f_X6_holdsRow Z S a1).bind fun r1 => (if r1 = 0 then some ((0 : Int32)) else (f_X6_holdsRow Z S a2).bind fun r2 => (if r2 = 0 then some ((0 : Int32)) else chk (inr a1 6) (chk (inr a2 6) ((if (S.2.1 120 (a1).toNatClampNeg) = (S.2.1 120 (a2).toNatClampNeg) then some ((1 : Int32)) else some ((0 : Int32))))))))
  refine k_aload_n (q := 0) C dX6_holdsLikeRows_0 rfl rfl ?_
  refine k_iload_n (q := 1) C dX6_holdsLikeRows_1 rfl rfl ?_
  refine k_cVI C ct_X6_holdsRow my_6_holdsRow ml_6_35 rfl ⟨Nat.le_of_ble_eq_true rfl, Nat.le_of_ble_eq_true rfl⟩ (recvC (b := 120) (ci := 6) rfl ⟨rfl, rfl⟩ am_139 rfl rfl) rfl (Nat.le_of_ble_eq_true rfl) dX6_holdsLikeRows_2 ⟨Nat.le_refl _, Nat.le_refl _⟩ (fun r1 _ => ?_)
  refine k_if_eq (tgt := 35) C dX6_holdsLikeRows_5 (by decide) (fun _ => ?_) (fun _ => ?_)
  · refine k_iconst (v := 0) C dX6_holdsLikeRows_35 rfl ?_
    exact k_iret C rfl ⟨rfl, rfl⟩ dX6_holdsLikeRows_36
  · refine k_aload_n (q := 0) C dX6_holdsLikeRows_8 rfl rfl ?_
    refine k_iload_n (q := 2) C dX6_holdsLikeRows_9 rfl rfl ?_
    refine k_cVI C ct_X6_holdsRow my_6_holdsRow ml_6_35 rfl ⟨Nat.le_of_ble_eq_true rfl, Nat.le_of_ble_eq_true rfl⟩ (recvC (b := 120) (ci := 6) rfl ⟨rfl, rfl⟩ am_139 rfl rfl) rfl (Nat.le_of_ble_eq_true rfl) dX6_holdsLikeRows_10 ⟨Nat.le_refl _, Nat.le_refl _⟩ (fun r2 _ => ?_)
    refine k_if_eq (tgt := 35) C dX6_holdsLikeRows_13 (by decide) (fun _ => ?_) (fun _ => ?_)
    · refine k_iconst (v := 0) C dX6_holdsLikeRows_35 rfl ?_
      exact k_iret C rfl ⟨rfl, rfl⟩ dX6_holdsLikeRows_36
    · refine k_aload_n (q := 0) C dX6_holdsLikeRows_16 rfl rfl ?_
      refine c_get (b := 120) (ci := 6) (kf := 0) (N := 4) C rfl ⟨rfl, rfl⟩ am_139 rfl lay_6 kk_6_0 fl_6_9 rfl dX6_holdsLikeRows_17 ?_
      refine k_iload_n (q := 1) C dX6_holdsLikeRows_20 rfl rfl ?_
      refine c_iald (i := 120) (v := S.2.1 120 (a1).toNatClampNeg) C rfl am_120 ak_120 rfl rfl dX6_holdsLikeRows_21 ?_
      refine k_aload_n (q := 0) C dX6_holdsLikeRows_22 rfl rfl ?_
      refine c_get (b := 120) (ci := 6) (kf := 0) (N := 4) C rfl ⟨rfl, rfl⟩ am_139 rfl lay_6 kk_6_0 fl_6_9 rfl dX6_holdsLikeRows_23 ?_
      refine k_iload_n (q := 2) C dX6_holdsLikeRows_26 rfl rfl ?_
      refine c_iald (i := 120) (v := S.2.1 120 (a2).toNatClampNeg) C rfl am_120 ak_120 rfl rfl dX6_holdsLikeRows_27 ?_
      refine k_icmp_ne (tgt := 35) C dX6_holdsLikeRows_28 (by decide) (fun _ => ?_) (fun _ => ?_)
      · refine k_iconst (v := 0) C dX6_holdsLikeRows_35 rfl ?_
        exact k_iret C rfl ⟨rfl, rfl⟩ dX6_holdsLikeRows_36
      · refine k_iconst (v := 1) C dX6_holdsLikeRows_31 rfl ?_
        refine k_goto (tgt := 36) C dX6_holdsLikeRows_32 (by decide) ?_
        exact k_iret C rfl ⟨rfl, rfl⟩ dX6_holdsLikeRows_36
theorem ct_X6_holdsLikeRows {l : Launch} {θ : TH} {ad Y : Nat → Nat} {S : St} {Z : Zt} {a1 : Int32} {a2 : Int32}  : ∀ r, f_X6_holdsLikeRows Z S a1 a2 = some r → Ct l θ yX6_holdsLikeRows cX6_holdsLikeRows 3 (some .boolean) 2 0 0 [.ref (ad 139), .int a1, .int a2] (wdC θ ad Y Z S) (PI (wdC θ ad Y Z S) r) :=
  fun r hr => Ct.of (by decide +kernel) (Nat.le_of_ble_eq_true rfl) (fun X _ C _ => kw_X6_holdsLikeRows C  r hr)
set_option maxRecDepth 20000 in
theorem kw_X6_hasPlaces {X : GX} {θ : TH} {ad Y : Nat → Nat} {Z : Zt} {S : St} {a1 : Int32} {a2 : Int32} {a3 : Int32} (C : CX (mE X θ (wdC θ ad Y Z S) 4) RX6 cX6_hasPlaces (some .boolean) 2 0 0)  : Dk (mE X θ (wdC θ ad Y Z S) 4) (mT X θ (wdC θ ad Y Z S) 4 (PI (wdC θ ad Y Z S))) 0 0 (wdC θ ad Y Z S) [(0, .ref (ad 139)), (1, .int a1), (2, .int a2), (3, .int a3)] [] 0 (f_X6_hasPlaces Z S a1 a2 a3) := by
  show Dk _ _ _ _ _ _ _ _ ((f_X6_holdsRow Z S a1).bind fun r1 => (if r1 = 0 then some ((0 : Int32)) else if a2 < 0 then some ((0 : Int32)) else if a3 < 0 then some ((0 : Int32)) else chk (inr a1 6) ((if (S.2.1 122 (a1).toNatClampNeg) < a3 then some ((0 : Int32)) else chk (inr a1 6) ((if ((S.2.1 122 (a1).toNatClampNeg) - a3) < a2 then some ((0 : Int32)) else some ((1 : Int32))))))))
  refine k_aload_n (q := 0) C dX6_hasPlaces_0 rfl rfl ?_
  refine k_iload_n (q := 1) C dX6_hasPlaces_1 rfl rfl ?_
  refine k_cVI C ct_X6_holdsRow my_6_holdsRow ml_6_35 rfl ⟨Nat.le_of_ble_eq_true rfl, Nat.le_of_ble_eq_true rfl⟩ (recvC (b := 120) (ci := 6) rfl ⟨rfl, rfl⟩ am_139 rfl rfl) rfl (Nat.le_of_ble_eq_true rfl) dX6_hasPlaces_2 ⟨Nat.le_refl _, Nat.le_refl _⟩ (fun r1 _ => ?_)
  refine k_if_eq (tgt := 42) C dX6_hasPlaces_5 (by decide) (fun _ => ?_) (fun _ => ?_)
  · refine k_iconst (v := 0) C dX6_hasPlaces_42 rfl ?_
    exact k_iret C rfl ⟨rfl, rfl⟩ dX6_hasPlaces_43
  · refine k_iload_n (q := 2) C dX6_hasPlaces_8 rfl rfl ?_
    refine k_if_lt (tgt := 42) C dX6_hasPlaces_9 (by decide) (fun _ => ?_) (fun _ => ?_)
    · refine k_iconst (v := 0) C dX6_hasPlaces_42 rfl ?_
      exact k_iret C rfl ⟨rfl, rfl⟩ dX6_hasPlaces_43
    · refine k_iload_n (q := 3) C dX6_hasPlaces_12 rfl rfl ?_
      refine k_if_lt (tgt := 42) C dX6_hasPlaces_13 (by decide) (fun _ => ?_) (fun _ => ?_)
      · refine k_iconst (v := 0) C dX6_hasPlaces_42 rfl ?_
        exact k_iret C rfl ⟨rfl, rfl⟩ dX6_hasPlaces_43
      · refine k_iload_n (q := 3) C dX6_hasPlaces_16 rfl rfl ?_
        refine k_aload_n (q := 0) C dX6_hasPlaces_17 rfl rfl ?_
        refine c_get (b := 120) (ci := 6) (kf := 2) (N := 4) C rfl ⟨rfl, rfl⟩ am_139 rfl lay_6 kk_6_2 fl_6_18 rfl dX6_hasPlaces_18 ?_
        refine k_iload_n (q := 1) C dX6_hasPlaces_21 rfl rfl ?_
        refine c_iald (i := 122) (v := S.2.1 122 (a1).toNatClampNeg) C rfl am_122 ak_122 rfl rfl dX6_hasPlaces_22 ?_
        refine k_icmp_gt (tgt := 42) C dX6_hasPlaces_23 (by decide) (fun _ => ?_) (fun _ => ?_)
        · refine k_iconst (v := 0) C dX6_hasPlaces_42 rfl ?_
          exact k_iret C rfl ⟨rfl, rfl⟩ dX6_hasPlaces_43
        · refine k_iload_n (q := 2) C dX6_hasPlaces_26 rfl rfl ?_
          refine k_aload_n (q := 0) C dX6_hasPlaces_27 rfl rfl ?_
          refine c_get (b := 120) (ci := 6) (kf := 2) (N := 4) C rfl ⟨rfl, rfl⟩ am_139 rfl lay_6 kk_6_2 fl_6_18 rfl dX6_hasPlaces_28 ?_
          refine k_iload_n (q := 1) C dX6_hasPlaces_31 rfl rfl ?_
          refine c_iald (i := 122) (v := S.2.1 122 (a1).toNatClampNeg) C rfl am_122 ak_122 rfl rfl dX6_hasPlaces_32 ?_
          refine k_iload_n (q := 3) C dX6_hasPlaces_33 rfl rfl ?_
          refine k_isub C dX6_hasPlaces_34 ?_
          refine k_icmp_gt (tgt := 42) C dX6_hasPlaces_35 (by decide) (fun _ => ?_) (fun _ => ?_)
          · refine k_iconst (v := 0) C dX6_hasPlaces_42 rfl ?_
            exact k_iret C rfl ⟨rfl, rfl⟩ dX6_hasPlaces_43
          · refine k_iconst (v := 1) C dX6_hasPlaces_38 rfl ?_
            refine k_goto (tgt := 43) C dX6_hasPlaces_39 (by decide) ?_
            exact k_iret C rfl ⟨rfl, rfl⟩ dX6_hasPlaces_43
theorem ct_X6_hasPlaces {l : Launch} {θ : TH} {ad Y : Nat → Nat} {S : St} {Z : Zt} {a1 : Int32} {a2 : Int32} {a3 : Int32}  : ∀ r, f_X6_hasPlaces Z S a1 a2 a3 = some r → Ct l θ yX6_hasPlaces cX6_hasPlaces 4 (some .boolean) 2 0 0 [.ref (ad 139), .int a1, .int a2, .int a3] (wdC θ ad Y Z S) (PI (wdC θ ad Y Z S) r) :=
  fun r hr => Ct.of (by decide +kernel) (Nat.le_of_ble_eq_true rfl) (fun X _ C _ => kw_X6_hasPlaces C  r hr)
set_option maxRecDepth 20000 in
theorem kw_X6_bodyOn {X : GX} {θ : TH} {ad Y : Nat → Nat} {Z : Zt} {S : St} {a1 : Int32} (C : CX (mE X θ (wdC θ ad Y Z S) 2) RX6 cX6_bodyOn (some .int) 1 0 0)  : Dk (mE X θ (wdC θ ad Y Z S) 2) (mT X θ (wdC θ ad Y Z S) 2 (PI (wdC θ ad Y Z S))) 0 0 (wdC θ ad Y Z S) [(0, .ref (ad 139)), (1, .int a1)] [] 0 (f_X6_bodyOn Z S a1) := by
  show Dk _ _ _ _ _ _ _ _ ((f_X6_has a1).bind fun r1 => (if r1 = 0 then some ((-2 : Int32)) else chk (inr a1 6) ((if (S.2.1 120 (a1).toNatClampNeg) = (-2) then chk (inr a1 6) (some (S.2.1 121 (a1).toNatClampNeg)) else some ((-2 : Int32))))))
  refine k_aload_n (q := 0) C dX6_bodyOn_0 rfl rfl ?_
  refine k_iload_n (q := 1) C dX6_bodyOn_1 rfl rfl ?_
  refine k_cVI C ct_X6_has my_6_has ml_6_31 rfl ⟨Nat.le_of_ble_eq_true rfl, Nat.le_of_ble_eq_true rfl⟩ (recvC (b := 120) (ci := 6) rfl ⟨rfl, rfl⟩ am_139 rfl rfl) rfl (Nat.le_of_ble_eq_true rfl) dX6_bodyOn_2 ⟨Nat.le_refl _, Nat.le_refl _⟩ (fun r1 _ => ?_)
  refine k_if_eq (tgt := 28) C dX6_bodyOn_5 (by decide) (fun _ => ?_) (fun _ => ?_)
  · refine k_bipush (v := (-2)) C dX6_bodyOn_28 rfl ?_
    exact k_iret C rfl ⟨rfl, rfl⟩ dX6_bodyOn_30
  · refine k_aload_n (q := 0) C dX6_bodyOn_8 rfl rfl ?_
    refine c_get (b := 120) (ci := 6) (kf := 0) (N := 4) C rfl ⟨rfl, rfl⟩ am_139 rfl lay_6 kk_6_0 fl_6_9 rfl dX6_bodyOn_9 ?_
    refine k_iload_n (q := 1) C dX6_bodyOn_12 rfl rfl ?_
    refine c_iald (i := 120) (v := S.2.1 120 (a1).toNatClampNeg) C rfl am_120 ak_120 rfl rfl dX6_bodyOn_13 ?_
    refine k_bipush (v := (-2)) C dX6_bodyOn_14 rfl ?_
    refine k_icmp_ne (tgt := 28) C dX6_bodyOn_16 (by decide) (fun _ => ?_) (fun _ => ?_)
    · refine k_bipush (v := (-2)) C dX6_bodyOn_28 rfl ?_
      exact k_iret C rfl ⟨rfl, rfl⟩ dX6_bodyOn_30
    · refine k_aload_n (q := 0) C dX6_bodyOn_19 rfl rfl ?_
      refine c_get (b := 120) (ci := 6) (kf := 1) (N := 4) C rfl ⟨rfl, rfl⟩ am_139 rfl lay_6 kk_6_1 fl_6_15 rfl dX6_bodyOn_20 ?_
      refine k_iload_n (q := 1) C dX6_bodyOn_23 rfl rfl ?_
      refine c_iald (i := 121) (v := S.2.1 121 (a1).toNatClampNeg) C rfl am_121 ak_121 rfl rfl dX6_bodyOn_24 ?_
      refine k_goto (tgt := 30) C dX6_bodyOn_25 (by decide) ?_
      exact k_iret C rfl ⟨rfl, rfl⟩ dX6_bodyOn_30
theorem ct_X6_bodyOn {l : Launch} {θ : TH} {ad Y : Nat → Nat} {S : St} {Z : Zt} {a1 : Int32}  : ∀ r, f_X6_bodyOn Z S a1 = some r → Ct l θ yX6_bodyOn cX6_bodyOn 2 (some .int) 1 0 0 [.ref (ad 139), .int a1] (wdC θ ad Y Z S) (PI (wdC θ ad Y Z S) r) :=
  fun r hr => Ct.of (by decide +kernel) (Nat.le_of_ble_eq_true rfl) (fun X _ C _ => kw_X6_bodyOn C  r hr)
set_option maxRecDepth 20000 in
theorem kw_X6_refusal {X : GX} {θ : TH} {ad Y : Nat → Nat} {Z : Zt} {S : St} {a1 : Int32} {a2 : Int32} (C : CX (mE X θ (wdC θ ad Y Z S) 3) RX6 cX6_refusal (some .int) 3 0 0)  : Dk (mE X θ (wdC θ ad Y Z S) 3) (mT X θ (wdC θ ad Y Z S) 3 (PI (wdC θ ad Y Z S))) 0 0 (wdC θ ad Y Z S) [(0, .ref (ad 139)), (1, .int a1), (2, .int a2)] [] 0 (f_X6_refusal Z S a1 a2) := by
  show Dk _ _ _ _ _ _ _ _ ((f_X6_has a1).bind fun r1 => (if r1 = 0 then some ((-1 : Int32)) else (f_X6_isEmpty Z S a1).bind fun r2 => (if r2 = 0 then (f_X6_holdsRow Z S a1).bind fun r3 => (if r3 = 0 then some ((-12 : Int32)) else (f_X6_hasPlaces Z S a1 a2 1).bind fun r4 => (if r4 = 0 then some ((-13 : Int32)) else some ((0 : Int32)))) else some ((-11 : Int32)))))
  refine k_aload_n (q := 0) C dX6_refusal_0 rfl rfl ?_
  refine k_iload_n (q := 1) C dX6_refusal_1 rfl rfl ?_
  refine k_cVI C ct_X6_has my_6_has ml_6_31 rfl ⟨Nat.le_of_ble_eq_true rfl, Nat.le_of_ble_eq_true rfl⟩ (recvC (b := 120) (ci := 6) rfl ⟨rfl, rfl⟩ am_139 rfl rfl) rfl (Nat.le_of_ble_eq_true rfl) dX6_refusal_2 ⟨Nat.le_refl _, Nat.le_refl _⟩ (fun r1 _ => ?_)
  refine k_if_ne (tgt := 10) C dX6_refusal_5 (by decide) (fun _ => ?_) (fun _ => ?_)
  · refine k_aload_n (q := 0) C dX6_refusal_10 rfl rfl ?_
    refine k_iload_n (q := 1) C dX6_refusal_11 rfl rfl ?_
    refine k_cVI C ct_X6_isEmpty my_6_isEmpty ml_6_38 rfl ⟨Nat.le_of_ble_eq_true rfl, Nat.le_of_ble_eq_true rfl⟩ (recvC (b := 120) (ci := 6) rfl ⟨rfl, rfl⟩ am_139 rfl rfl) rfl (Nat.le_of_ble_eq_true rfl) dX6_refusal_12 ⟨Nat.le_refl _, Nat.le_refl _⟩ (fun r2 _ => ?_)
    refine k_if_eq (tgt := 21) C dX6_refusal_15 (by decide) (fun _ => ?_) (fun _ => ?_)
    · refine k_aload_n (q := 0) C dX6_refusal_21 rfl rfl ?_
      refine k_iload_n (q := 1) C dX6_refusal_22 rfl rfl ?_
      refine k_cVI C ct_X6_holdsRow my_6_holdsRow ml_6_35 rfl ⟨Nat.le_of_ble_eq_true rfl, Nat.le_of_ble_eq_true rfl⟩ (recvC (b := 120) (ci := 6) rfl ⟨rfl, rfl⟩ am_139 rfl rfl) rfl (Nat.le_of_ble_eq_true rfl) dX6_refusal_23 ⟨Nat.le_refl _, Nat.le_refl _⟩ (fun r3 _ => ?_)
      refine k_if_ne (tgt := 32) C dX6_refusal_26 (by decide) (fun _ => ?_) (fun _ => ?_)
      · refine k_aload_n (q := 0) C dX6_refusal_32 rfl rfl ?_
        refine k_iload_n (q := 1) C dX6_refusal_33 rfl rfl ?_
        refine k_iload_n (q := 2) C dX6_refusal_34 rfl rfl ?_
        refine k_iconst (v := 1) C dX6_refusal_35 rfl ?_
        refine k_cVI C ct_X6_hasPlaces my_6_hasPlaces ml_6_41 rfl ⟨Nat.le_of_ble_eq_true rfl, Nat.le_of_ble_eq_true rfl⟩ (recvC (b := 120) (ci := 6) rfl ⟨rfl, rfl⟩ am_139 rfl rfl) rfl (Nat.le_of_ble_eq_true rfl) dX6_refusal_36 ⟨Nat.le_refl _, Nat.le_refl _⟩ (fun r4 _ => ?_)
        refine k_if_eq (tgt := 46) C dX6_refusal_39 (by decide) (fun _ => ?_) (fun _ => ?_)
        · refine k_bipush (v := (-13)) C dX6_refusal_46 rfl ?_
          exact k_iret C rfl ⟨rfl, rfl⟩ dX6_refusal_48
        · refine k_iconst (v := 0) C dX6_refusal_42 rfl ?_
          refine k_goto (tgt := 48) C dX6_refusal_43 (by decide) ?_
          exact k_iret C rfl ⟨rfl, rfl⟩ dX6_refusal_48
      · refine k_bipush (v := (-12)) C dX6_refusal_29 rfl ?_
        exact k_iret C rfl ⟨rfl, rfl⟩ dX6_refusal_31
    · refine k_bipush (v := (-11)) C dX6_refusal_18 rfl ?_
      exact k_iret C rfl ⟨rfl, rfl⟩ dX6_refusal_20
  · refine k_iconst (v := (-1)) C dX6_refusal_8 rfl ?_
    exact k_iret C rfl ⟨rfl, rfl⟩ dX6_refusal_9
theorem ct_X6_refusal {l : Launch} {θ : TH} {ad Y : Nat → Nat} {S : St} {Z : Zt} {a1 : Int32} {a2 : Int32}  : ∀ r, f_X6_refusal Z S a1 a2 = some r → Ct l θ yX6_refusal cX6_refusal 3 (some .int) 3 0 0 [.ref (ad 139), .int a1, .int a2] (wdC θ ad Y Z S) (PI (wdC θ ad Y Z S) r) :=
  fun r hr => Ct.of (by decide +kernel) (Nat.le_of_ble_eq_true rfl) (fun X _ C _ => kw_X6_refusal C  r hr)
set_option maxRecDepth 20000 in
theorem kb_X6_holdBody_B23 {X : GX} {θ : TH} {ad Y : Nat → Nat} {S0 : St} {Z : Zt} {a1 : Int32} {a2 : Int32} (C : CX (mE X θ (wdC θ ad Y Z S0) 3) RX6 cX6_holdBody none 1 0 0)  (S : St) (t0 : Int32) (t1 : Int32) : Dk (mE X θ (wdC θ ad Y Z S0) 3) (mT X θ (wdC θ ad Y Z S0) 3 (PVS (wdC θ ad Y Z))) 0 0 (wdC θ ad Y Z S) [(0, .ref (ad 139)), (1, .int a1), (2, .int a2)] [.int t0, .int t1, .ref (ad 120)] 23 (f_X6_holdBody_B23 Z a1 a2 S t0 t1) := by
  show Dk _ _ _ _ _ _ _ _ (chk (inr t1 6) (chk (inr a1 6) (some (sa (sa S 120 (t1).toNatClampNeg t0) 121 (a1).toNatClampNeg a2))))
  refine c_iast (i := 120) C rfl am_120 ak_120 rfl dX6_holdBody_23 ?_
  refine k_aload_n (q := 0) C dX6_holdBody_24 rfl rfl ?_
  refine c_get (b := 120) (ci := 6) (kf := 1) (N := 4) C rfl ⟨rfl, rfl⟩ am_139 rfl lay_6 kk_6_1 fl_6_15 rfl dX6_holdBody_25 ?_
  refine k_iload_n (q := 1) C dX6_holdBody_28 rfl rfl ?_
  refine k_iload_n (q := 2) C dX6_holdBody_29 rfl rfl ?_
  refine c_iast (i := 121) C rfl am_121 ak_121 rfl dX6_holdBody_30 ?_
  exact k_vret C ⟨rfl, rfl⟩ dX6_holdBody_31
set_option maxRecDepth 20000 in
theorem kw_X6_holdBody {X : GX} {θ : TH} {ad Y : Nat → Nat} {Z : Zt} {S : St} {a1 : Int32} {a2 : Int32} (C : CX (mE X θ (wdC θ ad Y Z S) 3) RX6 cX6_holdBody none 1 0 0)  : Dk (mE X θ (wdC θ ad Y Z S) 3) (mT X θ (wdC θ ad Y Z S) 3 (PVS (wdC θ ad Y Z))) 0 0 (wdC θ ad Y Z S) [(0, .ref (ad 139)), (1, .int a1), (2, .int a2)] [] 0 (f_X6_holdBody Z S a1 a2) := by
  show Dk _ _ _ _ _ _ _ _ ((f_X6_has a1).bind fun r1 => (if r1 = 0 then some S else if (0 : Int32) ≤ a2 then f_X6_holdBody_B23 Z a1 a2 S (-2) a1 else f_X6_holdBody_B23 Z a1 a2 S (-1) a1))
  refine k_aload_n (q := 0) C dX6_holdBody_0 rfl rfl ?_
  refine k_iload_n (q := 1) C dX6_holdBody_1 rfl rfl ?_
  refine k_cVI C ct_X6_has my_6_has ml_6_31 rfl ⟨Nat.le_of_ble_eq_true rfl, Nat.le_of_ble_eq_true rfl⟩ (recvC (b := 120) (ci := 6) rfl ⟨rfl, rfl⟩ am_139 rfl rfl) rfl (Nat.le_of_ble_eq_true rfl) dX6_holdBody_2 ⟨Nat.le_refl _, Nat.le_refl _⟩ (fun r1 _ => ?_)
  refine k_if_eq (tgt := 31) C dX6_holdBody_5 (by decide) (fun _ => ?_) (fun _ => ?_)
  · exact k_vret C ⟨rfl, rfl⟩ dX6_holdBody_31
  · refine k_aload_n (q := 0) C dX6_holdBody_8 rfl rfl ?_
    refine c_get (b := 120) (ci := 6) (kf := 0) (N := 4) C rfl ⟨rfl, rfl⟩ am_139 rfl lay_6 kk_6_0 fl_6_9 rfl dX6_holdBody_9 ?_
    refine k_iload_n (q := 1) C dX6_holdBody_12 rfl rfl ?_
    refine k_iload_n (q := 2) C dX6_holdBody_13 rfl rfl ?_
    refine k_if_ge (tgt := 21) C dX6_holdBody_14 (by decide) (fun _ => ?_) (fun _ => ?_)
    · refine k_bipush (v := (-2)) C dX6_holdBody_21 rfl ?_
      exact kb_X6_holdBody_B23 C _ _ _
    · refine k_iconst (v := (-1)) C dX6_holdBody_17 rfl ?_
      refine k_goto (tgt := 23) C dX6_holdBody_18 (by decide) ?_
      exact kb_X6_holdBody_B23 C _ _ _
theorem ct_X6_holdBody {l : Launch} {θ : TH} {ad Y : Nat → Nat} {S : St} {Z : Zt} {a1 : Int32} {a2 : Int32}  : ∀ r, f_X6_holdBody Z S a1 a2 = some r → Ct l θ yX6_holdBody cX6_holdBody 3 none 1 0 0 [.ref (ad 139), .int a1, .int a2] (wdC θ ad Y Z S) (PVS (wdC θ ad Y Z) r) :=
  fun r hr => Ct.of (by decide +kernel) (Nat.le_of_ble_eq_true rfl) (fun X _ C _ => kw_X6_holdBody C  r hr)
set_option maxRecDepth 20000 in
theorem kb_X6_holdRow_L25 {X : GX} {θ : TH} {ad Y : Nat → Nat} {S0 : St} {F : Nat} {Z : Zt} {a1 : Int32} (C : CX (mE X θ (wdC θ ad Y Z S0) 5) RX6 cX6_holdRow none 1 0 0)  : ∀ (n : Nat) (S : St) (x4 : Int32), Dk (mE X θ (wdC θ ad Y Z S0) 5) (mT X θ (wdC θ ad Y Z S0) 5 (PVS (wdC θ ad Y Z))) 0 0 (wdC θ ad Y Z S) [(0, .ref (ad 139)), (1, .int a1), (4, .int x4)] [] 25 (f_X6_holdRow_L25 F Z a1 n S x4) := by
  intro n
  induction n with
  | zero => intro S x4; exact Dk.none
  | succ n ih =>
    intro S x4
    show Dk _ _ _ _ _ _ _ _ (if (60 : Int32) ≤ x4 then some S else chk (inr ((a1 * 60) + x4) 360) (f_X6_holdRow_L25 F Z a1 n (sl S 123 ((a1 * 60) + x4).toNatClampNeg 0) (x4 + 1)))
    refine k_iload (q := 2) C dX6_holdRow_25 rfl ?_
    refine k_bipush (v := 60) C dX6_holdRow_27 rfl ?_
    refine k_icmp_ge (tgt := 51) C dX6_holdRow_29 (by decide) (fun _ => ?_) (fun _ => ?_)
    · exact k_vret C ⟨rfl, rfl⟩ dX6_holdRow_51
    · refine k_aload_n (q := 0) C dX6_holdRow_32 rfl rfl ?_
      refine c_get (b := 120) (ci := 6) (kf := 3) (N := 4) C rfl ⟨rfl, rfl⟩ am_139 rfl lay_6 kk_6_3 fl_6_21 rfl dX6_holdRow_33 ?_
      refine k_iload_n (q := 1) C dX6_holdRow_36 rfl rfl ?_
      refine k_bipush (v := 60) C dX6_holdRow_37 rfl ?_
      refine k_imul C dX6_holdRow_39 ?_
      refine k_iload (q := 2) C dX6_holdRow_40 rfl ?_
      refine k_iadd C dX6_holdRow_42 ?_
      refine k_lconst (v := 0) C dX6_holdRow_43 rfl ?_
      refine c_last C dX6_holdRow_44 ?_
      refine k_iinc (q := 2) (v := x4 + 1) (lv' := [(4, .int (x4 + 1)), (0, .ref (ad 139)), (1, .int a1)]) C dX6_holdRow_45 rfl rfl (Nat.le_of_ble_eq_true rfl) rfl ?_
      refine k_goto (tgt := 25) C dX6_holdRow_48 (by decide) ?_
      refine Dk.loc [1, 2, 0] rfl ?_
      exact ih _ _
set_option maxRecDepth 20000 in
theorem kw_X6_holdRow {X : GX} {θ : TH} {ad Y : Nat → Nat} {F : Nat} {Z : Zt} {S : St} {a1 : Int32} {a2 : Int32} {a3 : Int32} (C : CX (mE X θ (wdC θ ad Y Z S) 5) RX6 cX6_holdRow none 1 0 0)  : Dk (mE X θ (wdC θ ad Y Z S) 5) (mT X θ (wdC θ ad Y Z S) 5 (PVS (wdC θ ad Y Z))) 0 0 (wdC θ ad Y Z S) [(0, .ref (ad 139)), (1, .int a1), (2, .int a2), (3, .int a3)] [] 0 (f_X6_holdRow F Z S a1 a2 a3) := by
  show Dk _ _ _ _ _ _ _ _ ((f_X6_has a1).bind fun r1 => (if r1 = 0 then some S else chk (inr a1 6) (chk (inr a1 6) (f_X6_holdRow_L25 F Z a1 F (sa (sa S 120 (a1).toNatClampNeg a2) 122 (a1).toNatClampNeg a3) 0))))
  refine k_aload_n (q := 0) C dX6_holdRow_0 rfl rfl ?_
  refine k_iload_n (q := 1) C dX6_holdRow_1 rfl rfl ?_
  refine k_cVI C ct_X6_has my_6_has ml_6_31 rfl ⟨Nat.le_of_ble_eq_true rfl, Nat.le_of_ble_eq_true rfl⟩ (recvC (b := 120) (ci := 6) rfl ⟨rfl, rfl⟩ am_139 rfl rfl) rfl (Nat.le_of_ble_eq_true rfl) dX6_holdRow_2 ⟨Nat.le_refl _, Nat.le_refl _⟩ (fun r1 _ => ?_)
  refine k_if_eq (tgt := 51) C dX6_holdRow_5 (by decide) (fun _ => ?_) (fun _ => ?_)
  · exact k_vret C ⟨rfl, rfl⟩ dX6_holdRow_51
  · refine k_aload_n (q := 0) C dX6_holdRow_8 rfl rfl ?_
    refine c_get (b := 120) (ci := 6) (kf := 0) (N := 4) C rfl ⟨rfl, rfl⟩ am_139 rfl lay_6 kk_6_0 fl_6_9 rfl dX6_holdRow_9 ?_
    refine k_iload_n (q := 1) C dX6_holdRow_12 rfl rfl ?_
    refine k_iload_n (q := 2) C dX6_holdRow_13 rfl rfl ?_
    refine c_iast (i := 120) C rfl am_120 ak_120 rfl dX6_holdRow_14 ?_
    refine k_aload_n (q := 0) C dX6_holdRow_15 rfl rfl ?_
    refine c_get (b := 120) (ci := 6) (kf := 2) (N := 4) C rfl ⟨rfl, rfl⟩ am_139 rfl lay_6 kk_6_2 fl_6_18 rfl dX6_holdRow_16 ?_
    refine k_iload_n (q := 1) C dX6_holdRow_19 rfl rfl ?_
    refine k_iload_n (q := 3) C dX6_holdRow_20 rfl rfl ?_
    refine c_iast (i := 122) C rfl am_122 ak_122 rfl dX6_holdRow_21 ?_
    refine k_iconst (v := 0) C dX6_holdRow_22 rfl ?_
    refine k_istore (lv' := [(4, .int 0), (0, .ref (ad 139)), (1, .int a1), (2, .int a2), (3, .int a3)]) C dX6_holdRow_23 (Nat.le_of_ble_eq_true rfl) rfl ?_
    refine Dk.loc [1, 2, 0] rfl ?_
    exact kb_X6_holdRow_L25 C _ _ _
theorem ct_X6_holdRow {l : Launch} {θ : TH} {ad Y : Nat → Nat} {S : St} {F : Nat} {Z : Zt} {a1 : Int32} {a2 : Int32} {a3 : Int32}  : ∀ r, f_X6_holdRow F Z S a1 a2 a3 = some r → Ct l θ yX6_holdRow cX6_holdRow 5 none 1 0 0 [.ref (ad 139), .int a1, .int a2, .int a3] (wdC θ ad Y Z S) (PVS (wdC θ ad Y Z) r) :=
  fun r hr => Ct.of (by decide +kernel) (Nat.le_of_ble_eq_true rfl) (fun X _ C _ => kw_X6_holdRow C  r hr)
set_option maxRecDepth 20000 in
theorem kw_X6_at {X : GX} {θ : TH} {ad Y : Nat → Nat} {Z : Zt} {S : St} {a1 : Int32} {a2 : Int32} (C : CX (mE X θ (wdC θ ad Y Z S) 3) RX6 cX6_at (some .long) 3 0 0)  : Dk (mE X θ (wdC θ ad Y Z S) 3) (mT X θ (wdC θ ad Y Z S) 3 (PL (wdC θ ad Y Z S))) 0 0 (wdC θ ad Y Z S) [(0, .ref (ad 139)), (1, .int a1), (2, .int a2)] [] 0 (f_X6_at Z S a1 a2) := by
  show Dk _ _ _ _ _ _ _ _ ((f_X6_hasPlaces Z S a1 a2 1).bind fun r1 => (if r1 = 0 then some ((0 : Int64)) else chk (inr ((a1 * 60) + a2) 360) (some (S.2.2 123 ((a1 * 60) + a2).toNatClampNeg))))
  refine k_aload_n (q := 0) C dX6_at_0 rfl rfl ?_
  refine k_iload_n (q := 1) C dX6_at_1 rfl rfl ?_
  refine k_iload_n (q := 2) C dX6_at_2 rfl rfl ?_
  refine k_iconst (v := 1) C dX6_at_3 rfl ?_
  refine k_cVI C ct_X6_hasPlaces my_6_hasPlaces ml_6_41 rfl ⟨Nat.le_of_ble_eq_true rfl, Nat.le_of_ble_eq_true rfl⟩ (recvC (b := 120) (ci := 6) rfl ⟨rfl, rfl⟩ am_139 rfl rfl) rfl (Nat.le_of_ble_eq_true rfl) dX6_at_4 ⟨Nat.le_refl _, Nat.le_refl _⟩ (fun r1 _ => ?_)
  refine k_if_eq (tgt := 24) C dX6_at_7 (by decide) (fun _ => ?_) (fun _ => ?_)
  · refine k_lconst (v := 0) C dX6_at_24 rfl ?_
    exact k_lret C ⟨rfl, rfl⟩ dX6_at_25
  · refine k_aload_n (q := 0) C dX6_at_10 rfl rfl ?_
    refine c_get (b := 120) (ci := 6) (kf := 3) (N := 4) C rfl ⟨rfl, rfl⟩ am_139 rfl lay_6 kk_6_3 fl_6_21 rfl dX6_at_11 ?_
    refine k_iload_n (q := 1) C dX6_at_14 rfl rfl ?_
    refine k_bipush (v := 60) C dX6_at_15 rfl ?_
    refine k_imul C dX6_at_17 ?_
    refine k_iload_n (q := 2) C dX6_at_18 rfl rfl ?_
    refine k_iadd C dX6_at_19 ?_
    refine c_lald (v := S.2.2 123 ((a1 * 60) + a2).toNatClampNeg) C rfl dX6_at_20 ?_
    refine k_goto (tgt := 25) C dX6_at_21 (by decide) ?_
    exact k_lret C ⟨rfl, rfl⟩ dX6_at_25
theorem ct_X6_at {l : Launch} {θ : TH} {ad Y : Nat → Nat} {S : St} {Z : Zt} {a1 : Int32} {a2 : Int32}  : ∀ r, f_X6_at Z S a1 a2 = some r → Ct l θ yX6_at cX6_at 3 (some .long) 3 0 0 [.ref (ad 139), .int a1, .int a2] (wdC θ ad Y Z S) (PL (wdC θ ad Y Z S) r) :=
  fun r hr => Ct.of (by decide +kernel) (Nat.le_of_ble_eq_true rfl) (fun X _ C _ => kw_X6_at C  r hr)
set_option maxRecDepth 20000 in
theorem kw_X6_lowestBits {X : GX} {θ : TH} {ws : va_W} {o : Nat}   {a1 : Int32} {a2 : Int64} (C : CX (mE X θ (ws) 4) RX6 cX6_lowestBits (some .long) 0 0 0)  : Dk (mE X θ (ws) 4) (mT X θ (ws) 4 (PL ws)) 0 0 ws [(0, .ref o), (1, .int a1), (2, .long a2)] [] 0 (f_X6_lowestBits a1 a2) := by
  show Dk _ _ _ _ _ _ _ _ (if a1 = 0 then some a2.toInt32.toInt8.toInt32.toInt64 else if a1 = 1 then some a2.toInt32.toInt16.toInt32.toInt64 else if a1 = 2 then some a2.toInt32.toInt64 else if a1 = 3 then some a2 else if a1 = 4 then if (lg_cmp a2 0) = 0 then some ((0 : Int64)) else some ((1 : Int64)) else some a2)
  refine k_iload_n (q := 1) C dX6_lowestBits_0 rfl rfl ?_
  refine k_case (c := 0) (fun q1 => ?_) (fun q1 => ?_)
  · refine k_tableIn (off := 35) (tgt := 36) C dX6_lowestBits_1 (by rw [q1]; decide) (by rw [q1]; decide) (by rw [q1]; rfl) (by decide) ?_
    refine k_lload_n (q := 2) C dX6_lowestBits_36 rfl rfl ?_
    refine k_l2i C dX6_lowestBits_37 ?_
    refine k_i2b C dX6_lowestBits_38 ?_
    refine k_i2l C dX6_lowestBits_39 ?_
    exact k_lret C ⟨rfl, rfl⟩ dX6_lowestBits_40
  refine k_case (c := 1) (fun q2 => ?_) (fun q2 => ?_)
  · refine k_tableIn (off := 40) (tgt := 41) C dX6_lowestBits_1 (by rw [q2]; decide) (by rw [q2]; decide) (by rw [q2]; rfl) (by decide) ?_
    refine k_lload_n (q := 2) C dX6_lowestBits_41 rfl rfl ?_
    refine k_l2i C dX6_lowestBits_42 ?_
    refine k_i2s C dX6_lowestBits_43 ?_
    refine k_i2l C dX6_lowestBits_44 ?_
    exact k_lret C ⟨rfl, rfl⟩ dX6_lowestBits_45
  refine k_case (c := 2) (fun q3 => ?_) (fun q3 => ?_)
  · refine k_tableIn (off := 45) (tgt := 46) C dX6_lowestBits_1 (by rw [q3]; decide) (by rw [q3]; decide) (by rw [q3]; rfl) (by decide) ?_
    refine k_lload_n (q := 2) C dX6_lowestBits_46 rfl rfl ?_
    refine k_l2i C dX6_lowestBits_47 ?_
    refine k_i2l C dX6_lowestBits_48 ?_
    exact k_lret C ⟨rfl, rfl⟩ dX6_lowestBits_49
  refine k_case (c := 3) (fun q4 => ?_) (fun q4 => ?_)
  · refine k_tableIn (off := 61) (tgt := 62) C dX6_lowestBits_1 (by rw [q4]; decide) (by rw [q4]; decide) (by rw [q4]; rfl) (by decide) ?_
    refine k_lload_n (q := 2) C dX6_lowestBits_62 rfl rfl ?_
    exact k_lret C ⟨rfl, rfl⟩ dX6_lowestBits_63
  refine k_case (c := 4) (fun q5 => ?_) (fun q5 => ?_)
  · refine k_tableIn (off := 49) (tgt := 50) C dX6_lowestBits_1 (by rw [q5]; decide) (by rw [q5]; decide) (by rw [q5]; rfl) (by decide) ?_
    refine k_lload_n (q := 2) C dX6_lowestBits_50 rfl rfl ?_
    refine k_lconst (v := 0) C dX6_lowestBits_51 rfl ?_
    refine k_lcmp C dX6_lowestBits_52 ?_
    refine k_if_eq (tgt := 60) C dX6_lowestBits_53 (by decide) (fun _ => ?_) (fun _ => ?_)
    · refine k_lconst (v := 0) C dX6_lowestBits_60 rfl ?_
      exact k_lret C ⟨rfl, rfl⟩ dX6_lowestBits_61
    · refine k_lconst (v := 1) C dX6_lowestBits_56 rfl ?_
      refine k_goto (tgt := 61) C dX6_lowestBits_57 (by decide) ?_
      exact k_lret C ⟨rfl, rfl⟩ dX6_lowestBits_61
  refine k_tableOut (tgt := 62) C dX6_lowestBits_1 (by have zq1 := i32ne q1 (z := 0) rfl; have zq2 := i32ne q2 (z := 1) rfl; have zq3 := i32ne q3 (z := 2) rfl; have zq4 := i32ne q4 (z := 3) rfl; have zq5 := i32ne q5 (z := 4) rfl; omega) (by decide) ?_
  refine k_lload_n (q := 2) C dX6_lowestBits_62 rfl rfl ?_
  exact k_lret C ⟨rfl, rfl⟩ dX6_lowestBits_63
theorem ct_X6_lowestBits {l : Launch} {θ : TH} {ws : va_W} {o : Nat}  {a1 : Int32} {a2 : Int64}  : ∀ r, f_X6_lowestBits a1 a2 = some r → Ct l θ yX6_lowestBits cX6_lowestBits 4 (some .long) 0 0 0 [.ref o, .int a1, .long a2] (ws) (PL ws r) :=
  fun r hr => Ct.of (by decide +kernel) (Nat.le_of_ble_eq_true rfl) (fun X _ C _ => kw_X6_lowestBits C  r hr)
set_option maxRecDepth 20000 in
theorem kw_X6_setAt {X : GX} {θ : TH} {ad Y : Nat → Nat} {Z : Zt} {S : St} {a1 : Int32} {a2 : Int32} {a3 : Int64} (C : CX (mE X θ (wdC θ ad Y Z S) 5) RX6 cX6_setAt none 3 0 0)  : Dk (mE X θ (wdC θ ad Y Z S) 5) (mT X θ (wdC θ ad Y Z S) 5 (PVS (wdC θ ad Y Z))) 0 0 (wdC θ ad Y Z S) [(0, .ref (ad 139)), (1, .int a1), (2, .int a2), (3, .long a3)] [] 0 (f_X6_setAt Z S a1 a2 a3) := by
  show Dk _ _ _ _ _ _ _ _ ((f_X6_hasPlaces Z S a1 a2 1).bind fun r1 => (if r1 = 0 then some S else chk (inr a1 6) ((f_X6_lowestBits (S.2.1 120 (a1).toNatClampNeg) a3).bind fun r2 => chk (inr ((a1 * 60) + a2) 360) (some (sl S 123 ((a1 * 60) + a2).toNatClampNeg r2)))))
  refine k_aload_n (q := 0) C dX6_setAt_0 rfl rfl ?_
  refine k_iload_n (q := 1) C dX6_setAt_1 rfl rfl ?_
  refine k_iload_n (q := 2) C dX6_setAt_2 rfl rfl ?_
  refine k_iconst (v := 1) C dX6_setAt_3 rfl ?_
  refine k_cVI C ct_X6_hasPlaces my_6_hasPlaces ml_6_41 rfl ⟨Nat.le_of_ble_eq_true rfl, Nat.le_of_ble_eq_true rfl⟩ (recvC (b := 120) (ci := 6) rfl ⟨rfl, rfl⟩ am_139 rfl rfl) rfl (Nat.le_of_ble_eq_true rfl) dX6_setAt_4 ⟨Nat.le_refl _, Nat.le_refl _⟩ (fun r1 _ => ?_)
  refine k_if_eq (tgt := 32) C dX6_setAt_7 (by decide) (fun _ => ?_) (fun _ => ?_)
  · exact k_vret C ⟨rfl, rfl⟩ dX6_setAt_32
  · refine k_aload_n (q := 0) C dX6_setAt_10 rfl rfl ?_
    refine c_get (b := 120) (ci := 6) (kf := 3) (N := 4) C rfl ⟨rfl, rfl⟩ am_139 rfl lay_6 kk_6_3 fl_6_21 rfl dX6_setAt_11 ?_
    refine k_iload_n (q := 1) C dX6_setAt_14 rfl rfl ?_
    refine k_bipush (v := 60) C dX6_setAt_15 rfl ?_
    refine k_imul C dX6_setAt_17 ?_
    refine k_iload_n (q := 2) C dX6_setAt_18 rfl rfl ?_
    refine k_iadd C dX6_setAt_19 ?_
    refine k_aload_n (q := 0) C dX6_setAt_20 rfl rfl ?_
    refine k_aload_n (q := 0) C dX6_setAt_21 rfl rfl ?_
    refine c_get (b := 120) (ci := 6) (kf := 0) (N := 4) C rfl ⟨rfl, rfl⟩ am_139 rfl lay_6 kk_6_0 fl_6_9 rfl dX6_setAt_22 ?_
    refine k_iload_n (q := 1) C dX6_setAt_25 rfl rfl ?_
    refine c_iald (i := 120) (v := S.2.1 120 (a1).toNatClampNeg) C rfl am_120 ak_120 rfl rfl dX6_setAt_26 ?_
    refine k_lload_n (q := 3) C dX6_setAt_27 rfl rfl ?_
    refine k_cVL C ct_X6_lowestBits my_6_lowestBits ml_6_45 rfl ⟨Nat.le_of_ble_eq_true rfl, Nat.le_of_ble_eq_true rfl⟩ (recvC (b := 120) (ci := 6) rfl ⟨rfl, rfl⟩ am_139 rfl rfl) rfl (Nat.le_of_ble_eq_true rfl) dX6_setAt_28 ⟨Nat.le_refl _, Nat.le_refl _⟩ (fun r2 _ => ?_)
    refine c_last C dX6_setAt_31 ?_
    exact k_vret C ⟨rfl, rfl⟩ dX6_setAt_32
theorem ct_X6_setAt {l : Launch} {θ : TH} {ad Y : Nat → Nat} {S : St} {Z : Zt} {a1 : Int32} {a2 : Int32} {a3 : Int64}  : ∀ r, f_X6_setAt Z S a1 a2 a3 = some r → Ct l θ yX6_setAt cX6_setAt 5 none 3 0 0 [.ref (ad 139), .int a1, .int a2, .long a3] (wdC θ ad Y Z S) (PVS (wdC θ ad Y Z) r) :=
  fun r hr => Ct.of (by decide +kernel) (Nat.le_of_ble_eq_true rfl) (fun X _ C _ => kw_X6_setAt C  r hr)
set_option maxRecDepth 20000 in
theorem kw_X6_copy {X : GX} {θ : TH} {ad Y : Nat → Nat} {Z : Zt} {S : St} {a1 : Int32} {a2 : Int32} {a3 : Int32} {a4 : Int32} {a5 : Int32} (C : CX (mE X θ (wdC θ ad Y Z S) 6) RX6 cX6_copy none 3 0 0)  : Dk (mE X θ (wdC θ ad Y Z S) 6) (mT X θ (wdC θ ad Y Z S) 6 (PVS (wdC θ ad Y Z))) 0 0 (wdC θ ad Y Z S) [(0, .ref (ad 139)), (1, .int a1), (2, .int a2), (3, .int a3), (4, .int a4), (5, .int a5)] [] 0 (f_X6_copy Z S a1 a2 a3 a4 a5) := by
  show Dk _ _ _ _ _ _ _ _ ((f_X6_hasPlaces Z S a1 a2 a5).bind fun r1 => (if r1 = 0 then some S else (f_X6_hasPlaces Z S a3 a4 a5).bind fun r2 => (if r2 = 0 then some S else chk (cpok ((a1 * 60) + a2) ((a3 * 60) + a4) a5) (some (cpy S ((a1 * 60) + a2) ((a3 * 60) + a4) a5)))))
  refine k_aload_n (q := 0) C dX6_copy_0 rfl rfl ?_
  refine k_iload_n (q := 1) C dX6_copy_1 rfl rfl ?_
  refine k_iload_n (q := 2) C dX6_copy_2 rfl rfl ?_
  refine k_iload (q := 5) C dX6_copy_3 rfl ?_
  refine k_cVI C ct_X6_hasPlaces my_6_hasPlaces ml_6_41 rfl ⟨Nat.le_of_ble_eq_true rfl, Nat.le_of_ble_eq_true rfl⟩ (recvC (b := 120) (ci := 6) rfl ⟨rfl, rfl⟩ am_139 rfl rfl) rfl (Nat.le_of_ble_eq_true rfl) dX6_copy_5 ⟨Nat.le_refl _, Nat.le_refl _⟩ (fun r1 _ => ?_)
  refine k_if_eq (tgt := 49) C dX6_copy_8 (by decide) (fun _ => ?_) (fun _ => ?_)
  · exact k_vret C ⟨rfl, rfl⟩ dX6_copy_49
  · refine k_aload_n (q := 0) C dX6_copy_11 rfl rfl ?_
    refine k_iload_n (q := 3) C dX6_copy_12 rfl rfl ?_
    refine k_iload (q := 4) C dX6_copy_13 rfl ?_
    refine k_iload (q := 5) C dX6_copy_15 rfl ?_
    refine k_cVI C ct_X6_hasPlaces my_6_hasPlaces ml_6_41 rfl ⟨Nat.le_of_ble_eq_true rfl, Nat.le_of_ble_eq_true rfl⟩ (recvC (b := 120) (ci := 6) rfl ⟨rfl, rfl⟩ am_139 rfl rfl) rfl (Nat.le_of_ble_eq_true rfl) dX6_copy_17 ⟨Nat.le_refl _, Nat.le_refl _⟩ (fun r2 _ => ?_)
    refine k_if_eq (tgt := 49) C dX6_copy_20 (by decide) (fun _ => ?_) (fun _ => ?_)
    · exact k_vret C ⟨rfl, rfl⟩ dX6_copy_49
    · refine k_aload_n (q := 0) C dX6_copy_23 rfl rfl ?_
      refine c_get (b := 120) (ci := 6) (kf := 3) (N := 4) C rfl ⟨rfl, rfl⟩ am_139 rfl lay_6 kk_6_3 fl_6_21 rfl dX6_copy_24 ?_
      refine k_iload_n (q := 1) C dX6_copy_27 rfl rfl ?_
      refine k_bipush (v := 60) C dX6_copy_28 rfl ?_
      refine k_imul C dX6_copy_30 ?_
      refine k_iload_n (q := 2) C dX6_copy_31 rfl rfl ?_
      refine k_iadd C dX6_copy_32 ?_
      refine k_aload_n (q := 0) C dX6_copy_33 rfl rfl ?_
      refine c_get (b := 120) (ci := 6) (kf := 3) (N := 4) C rfl ⟨rfl, rfl⟩ am_139 rfl lay_6 kk_6_3 fl_6_21 rfl dX6_copy_34 ?_
      refine k_iload_n (q := 3) C dX6_copy_37 rfl rfl ?_
      refine k_bipush (v := 60) C dX6_copy_38 rfl ?_
      refine k_imul C dX6_copy_40 ?_
      refine k_iload (q := 4) C dX6_copy_41 rfl ?_
      refine k_iadd C dX6_copy_43 ?_
      refine k_iload (q := 5) C dX6_copy_44 rfl ?_
      refine c_copy C ml_6_49 nat_copy sta_copy ini_Sys (Nat.le_of_ble_eq_true rfl) (Nat.le_of_ble_eq_true rfl) dX6_copy_46 ?_
      exact k_vret C ⟨rfl, rfl⟩ dX6_copy_49
theorem ct_X6_copy {l : Launch} {θ : TH} {ad Y : Nat → Nat} {S : St} {Z : Zt} {a1 : Int32} {a2 : Int32} {a3 : Int32} {a4 : Int32} {a5 : Int32}  : ∀ r, f_X6_copy Z S a1 a2 a3 a4 a5 = some r → Ct l θ yX6_copy cX6_copy 6 none 3 0 0 [.ref (ad 139), .int a1, .int a2, .int a3, .int a4, .int a5] (wdC θ ad Y Z S) (PVS (wdC θ ad Y Z) r) :=
  fun r hr => Ct.of (by decide +kernel) (Nat.le_of_ble_eq_true rfl) (fun X _ C _ => kw_X6_copy C  r hr)
set_option maxRecDepth 20000 in
theorem kw_X7_moonCount {X : GX} {θ : TH} {ad Y : Nat → Nat} {Z : Zt} {S : St}  (C : CX (mE X θ (wdC θ ad Y Z S) 1) RX7 cX7_moonCount (some .int) 0 0 0)  : Dk (mE X θ (wdC θ ad Y Z S) 1) (mT X θ (wdC θ ad Y Z S) 1 (PI (wdC θ ad Y Z S))) 0 0 (wdC θ ad Y Z S) [(0, .ref (ad 159))] [] 0 (f_X7_moonCount Z S) := by
  show Dk _ _ _ _ _ _ _ _ (some (S.1 148))
  refine k_aload_n (q := 0) C dX7_moonCount_0 rfl rfl ?_
  refine c_get (b := 140) (ci := 7) (kf := 8) (N := 10) (v := .int (S.1 148)) C rfl ⟨rfl, rfl⟩ am_159 rfl lay_7 kk_7_8 fl_7_39 rfl dX7_moonCount_1 ?_
  exact k_iret C rfl ⟨rfl, rfl⟩ dX7_moonCount_4
theorem ct_X7_moonCount {l : Launch} {θ : TH} {ad Y : Nat → Nat} {S : St} {Z : Zt}   : ∀ r, f_X7_moonCount Z S = some r → Ct l θ yX7_moonCount cX7_moonCount 1 (some .int) 0 0 0 [.ref (ad 159)] (wdC θ ad Y Z S) (PI (wdC θ ad Y Z S) r) :=
  fun r hr => Ct.of (by decide +kernel) (Nat.le_of_ble_eq_true rfl) (fun X _ C _ => kw_X7_moonCount C  r hr)
set_option maxRecDepth 20000 in
theorem kw_X7_isState {X : GX} {θ : TH} {ad Y : Nat → Nat} {Z : Zt} {S : St} {a1 : Int32} (C : CX (mE X θ (wdC θ ad Y Z S) 2) RX7 cX7_isState (some .boolean) 0 0 0)  : Dk (mE X θ (wdC θ ad Y Z S) 2) (mT X θ (wdC θ ad Y Z S) 2 (PI (wdC θ ad Y Z S))) 0 0 (wdC θ ad Y Z S) [(0, .ref (ad 159)), (1, .int a1)] [] 0 (f_X7_isState Z S a1) := by
  show Dk _ _ _ _ _ _ _ _ (if a1 < 0 then some ((0 : Int32)) else if (1 <<< ((S.1 148) &&& 31)) ≤ a1 then some ((0 : Int32)) else some ((1 : Int32)))
  refine k_iload_n (q := 1) C dX7_isState_0 rfl rfl ?_
  refine k_if_lt (tgt := 18) C dX7_isState_1 (by decide) (fun _ => ?_) (fun _ => ?_)
  · refine k_iconst (v := 0) C dX7_isState_18 rfl ?_
    exact k_iret C rfl ⟨rfl, rfl⟩ dX7_isState_19
  · refine k_iload_n (q := 1) C dX7_isState_4 rfl rfl ?_
    refine k_iconst (v := 1) C dX7_isState_5 rfl ?_
    refine k_aload_n (q := 0) C dX7_isState_6 rfl rfl ?_
    refine c_get (b := 140) (ci := 7) (kf := 8) (N := 10) (v := .int (S.1 148)) C rfl ⟨rfl, rfl⟩ am_159 rfl lay_7 kk_7_8 fl_7_39 rfl dX7_isState_7 ?_
    refine k_ishl C dX7_isState_10 ?_
    refine k_icmp_ge (tgt := 18) C dX7_isState_11 (by decide) (fun _ => ?_) (fun _ => ?_)
    · refine k_iconst (v := 0) C dX7_isState_18 rfl ?_
      exact k_iret C rfl ⟨rfl, rfl⟩ dX7_isState_19
    · refine k_iconst (v := 1) C dX7_isState_14 rfl ?_
      refine k_goto (tgt := 19) C dX7_isState_15 (by decide) ?_
      exact k_iret C rfl ⟨rfl, rfl⟩ dX7_isState_19
theorem ct_X7_isState {l : Launch} {θ : TH} {ad Y : Nat → Nat} {S : St} {Z : Zt} {a1 : Int32}  : ∀ r, f_X7_isState Z S a1 = some r → Ct l θ yX7_isState cX7_isState 2 (some .boolean) 0 0 0 [.ref (ad 159), .int a1] (wdC θ ad Y Z S) (PI (wdC θ ad Y Z S) r) :=
  fun r hr => Ct.of (by decide +kernel) (Nat.le_of_ble_eq_true rfl) (fun X _ C _ => kw_X7_isState C  r hr)
set_option maxRecDepth 20000 in
theorem kw_X7_addMoon {X : GX} {θ : TH} {ad Y : Nat → Nat} {Z : Zt} {S : St} {a1 : Int32} {a2 : Int32} {a3 : Int32} (C : CX (mE X θ (wdC θ ad Y Z S) 4) RX7 cX7_addMoon (some .int) 0 0 0)  : Dk (mE X θ (wdC θ ad Y Z S) 4) (mT X θ (wdC θ ad Y Z S) 4 (PIS (wdC θ ad Y Z))) 0 0 (wdC θ ad Y Z S) [(0, .ref (ad 159)), (1, .int a1), (2, .int a2), (3, .int a3)] [] 0 (f_X7_addMoon Z S a1 a2 a3) := by
  show Dk _ _ _ _ _ _ _ _ (if (S.1 148) < 3 then chk (inr (S.1 148) 3) (chk (inr (S.1 148) 3) (chk (inr (S.1 148) 3) (some (S.1 148, sf (sa (sa (sa S 140 (S.1 148).toNatClampNeg a1) 141 (S.1 148).toNatClampNeg a2) 142 (S.1 148).toNatClampNeg a3) 148 ((S.1 148) + 1))))) else some ((-3 : Int32), S))
  refine k_aload_n (q := 0) C dX7_addMoon_0 rfl rfl ?_
  refine c_get (b := 140) (ci := 7) (kf := 8) (N := 10) (v := .int (S.1 148)) C rfl ⟨rfl, rfl⟩ am_159 rfl lay_7 kk_7_8 fl_7_39 rfl dX7_addMoon_1 ?_
  refine k_iconst (v := 3) C dX7_addMoon_4 rfl ?_
  refine k_icmp_lt (tgt := 11) C dX7_addMoon_5 (by decide) (fun _ => ?_) (fun _ => ?_)
  · refine k_aload_n (q := 0) C dX7_addMoon_11 rfl rfl ?_
    refine c_get (b := 140) (ci := 7) (kf := 0) (N := 10) C rfl ⟨rfl, rfl⟩ am_159 rfl lay_7 kk_7_0 fl_7_9 rfl dX7_addMoon_12 ?_
    refine k_aload_n (q := 0) C dX7_addMoon_15 rfl rfl ?_
    refine c_get (b := 140) (ci := 7) (kf := 8) (N := 10) (v := .int (S.1 148)) C rfl ⟨rfl, rfl⟩ am_159 rfl lay_7 kk_7_8 fl_7_39 rfl dX7_addMoon_16 ?_
    refine k_iload_n (q := 1) C dX7_addMoon_19 rfl rfl ?_
    refine c_iast (i := 140) C rfl am_140 ak_140 rfl dX7_addMoon_20 ?_
    refine k_aload_n (q := 0) C dX7_addMoon_21 rfl rfl ?_
    refine c_get (b := 140) (ci := 7) (kf := 1) (N := 10) C rfl ⟨rfl, rfl⟩ am_159 rfl lay_7 kk_7_1 fl_7_15 rfl dX7_addMoon_22 ?_
    refine k_aload_n (q := 0) C dX7_addMoon_25 rfl rfl ?_
    refine c_get (b := 140) (ci := 7) (kf := 8) (N := 10) (v := .int (S.1 148)) C rfl ⟨rfl, rfl⟩ am_159 rfl lay_7 kk_7_8 fl_7_39 rfl dX7_addMoon_26 ?_
    refine k_iload_n (q := 2) C dX7_addMoon_29 rfl rfl ?_
    refine c_iast (i := 141) C rfl am_141 ak_141 rfl dX7_addMoon_30 ?_
    refine k_aload_n (q := 0) C dX7_addMoon_31 rfl rfl ?_
    refine c_get (b := 140) (ci := 7) (kf := 2) (N := 10) C rfl ⟨rfl, rfl⟩ am_159 rfl lay_7 kk_7_2 fl_7_18 rfl dX7_addMoon_32 ?_
    refine k_aload_n (q := 0) C dX7_addMoon_35 rfl rfl ?_
    refine c_get (b := 140) (ci := 7) (kf := 8) (N := 10) (v := .int (S.1 148)) C rfl ⟨rfl, rfl⟩ am_159 rfl lay_7 kk_7_8 fl_7_39 rfl dX7_addMoon_36 ?_
    refine k_iload_n (q := 3) C dX7_addMoon_39 rfl rfl ?_
    refine c_iast (i := 142) C rfl am_142 ak_142 rfl dX7_addMoon_40 ?_
    refine k_aload_n (q := 0) C dX7_addMoon_41 rfl rfl ?_
    refine k_dup C dX7_addMoon_42 rfl ?_
    refine c_get (b := 140) (ci := 7) (kf := 8) (N := 10) (v := .int (S.1 148)) C rfl ⟨rfl, rfl⟩ am_159 rfl lay_7 kk_7_8 fl_7_39 rfl dX7_addMoon_43 ?_
    refine k_dup_x1 C dX7_addMoon_46 rfl rfl ?_
    refine k_iconst (v := 1) C dX7_addMoon_47 rfl ?_
    refine k_iadd C dX7_addMoon_48 ?_
    refine c_puti (b := 140) (ci := 7) (kf := 8) (N := 10) C rfl ⟨rfl, rfl⟩ am_159 rfl lay_7 tyX7 tyX7_ok nmX7 kk_7_8 fl_7_39 pf_7_8 dX7_addMoon_49 ?_
    exact k_iret C rfl ⟨rfl, rfl⟩ dX7_addMoon_52
  · refine k_bipush (v := (-3)) C dX7_addMoon_8 rfl ?_
    exact k_iret C rfl ⟨rfl, rfl⟩ dX7_addMoon_10
theorem ct_X7_addMoon {l : Launch} {θ : TH} {ad Y : Nat → Nat} {S : St} {Z : Zt} {a1 : Int32} {a2 : Int32} {a3 : Int32}  : ∀ r, f_X7_addMoon Z S a1 a2 a3 = some r → Ct l θ yX7_addMoon cX7_addMoon 4 (some .int) 0 0 0 [.ref (ad 159), .int a1, .int a2, .int a3] (wdC θ ad Y Z S) (PIS (wdC θ ad Y Z) r) :=
  fun r hr => Ct.of (by decide +kernel) (Nat.le_of_ble_eq_true rfl) (fun X _ C _ => kw_X7_addMoon C  r hr)
set_option maxRecDepth 20000 in
theorem kw_X7_addValley {X : GX} {θ : TH} {ad Y : Nat → Nat} {Z : Zt} {S : St}  (C : CX (mE X θ (wdC θ ad Y Z S) 1) RX7 cX7_addValley (some .int) 0 0 0)  : Dk (mE X θ (wdC θ ad Y Z S) 1) (mT X θ (wdC θ ad Y Z S) 1 (PIS (wdC θ ad Y Z))) 0 0 (wdC θ ad Y Z S) [(0, .ref (ad 159))] [] 0 (f_X7_addValley Z S) := by
  show Dk _ _ _ _ _ _ _ _ (if (S.1 149) < 5 then some (S.1 149, sf S 149 ((S.1 149) + 1)) else some ((-3 : Int32), S))
  refine k_aload_n (q := 0) C dX7_addValley_0 rfl rfl ?_
  refine c_get (b := 140) (ci := 7) (kf := 9) (N := 10) (v := .int (S.1 149)) C rfl ⟨rfl, rfl⟩ am_159 rfl lay_7 kk_7_9 fl_7_43 rfl dX7_addValley_1 ?_
  refine k_iconst (v := 5) C dX7_addValley_4 rfl ?_
  refine k_icmp_lt (tgt := 13) C dX7_addValley_5 (by decide) (fun _ => ?_) (fun _ => ?_)
  · refine k_aload_n (q := 0) C dX7_addValley_13 rfl rfl ?_
    refine k_dup C dX7_addValley_14 rfl ?_
    refine c_get (b := 140) (ci := 7) (kf := 9) (N := 10) (v := .int (S.1 149)) C rfl ⟨rfl, rfl⟩ am_159 rfl lay_7 kk_7_9 fl_7_43 rfl dX7_addValley_15 ?_
    refine k_dup_x1 C dX7_addValley_18 rfl rfl ?_
    refine k_iconst (v := 1) C dX7_addValley_19 rfl ?_
    refine k_iadd C dX7_addValley_20 ?_
    refine c_puti (b := 140) (ci := 7) (kf := 9) (N := 10) C rfl ⟨rfl, rfl⟩ am_159 rfl lay_7 tyX7 tyX7_ok nmX7 kk_7_9 fl_7_43 pf_7_9 dX7_addValley_21 ?_
    exact k_iret C rfl ⟨rfl, rfl⟩ dX7_addValley_24
  · refine k_bipush (v := (-3)) C dX7_addValley_8 rfl ?_
    refine k_goto (tgt := 24) C dX7_addValley_10 (by decide) ?_
    exact k_iret C rfl ⟨rfl, rfl⟩ dX7_addValley_24
theorem ct_X7_addValley {l : Launch} {θ : TH} {ad Y : Nat → Nat} {S : St} {Z : Zt}   : ∀ r, f_X7_addValley Z S = some r → Ct l θ yX7_addValley cX7_addValley 1 (some .int) 0 0 0 [.ref (ad 159)] (wdC θ ad Y Z S) (PIS (wdC θ ad Y Z) r) :=
  fun r hr => Ct.of (by decide +kernel) (Nat.le_of_ble_eq_true rfl) (fun X _ C _ => kw_X7_addValley C  r hr)
set_option maxRecDepth 20000 in
theorem kw_X7_setHills {X : GX} {θ : TH} {ad Y : Nat → Nat} {Z : Zt} {S : St} {a1 : Int32} {a2 : Int32} {a3 : Int32} (C : CX (mE X θ (wdC θ ad Y Z S) 6) RX7 cX7_setHills (some .int) 1 0 0)  : Dk (mE X θ (wdC θ ad Y Z S) 6) (mT X θ (wdC θ ad Y Z S) 6 (PIS (wdC θ ad Y Z))) 0 0 (wdC θ ad Y Z S) [(0, .ref (ad 159)), (1, .int a1), (2, .int a2), (3, .int a3)] [] 0 (f_X7_setHills Z S a1 a2 a3) := by
  show Dk _ _ _ _ _ _ _ _ ((f_X7_hasValley Z S a1).bind fun r1 => (if r1 = 0 then some ((-1 : Int32), S) else (f_X7_hasMoon Z S a2).bind fun r2 => (if r2 = 0 then some ((-1 : Int32), S) else chk (inr ((a1 * 3) + a2) 15) (chk (inr ((a1 * 3) + a2) 15) (lti ((100 * (S.2.1 144 ((a1 * 3) + a2).toNatClampNeg)) + (S.2.1 145 ((a1 * 3) + a2).toNatClampNeg)) fun y3 => chk (inr ((a1 * 3) + a2) 15) (chk (inr ((a1 * 3) + a2) 15) (some (y3, sa (sa S 144 ((a1 * 3) + a2).toNatClampNeg (a3 / 100)) 145 ((a1 * 3) + a2).toNatClampNeg (jrem a3 100)))))))))
  refine k_aload_n (q := 0) C dX7_setHills_0 rfl rfl ?_
  refine k_iload_n (q := 1) C dX7_setHills_1 rfl rfl ?_
  refine k_cVI C ct_X7_hasValley my_7_hasValley ml_7_46 rfl ⟨Nat.le_of_ble_eq_true rfl, Nat.le_of_ble_eq_true rfl⟩ (recvC (b := 140) (ci := 7) rfl ⟨rfl, rfl⟩ am_159 rfl rfl) rfl (Nat.le_of_ble_eq_true rfl) dX7_setHills_2 ⟨Nat.le_refl _, Nat.le_refl _⟩ (fun r1 _ => ?_)
  refine k_if_eq (tgt := 16) C dX7_setHills_5 (by decide) (fun _ => ?_) (fun _ => ?_)
  · refine k_iconst (v := (-1)) C dX7_setHills_16 rfl ?_
    exact k_iret C rfl ⟨rfl, rfl⟩ dX7_setHills_17
  · refine k_aload_n (q := 0) C dX7_setHills_8 rfl rfl ?_
    refine k_iload_n (q := 2) C dX7_setHills_9 rfl rfl ?_
    refine k_cVI C ct_X7_hasMoon my_7_hasMoon ml_7_50 rfl ⟨Nat.le_of_ble_eq_true rfl, Nat.le_of_ble_eq_true rfl⟩ (recvC (b := 140) (ci := 7) rfl ⟨rfl, rfl⟩ am_159 rfl rfl) rfl (Nat.le_of_ble_eq_true rfl) dX7_setHills_10 ⟨Nat.le_refl _, Nat.le_refl _⟩ (fun r2 _ => ?_)
    refine k_if_ne (tgt := 18) C dX7_setHills_13 (by decide) (fun _ => ?_) (fun _ => ?_)
    · refine k_iload_n (q := 1) C dX7_setHills_18 rfl rfl ?_
      refine k_iconst (v := 3) C dX7_setHills_19 rfl ?_
      refine k_imul C dX7_setHills_20 ?_
      refine k_iload_n (q := 2) C dX7_setHills_21 rfl rfl ?_
      refine k_iadd C dX7_setHills_22 ?_
      refine k_istore (lv' := [(4, .int ((a1 * 3) + a2)), (0, .ref (ad 159)), (1, .int a1), (2, .int a2), (3, .int a3)]) C dX7_setHills_23 (Nat.le_of_ble_eq_true rfl) rfl ?_
      refine k_bipush (v := 100) C dX7_setHills_25 rfl ?_
      refine k_aload_n (q := 1) C dX7_setHills_27 rfl rfl ?_
      refine c_get (b := 140) (ci := 7) (kf := 4) (N := 10) C rfl ⟨rfl, rfl⟩ am_159 rfl lay_7 kk_7_4 fl_7_27 rfl dX7_setHills_28 ?_
      refine k_iload (q := 0) C dX7_setHills_31 rfl ?_
      refine c_iald (i := 144) (v := S.2.1 144 ((a1 * 3) + a2).toNatClampNeg) C rfl am_144 ak_144 rfl rfl dX7_setHills_33 ?_
      refine k_imul C dX7_setHills_34 ?_
      refine k_aload_n (q := 1) C dX7_setHills_35 rfl rfl ?_
      refine c_get (b := 140) (ci := 7) (kf := 5) (N := 10) C rfl ⟨rfl, rfl⟩ am_159 rfl lay_7 kk_7_5 fl_7_30 rfl dX7_setHills_36 ?_
      refine k_iload (q := 0) C dX7_setHills_39 rfl ?_
      refine c_iald (i := 145) (v := S.2.1 145 ((a1 * 3) + a2).toNatClampNeg) C rfl am_145 ak_145 rfl rfl dX7_setHills_41 ?_
      refine k_iadd C dX7_setHills_42 ?_
      refine k_lti fun y3 => ?_
      refine k_istore (lv' := [(5, .int y3), (4, .int ((a1 * 3) + a2)), (0, .ref (ad 159)), (1, .int a1), (2, .int a2), (3, .int a3)]) C dX7_setHills_43 (Nat.le_of_ble_eq_true rfl) rfl ?_
      refine k_aload_n (q := 2) C dX7_setHills_45 rfl rfl ?_
      refine c_get (b := 140) (ci := 7) (kf := 4) (N := 10) C rfl ⟨rfl, rfl⟩ am_159 rfl lay_7 kk_7_4 fl_7_27 rfl dX7_setHills_46 ?_
      refine k_iload (q := 1) C dX7_setHills_49 rfl ?_
      refine k_iload_n (q := 5) C dX7_setHills_51 rfl rfl ?_
      refine k_bipush (v := 100) C dX7_setHills_52 rfl ?_
      refine k_idiv C dX7_setHills_54 (by decide) ?_
      refine c_iast (i := 144) C rfl am_144 ak_144 rfl dX7_setHills_55 ?_
      refine k_aload_n (q := 2) C dX7_setHills_56 rfl rfl ?_
      refine c_get (b := 140) (ci := 7) (kf := 5) (N := 10) C rfl ⟨rfl, rfl⟩ am_159 rfl lay_7 kk_7_5 fl_7_30 rfl dX7_setHills_57 ?_
      refine k_iload (q := 1) C dX7_setHills_60 rfl ?_
      refine k_iload_n (q := 5) C dX7_setHills_62 rfl rfl ?_
      refine k_bipush (v := 100) C dX7_setHills_63 rfl ?_
      refine k_irem C dX7_setHills_65 (by decide) ?_
      refine c_iast (i := 145) C rfl am_145 ak_145 rfl dX7_setHills_66 ?_
      refine k_iload (q := 0) C dX7_setHills_67 rfl ?_
      exact k_iret C rfl ⟨rfl, rfl⟩ dX7_setHills_69
    · refine k_iconst (v := (-1)) C dX7_setHills_16 rfl ?_
      exact k_iret C rfl ⟨rfl, rfl⟩ dX7_setHills_17
theorem ct_X7_setHills {l : Launch} {θ : TH} {ad Y : Nat → Nat} {S : St} {Z : Zt} {a1 : Int32} {a2 : Int32} {a3 : Int32}  : ∀ r, f_X7_setHills Z S a1 a2 a3 = some r → Ct l θ yX7_setHills cX7_setHills 6 (some .int) 1 0 0 [.ref (ad 159), .int a1, .int a2, .int a3] (wdC θ ad Y Z S) (PIS (wdC θ ad Y Z) r) :=
  fun r hr => Ct.of (by decide +kernel) (Nat.le_of_ble_eq_true rfl) (fun X _ C _ => kw_X7_setHills C  r hr)
set_option maxRecDepth 20000 in
theorem kw_X7_setWay {X : GX} {θ : TH} {ad Y : Nat → Nat} {Z : Zt} {S : St} {a1 : Int32} {a2 : Int32} {a3 : Int32} (C : CX (mE X θ (wdC θ ad Y Z S) 5) RX7 cX7_setWay (some .int) 1 0 0)  : Dk (mE X θ (wdC θ ad Y Z S) 5) (mT X θ (wdC θ ad Y Z S) 5 (PIS (wdC θ ad Y Z))) 0 0 (wdC θ ad Y Z S) [(0, .ref (ad 159)), (1, .int a1), (2, .int a2), (3, .int a3)] [] 0 (f_X7_setWay Z S a1 a2 a3) := by
  show Dk _ _ _ _ _ _ _ _ ((f_X7_hasValley Z S a1).bind fun r1 => (if r1 = 0 then some ((-1 : Int32), S) else (f_X7_hasValley Z S a2).bind fun r2 => (if r2 = 0 then some ((-1 : Int32), S) else chk (inr ((a1 * 5) + a2) 25) (lti (S.2.1 146 ((a1 * 5) + a2).toNatClampNeg) fun y3 => chk (inr ((a1 * 5) + a2) 25) (chk (inr ((a2 * 5) + a1) 25) (some (y3, sa (sa S 146 ((a1 * 5) + a2).toNatClampNeg a3) 146 ((a2 * 5) + a1).toNatClampNeg a3)))))))
  refine k_aload_n (q := 0) C dX7_setWay_0 rfl rfl ?_
  refine k_iload_n (q := 1) C dX7_setWay_1 rfl rfl ?_
  refine k_cVI C ct_X7_hasValley my_7_hasValley ml_7_46 rfl ⟨Nat.le_of_ble_eq_true rfl, Nat.le_of_ble_eq_true rfl⟩ (recvC (b := 140) (ci := 7) rfl ⟨rfl, rfl⟩ am_159 rfl rfl) rfl (Nat.le_of_ble_eq_true rfl) dX7_setWay_2 ⟨Nat.le_refl _, Nat.le_refl _⟩ (fun r1 _ => ?_)
  refine k_if_eq (tgt := 16) C dX7_setWay_5 (by decide) (fun _ => ?_) (fun _ => ?_)
  · refine k_iconst (v := (-1)) C dX7_setWay_16 rfl ?_
    exact k_iret C rfl ⟨rfl, rfl⟩ dX7_setWay_17
  · refine k_aload_n (q := 0) C dX7_setWay_8 rfl rfl ?_
    refine k_iload_n (q := 2) C dX7_setWay_9 rfl rfl ?_
    refine k_cVI C ct_X7_hasValley my_7_hasValley ml_7_46 rfl ⟨Nat.le_of_ble_eq_true rfl, Nat.le_of_ble_eq_true rfl⟩ (recvC (b := 140) (ci := 7) rfl ⟨rfl, rfl⟩ am_159 rfl rfl) rfl (Nat.le_of_ble_eq_true rfl) dX7_setWay_10 ⟨Nat.le_refl _, Nat.le_refl _⟩ (fun r2 _ => ?_)
    refine k_if_ne (tgt := 18) C dX7_setWay_13 (by decide) (fun _ => ?_) (fun _ => ?_)
    · refine k_aload_n (q := 0) C dX7_setWay_18 rfl rfl ?_
      refine c_get (b := 140) (ci := 7) (kf := 6) (N := 10) C rfl ⟨rfl, rfl⟩ am_159 rfl lay_7 kk_7_6 fl_7_33 rfl dX7_setWay_19 ?_
      refine k_iload_n (q := 1) C dX7_setWay_22 rfl rfl ?_
      refine k_iconst (v := 5) C dX7_setWay_23 rfl ?_
      refine k_imul C dX7_setWay_24 ?_
      refine k_iload_n (q := 2) C dX7_setWay_25 rfl rfl ?_
      refine k_iadd C dX7_setWay_26 ?_
      refine c_iald (i := 146) (v := S.2.1 146 ((a1 * 5) + a2).toNatClampNeg) C rfl am_146 ak_146 rfl rfl dX7_setWay_27 ?_
      refine k_lti fun y3 => ?_
      refine k_istore (lv' := [(4, .int y3), (0, .ref (ad 159)), (1, .int a1), (2, .int a2), (3, .int a3)]) C dX7_setWay_28 (Nat.le_of_ble_eq_true rfl) rfl ?_
      refine k_aload_n (q := 1) C dX7_setWay_30 rfl rfl ?_
      refine c_get (b := 140) (ci := 7) (kf := 6) (N := 10) C rfl ⟨rfl, rfl⟩ am_159 rfl lay_7 kk_7_6 fl_7_33 rfl dX7_setWay_31 ?_
      refine k_iload_n (q := 2) C dX7_setWay_34 rfl rfl ?_
      refine k_iconst (v := 5) C dX7_setWay_35 rfl ?_
      refine k_imul C dX7_setWay_36 ?_
      refine k_iload_n (q := 3) C dX7_setWay_37 rfl rfl ?_
      refine k_iadd C dX7_setWay_38 ?_
      refine k_iload_n (q := 4) C dX7_setWay_39 rfl rfl ?_
      refine c_iast (i := 146) C rfl am_146 ak_146 rfl dX7_setWay_40 ?_
      refine k_aload_n (q := 1) C dX7_setWay_41 rfl rfl ?_
      refine c_get (b := 140) (ci := 7) (kf := 6) (N := 10) C rfl ⟨rfl, rfl⟩ am_159 rfl lay_7 kk_7_6 fl_7_33 rfl dX7_setWay_42 ?_
      refine k_iload_n (q := 3) C dX7_setWay_45 rfl rfl ?_
      refine k_iconst (v := 5) C dX7_setWay_46 rfl ?_
      refine k_imul C dX7_setWay_47 ?_
      refine k_iload_n (q := 2) C dX7_setWay_48 rfl rfl ?_
      refine k_iadd C dX7_setWay_49 ?_
      refine k_iload_n (q := 4) C dX7_setWay_50 rfl rfl ?_
      refine c_iast (i := 146) C rfl am_146 ak_146 rfl dX7_setWay_51 ?_
      refine k_iload (q := 0) C dX7_setWay_52 rfl ?_
      exact k_iret C rfl ⟨rfl, rfl⟩ dX7_setWay_54
    · refine k_iconst (v := (-1)) C dX7_setWay_16 rfl ?_
      exact k_iret C rfl ⟨rfl, rfl⟩ dX7_setWay_17
theorem ct_X7_setWay {l : Launch} {θ : TH} {ad Y : Nat → Nat} {S : St} {Z : Zt} {a1 : Int32} {a2 : Int32} {a3 : Int32}  : ∀ r, f_X7_setWay Z S a1 a2 a3 = some r → Ct l θ yX7_setWay cX7_setWay 5 (some .int) 1 0 0 [.ref (ad 159), .int a1, .int a2, .int a3] (wdC θ ad Y Z S) (PIS (wdC θ ad Y Z) r) :=
  fun r hr => Ct.of (by decide +kernel) (Nat.le_of_ble_eq_true rfl) (fun X _ C _ => kw_X7_setWay C  r hr)
set_option maxRecDepth 20000 in
theorem kb_X7_hoursWith_L6 {X : GX} {θ : TH} {ad Y : Nat → Nat} {F : Nat} {Z : Zt} {S : St} {a1 : Int32} {a2 : Int32} {a3 : Int32} {a4 : Int32} (C : CX (mE X θ (wdC θ ad Y Z S) 7) RX7 cX7_hoursWith (some .int) 2 0 0)  : ∀ (n : Nat) (x5 : Int32) (x6 : Int32), Dk (mE X θ (wdC θ ad Y Z S) 7) (mT X θ (wdC θ ad Y Z S) 7 (PI (wdC θ ad Y Z S))) 0 0 (wdC θ ad Y Z S) [(0, .ref (ad 159)), (1, .int a1), (2, .int a2), (3, .int a3), (4, .int a4), (5, .int x5), (6, .int x6)] [] 6 (f_X7_hoursWith_L6 F Z S a1 a2 a3 a4 n x5 x6) := by
  intro n
  induction n with
  | zero => intro x5 x6; exact Dk.none
  | succ n ih =>
    intro x5 x6
    show Dk _ _ _ _ _ _ _ _ (if a3 ≤ x6 then some x5 else (f_X7_upIn F Z S a1 (a2 + x6)).bind fun r1 => (if r1 = a4 then f_X7_hoursWith_L6 F Z S a1 a2 a3 a4 n (x5 + 1) (x6 + 1) else f_X7_hoursWith_L6 F Z S a1 a2 a3 a4 n x5 (x6 + 1)))
    refine k_iload (q := 6) C dX7_hoursWith_6 rfl ?_
    refine k_iload_n (q := 3) C dX7_hoursWith_8 rfl rfl ?_
    refine k_icmp_ge (tgt := 35) C dX7_hoursWith_9 (by decide) (fun _ => ?_) (fun _ => ?_)
    · refine k_iload (q := 5) C dX7_hoursWith_35 rfl ?_
      exact k_iret C rfl ⟨rfl, rfl⟩ dX7_hoursWith_37
    · refine k_aload_n (q := 0) C dX7_hoursWith_12 rfl rfl ?_
      refine k_iload_n (q := 1) C dX7_hoursWith_13 rfl rfl ?_
      refine k_iload_n (q := 2) C dX7_hoursWith_14 rfl rfl ?_
      refine k_iload (q := 6) C dX7_hoursWith_15 rfl ?_
      refine k_iadd C dX7_hoursWith_17 ?_
      refine k_cVI C ct_X7_upIn my_7_upIn ml_7_65 rfl ⟨Nat.le_of_ble_eq_true rfl, Nat.le_of_ble_eq_true rfl⟩ (recvC (b := 140) (ci := 7) rfl ⟨rfl, rfl⟩ am_159 rfl rfl) rfl (Nat.le_of_ble_eq_true rfl) dX7_hoursWith_18 ⟨Nat.le_refl _, Nat.le_refl _⟩ (fun r1 _ => ?_)
      refine k_iload (q := 4) C dX7_hoursWith_21 rfl ?_
      refine k_icmp_ne (tgt := 29) C dX7_hoursWith_23 (by decide) (fun _ => ?_) (fun _ => ?_)
      · refine k_iinc (q := 6) (v := x6 + 1) (lv' := [(6, .int (x6 + 1)), (0, .ref (ad 159)), (1, .int a1), (2, .int a2), (3, .int a3), (4, .int a4), (5, .int x5)]) C dX7_hoursWith_29 rfl rfl (Nat.le_of_ble_eq_true rfl) rfl ?_
        refine k_goto (tgt := 6) C dX7_hoursWith_32 (by decide) ?_
        refine Dk.loc [1, 2, 3, 4, 5, 6, 0] rfl ?_
        exact ih _ _
      · refine k_iinc (q := 5) (v := x5 + 1) (lv' := [(5, .int (x5 + 1)), (0, .ref (ad 159)), (1, .int a1), (2, .int a2), (3, .int a3), (4, .int a4), (6, .int x6)]) C dX7_hoursWith_26 rfl rfl (Nat.le_of_ble_eq_true rfl) rfl ?_
        refine k_iinc (q := 6) (v := x6 + 1) (lv' := [(6, .int (x6 + 1)), (5, .int (x5 + 1)), (0, .ref (ad 159)), (1, .int a1), (2, .int a2), (3, .int a3), (4, .int a4)]) C dX7_hoursWith_29 rfl rfl (Nat.le_of_ble_eq_true rfl) rfl ?_
        refine k_goto (tgt := 6) C dX7_hoursWith_32 (by decide) ?_
        refine Dk.loc [2, 3, 4, 5, 6, 1, 0] rfl ?_
        exact ih _ _
set_option maxRecDepth 20000 in
theorem kw_X7_hoursWith {X : GX} {θ : TH} {ad Y : Nat → Nat} {F : Nat} {Z : Zt} {S : St} {a1 : Int32} {a2 : Int32} {a3 : Int32} {a4 : Int32} (C : CX (mE X θ (wdC θ ad Y Z S) 7) RX7 cX7_hoursWith (some .int) 2 0 0)  : Dk (mE X θ (wdC θ ad Y Z S) 7) (mT X θ (wdC θ ad Y Z S) 7 (PI (wdC θ ad Y Z S))) 0 0 (wdC θ ad Y Z S) [(0, .ref (ad 159)), (1, .int a1), (2, .int a2), (3, .int a3), (4, .int a4)] [] 0 (f_X7_hoursWith F Z S a1 a2 a3 a4) := by
  show Dk _ _ _ _ _ _ _ _ (f_X7_hoursWith_L6 F Z S a1 a2 a3 a4 F 0 0)
  refine k_iconst (v := 0) C dX7_hoursWith_0 rfl ?_
  refine k_istore (lv' := [(5, .int 0), (0, .ref (ad 159)), (1, .int a1), (2, .int a2), (3, .int a3), (4, .int a4)]) C dX7_hoursWith_1 (Nat.le_of_ble_eq_true rfl) rfl ?_
  refine k_iconst (v := 0) C dX7_hoursWith_3 rfl ?_
  refine k_istore (lv' := [(6, .int 0), (5, .int 0), (0, .ref (ad 159)), (1, .int a1), (2, .int a2), (3, .int a3), (4, .int a4)]) C dX7_hoursWith_4 (Nat.le_of_ble_eq_true rfl) rfl ?_
  refine Dk.loc [2, 3, 4, 5, 6, 1, 0] rfl ?_
  exact kb_X7_hoursWith_L6 C _ _ _
theorem ct_X7_hoursWith {l : Launch} {θ : TH} {ad Y : Nat → Nat} {S : St} {F : Nat} {Z : Zt} {a1 : Int32} {a2 : Int32} {a3 : Int32} {a4 : Int32}  : ∀ r, f_X7_hoursWith F Z S a1 a2 a3 a4 = some r → Ct l θ yX7_hoursWith cX7_hoursWith 7 (some .int) 2 0 0 [.ref (ad 159), .int a1, .int a2, .int a3, .int a4] (wdC θ ad Y Z S) (PI (wdC θ ad Y Z S) r) :=
  fun r hr => Ct.of (by decide +kernel) (Nat.le_of_ble_eq_true rfl) (fun X _ C _ => kw_X7_hoursWith C  r hr)
set_option maxRecDepth 20000 in
theorem kw_X9_size {X : GX} {θ : TH} {ad Y : Nat → Nat} {Z : Zt} {S : St}  (C : CX (mE X θ (wdC θ ad Y Z S) 1) RX9 cX9_size (some .int) 0 0 0)  : Dk (mE X θ (wdC θ ad Y Z S) 1) (mT X θ (wdC θ ad Y Z S) 1 (PI (wdC θ ad Y Z S))) 0 0 (wdC θ ad Y Z S) [(0, .ref (ad 199))] [] 0 (f_X9_size Z S) := by
  show Dk _ _ _ _ _ _ _ _ (some (S.1 186))
  refine k_aload_n (q := 0) C dX9_size_0 rfl rfl ?_
  refine c_get (b := 180) (ci := 9) (kf := 6) (N := 7) (v := .int (S.1 186)) C rfl ⟨rfl, rfl⟩ am_199 rfl lay_9 kk_9_6 fl_9_21 rfl dX9_size_1 ?_
  exact k_iret C rfl ⟨rfl, rfl⟩ dX9_size_4
theorem ct_X9_size {l : Launch} {θ : TH} {ad Y : Nat → Nat} {S : St} {Z : Zt}   : ∀ r, f_X9_size Z S = some r → Ct l θ yX9_size cX9_size 1 (some .int) 0 0 0 [.ref (ad 199)] (wdC θ ad Y Z S) (PI (wdC θ ad Y Z S) r) :=
  fun r hr => Ct.of (by decide +kernel) (Nat.le_of_ble_eq_true rfl) (fun X _ C _ => kw_X9_size C  r hr)
set_option maxRecDepth 20000 in
theorem kw_X9_has {X : GX} {θ : TH} {ad Y : Nat → Nat} {Z : Zt} {S : St} {a1 : Int32} (C : CX (mE X θ (wdC θ ad Y Z S) 2) RX9 cX9_has (some .boolean) 0 0 0)  : Dk (mE X θ (wdC θ ad Y Z S) 2) (mT X θ (wdC θ ad Y Z S) 2 (PI (wdC θ ad Y Z S))) 0 0 (wdC θ ad Y Z S) [(0, .ref (ad 199)), (1, .int a1)] [] 0 (f_X9_has Z S a1) := by
  show Dk _ _ _ _ _ _ _ _ (if a1 < 0 then some ((0 : Int32)) else if (S.1 186) ≤ a1 then some ((0 : Int32)) else if (20 : Int32) ≤ a1 then some ((0 : Int32)) else some ((1 : Int32)))
  refine k_iload_n (q := 1) C dX9_has_0 rfl rfl ?_
  refine k_if_lt (tgt := 22) C dX9_has_1 (by decide) (fun _ => ?_) (fun _ => ?_)
  · refine k_iconst (v := 0) C dX9_has_22 rfl ?_
    exact k_iret C rfl ⟨rfl, rfl⟩ dX9_has_23
  · refine k_iload_n (q := 1) C dX9_has_4 rfl rfl ?_
    refine k_aload_n (q := 0) C dX9_has_5 rfl rfl ?_
    refine c_get (b := 180) (ci := 9) (kf := 6) (N := 7) (v := .int (S.1 186)) C rfl ⟨rfl, rfl⟩ am_199 rfl lay_9 kk_9_6 fl_9_21 rfl dX9_has_6 ?_
    refine k_icmp_ge (tgt := 22) C dX9_has_9 (by decide) (fun _ => ?_) (fun _ => ?_)
    · refine k_iconst (v := 0) C dX9_has_22 rfl ?_
      exact k_iret C rfl ⟨rfl, rfl⟩ dX9_has_23
    · refine k_iload_n (q := 1) C dX9_has_12 rfl rfl ?_
      refine k_bipush (v := 20) C dX9_has_13 rfl ?_
      refine k_icmp_ge (tgt := 22) C dX9_has_15 (by decide) (fun _ => ?_) (fun _ => ?_)
      · refine k_iconst (v := 0) C dX9_has_22 rfl ?_
        exact k_iret C rfl ⟨rfl, rfl⟩ dX9_has_23
      · refine k_iconst (v := 1) C dX9_has_18 rfl ?_
        refine k_goto (tgt := 23) C dX9_has_19 (by decide) ?_
        exact k_iret C rfl ⟨rfl, rfl⟩ dX9_has_23
theorem ct_X9_has {l : Launch} {θ : TH} {ad Y : Nat → Nat} {S : St} {Z : Zt} {a1 : Int32}  : ∀ r, f_X9_has Z S a1 = some r → Ct l θ yX9_has cX9_has 2 (some .boolean) 0 0 0 [.ref (ad 199), .int a1] (wdC θ ad Y Z S) (PI (wdC θ ad Y Z S) r) :=
  fun r hr => Ct.of (by decide +kernel) (Nat.le_of_ble_eq_true rfl) (fun X _ C _ => kw_X9_has C  r hr)
set_option maxRecDepth 20000 in
theorem kw_X9_add {X : GX} {θ : TH} {ad Y : Nat → Nat} {Z : Zt} {S : St} {a1 : Int32} {a2 : Int32} {a3 : Int32} (C : CX (mE X θ (wdC θ ad Y Z S) 4) RX9 cX9_add (some .int) 0 0 0)  : Dk (mE X θ (wdC θ ad Y Z S) 4) (mT X θ (wdC θ ad Y Z S) 4 (PIS (wdC θ ad Y Z))) 0 0 (wdC θ ad Y Z S) [(0, .ref (ad 199)), (1, .int a1), (2, .int a2), (3, .int a3)] [] 0 (f_X9_add Z S a1 a2 a3) := by
  show Dk _ _ _ _ _ _ _ _ (if (S.1 186) < 20 then chk (inr (S.1 186) 20) (chk (inr (S.1 186) 20) (chk (inr (S.1 186) 20) (some (S.1 186, sf (sa (sa (sa S 183 (S.1 186).toNatClampNeg a1) 184 (S.1 186).toNatClampNeg a2) 185 (S.1 186).toNatClampNeg a3) 186 ((S.1 186) + 1))))) else some ((-3 : Int32), S))
  refine k_aload_n (q := 0) C dX9_add_0 rfl rfl ?_
  refine c_get (b := 180) (ci := 9) (kf := 6) (N := 7) (v := .int (S.1 186)) C rfl ⟨rfl, rfl⟩ am_199 rfl lay_9 kk_9_6 fl_9_21 rfl dX9_add_1 ?_
  refine k_bipush (v := 20) C dX9_add_4 rfl ?_
  refine k_icmp_lt (tgt := 12) C dX9_add_6 (by decide) (fun _ => ?_) (fun _ => ?_)
  · refine k_aload_n (q := 0) C dX9_add_12 rfl rfl ?_
    refine c_get (b := 180) (ci := 9) (kf := 3) (N := 7) C rfl ⟨rfl, rfl⟩ am_199 rfl lay_9 kk_9_3 fl_9_9 rfl dX9_add_13 ?_
    refine k_aload_n (q := 0) C dX9_add_16 rfl rfl ?_
    refine c_get (b := 180) (ci := 9) (kf := 6) (N := 7) (v := .int (S.1 186)) C rfl ⟨rfl, rfl⟩ am_199 rfl lay_9 kk_9_6 fl_9_21 rfl dX9_add_17 ?_
    refine k_iload_n (q := 1) C dX9_add_20 rfl rfl ?_
    refine c_iast (i := 183) C rfl am_183 ak_183 rfl dX9_add_21 ?_
    refine k_aload_n (q := 0) C dX9_add_22 rfl rfl ?_
    refine c_get (b := 180) (ci := 9) (kf := 4) (N := 7) C rfl ⟨rfl, rfl⟩ am_199 rfl lay_9 kk_9_4 fl_9_15 rfl dX9_add_23 ?_
    refine k_aload_n (q := 0) C dX9_add_26 rfl rfl ?_
    refine c_get (b := 180) (ci := 9) (kf := 6) (N := 7) (v := .int (S.1 186)) C rfl ⟨rfl, rfl⟩ am_199 rfl lay_9 kk_9_6 fl_9_21 rfl dX9_add_27 ?_
    refine k_iload_n (q := 2) C dX9_add_30 rfl rfl ?_
    refine c_iast (i := 184) C rfl am_184 ak_184 rfl dX9_add_31 ?_
    refine k_aload_n (q := 0) C dX9_add_32 rfl rfl ?_
    refine c_get (b := 180) (ci := 9) (kf := 5) (N := 7) C rfl ⟨rfl, rfl⟩ am_199 rfl lay_9 kk_9_5 fl_9_18 rfl dX9_add_33 ?_
    refine k_aload_n (q := 0) C dX9_add_36 rfl rfl ?_
    refine c_get (b := 180) (ci := 9) (kf := 6) (N := 7) (v := .int (S.1 186)) C rfl ⟨rfl, rfl⟩ am_199 rfl lay_9 kk_9_6 fl_9_21 rfl dX9_add_37 ?_
    refine k_iload_n (q := 3) C dX9_add_40 rfl rfl ?_
    refine c_iast (i := 185) C rfl am_185 ak_185 rfl dX9_add_41 ?_
    refine k_aload_n (q := 0) C dX9_add_42 rfl rfl ?_
    refine k_dup C dX9_add_43 rfl ?_
    refine c_get (b := 180) (ci := 9) (kf := 6) (N := 7) (v := .int (S.1 186)) C rfl ⟨rfl, rfl⟩ am_199 rfl lay_9 kk_9_6 fl_9_21 rfl dX9_add_44 ?_
    refine k_dup_x1 C dX9_add_47 rfl rfl ?_
    refine k_iconst (v := 1) C dX9_add_48 rfl ?_
    refine k_iadd C dX9_add_49 ?_
    refine c_puti (b := 180) (ci := 9) (kf := 6) (N := 7) C rfl ⟨rfl, rfl⟩ am_199 rfl lay_9 tyX9 tyX9_ok nmX9 kk_9_6 fl_9_21 pf_9_6 dX9_add_50 ?_
    exact k_iret C rfl ⟨rfl, rfl⟩ dX9_add_53
  · refine k_bipush (v := (-3)) C dX9_add_9 rfl ?_
    exact k_iret C rfl ⟨rfl, rfl⟩ dX9_add_11
theorem ct_X9_add {l : Launch} {θ : TH} {ad Y : Nat → Nat} {S : St} {Z : Zt} {a1 : Int32} {a2 : Int32} {a3 : Int32}  : ∀ r, f_X9_add Z S a1 a2 a3 = some r → Ct l θ yX9_add cX9_add 4 (some .int) 0 0 0 [.ref (ad 199), .int a1, .int a2, .int a3] (wdC θ ad Y Z S) (PIS (wdC θ ad Y Z) r) :=
  fun r hr => Ct.of (by decide +kernel) (Nat.le_of_ble_eq_true rfl) (fun X _ C _ => kw_X9_add C  r hr)
set_option maxRecDepth 20000 in
theorem kb_X9_firstBroken_L2 {X : GX} {θ : TH} {ad : Nat → Nat} {Y0 : Nat → Nat} {S0 : St} {Z0 : Zt} {F : Nat} (C : CX (mE X θ (wdC θ ad Y0 Z0 S0) 2) RX9 cX9_firstBroken (some .int) 5 (nd 80 Z0) (9216 * nd 80 Z0))  : ∀ (n : Nat) (S : St) (Z : Zt) (x1 : Int32) (Y : Nat → Nat) (k1 n1 : Nat) (hb : BD1 k1 n1 Z (nd 80 Z0) (9216 * nd 80 Z0)), Dk (mE X θ (wdC θ ad Y0 Z0 S0) 2) (mTa X θ (wdC θ ad Y0 Z0 S0) 2 (nd 80 Z0) (9216 * nd 80 Z0) (PIA θ ad)) k1 n1 (wdC θ ad Y Z S) [(0, .ref (ad 199)), (1, .int x1)] [] 2 (f_X9_firstBroken_L2 F n S Z x1) := by
  intro n
  induction n with
  | zero => intro S Z x1 Y k1 n1 hb; exact Dk.none
  | succ n ih =>
    intro S Z x1 Y k1 n1 hb
    show Dk _ _ _ _ _ _ _ _ (if (S.1 186) ≤ x1 then some ((-2 : Int32), S, Z) else if (20 : Int32) ≤ x1 then some ((-2 : Int32), S, Z) else chk (inr x1 20) (chk (inr x1 20) ((f_X4_open F 80 S Z (S.2.1 183 (x1).toNatClampNeg) (S.2.1 184 (x1).toNatClampNeg)).bind fun r1 => chk (inr x1 20) ((f_X4_costBegun F 80 r1.2 r1.1 (r1.1.2.1 185 (x1).toNatClampNeg)).bind fun r5 => (if (0 : Int32) ≤ r5.1 then f_X9_firstBroken_L2 F n r5.2 r1.2 (x1 + 1) else some (x1, r5.2, r1.2))))))
    refine k_iload_n (q := 1) C dX9_firstBroken_2 rfl rfl ?_
    refine k_aload_n (q := 0) C dX9_firstBroken_3 rfl rfl ?_
    refine c_get (b := 180) (ci := 9) (kf := 6) (N := 7) (v := .int (S.1 186)) C rfl ⟨rfl, rfl⟩ am_199 rfl lay_9 kk_9_6 fl_9_21 rfl dX9_firstBroken_4 ?_
    refine k_icmp_ge (tgt := 59) C dX9_firstBroken_7 (by decide) (fun _ => ?_) (fun _ => ?_)
    · refine k_bipush (v := (-2)) C dX9_firstBroken_59 rfl ?_
      exact k_iretA hb.e C ⟨rfl, _, rfl⟩ dX9_firstBroken_61
    · refine k_iload_n (q := 1) C dX9_firstBroken_10 rfl rfl ?_
      refine k_bipush (v := 20) C dX9_firstBroken_11 rfl ?_
      refine k_icmp_ge (tgt := 59) C dX9_firstBroken_13 (by decide) (fun _ => ?_) (fun _ => ?_)
      · refine k_bipush (v := (-2)) C dX9_firstBroken_59 rfl ?_
        exact k_iretA hb.e C ⟨rfl, _, rfl⟩ dX9_firstBroken_61
      · refine k_aload_n (q := 0) C dX9_firstBroken_16 rfl rfl ?_
        refine c_get (b := 180) (ci := 9) (kf := 2) (N := 7) C rfl ⟨rfl, rfl⟩ am_199 rfl lay_9 kk_9_2 fl_9_33 rfl dX9_firstBroken_17 ?_
        refine k_aload_n (q := 0) C dX9_firstBroken_20 rfl rfl ?_
        refine c_get (b := 180) (ci := 9) (kf := 3) (N := 7) C rfl ⟨rfl, rfl⟩ am_199 rfl lay_9 kk_9_3 fl_9_9 rfl dX9_firstBroken_21 ?_
        refine k_iload_n (q := 1) C dX9_firstBroken_24 rfl rfl ?_
        refine c_iald (i := 183) (v := S.2.1 183 (x1).toNatClampNeg) C rfl am_183 ak_183 rfl rfl dX9_firstBroken_25 ?_
        refine k_aload_n (q := 0) C dX9_firstBroken_26 rfl rfl ?_
        refine c_get (b := 180) (ci := 9) (kf := 4) (N := 7) C rfl ⟨rfl, rfl⟩ am_199 rfl lay_9 kk_9_4 fl_9_15 rfl dX9_firstBroken_27 ?_
        refine k_iload_n (q := 1) C dX9_firstBroken_30 rfl rfl ?_
        refine c_iald (i := 184) (v := S.2.1 184 (x1).toNatClampNeg) C rfl am_184 ak_184 rfl rfl dX9_firstBroken_31 ?_
        refine k_cAV C ct_X4_open_80 my_4_open ml_9_37 rfl ⟨Nat.le_of_ble_eq_true rfl, Nat.le_of_ble_eq_true rfl⟩ (recvC (b := 80) (ci := 4) rfl ⟨rfl, rfl⟩ am_99 rfl rfl) rfl (Nat.le_of_ble_eq_true rfl) dX9_firstBroken_32 hb (fun r1 Y2 hr3 => ?_)
        refine k_aload_n (q := 0) C dX9_firstBroken_35 rfl rfl ?_
        refine c_get (b := 180) (ci := 9) (kf := 2) (N := 7) C rfl ⟨rfl, rfl⟩ am_199 rfl lay_9 kk_9_2 fl_9_33 rfl dX9_firstBroken_36 ?_
        refine k_aload_n (q := 0) C dX9_firstBroken_39 rfl rfl ?_
        refine c_get (b := 180) (ci := 9) (kf := 5) (N := 7) C rfl ⟨rfl, rfl⟩ am_199 rfl lay_9 kk_9_5 fl_9_18 rfl dX9_firstBroken_40 ?_
        refine k_iload_n (q := 1) C dX9_firstBroken_43 rfl rfl ?_
        refine c_iald (i := 185) (v := r1.1.2.1 185 (x1).toNatClampNeg) C rfl am_185 ak_185 rfl rfl dX9_firstBroken_44 ?_
        refine k_cVI C ct_X4_costBegun_80 my_4_costBegun ml_9_43 rfl ⟨Nat.le_of_ble_eq_true rfl, Nat.le_of_ble_eq_true rfl⟩ (recvC (b := 80) (ci := 4) rfl ⟨rfl, rfl⟩ am_99 rfl rfl) rfl (Nat.le_of_ble_eq_true rfl) dX9_firstBroken_45 (BD1.o hb (za_open1 hr3)).e (fun r5 _ => ?_)
        refine k_if_ge (tgt := 53) C dX9_firstBroken_48 (by decide) (fun _ => ?_) (fun _ => ?_)
        · refine k_iinc (q := 1) (v := x1 + 1) (lv' := [(1, .int (x1 + 1)), (0, .ref (ad 199))]) C dX9_firstBroken_53 rfl rfl (Nat.le_of_ble_eq_true rfl) rfl ?_
          refine k_goto (tgt := 2) C dX9_firstBroken_56 (by decide) ?_
          refine Dk.loc [1, 0] rfl ?_
          exact ih _ _ _ _ _ _ (BD1.o hb (za_open1 hr3))
        · refine k_iload_n (q := 1) C dX9_firstBroken_51 rfl rfl ?_
          exact k_iretA (BD1.o hb (za_open1 hr3)).e C ⟨rfl, _, rfl⟩ dX9_firstBroken_52
set_option maxRecDepth 20000 in
theorem kw_X9_firstBroken {X : GX} {θ : TH} {ad : Nat → Nat} {Y : Nat → Nat} {F : Nat} {S : St} {Z : Zt}  (C : CX (mE X θ (wdC θ ad Y Z S) 2) RX9 cX9_firstBroken (some .int) 5 (nd 80 Z) (9216 * nd 80 Z))  : Dk (mE X θ (wdC θ ad Y Z S) 2) (mTa X θ (wdC θ ad Y Z S) 2 (nd 80 Z) (9216 * nd 80 Z) (PIA θ ad)) 0 0 (wdC θ ad Y Z S) [(0, .ref (ad 199))] [] 0 (f_X9_firstBroken F S Z) := by
  have hb := @BD1.z Z
  show Dk _ _ _ _ _ _ _ _ (f_X9_firstBroken_L2 F F S Z 0)
  refine k_iconst (v := 0) C dX9_firstBroken_0 rfl ?_
  refine k_istore_n (lv' := [(1, .int 0), (0, .ref (ad 199))]) C dX9_firstBroken_1 rfl (Nat.le_of_ble_eq_true rfl) rfl ?_
  refine Dk.loc [1, 0] rfl ?_
  exact kb_X9_firstBroken_L2 C _ _ _ _ _ _ _ hb
theorem ct_X9_firstBroken {l : Launch} {θ : TH} {ad Y : Nat → Nat} {S : St} {Z : Zt} {F : Nat}   : ∀ r, f_X9_firstBroken F S Z = some r → Ct l θ yX9_firstBroken cX9_firstBroken 2 (some .int) 5 (nd 80 Z) (9216 * nd 80 Z) [.ref (ad 199)] (wdC θ ad Y Z S) (PIA θ ad r) :=
  fun r hr => Ct.of (by decide +kernel) (Nat.le_of_ble_eq_true rfl) (fun X _ C _ => kw_X9_firstBroken C  r hr)
set_option maxRecDepth 20000 in
theorem kb_X9_nearestLawful_B74 {X : GX} {θ : TH} {ad : Nat → Nat} {Y0 : Nat → Nat} {S0 : St} {Z0 : Zt} {F : Nat} {a1 : Int32} {K31 : St → Zt → Int32 → Option (Int32 × St × Zt)} (C : CX (mE X θ (wdC θ ad Y0 Z0 S0) 5) RX9 cX9_nearestLawful (some .int) 5 (nd 80 Z0) (9216 * nd 80 Z0)) (hK31 : ∀ (S : St) (Z : Zt) (x2 : Int32) (Y : Nat → Nat) (k1 n1 : Nat) (hb : BD1 k1 n1 Z (nd 80 Z0) (9216 * nd 80 Z0)), Dk (mE X θ (wdC θ ad Y0 Z0 S0) 5) (mTa X θ (wdC θ ad Y0 Z0 S0) 5 (nd 80 Z0) (9216 * nd 80 Z0) (PIA θ ad)) k1 n1 (wdC θ ad Y Z S) [(0, .ref (ad 199)), (1, .int a1), (2, .int x2)] [] 31 (K31 S Z x2)) (S : St) (Z : Zt) (x2 : Int32) (x4 : Int32) (Y : Nat → Nat) (k1 n1 : Nat) (hb : BD1 k1 n1 Z (nd 80 Z0) (9216 * nd 80 Z0)) : Dk (mE X θ (wdC θ ad Y0 Z0 S0) 5) (mTa X θ (wdC θ ad Y0 Z0 S0) 5 (nd 80 Z0) (9216 * nd 80 Z0) (PIA θ ad)) k1 n1 (wdC θ ad Y Z S) [(0, .ref (ad 199)), (1, .int a1), (2, .int x2), (4, .int x4)] [] 74 (f_X9_nearestLawful_B74 F a1 K31 S Z x2 x4) := by
  show Dk _ _ _ _ _ _ _ _ (if (999999 : Int32) < x4 then K31 S Z (x2 + 1) else (f_X4_costBegun F 80 Z S x4).bind fun r9 => (if r9.1 < 0 then K31 r9.2 Z (x2 + 1) else some (x4, r9.2, Z)))
  refine k_iload (q := 3) C dX9_nearestLawful_74 rfl ?_
  refine k_ldc C co_9_51 dX9_nearestLawful_76 ?_
  refine k_icmp_gt (tgt := 96) C dX9_nearestLawful_78 (by decide) (fun _ => ?_) (fun _ => ?_)
  · refine k_iinc (q := 2) (v := x2 + 1) (lv' := [(2, .int (x2 + 1)), (0, .ref (ad 199)), (1, .int a1), (4, .int x4)]) C dX9_nearestLawful_96 rfl rfl (Nat.le_of_ble_eq_true rfl) rfl ?_
    refine k_goto (tgt := 31) C dX9_nearestLawful_99 (by decide) ?_
    refine Dk.loc [1, 2, 0] rfl ?_
    exact hK31 _ _ _ _ _ _ hb
  · refine k_aload_n (q := 0) C dX9_nearestLawful_81 rfl rfl ?_
    refine c_get (b := 180) (ci := 9) (kf := 2) (N := 7) C rfl ⟨rfl, rfl⟩ am_199 rfl lay_9 kk_9_2 fl_9_33 rfl dX9_nearestLawful_82 ?_
    refine k_iload (q := 3) C dX9_nearestLawful_85 rfl ?_
    refine k_cVI C ct_X4_costBegun_80 my_4_costBegun ml_9_43 rfl ⟨Nat.le_of_ble_eq_true rfl, Nat.le_of_ble_eq_true rfl⟩ (recvC (b := 80) (ci := 4) rfl ⟨rfl, rfl⟩ am_99 rfl rfl) rfl (Nat.le_of_ble_eq_true rfl) dX9_nearestLawful_87 hb.e (fun r9 _ => ?_)
    refine k_if_lt (tgt := 96) C dX9_nearestLawful_90 (by decide) (fun _ => ?_) (fun _ => ?_)
    · refine k_iinc (q := 2) (v := x2 + 1) (lv' := [(2, .int (x2 + 1)), (0, .ref (ad 199)), (1, .int a1), (4, .int x4)]) C dX9_nearestLawful_96 rfl rfl (Nat.le_of_ble_eq_true rfl) rfl ?_
      refine k_goto (tgt := 31) C dX9_nearestLawful_99 (by decide) ?_
      refine Dk.loc [1, 2, 0] rfl ?_
      exact hK31 _ _ _ _ _ _ hb
    · refine k_iload (q := 3) C dX9_nearestLawful_93 rfl ?_
      exact k_iretA hb.e C ⟨rfl, _, rfl⟩ dX9_nearestLawful_95
set_option maxRecDepth 20000 in
theorem kb_X9_nearestLawful_L31 {X : GX} {θ : TH} {ad : Nat → Nat} {Y0 : Nat → Nat} {S0 : St} {Z0 : Zt} {F : Nat} {a1 : Int32} (C : CX (mE X θ (wdC θ ad Y0 Z0 S0) 5) RX9 cX9_nearestLawful (some .int) 5 (nd 80 Z0) (9216 * nd 80 Z0))  : ∀ (n : Nat) (S : St) (Z : Zt) (x2 : Int32) (Y : Nat → Nat) (k1 n1 : Nat) (hb : BD1 k1 n1 Z (nd 80 Z0) (9216 * nd 80 Z0)), Dk (mE X θ (wdC θ ad Y0 Z0 S0) 5) (mTa X θ (wdC θ ad Y0 Z0 S0) 5 (nd 80 Z0) (9216 * nd 80 Z0) (PIA θ ad)) k1 n1 (wdC θ ad Y Z S) [(0, .ref (ad 199)), (1, .int a1), (2, .int x2)] [] 31 (f_X9_nearestLawful_L31 F a1 n S Z x2) := by
  intro n
  induction n with
  | zero => intro S Z x2 Y k1 n1 hb; exact Dk.none
  | succ n ih =>
    intro S Z x2 Y k1 n1 hb
    show Dk _ _ _ _ _ _ _ _ (if (500 : Int32) < x2 then some ((-2 : Int32), S, Z) else chk (inr a1 20) (lti ((S.2.1 185 (a1).toNatClampNeg) - x2) fun y6 => chk (inr a1 20) (lti ((S.2.1 185 (a1).toNatClampNeg) + x2) fun y7 => (if y6 < 0 then f_X9_nearestLawful_B74 F a1 (f_X9_nearestLawful_L31 F a1 n) S Z x2 y7 else (f_X4_costBegun F 80 Z S y6).bind fun r8 => (if r8.1 < 0 then f_X9_nearestLawful_B74 F a1 (f_X9_nearestLawful_L31 F a1 n) r8.2 Z x2 y7 else some (y6, r8.2, Z))))))
    refine k_iload_n (q := 2) C dX9_nearestLawful_31 rfl rfl ?_
    refine k_sipush (v := 500) C dX9_nearestLawful_32 rfl ?_
    refine k_icmp_gt (tgt := 102) C dX9_nearestLawful_35 (by decide) (fun _ => ?_) (fun _ => ?_)
    · refine k_bipush (v := (-2)) C dX9_nearestLawful_102 rfl ?_
      exact k_iretA hb.e C ⟨rfl, _, rfl⟩ dX9_nearestLawful_104
    · refine k_aload_n (q := 0) C dX9_nearestLawful_38 rfl rfl ?_
      refine c_get (b := 180) (ci := 9) (kf := 5) (N := 7) C rfl ⟨rfl, rfl⟩ am_199 rfl lay_9 kk_9_5 fl_9_18 rfl dX9_nearestLawful_39 ?_
      refine k_iload_n (q := 1) C dX9_nearestLawful_42 rfl rfl ?_
      refine c_iald (i := 185) (v := S.2.1 185 (a1).toNatClampNeg) C rfl am_185 ak_185 rfl rfl dX9_nearestLawful_43 ?_
      refine k_iload_n (q := 2) C dX9_nearestLawful_44 rfl rfl ?_
      refine k_isub C dX9_nearestLawful_45 ?_
      refine k_lti fun y6 => ?_
      refine k_istore_n (lv' := [(3, .int y6), (0, .ref (ad 199)), (1, .int a1), (2, .int x2)]) C dX9_nearestLawful_46 rfl (Nat.le_of_ble_eq_true rfl) rfl ?_
      refine k_aload_n (q := 1) C dX9_nearestLawful_47 rfl rfl ?_
      refine c_get (b := 180) (ci := 9) (kf := 5) (N := 7) C rfl ⟨rfl, rfl⟩ am_199 rfl lay_9 kk_9_5 fl_9_18 rfl dX9_nearestLawful_48 ?_
      refine k_iload_n (q := 2) C dX9_nearestLawful_51 rfl rfl ?_
      refine c_iald (i := 185) (v := S.2.1 185 (a1).toNatClampNeg) C rfl am_185 ak_185 rfl rfl dX9_nearestLawful_52 ?_
      refine k_iload_n (q := 3) C dX9_nearestLawful_53 rfl rfl ?_
      refine k_iadd C dX9_nearestLawful_54 ?_
      refine k_lti fun y7 => ?_
      refine k_istore (lv' := [(4, .int y7), (3, .int y6), (0, .ref (ad 199)), (1, .int a1), (2, .int x2)]) C dX9_nearestLawful_55 (Nat.le_of_ble_eq_true rfl) rfl ?_
      refine k_iload_n (q := 1) C dX9_nearestLawful_57 rfl rfl ?_
      refine k_if_lt (tgt := 74) C dX9_nearestLawful_58 (by decide) (fun _ => ?_) (fun _ => ?_)
      · refine Dk.loc [2, 3, 4, 0] rfl ?_
        exact kb_X9_nearestLawful_B74 C ih _ _ _ _ _ _ _ hb
      · refine k_aload_n (q := 2) C dX9_nearestLawful_61 rfl rfl ?_
        refine c_get (b := 180) (ci := 9) (kf := 2) (N := 7) C rfl ⟨rfl, rfl⟩ am_199 rfl lay_9 kk_9_2 fl_9_33 rfl dX9_nearestLawful_62 ?_
        refine k_iload_n (q := 1) C dX9_nearestLawful_65 rfl rfl ?_
        refine k_cVI C ct_X4_costBegun_80 my_4_costBegun ml_9_43 rfl ⟨Nat.le_of_ble_eq_true rfl, Nat.le_of_ble_eq_true rfl⟩ (recvC (b := 80) (ci := 4) rfl ⟨rfl, rfl⟩ am_99 rfl rfl) rfl (Nat.le_of_ble_eq_true rfl) dX9_nearestLawful_66 hb.e (fun r8 _ => ?_)
        refine k_if_lt (tgt := 74) C dX9_nearestLawful_69 (by decide) (fun _ => ?_) (fun _ => ?_)
        · refine Dk.loc [2, 3, 4, 0] rfl ?_
          exact kb_X9_nearestLawful_B74 C ih _ _ _ _ _ _ _ hb
        · refine k_iload_n (q := 1) C dX9_nearestLawful_72 rfl rfl ?_
          exact k_iretA hb.e C ⟨rfl, _, rfl⟩ dX9_nearestLawful_73
set_option maxRecDepth 20000 in
theorem kw_X9_nearestLawful {X : GX} {θ : TH} {ad : Nat → Nat} {Y : Nat → Nat} {F : Nat} {S : St} {Z : Zt} {a1 : Int32} (C : CX (mE X θ (wdC θ ad Y Z S) 5) RX9 cX9_nearestLawful (some .int) 5 (nd 80 Z) (9216 * nd 80 Z))  : Dk (mE X θ (wdC θ ad Y Z S) 5) (mTa X θ (wdC θ ad Y Z S) 5 (nd 80 Z) (9216 * nd 80 Z) (PIA θ ad)) 0 0 (wdC θ ad Y Z S) [(0, .ref (ad 199)), (1, .int a1)] [] 0 (f_X9_nearestLawful F S Z a1) := by
  have hb := @BD1.z Z
  show Dk _ _ _ _ _ _ _ _ ((f_X9_has Z S a1).bind fun r1 => (if r1 = 0 then some ((-1 : Int32), S, Z) else chk (inr a1 20) (chk (inr a1 20) ((f_X4_open F 80 S Z (S.2.1 183 (a1).toNatClampNeg) (S.2.1 184 (a1).toNatClampNeg)).bind fun r2 => f_X9_nearestLawful_L31 F a1 F r2.1 r2.2 0))))
  refine k_aload_n (q := 0) C dX9_nearestLawful_0 rfl rfl ?_
  refine k_iload_n (q := 1) C dX9_nearestLawful_1 rfl rfl ?_
  refine k_cVI C ct_X9_has my_9_has ml_9_47 rfl ⟨Nat.le_of_ble_eq_true rfl, Nat.le_of_ble_eq_true rfl⟩ (recvC (b := 180) (ci := 9) rfl ⟨rfl, rfl⟩ am_199 rfl rfl) rfl (Nat.le_of_ble_eq_true rfl) dX9_nearestLawful_2 hb.e (fun r1 _ => ?_)
  refine k_if_ne (tgt := 10) C dX9_nearestLawful_5 (by decide) (fun _ => ?_) (fun _ => ?_)
  · refine k_aload_n (q := 0) C dX9_nearestLawful_10 rfl rfl ?_
    refine c_get (b := 180) (ci := 9) (kf := 2) (N := 7) C rfl ⟨rfl, rfl⟩ am_199 rfl lay_9 kk_9_2 fl_9_33 rfl dX9_nearestLawful_11 ?_
    refine k_aload_n (q := 0) C dX9_nearestLawful_14 rfl rfl ?_
    refine c_get (b := 180) (ci := 9) (kf := 3) (N := 7) C rfl ⟨rfl, rfl⟩ am_199 rfl lay_9 kk_9_3 fl_9_9 rfl dX9_nearestLawful_15 ?_
    refine k_iload_n (q := 1) C dX9_nearestLawful_18 rfl rfl ?_
    refine c_iald (i := 183) (v := S.2.1 183 (a1).toNatClampNeg) C rfl am_183 ak_183 rfl rfl dX9_nearestLawful_19 ?_
    refine k_aload_n (q := 0) C dX9_nearestLawful_20 rfl rfl ?_
    refine c_get (b := 180) (ci := 9) (kf := 4) (N := 7) C rfl ⟨rfl, rfl⟩ am_199 rfl lay_9 kk_9_4 fl_9_15 rfl dX9_nearestLawful_21 ?_
    refine k_iload_n (q := 1) C dX9_nearestLawful_24 rfl rfl ?_
    refine c_iald (i := 184) (v := S.2.1 184 (a1).toNatClampNeg) C rfl am_184 ak_184 rfl rfl dX9_nearestLawful_25 ?_
    refine k_cAV C ct_X4_open_80 my_4_open ml_9_37 rfl ⟨Nat.le_of_ble_eq_true rfl, Nat.le_of_ble_eq_true rfl⟩ (recvC (b := 80) (ci := 4) rfl ⟨rfl, rfl⟩ am_99 rfl rfl) rfl (Nat.le_of_ble_eq_true rfl) dX9_nearestLawful_26 hb (fun r2 Y3 hr4 => ?_)
    refine k_iconst (v := 0) C dX9_nearestLawful_29 rfl ?_
    refine k_istore_n (lv' := [(2, .int 0), (0, .ref (ad 199)), (1, .int a1)]) C dX9_nearestLawful_30 rfl (Nat.le_of_ble_eq_true rfl) rfl ?_
    refine Dk.loc [1, 2, 0] rfl ?_
    exact kb_X9_nearestLawful_L31 C _ _ _ _ _ _ _ (BD1.o hb (za_open1 hr4))
  · refine k_iconst (v := (-1)) C dX9_nearestLawful_8 rfl ?_
    exact k_iretA hb.e C ⟨rfl, _, rfl⟩ dX9_nearestLawful_9
theorem ct_X9_nearestLawful {l : Launch} {θ : TH} {ad Y : Nat → Nat} {S : St} {Z : Zt} {F : Nat} {a1 : Int32}  : ∀ r, f_X9_nearestLawful F S Z a1 = some r → Ct l θ yX9_nearestLawful cX9_nearestLawful 5 (some .int) 5 (nd 80 Z) (9216 * nd 80 Z) [.ref (ad 199), .int a1] (wdC θ ad Y Z S) (PIA θ ad r) :=
  fun r hr => Ct.of (by decide +kernel) (Nat.le_of_ble_eq_true rfl) (fun X _ C _ => kw_X9_nearestLawful C  r hr)
set_option maxRecDepth 20000 in
theorem kw_X9_claimHours {X : GX} {θ : TH} {ad : Nat → Nat} {Y : Nat → Nat} {F : Nat} {S : St} {Z : Zt} {a1 : Int32} {a2 : Int32} (C : CX (mE X θ (wdC θ ad Y Z S) 4) RX9 cX9_claimHours (some .int) 5 (nd 80 Z) (9216 * nd 80 Z))  : Dk (mE X θ (wdC θ ad Y Z S) 4) (mTa X θ (wdC θ ad Y Z S) 4 (nd 80 Z) (9216 * nd 80 Z) (PIA θ ad)) 0 0 (wdC θ ad Y Z S) [(0, .ref (ad 199)), (1, .int a1), (2, .int a2)] [] 0 (f_X9_claimHours F S Z a1 a2) := by
  have hb := @BD1.z Z
  show Dk _ _ _ _ _ _ _ _ ((f_X9_has Z S a1).bind fun r1 => (if r1 = 0 then some ((-1 : Int32), S, Z) else chk (inr a1 20) (chk (inr a1 20) ((f_X4_open F 80 S Z (S.2.1 183 (a1).toNatClampNeg) (S.2.1 184 (a1).toNatClampNeg)).bind fun r2 => chk (inr a1 20) ((f_X4_costBegun F 80 r2.2 r2.1 (r2.1.2.1 185 (a1).toNatClampNeg)).bind fun r6 => (if (0 : Int32) ≤ r6.1 then chk (inr a1 20) (chk (inr a1 20) ((f_X1_hoursOf r2.2 r6.2 (r6.2.2.1 183 (a1).toNatClampNeg)).bind fun r7 => lti ((r6.2.2.1 185 (a1).toNatClampNeg) + r7) fun y8 => chk (inr a1 20) (chk (inr a1 20) ((f_X4_upAt F 80 r2.2 r6.2 (r6.2.2.1 185 (a1).toNatClampNeg)).bind fun r9 => (f_X7_hoursWith F r2.2 r9.2 (r6.2.2.1 184 (a1).toNatClampNeg) y8 a2 r9.1).bind fun r10 => some (r10, r9.2, r2.2))))) else some ((-5 : Int32), r6.2, r2.2)))))))
  refine k_aload_n (q := 0) C dX9_claimHours_0 rfl rfl ?_
  refine k_iload_n (q := 1) C dX9_claimHours_1 rfl rfl ?_
  refine k_cVI C ct_X9_has my_9_has ml_9_47 rfl ⟨Nat.le_of_ble_eq_true rfl, Nat.le_of_ble_eq_true rfl⟩ (recvC (b := 180) (ci := 9) rfl ⟨rfl, rfl⟩ am_199 rfl rfl) rfl (Nat.le_of_ble_eq_true rfl) dX9_claimHours_2 hb.e (fun r1 _ => ?_)
  refine k_if_ne (tgt := 10) C dX9_claimHours_5 (by decide) (fun _ => ?_) (fun _ => ?_)
  · refine k_aload_n (q := 0) C dX9_claimHours_10 rfl rfl ?_
    refine c_get (b := 180) (ci := 9) (kf := 2) (N := 7) C rfl ⟨rfl, rfl⟩ am_199 rfl lay_9 kk_9_2 fl_9_33 rfl dX9_claimHours_11 ?_
    refine k_aload_n (q := 0) C dX9_claimHours_14 rfl rfl ?_
    refine c_get (b := 180) (ci := 9) (kf := 3) (N := 7) C rfl ⟨rfl, rfl⟩ am_199 rfl lay_9 kk_9_3 fl_9_9 rfl dX9_claimHours_15 ?_
    refine k_iload_n (q := 1) C dX9_claimHours_18 rfl rfl ?_
    refine c_iald (i := 183) (v := S.2.1 183 (a1).toNatClampNeg) C rfl am_183 ak_183 rfl rfl dX9_claimHours_19 ?_
    refine k_aload_n (q := 0) C dX9_claimHours_20 rfl rfl ?_
    refine c_get (b := 180) (ci := 9) (kf := 4) (N := 7) C rfl ⟨rfl, rfl⟩ am_199 rfl lay_9 kk_9_4 fl_9_15 rfl dX9_claimHours_21 ?_
    refine k_iload_n (q := 1) C dX9_claimHours_24 rfl rfl ?_
    refine c_iald (i := 184) (v := S.2.1 184 (a1).toNatClampNeg) C rfl am_184 ak_184 rfl rfl dX9_claimHours_25 ?_
    refine k_cAV C ct_X4_open_80 my_4_open ml_9_37 rfl ⟨Nat.le_of_ble_eq_true rfl, Nat.le_of_ble_eq_true rfl⟩ (recvC (b := 80) (ci := 4) rfl ⟨rfl, rfl⟩ am_99 rfl rfl) rfl (Nat.le_of_ble_eq_true rfl) dX9_claimHours_26 hb (fun r2 Y3 hr4 => ?_)
    refine k_aload_n (q := 0) C dX9_claimHours_29 rfl rfl ?_
    refine c_get (b := 180) (ci := 9) (kf := 2) (N := 7) C rfl ⟨rfl, rfl⟩ am_199 rfl lay_9 kk_9_2 fl_9_33 rfl dX9_claimHours_30 ?_
    refine k_aload_n (q := 0) C dX9_claimHours_33 rfl rfl ?_
    refine c_get (b := 180) (ci := 9) (kf := 5) (N := 7) C rfl ⟨rfl, rfl⟩ am_199 rfl lay_9 kk_9_5 fl_9_18 rfl dX9_claimHours_34 ?_
    refine k_iload_n (q := 1) C dX9_claimHours_37 rfl rfl ?_
    refine c_iald (i := 185) (v := r2.1.2.1 185 (a1).toNatClampNeg) C rfl am_185 ak_185 rfl rfl dX9_claimHours_38 ?_
    refine k_cVI C ct_X4_costBegun_80 my_4_costBegun ml_9_43 rfl ⟨Nat.le_of_ble_eq_true rfl, Nat.le_of_ble_eq_true rfl⟩ (recvC (b := 80) (ci := 4) rfl ⟨rfl, rfl⟩ am_99 rfl rfl) rfl (Nat.le_of_ble_eq_true rfl) dX9_claimHours_39 (BD1.o hb (za_open1 hr4)).e (fun r6 _ => ?_)
    refine k_if_ge (tgt := 48) C dX9_claimHours_42 (by decide) (fun _ => ?_) (fun _ => ?_)
    · refine k_aload_n (q := 0) C dX9_claimHours_48 rfl rfl ?_
      refine c_get (b := 180) (ci := 9) (kf := 5) (N := 7) C rfl ⟨rfl, rfl⟩ am_199 rfl lay_9 kk_9_5 fl_9_18 rfl dX9_claimHours_49 ?_
      refine k_iload_n (q := 1) C dX9_claimHours_52 rfl rfl ?_
      refine c_iald (i := 185) (v := r6.2.2.1 185 (a1).toNatClampNeg) C rfl am_185 ak_185 rfl rfl dX9_claimHours_53 ?_
      refine k_aload_n (q := 0) C dX9_claimHours_54 rfl rfl ?_
      refine c_get (b := 180) (ci := 9) (kf := 1) (N := 7) C rfl ⟨rfl, rfl⟩ am_199 rfl lay_9 kk_9_1 fl_9_29 rfl dX9_claimHours_55 ?_
      refine k_aload_n (q := 0) C dX9_claimHours_58 rfl rfl ?_
      refine c_get (b := 180) (ci := 9) (kf := 3) (N := 7) C rfl ⟨rfl, rfl⟩ am_199 rfl lay_9 kk_9_3 fl_9_9 rfl dX9_claimHours_59 ?_
      refine k_iload_n (q := 1) C dX9_claimHours_62 rfl rfl ?_
      refine c_iald (i := 183) (v := r6.2.2.1 183 (a1).toNatClampNeg) C rfl am_183 ak_183 rfl rfl dX9_claimHours_63 ?_
      refine k_cVI C ct_X1_hoursOf my_1_hoursOf ml_9_52 rfl ⟨Nat.le_of_ble_eq_true rfl, Nat.le_of_ble_eq_true rfl⟩ (recvC (b := 20) (ci := 1) rfl ⟨rfl, rfl⟩ am_39 rfl rfl) rfl (Nat.le_of_ble_eq_true rfl) dX9_claimHours_64 (BD1.o hb (za_open1 hr4)).e (fun r7 _ => ?_)
      refine k_iadd C dX9_claimHours_67 ?_
      refine k_lti fun y8 => ?_
      refine k_istore_n (lv' := [(3, .int y8), (0, .ref (ad 199)), (1, .int a1), (2, .int a2)]) C dX9_claimHours_68 rfl (Nat.le_of_ble_eq_true rfl) rfl ?_
      refine k_aload_n (q := 1) C dX9_claimHours_69 rfl rfl ?_
      refine c_get (b := 180) (ci := 9) (kf := 0) (N := 7) C rfl ⟨rfl, rfl⟩ am_199 rfl lay_9 kk_9_0 fl_9_25 rfl dX9_claimHours_70 ?_
      refine k_aload_n (q := 1) C dX9_claimHours_73 rfl rfl ?_
      refine c_get (b := 180) (ci := 9) (kf := 4) (N := 7) C rfl ⟨rfl, rfl⟩ am_199 rfl lay_9 kk_9_4 fl_9_15 rfl dX9_claimHours_74 ?_
      refine k_iload_n (q := 2) C dX9_claimHours_77 rfl rfl ?_
      refine c_iald (i := 184) (v := r6.2.2.1 184 (a1).toNatClampNeg) C rfl am_184 ak_184 rfl rfl dX9_claimHours_78 ?_
      refine k_iload_n (q := 0) C dX9_claimHours_79 rfl rfl ?_
      refine k_iload_n (q := 3) C dX9_claimHours_80 rfl rfl ?_
      refine k_aload_n (q := 1) C dX9_claimHours_81 rfl rfl ?_
      refine c_get (b := 180) (ci := 9) (kf := 2) (N := 7) C rfl ⟨rfl, rfl⟩ am_199 rfl lay_9 kk_9_2 fl_9_33 rfl dX9_claimHours_82 ?_
      refine k_aload_n (q := 1) C dX9_claimHours_85 rfl rfl ?_
      refine c_get (b := 180) (ci := 9) (kf := 5) (N := 7) C rfl ⟨rfl, rfl⟩ am_199 rfl lay_9 kk_9_5 fl_9_18 rfl dX9_claimHours_86 ?_
      refine k_iload_n (q := 2) C dX9_claimHours_89 rfl rfl ?_
      refine c_iald (i := 185) (v := r6.2.2.1 185 (a1).toNatClampNeg) C rfl am_185 ak_185 rfl rfl dX9_claimHours_90 ?_
      refine k_cVI C ct_X4_upAt_80 my_4_upAt ml_9_57 rfl ⟨Nat.le_of_ble_eq_true rfl, Nat.le_of_ble_eq_true rfl⟩ (recvC (b := 80) (ci := 4) rfl ⟨rfl, rfl⟩ am_99 rfl rfl) rfl (Nat.le_of_ble_eq_true rfl) dX9_claimHours_91 (BD1.o hb (za_open1 hr4)).e (fun r9 _ => ?_)
      refine k_cVI C ct_X7_hoursWith my_7_hoursWith ml_9_60 rfl ⟨Nat.le_of_ble_eq_true rfl, Nat.le_of_ble_eq_true rfl⟩ (recvC (b := 140) (ci := 7) rfl ⟨rfl, rfl⟩ am_159 rfl rfl) rfl (Nat.le_of_ble_eq_true rfl) dX9_claimHours_94 (BD1.o hb (za_open1 hr4)).e (fun r10 _ => ?_)
      exact k_iretA (BD1.o hb (za_open1 hr4)).e C ⟨rfl, _, rfl⟩ dX9_claimHours_97
    · refine k_bipush (v := (-5)) C dX9_claimHours_45 rfl ?_
      exact k_iretA (BD1.o hb (za_open1 hr4)).e C ⟨rfl, _, rfl⟩ dX9_claimHours_47
  · refine k_iconst (v := (-1)) C dX9_claimHours_8 rfl ?_
    exact k_iretA hb.e C ⟨rfl, _, rfl⟩ dX9_claimHours_9
theorem ct_X9_claimHours {l : Launch} {θ : TH} {ad Y : Nat → Nat} {S : St} {Z : Zt} {F : Nat} {a1 : Int32} {a2 : Int32}  : ∀ r, f_X9_claimHours F S Z a1 a2 = some r → Ct l θ yX9_claimHours cX9_claimHours 4 (some .int) 5 (nd 80 Z) (9216 * nd 80 Z) [.ref (ad 199), .int a1, .int a2] (wdC θ ad Y Z S) (PIA θ ad r) :=
  fun r hr => Ct.of (by decide +kernel) (Nat.le_of_ble_eq_true rfl) (fun X _ C _ => kw_X9_claimHours C  r hr)
set_option maxRecDepth 20000 in
theorem kw_X10_moon {X : GX} {θ : TH} {ad Y : Nat → Nat} {Z : Zt} {S : St} {a1 : Int32} {a2 : Int32} (C : CX (mE X θ (wdC θ ad Y Z S) 3) RX10 cX10_moon (some .int) 1 0 0)  : Dk (mE X θ (wdC θ ad Y Z S) 3) (mT X θ (wdC θ ad Y Z S) 3 (PIS (wdC θ ad Y Z))) 0 0 (wdC θ ad Y Z S) [(0, .ref (ad 219)), (1, .int a1), (2, .int a2)] [] 0 (f_X10_moon Z S a1 a2) := by
  show Dk _ _ _ _ _ _ _ _ (if a1 < 2 then some ((-1 : Int32), S) else if (999 : Int32) < a1 then some ((-1 : Int32), S) else if (0 : Int32) ≤ a2 then if a1 < (a2 / 1000) then some ((-1 : Int32), S) else if (jrem a2 1000) < a1 then (f_X7_addMoon Z S a1 (a2 / 1000) (jrem a2 1000)).bind fun r1 => some (r1.1, r1.2) else some ((-1 : Int32), S) else some ((-1 : Int32), S))
  refine k_iload_n (q := 1) C dX10_moon_0 rfl rfl ?_
  refine k_iconst (v := 2) C dX10_moon_1 rfl ?_
  refine k_icmp_lt (tgt := 16) C dX10_moon_2 (by decide) (fun _ => ?_) (fun _ => ?_)
  · refine k_iconst (v := (-1)) C dX10_moon_16 rfl ?_
    exact k_iret C rfl ⟨rfl, rfl⟩ dX10_moon_17
  · refine k_iload_n (q := 1) C dX10_moon_5 rfl rfl ?_
    refine k_sipush (v := 999) C dX10_moon_6 rfl ?_
    refine k_icmp_gt (tgt := 16) C dX10_moon_9 (by decide) (fun _ => ?_) (fun _ => ?_)
    · refine k_iconst (v := (-1)) C dX10_moon_16 rfl ?_
      exact k_iret C rfl ⟨rfl, rfl⟩ dX10_moon_17
    · refine k_iload_n (q := 2) C dX10_moon_12 rfl rfl ?_
      refine k_if_ge (tgt := 18) C dX10_moon_13 (by decide) (fun _ => ?_) (fun _ => ?_)
      · refine k_iload_n (q := 2) C dX10_moon_18 rfl rfl ?_
        refine k_sipush (v := 1000) C dX10_moon_19 rfl ?_
        refine k_idiv C dX10_moon_22 (by decide) ?_
        refine k_iload_n (q := 1) C dX10_moon_23 rfl rfl ?_
        refine k_icmp_gt (tgt := 36) C dX10_moon_24 (by decide) (fun _ => ?_) (fun _ => ?_)
        · refine k_iconst (v := (-1)) C dX10_moon_36 rfl ?_
          exact k_iret C rfl ⟨rfl, rfl⟩ dX10_moon_37
        · refine k_iload_n (q := 2) C dX10_moon_27 rfl rfl ?_
          refine k_sipush (v := 1000) C dX10_moon_28 rfl ?_
          refine k_irem C dX10_moon_31 (by decide) ?_
          refine k_iload_n (q := 1) C dX10_moon_32 rfl rfl ?_
          refine k_icmp_lt (tgt := 38) C dX10_moon_33 (by decide) (fun _ => ?_) (fun _ => ?_)
          · refine k_aload_n (q := 0) C dX10_moon_38 rfl rfl ?_
            refine c_get (b := 200) (ci := 10) (kf := 0) (N := 9) C rfl ⟨rfl, rfl⟩ am_219 rfl lay_10 kk_10_0 fl_10_10 rfl dX10_moon_39 ?_
            refine k_iload_n (q := 1) C dX10_moon_42 rfl rfl ?_
            refine k_iload_n (q := 2) C dX10_moon_43 rfl rfl ?_
            refine k_sipush (v := 1000) C dX10_moon_44 rfl ?_
            refine k_idiv C dX10_moon_47 (by decide) ?_
            refine k_iload_n (q := 2) C dX10_moon_48 rfl rfl ?_
            refine k_sipush (v := 1000) C dX10_moon_49 rfl ?_
            refine k_irem C dX10_moon_52 (by decide) ?_
            refine k_cVI C ct_X7_addMoon my_7_addMoon ml_10_76 rfl ⟨Nat.le_of_ble_eq_true rfl, Nat.le_of_ble_eq_true rfl⟩ (recvC (b := 140) (ci := 7) rfl ⟨rfl, rfl⟩ am_159 rfl rfl) rfl (Nat.le_of_ble_eq_true rfl) dX10_moon_53 ⟨Nat.le_refl _, Nat.le_refl _⟩ (fun r1 _ => ?_)
            exact k_iret C rfl ⟨rfl, rfl⟩ dX10_moon_56
          · refine k_iconst (v := (-1)) C dX10_moon_36 rfl ?_
            exact k_iret C rfl ⟨rfl, rfl⟩ dX10_moon_37
      · refine k_iconst (v := (-1)) C dX10_moon_16 rfl ?_
        exact k_iret C rfl ⟨rfl, rfl⟩ dX10_moon_17
theorem ct_X10_moon {l : Launch} {θ : TH} {ad Y : Nat → Nat} {S : St} {Z : Zt} {a1 : Int32} {a2 : Int32}  : ∀ r, f_X10_moon Z S a1 a2 = some r → Ct l θ yX10_moon cX10_moon 3 (some .int) 1 0 0 [.ref (ad 219), .int a1, .int a2] (wdC θ ad Y Z S) (PIS (wdC θ ad Y Z) r) :=
  fun r hr => Ct.of (by decide +kernel) (Nat.le_of_ble_eq_true rfl) (fun X _ C _ => kw_X10_moon C  r hr)
set_option maxRecDepth 20000 in
theorem kw_X10_valley {X : GX} {θ : TH} {ad Y : Nat → Nat} {Z : Zt} {S : St}  (C : CX (mE X θ (wdC θ ad Y Z S) 1) RX10 cX10_valley (some .int) 1 0 0)  : Dk (mE X θ (wdC θ ad Y Z S) 1) (mT X θ (wdC θ ad Y Z S) 1 (PIS (wdC θ ad Y Z))) 0 0 (wdC θ ad Y Z S) [(0, .ref (ad 219))] [] 0 (f_X10_valley Z S) := by
  show Dk _ _ _ _ _ _ _ _ ((f_X7_addValley Z S).bind fun r1 => some (r1.1, r1.2))
  refine k_aload_n (q := 0) C dX10_valley_0 rfl rfl ?_
  refine c_get (b := 200) (ci := 10) (kf := 0) (N := 9) C rfl ⟨rfl, rfl⟩ am_219 rfl lay_10 kk_10_0 fl_10_10 rfl dX10_valley_1 ?_
  refine k_cVI C ct_X7_addValley my_7_addValley ml_10_80 rfl ⟨Nat.le_of_ble_eq_true rfl, Nat.le_of_ble_eq_true rfl⟩ (recvC (b := 140) (ci := 7) rfl ⟨rfl, rfl⟩ am_159 rfl rfl) rfl (Nat.le_of_ble_eq_true rfl) dX10_valley_4 ⟨Nat.le_refl _, Nat.le_refl _⟩ (fun r1 _ => ?_)
  exact k_iret C rfl ⟨rfl, rfl⟩ dX10_valley_7
theorem ct_X10_valley {l : Launch} {θ : TH} {ad Y : Nat → Nat} {S : St} {Z : Zt}   : ∀ r, f_X10_valley Z S = some r → Ct l θ yX10_valley cX10_valley 1 (some .int) 1 0 0 [.ref (ad 219)] (wdC θ ad Y Z S) (PIS (wdC θ ad Y Z) r) :=
  fun r hr => Ct.of (by decide +kernel) (Nat.le_of_ble_eq_true rfl) (fun X _ C _ => kw_X10_valley C  r hr)
set_option maxRecDepth 20000 in
theorem kw_X10_hills {X : GX} {θ : TH} {ad Y : Nat → Nat} {Z : Zt} {S : St} {a1 : Int32} {a2 : Int32} (C : CX (mE X θ (wdC θ ad Y Z S) 3) RX10 cX10_hills (some .int) 2 0 0)  : Dk (mE X θ (wdC θ ad Y Z S) 3) (mT X θ (wdC θ ad Y Z S) 3 (PIS (wdC θ ad Y Z))) 0 0 (wdC θ ad Y Z S) [(0, .ref (ad 219)), (1, .int a1), (2, .int a2)] [] 0 (f_X10_hills Z S a1 a2) := by
  show Dk _ _ _ _ _ _ _ _ (if a1 < 0 then some ((-1 : Int32), S) else (f_X7_hasValley Z S (a1 / 10)).bind fun r1 => (if r1 = 0 then some ((-1 : Int32), S) else (f_X7_hasMoon Z S (jrem a1 10)).bind fun r2 => (if r2 = 0 then some ((-1 : Int32), S) else if a2 < 0 then some ((-1 : Int32), S) else if a2 ≤ 9999 then (f_X7_setHills Z S (a1 / 10) (jrem a1 10) a2).bind fun r3 => some (r3.1, r3.2) else some ((-1 : Int32), S))))
  refine k_iload_n (q := 1) C dX10_hills_0 rfl rfl ?_
  refine k_if_lt (tgt := 43) C dX10_hills_1 (by decide) (fun _ => ?_) (fun _ => ?_)
  · refine k_iconst (v := (-1)) C dX10_hills_43 rfl ?_
    exact k_iret C rfl ⟨rfl, rfl⟩ dX10_hills_44
  · refine k_aload_n (q := 0) C dX10_hills_4 rfl rfl ?_
    refine c_get (b := 200) (ci := 10) (kf := 0) (N := 9) C rfl ⟨rfl, rfl⟩ am_219 rfl lay_10 kk_10_0 fl_10_10 rfl dX10_hills_5 ?_
    refine k_iload_n (q := 1) C dX10_hills_8 rfl rfl ?_
    refine k_bipush (v := 10) C dX10_hills_9 rfl ?_
    refine k_idiv C dX10_hills_11 (by decide) ?_
    refine k_cVI C ct_X7_hasValley my_7_hasValley ml_10_84 rfl ⟨Nat.le_of_ble_eq_true rfl, Nat.le_of_ble_eq_true rfl⟩ (recvC (b := 140) (ci := 7) rfl ⟨rfl, rfl⟩ am_159 rfl rfl) rfl (Nat.le_of_ble_eq_true rfl) dX10_hills_12 ⟨Nat.le_refl _, Nat.le_refl _⟩ (fun r1 _ => ?_)
    refine k_if_eq (tgt := 43) C dX10_hills_15 (by decide) (fun _ => ?_) (fun _ => ?_)
    · refine k_iconst (v := (-1)) C dX10_hills_43 rfl ?_
      exact k_iret C rfl ⟨rfl, rfl⟩ dX10_hills_44
    · refine k_aload_n (q := 0) C dX10_hills_18 rfl rfl ?_
      refine c_get (b := 200) (ci := 10) (kf := 0) (N := 9) C rfl ⟨rfl, rfl⟩ am_219 rfl lay_10 kk_10_0 fl_10_10 rfl dX10_hills_19 ?_
      refine k_iload_n (q := 1) C dX10_hills_22 rfl rfl ?_
      refine k_bipush (v := 10) C dX10_hills_23 rfl ?_
      refine k_irem C dX10_hills_25 (by decide) ?_
      refine k_cVI C ct_X7_hasMoon my_7_hasMoon ml_10_88 rfl ⟨Nat.le_of_ble_eq_true rfl, Nat.le_of_ble_eq_true rfl⟩ (recvC (b := 140) (ci := 7) rfl ⟨rfl, rfl⟩ am_159 rfl rfl) rfl (Nat.le_of_ble_eq_true rfl) dX10_hills_26 ⟨Nat.le_refl _, Nat.le_refl _⟩ (fun r2 _ => ?_)
      refine k_if_eq (tgt := 43) C dX10_hills_29 (by decide) (fun _ => ?_) (fun _ => ?_)
      · refine k_iconst (v := (-1)) C dX10_hills_43 rfl ?_
        exact k_iret C rfl ⟨rfl, rfl⟩ dX10_hills_44
      · refine k_iload_n (q := 2) C dX10_hills_32 rfl rfl ?_
        refine k_if_lt (tgt := 43) C dX10_hills_33 (by decide) (fun _ => ?_) (fun _ => ?_)
        · refine k_iconst (v := (-1)) C dX10_hills_43 rfl ?_
          exact k_iret C rfl ⟨rfl, rfl⟩ dX10_hills_44
        · refine k_iload_n (q := 2) C dX10_hills_36 rfl rfl ?_
          refine k_sipush (v := 9999) C dX10_hills_37 rfl ?_
          refine k_icmp_le (tgt := 45) C dX10_hills_40 (by decide) (fun _ => ?_) (fun _ => ?_)
          · refine k_aload_n (q := 0) C dX10_hills_45 rfl rfl ?_
            refine c_get (b := 200) (ci := 10) (kf := 0) (N := 9) C rfl ⟨rfl, rfl⟩ am_219 rfl lay_10 kk_10_0 fl_10_10 rfl dX10_hills_46 ?_
            refine k_iload_n (q := 1) C dX10_hills_49 rfl rfl ?_
            refine k_bipush (v := 10) C dX10_hills_50 rfl ?_
            refine k_idiv C dX10_hills_52 (by decide) ?_
            refine k_iload_n (q := 1) C dX10_hills_53 rfl rfl ?_
            refine k_bipush (v := 10) C dX10_hills_54 rfl ?_
            refine k_irem C dX10_hills_56 (by decide) ?_
            refine k_iload_n (q := 2) C dX10_hills_57 rfl rfl ?_
            refine k_cVI C ct_X7_setHills my_7_setHills ml_10_91 rfl ⟨Nat.le_of_ble_eq_true rfl, Nat.le_of_ble_eq_true rfl⟩ (recvC (b := 140) (ci := 7) rfl ⟨rfl, rfl⟩ am_159 rfl rfl) rfl (Nat.le_of_ble_eq_true rfl) dX10_hills_58 ⟨Nat.le_refl _, Nat.le_refl _⟩ (fun r3 _ => ?_)
            exact k_iret C rfl ⟨rfl, rfl⟩ dX10_hills_61
          · refine k_iconst (v := (-1)) C dX10_hills_43 rfl ?_
            exact k_iret C rfl ⟨rfl, rfl⟩ dX10_hills_44
theorem ct_X10_hills {l : Launch} {θ : TH} {ad Y : Nat → Nat} {S : St} {Z : Zt} {a1 : Int32} {a2 : Int32}  : ∀ r, f_X10_hills Z S a1 a2 = some r → Ct l θ yX10_hills cX10_hills 3 (some .int) 2 0 0 [.ref (ad 219), .int a1, .int a2] (wdC θ ad Y Z S) (PIS (wdC θ ad Y Z) r) :=
  fun r hr => Ct.of (by decide +kernel) (Nat.le_of_ble_eq_true rfl) (fun X _ C _ => kw_X10_hills C  r hr)
set_option maxRecDepth 20000 in
theorem kw_X10_way {X : GX} {θ : TH} {ad Y : Nat → Nat} {Z : Zt} {S : St} {a1 : Int32} {a2 : Int32} (C : CX (mE X θ (wdC θ ad Y Z S) 3) RX10 cX10_way (some .int) 2 0 0)  : Dk (mE X θ (wdC θ ad Y Z S) 3) (mT X θ (wdC θ ad Y Z S) 3 (PIS (wdC θ ad Y Z))) 0 0 (wdC θ ad Y Z S) [(0, .ref (ad 219)), (1, .int a1), (2, .int a2)] [] 0 (f_X10_way Z S a1 a2) := by
  show Dk _ _ _ _ _ _ _ _ (if a1 < 0 then some ((-1 : Int32), S) else (f_X7_hasValley Z S (a1 / 10)).bind fun r1 => (if r1 = 0 then some ((-1 : Int32), S) else (f_X7_hasValley Z S (jrem a1 10)).bind fun r2 => (if r2 = 0 then some ((-1 : Int32), S) else if (a1 / 10) = (jrem a1 10) then some ((-1 : Int32), S) else if a2 < 0 then some ((-1 : Int32), S) else if a2 ≤ 99 then (f_X7_setWay Z S (a1 / 10) (jrem a1 10) a2).bind fun r3 => some (r3.1, r3.2) else some ((-1 : Int32), S))))
  refine k_iload_n (q := 1) C dX10_way_0 rfl rfl ?_
  refine k_if_lt (tgt := 43) C dX10_way_1 (by decide) (fun _ => ?_) (fun _ => ?_)
  · refine k_iconst (v := (-1)) C dX10_way_43 rfl ?_
    exact k_iret C rfl ⟨rfl, rfl⟩ dX10_way_44
  · refine k_aload_n (q := 0) C dX10_way_4 rfl rfl ?_
    refine c_get (b := 200) (ci := 10) (kf := 0) (N := 9) C rfl ⟨rfl, rfl⟩ am_219 rfl lay_10 kk_10_0 fl_10_10 rfl dX10_way_5 ?_
    refine k_iload_n (q := 1) C dX10_way_8 rfl rfl ?_
    refine k_bipush (v := 10) C dX10_way_9 rfl ?_
    refine k_idiv C dX10_way_11 (by decide) ?_
    refine k_cVI C ct_X7_hasValley my_7_hasValley ml_10_84 rfl ⟨Nat.le_of_ble_eq_true rfl, Nat.le_of_ble_eq_true rfl⟩ (recvC (b := 140) (ci := 7) rfl ⟨rfl, rfl⟩ am_159 rfl rfl) rfl (Nat.le_of_ble_eq_true rfl) dX10_way_12 ⟨Nat.le_refl _, Nat.le_refl _⟩ (fun r1 _ => ?_)
    refine k_if_eq (tgt := 43) C dX10_way_15 (by decide) (fun _ => ?_) (fun _ => ?_)
    · refine k_iconst (v := (-1)) C dX10_way_43 rfl ?_
      exact k_iret C rfl ⟨rfl, rfl⟩ dX10_way_44
    · refine k_aload_n (q := 0) C dX10_way_18 rfl rfl ?_
      refine c_get (b := 200) (ci := 10) (kf := 0) (N := 9) C rfl ⟨rfl, rfl⟩ am_219 rfl lay_10 kk_10_0 fl_10_10 rfl dX10_way_19 ?_
      refine k_iload_n (q := 1) C dX10_way_22 rfl rfl ?_
      refine k_bipush (v := 10) C dX10_way_23 rfl ?_
      refine k_irem C dX10_way_25 (by decide) ?_
      refine k_cVI C ct_X7_hasValley my_7_hasValley ml_10_84 rfl ⟨Nat.le_of_ble_eq_true rfl, Nat.le_of_ble_eq_true rfl⟩ (recvC (b := 140) (ci := 7) rfl ⟨rfl, rfl⟩ am_159 rfl rfl) rfl (Nat.le_of_ble_eq_true rfl) dX10_way_26 ⟨Nat.le_refl _, Nat.le_refl _⟩ (fun r2 _ => ?_)
      refine k_if_eq (tgt := 43) C dX10_way_29 (by decide) (fun _ => ?_) (fun _ => ?_)
      · refine k_iconst (v := (-1)) C dX10_way_43 rfl ?_
        exact k_iret C rfl ⟨rfl, rfl⟩ dX10_way_44
      · refine k_iload_n (q := 1) C dX10_way_32 rfl rfl ?_
        refine k_bipush (v := 10) C dX10_way_33 rfl ?_
        refine k_idiv C dX10_way_35 (by decide) ?_
        refine k_iload_n (q := 1) C dX10_way_36 rfl rfl ?_
        refine k_bipush (v := 10) C dX10_way_37 rfl ?_
        refine k_irem C dX10_way_39 (by decide) ?_
        refine k_icmp_ne (tgt := 45) C dX10_way_40 (by decide) (fun _ => ?_) (fun _ => ?_)
        · refine k_iload_n (q := 2) C dX10_way_45 rfl rfl ?_
          refine k_if_lt (tgt := 55) C dX10_way_46 (by decide) (fun _ => ?_) (fun _ => ?_)
          · refine k_iconst (v := (-1)) C dX10_way_55 rfl ?_
            refine k_goto (tgt := 75) C dX10_way_56 (by decide) ?_
            exact k_iret C rfl ⟨rfl, rfl⟩ dX10_way_75
          · refine k_iload_n (q := 2) C dX10_way_49 rfl rfl ?_
            refine k_bipush (v := 99) C dX10_way_50 rfl ?_
            refine k_icmp_le (tgt := 59) C dX10_way_52 (by decide) (fun _ => ?_) (fun _ => ?_)
            · refine k_aload_n (q := 0) C dX10_way_59 rfl rfl ?_
              refine c_get (b := 200) (ci := 10) (kf := 0) (N := 9) C rfl ⟨rfl, rfl⟩ am_219 rfl lay_10 kk_10_0 fl_10_10 rfl dX10_way_60 ?_
              refine k_iload_n (q := 1) C dX10_way_63 rfl rfl ?_
              refine k_bipush (v := 10) C dX10_way_64 rfl ?_
              refine k_idiv C dX10_way_66 (by decide) ?_
              refine k_iload_n (q := 1) C dX10_way_67 rfl rfl ?_
              refine k_bipush (v := 10) C dX10_way_68 rfl ?_
              refine k_irem C dX10_way_70 (by decide) ?_
              refine k_iload_n (q := 2) C dX10_way_71 rfl rfl ?_
              refine k_cVI C ct_X7_setWay my_7_setWay ml_10_94 rfl ⟨Nat.le_of_ble_eq_true rfl, Nat.le_of_ble_eq_true rfl⟩ (recvC (b := 140) (ci := 7) rfl ⟨rfl, rfl⟩ am_159 rfl rfl) rfl (Nat.le_of_ble_eq_true rfl) dX10_way_72 ⟨Nat.le_refl _, Nat.le_refl _⟩ (fun r3 _ => ?_)
              exact k_iret C rfl ⟨rfl, rfl⟩ dX10_way_75
            · refine k_iconst (v := (-1)) C dX10_way_55 rfl ?_
              refine k_goto (tgt := 75) C dX10_way_56 (by decide) ?_
              exact k_iret C rfl ⟨rfl, rfl⟩ dX10_way_75
        · refine k_iconst (v := (-1)) C dX10_way_43 rfl ?_
          exact k_iret C rfl ⟨rfl, rfl⟩ dX10_way_44
theorem ct_X10_way {l : Launch} {θ : TH} {ad Y : Nat → Nat} {S : St} {Z : Zt} {a1 : Int32} {a2 : Int32}  : ∀ r, f_X10_way Z S a1 a2 = some r → Ct l θ yX10_way cX10_way 3 (some .int) 2 0 0 [.ref (ad 219), .int a1, .int a2] (wdC θ ad Y Z S) (PIS (wdC θ ad Y Z) r) :=
  fun r hr => Ct.of (by decide +kernel) (Nat.le_of_ble_eq_true rfl) (fun X _ C _ => kw_X10_way C  r hr)
set_option maxRecDepth 20000 in
theorem kw_X10_mend {X : GX} {θ : TH} {ad Y : Nat → Nat} {F : Nat} {Z : Zt} {S : St} {a1 : Int32} {a2 : Int32} {a3 : Int32} (C : CX (mE X θ (wdC θ ad Y Z S) 4) RX10 cX10_mend (some .int) 5 0 0)  : Dk (mE X θ (wdC θ ad Y Z S) 4) (mT X θ (wdC θ ad Y Z S) 4 (PIS (wdC θ ad Y Z))) 0 0 (wdC θ ad Y Z S) [(0, .ref (ad 219)), (1, .int a1), (2, .int a2), (3, .int a3)] [] 0 (f_X10_mend F Z S a1 a2 a3) := by
  show Dk _ _ _ _ _ _ _ _ ((f_X3_isSo Z S a1 a2 a3).bind fun r1 => (if r1 = 0 then some ((-1 : Int32), S) else (f_X3_tell F Z S a1 a2 a3).bind fun r2 => some (r2.1, r2.2)))
  refine k_aload_n (q := 0) C dX10_mend_0 rfl rfl ?_
  refine c_get (b := 200) (ci := 10) (kf := 6) (N := 9) C rfl ⟨rfl, rfl⟩ am_219 rfl lay_10 kk_10_6 fl_10_58 rfl dX10_mend_1 ?_
  refine k_iload_n (q := 1) C dX10_mend_4 rfl rfl ?_
  refine k_iload_n (q := 2) C dX10_mend_5 rfl rfl ?_
  refine k_iload_n (q := 3) C dX10_mend_6 rfl rfl ?_
  refine k_cVI C ct_X3_isSo my_3_isSo ml_10_97 rfl ⟨Nat.le_of_ble_eq_true rfl, Nat.le_of_ble_eq_true rfl⟩ (recvC (b := 60) (ci := 3) rfl ⟨rfl, rfl⟩ am_79 rfl rfl) rfl (Nat.le_of_ble_eq_true rfl) dX10_mend_7 ⟨Nat.le_refl _, Nat.le_refl _⟩ (fun r1 _ => ?_)
  refine k_if_ne (tgt := 15) C dX10_mend_10 (by decide) (fun _ => ?_) (fun _ => ?_)
  · refine k_aload_n (q := 0) C dX10_mend_15 rfl rfl ?_
    refine c_get (b := 200) (ci := 10) (kf := 6) (N := 9) C rfl ⟨rfl, rfl⟩ am_219 rfl lay_10 kk_10_6 fl_10_58 rfl dX10_mend_16 ?_
    refine k_iload_n (q := 1) C dX10_mend_19 rfl rfl ?_
    refine k_iload_n (q := 2) C dX10_mend_20 rfl rfl ?_
    refine k_iload_n (q := 3) C dX10_mend_21 rfl rfl ?_
    refine k_cVI C ct_X3_tell my_3_tell ml_10_101 rfl ⟨Nat.le_of_ble_eq_true rfl, Nat.le_of_ble_eq_true rfl⟩ (recvC (b := 60) (ci := 3) rfl ⟨rfl, rfl⟩ am_79 rfl rfl) rfl (Nat.le_of_ble_eq_true rfl) dX10_mend_22 ⟨Nat.le_refl _, Nat.le_refl _⟩ (fun r2 _ => ?_)
    exact k_iret C rfl ⟨rfl, rfl⟩ dX10_mend_25
  · refine k_iconst (v := (-1)) C dX10_mend_13 rfl ?_
    exact k_iret C rfl ⟨rfl, rfl⟩ dX10_mend_14
theorem ct_X10_mend {l : Launch} {θ : TH} {ad Y : Nat → Nat} {S : St} {F : Nat} {Z : Zt} {a1 : Int32} {a2 : Int32} {a3 : Int32}  : ∀ r, f_X10_mend F Z S a1 a2 a3 = some r → Ct l θ yX10_mend cX10_mend 4 (some .int) 5 0 0 [.ref (ad 219), .int a1, .int a2, .int a3] (wdC θ ad Y Z S) (PIS (wdC θ ad Y Z) r) :=
  fun r hr => Ct.of (by decide +kernel) (Nat.le_of_ble_eq_true rfl) (fun X _ C _ => kw_X10_mend C  r hr)
set_option maxRecDepth 20000 in
theorem kw_X10_feed {X : GX} {θ : TH} {ad Y : Nat → Nat} {Z : Zt} {S : St} {a1 : Int32} (C : CX (mE X θ (wdC θ ad Y Z S) 2) RX10 cX10_feed (some .int) 1 0 0)  : Dk (mE X θ (wdC θ ad Y Z S) 2) (mT X θ (wdC θ ad Y Z S) 2 (PIS (wdC θ ad Y Z))) 0 0 (wdC θ ad Y Z S) [(0, .ref (ad 219)), (1, .int a1)] [] 0 (f_X10_feed Z S a1) := by
  show Dk _ _ _ _ _ _ _ _ (if a1 < 0 then some ((-1 : Int32), S) else if a1 ≤ 255 then (f_X5_take Z S a1).bind fun r1 => some (r1.1, r1.2) else some ((-1 : Int32), S))
  refine k_iload_n (q := 1) C dX10_feed_0 rfl rfl ?_
  refine k_if_lt (tgt := 11) C dX10_feed_1 (by decide) (fun _ => ?_) (fun _ => ?_)
  · refine k_iconst (v := (-1)) C dX10_feed_11 rfl ?_
    refine k_goto (tgt := 23) C dX10_feed_12 (by decide) ?_
    exact k_iret C rfl ⟨rfl, rfl⟩ dX10_feed_23
  · refine k_iload_n (q := 1) C dX10_feed_4 rfl rfl ?_
    refine k_sipush (v := 255) C dX10_feed_5 rfl ?_
    refine k_icmp_le (tgt := 15) C dX10_feed_8 (by decide) (fun _ => ?_) (fun _ => ?_)
    · refine k_aload_n (q := 0) C dX10_feed_15 rfl rfl ?_
      refine c_get (b := 200) (ci := 10) (kf := 1) (N := 9) C rfl ⟨rfl, rfl⟩ am_219 rfl lay_10 kk_10_1 fl_10_19 rfl dX10_feed_16 ?_
      refine k_iload_n (q := 1) C dX10_feed_19 rfl rfl ?_
      refine k_cVI C ct_X5_take my_5_take ml_10_104 rfl ⟨Nat.le_of_ble_eq_true rfl, Nat.le_of_ble_eq_true rfl⟩ (recvC (b := 100) (ci := 5) rfl ⟨rfl, rfl⟩ am_119 rfl rfl) rfl (Nat.le_of_ble_eq_true rfl) dX10_feed_20 ⟨Nat.le_refl _, Nat.le_refl _⟩ (fun r1 _ => ?_)
      exact k_iret C rfl ⟨rfl, rfl⟩ dX10_feed_23
    · refine k_iconst (v := (-1)) C dX10_feed_11 rfl ?_
      refine k_goto (tgt := 23) C dX10_feed_12 (by decide) ?_
      exact k_iret C rfl ⟨rfl, rfl⟩ dX10_feed_23
theorem ct_X10_feed {l : Launch} {θ : TH} {ad Y : Nat → Nat} {S : St} {Z : Zt} {a1 : Int32}  : ∀ r, f_X10_feed Z S a1 = some r → Ct l θ yX10_feed cX10_feed 2 (some .int) 1 0 0 [.ref (ad 219), .int a1] (wdC θ ad Y Z S) (PIS (wdC θ ad Y Z) r) :=
  fun r hr => Ct.of (by decide +kernel) (Nat.le_of_ble_eq_true rfl) (fun X _ C _ => kw_X10_feed C  r hr)
set_option maxRecDepth 20000 in
theorem kw_X10_isPlace {X : GX} {θ : TH} {ad Y : Nat → Nat} {Z : Zt} {S : St} {a1 : Int32} {a2 : Int32} (C : CX (mE X θ (wdC θ ad Y Z S) 3) RX10 cX10_isPlace (some .boolean) 1 0 0)  : Dk (mE X θ (wdC θ ad Y Z S) 3) (mT X θ (wdC θ ad Y Z S) 3 (PI (wdC θ ad Y Z S))) 0 0 (wdC θ ad Y Z S) [(0, .ref (ad 219)), (1, .int a1), (2, .int a2)] [] 0 (f_X10_isPlace Z S a1 a2) := by
  show Dk _ _ _ _ _ _ _ _ ((f_X7_hasValley Z S a1).bind fun r1 => (if r1 = 0 then some ((0 : Int32)) else if a2 < 0 then some ((0 : Int32)) else if (999999 : Int32) < a2 then some ((0 : Int32)) else some ((1 : Int32))))
  refine k_aload_n (q := 0) C dX10_isPlace_0 rfl rfl ?_
  refine c_get (b := 200) (ci := 10) (kf := 0) (N := 9) C rfl ⟨rfl, rfl⟩ am_219 rfl lay_10 kk_10_0 fl_10_10 rfl dX10_isPlace_1 ?_
  refine k_iload_n (q := 1) C dX10_isPlace_4 rfl rfl ?_
  refine k_cVI C ct_X7_hasValley my_7_hasValley ml_10_84 rfl ⟨Nat.le_of_ble_eq_true rfl, Nat.le_of_ble_eq_true rfl⟩ (recvC (b := 140) (ci := 7) rfl ⟨rfl, rfl⟩ am_159 rfl rfl) rfl (Nat.le_of_ble_eq_true rfl) dX10_isPlace_5 ⟨Nat.le_refl _, Nat.le_refl _⟩ (fun r1 _ => ?_)
  refine k_if_eq (tgt := 26) C dX10_isPlace_8 (by decide) (fun _ => ?_) (fun _ => ?_)
  · refine k_iconst (v := 0) C dX10_isPlace_26 rfl ?_
    exact k_iret C rfl ⟨rfl, rfl⟩ dX10_isPlace_27
  · refine k_iload_n (q := 2) C dX10_isPlace_11 rfl rfl ?_
    refine k_if_lt (tgt := 26) C dX10_isPlace_12 (by decide) (fun _ => ?_) (fun _ => ?_)
    · refine k_iconst (v := 0) C dX10_isPlace_26 rfl ?_
      exact k_iret C rfl ⟨rfl, rfl⟩ dX10_isPlace_27
    · refine k_iload_n (q := 2) C dX10_isPlace_15 rfl rfl ?_
      refine k_ldcw C co_10_292 dX10_isPlace_16 ?_
      refine k_icmp_gt (tgt := 26) C dX10_isPlace_19 (by decide) (fun _ => ?_) (fun _ => ?_)
      · refine k_iconst (v := 0) C dX10_isPlace_26 rfl ?_
        exact k_iret C rfl ⟨rfl, rfl⟩ dX10_isPlace_27
      · refine k_iconst (v := 1) C dX10_isPlace_22 rfl ?_
        refine k_goto (tgt := 27) C dX10_isPlace_23 (by decide) ?_
        exact k_iret C rfl ⟨rfl, rfl⟩ dX10_isPlace_27
theorem ct_X10_isPlace {l : Launch} {θ : TH} {ad Y : Nat → Nat} {S : St} {Z : Zt} {a1 : Int32} {a2 : Int32}  : ∀ r, f_X10_isPlace Z S a1 a2 = some r → Ct l θ yX10_isPlace cX10_isPlace 3 (some .boolean) 1 0 0 [.ref (ad 219), .int a1, .int a2] (wdC θ ad Y Z S) (PI (wdC θ ad Y Z S) r) :=
  fun r hr => Ct.of (by decide +kernel) (Nat.le_of_ble_eq_true rfl) (fun X _ C _ => kw_X10_isPlace C  r hr)
