def f_X10_law (F : Nat) (S : St) (Z : Zt) (a1 : Int32) : Option (Int32 × St × Zt) := (f_X7_hasMoon Z S a1).bind fun r1 => (if r1 = 0 then some ((-1 : Int32), S, Z) else (f_X5_read F Z S).bind fun r2 => (if r2.1 < 0 then (f_X7_setLaw r2.2 Z a1).bind fun r3 => some ((1 : Int32), r3.1, r3.2) else some ((-100) - r2.1, r2.2, Z)))
set_option maxRecDepth 20000 in
theorem kw_X10_law {X : GX} {θ : TH} {ad : Nat → Nat} {Y : Nat → Nat} {F : Nat} {S : St} {Z : Zt} {a1 : Int32} (C : CX (mE X θ (wdC θ ad Y Z S) 3) RX10 cX10_law (some .int) 65 6 607)  : Dk (mE X θ (wdC θ ad Y Z S) 3) (mTa X θ (wdC θ ad Y Z S) 3 6 607 (PIA θ ad)) 0 0 (wdC θ ad Y Z S) [(0, .ref (ad 219)), (1, .int a1)] [] 0 (f_X10_law F S Z a1) := by
  have hb := @BDL.z Z
  show Dk _ _ _ _ _ _ _ _ ((f_X7_hasMoon Z S a1).bind fun r1 => (if r1 = 0 then some ((-1 : Int32), S, Z) else (f_X5_read F Z S).bind fun r2 => (if r2.1 < 0 then (f_X7_setLaw r2.2 Z a1).bind fun r3 => some ((1 : Int32), r3.1, r3.2) else some ((-100) - r2.1, r2.2, Z))))
  refine k_aload_n (q := 0) C dX10_law_0 rfl rfl ?_
  refine c_get (b := 200) (ci := 10) (kf := 0) (N := 9) C rfl ⟨rfl, rfl⟩ am_219 rfl lay_10 kk_10_0 fl_10_10 rfl dX10_law_1 ?_
  refine k_iload_n (q := 1) C dX10_law_4 rfl rfl ?_
  refine k_cVI C ct_X7_hasMoon my_7_hasMoon ml_10_88 rfl ⟨Nat.le_of_ble_eq_true rfl, Nat.le_of_ble_eq_true rfl⟩ (recvC (b := 140) (ci := 7) rfl ⟨rfl, rfl⟩ am_159 rfl rfl) rfl (Nat.le_of_ble_eq_true rfl) dX10_law_5 hb.e (fun r1 _ => ?_)
  refine k_if_ne (tgt := 13) C dX10_law_8 (by decide) (fun _ => ?_) (fun _ => ?_)
  · refine k_aload_n (q := 0) C dX10_law_13 rfl rfl ?_
    refine c_get (b := 200) (ci := 10) (kf := 1) (N := 9) C rfl ⟨rfl, rfl⟩ am_219 rfl lay_10 kk_10_1 fl_10_19 rfl dX10_law_14 ?_
    refine k_cVI C ct_X5_read my_5_read ml_10_108 rfl ⟨Nat.le_of_ble_eq_true rfl, Nat.le_of_ble_eq_true rfl⟩ (recvC (b := 100) (ci := 5) rfl ⟨rfl, rfl⟩ am_119 rfl rfl) rfl (Nat.le_of_ble_eq_true rfl) dX10_law_17 hb.e (fun r2 _ => ?_)
    refine k_istore_n (lv' := [(2, .int r2.1), (0, .ref (ad 219)), (1, .int a1)]) C dX10_law_20 rfl (Nat.le_of_ble_eq_true rfl) rfl ?_
    refine k_iload_n (q := 0) C dX10_law_21 rfl rfl ?_
    refine k_if_lt (tgt := 30) C dX10_law_22 (by decide) (fun _ => ?_) (fun _ => ?_)
    · refine k_aload_n (q := 1) C dX10_law_30 rfl rfl ?_
      refine c_get (b := 200) (ci := 10) (kf := 0) (N := 9) C rfl ⟨rfl, rfl⟩ am_219 rfl lay_10 kk_10_0 fl_10_10 rfl dX10_law_31 ?_
      refine k_iload_n (q := 2) C dX10_law_34 rfl rfl ?_
      refine k_aload_n (q := 1) C dX10_law_35 rfl rfl ?_
      refine c_get (b := 200) (ci := 10) (kf := 1) (N := 9) C rfl ⟨rfl, rfl⟩ am_219 rfl lay_10 kk_10_1 fl_10_19 rfl dX10_law_36 ?_
      refine k_cAV C ct_X7_setLaw my_7_setLaw ml_10_111 rfl ⟨Nat.le_of_ble_eq_true rfl, Nat.le_of_ble_eq_true rfl⟩ (recvC (b := 140) (ci := 7) rfl ⟨rfl, rfl⟩ am_159 rfl rfl) rfl (Nat.le_of_ble_eq_true rfl) dX10_law_39 hb (fun r3 Y4 hr5 => ?_)
      refine k_iconst (v := 1) C dX10_law_42 rfl ?_
      exact k_iretA hb C ⟨rfl, _, rfl⟩ dX10_law_43
    · refine k_bipush (v := (-100)) C dX10_law_25 rfl ?_
      refine k_iload_n (q := 0) C dX10_law_27 rfl rfl ?_
      refine k_isub C dX10_law_28 ?_
      exact k_iretA hb.e C ⟨rfl, _, rfl⟩ dX10_law_29
  · refine k_iconst (v := (-1)) C dX10_law_11 rfl ?_
    exact k_iretA hb.e C ⟨rfl, _, rfl⟩ dX10_law_12
theorem ct_X10_law {l : Launch} {θ : TH} {ad Y : Nat → Nat} {S : St} {Z : Zt} {F : Nat} {a1 : Int32}  : ∀ r, f_X10_law F S Z a1 = some r → Ct l θ yX10_law cX10_law 3 (some .int) 65 6 607 [.ref (ad 219), .int a1] (wdC θ ad Y Z S) (PIA θ ad r) :=
  fun r hr => Ct.of (by decide +kernel) (Nat.le_of_ble_eq_true rfl) (fun X _ C _ => kw_X10_law C  r hr)
