set_option maxRecDepth 20000 in
theorem kw_X11_cheapest {X : GX} {θ : TH} {ad : Nat → Nat} {F : Nat} {S : St} {a1 : Int32} {a2 : Int32} {a3 : Int32} {a4 : Int32} (C : CX (mE X θ (wdM θ ad S) 9) RX11 cX11_cheapest (some .int) 69 0 0)  : Dk (mE X θ (wdM θ ad S) 9) (mT X θ (wdM θ ad S) 9 (PIS (wdM θ ad))) 0 0 (wdM θ ad S) [(0, .ref (ad 44)), (1, .int a1), (2, .int a2), (3, .int a3), (4, .int a4)] [] 0 (f_X11_cheapest F S a1 a2 a3 a4) := by
  unfold f_X11_cheapest
  refine k_aload_n (q := 0) C dX11_cheapest_0 rfl rfl ?_
  refine k_iload_n (q := 1) C dX11_cheapest_1 rfl rfl ?_
  refine k_cVI C ct_X11_isDv my_11_isDv ml_11_237 rfl ⟨Nat.le_of_ble_eq_true rfl, Nat.le_of_ble_eq_true rfl⟩ recvM rfl (Nat.le_of_ble_eq_true rfl) dX11_cheapest_2 ⟨Nat.le_refl _, Nat.le_refl _⟩ (fun r1 _ => ?_)
  refine k_if_eq (tgt := 38) C dX11_cheapest_5 (by decide) (fun _ => ?_) (fun _ => ?_)
  · refine k_ldc C co_11_240 dX11_cheapest_38 ?_
    exact k_iret C rfl ⟨rfl, rfl⟩ dX11_cheapest_40
  · refine k_iload_n (q := 2) C dX11_cheapest_8 rfl rfl ?_
    refine k_cSI C ct_X11_isHour my_11_isHour ml_11_134 rfl ⟨Nat.le_of_ble_eq_true rfl, Nat.le_of_ble_eq_true rfl⟩ rfl (Nat.le_of_ble_eq_true rfl) dX11_cheapest_9 ⟨Nat.le_refl _, Nat.le_refl _⟩ (fun r2 _ => ?_)
    refine k_if_eq (tgt := 38) C dX11_cheapest_12 (by decide) (fun _ => ?_) (fun _ => ?_)
    · refine k_ldc C co_11_240 dX11_cheapest_38 ?_
      exact k_iret C rfl ⟨rfl, rfl⟩ dX11_cheapest_40
    · refine k_iload_n (q := 3) C dX11_cheapest_15 rfl rfl ?_
      refine k_i2l C dX11_cheapest_16 ?_
      refine k_lconst (v := 1) C dX11_cheapest_17 rfl ?_
      refine k_ldc2 C co_11_261 dX11_cheapest_18 ?_
      refine k_cSI C ct_X11_within my_11_within ml_11_106 rfl ⟨Nat.le_of_ble_eq_true rfl, Nat.le_of_ble_eq_true rfl⟩ rfl (Nat.le_of_ble_eq_true rfl) dX11_cheapest_21 ⟨Nat.le_refl _, Nat.le_refl _⟩ (fun r3 _ => ?_)
      refine k_if_eq (tgt := 38) C dX11_cheapest_24 (by decide) (fun _ => ?_) (fun _ => ?_)
      · refine k_ldc C co_11_240 dX11_cheapest_38 ?_
        exact k_iret C rfl ⟨rfl, rfl⟩ dX11_cheapest_40
      · refine k_iload (q := 4) C dX11_cheapest_27 rfl ?_
        refine k_i2l C dX11_cheapest_29 ?_
        refine k_lconst (v := 0) C dX11_cheapest_30 rfl ?_
        refine k_lconst (v := 1) C dX11_cheapest_31 rfl ?_
        refine k_cSI C ct_X11_within my_11_within ml_11_106 rfl ⟨Nat.le_of_ble_eq_true rfl, Nat.le_of_ble_eq_true rfl⟩ rfl (Nat.le_of_ble_eq_true rfl) dX11_cheapest_32 ⟨Nat.le_refl _, Nat.le_refl _⟩ (fun r4 _ => ?_)
        refine k_if_ne (tgt := 41) C dX11_cheapest_35 (by decide) (fun _ => ?_) (fun _ => ?_)
        · refine k_iconst (v := (-1)) C dX11_cheapest_41 rfl ?_
          refine k_istore (lv' := [(5, .int (-1)), (0, .ref (ad 44)), (1, .int a1), (2, .int a2), (3, .int a3), (4, .int a4)]) C dX11_cheapest_42 (Nat.le_of_ble_eq_true rfl) rfl ?_
          refine k_iconst (v := (-1)) C dX11_cheapest_44 rfl ?_
          refine k_istore (lv' := [(6, .int (-1)), (5, .int (-1)), (0, .ref (ad 44)), (1, .int a1), (2, .int a2), (3, .int a3), (4, .int a4)]) C dX11_cheapest_45 (Nat.le_of_ble_eq_true rfl) rfl ?_
          refine k_iload_n (q := 4) C dX11_cheapest_47 rfl rfl ?_
          refine k_istore (lv' := [(7, .int a2), (6, .int (-1)), (5, .int (-1)), (0, .ref (ad 44)), (1, .int a1), (2, .int a2), (3, .int a3), (4, .int a4)]) C dX11_cheapest_48 (Nat.le_of_ble_eq_true rfl) rfl ?_
          refine Dk.loc [3, 4, 5, 6, 7, 2, 1, 0] rfl ?_
          exact kb_X11_cheapest_L50 C _ _ _ _ _
        · refine k_ldc C co_11_240 dX11_cheapest_38 ?_
          exact k_iret C rfl ⟨rfl, rfl⟩ dX11_cheapest_40
theorem ct_X11_cheapest {l : Launch} {θ : TH} {ad : Nat → Nat} {S : St} {F : Nat} {a1 : Int32} {a2 : Int32} {a3 : Int32} {a4 : Int32} : ∀ r, f_X11_cheapest F S a1 a2 a3 a4 = some r → Ct l θ yX11_cheapest cX11_cheapest 9 (some .int) 69 0 0 [.ref (ad 44), .int a1, .int a2, .int a3, .int a4] (wdM θ ad S) (PIS (wdM θ ad) r) :=
  fun r hr => Ct.of (by decide) (Nat.le_of_ble_eq_true rfl) (fun X _ C _ => kw_X11_cheapest C r hr)
set_option maxRecDepth 20000 in
theorem kb_X11_broken_B98 {X : GX} {θ : TH} {ad : Nat → Nat} {S0 : St} {F : Nat} {a1 : Int32} {a2 : Int32} {a3 : Int32} {K45 : St → Int32 → Int32 → Int32 → Int32 → Option (Int32 × St)} (C : CX (mE X θ (wdM θ ad S0) 9) RX11 cX11_broken (some .int) 67 0 0) (hK45 : ∀ (S : St) (x4 : Int32) (x5 : Int32) (x6 : Int32) (x7 : Int32), Dk (mE X θ (wdM θ ad S0) 9) (mT X θ (wdM θ ad S0) 9 (PIS (wdM θ ad))) 0 0 (wdM θ ad S) [(0, .ref (ad 44)), (1, .int a1), (2, .int a2), (3, .int a3), (4, .int x4), (5, .int x5), (6, .int x6), (7, .int x7)] [] 45 (K45 S x4 x5 x6 x7)) (S : St) (x4 : Int32) (x5 : Int32) (x6 : Int32) (x7 : Int32) (x8 : Int32) : Dk (mE X θ (wdM θ ad S0) 9) (mT X θ (wdM θ ad S0) 9 (PIS (wdM θ ad))) 0 0 (wdM θ ad S) [(0, .ref (ad 44)), (1, .int a1), (2, .int a2), (3, .int a3), (4, .int x4), (5, .int x5), (6, .int x6), (7, .int x7), (8, .int x8)] [] 98 (f_X11_broken_B98 F a1 a2 a3 K45 S x4 x5 x6 x7 x8) := by
  unfold f_X11_broken_B98
  refine k_iload (q := 5) C dX11_broken_98 rfl ?_
  refine k_iload (q := 8) C dX11_broken_100 rfl ?_
  refine k_icmp_ne (tgt := 107) C dX11_broken_102 (by decide) (fun _ => ?_) (fun _ => ?_)
  · refine k_iload (q := 6) C dX11_broken_107 rfl ?_
    refine k_aload_n (q := 0) C dX11_broken_109 rfl rfl ?_
    refine k_iload (q := 4) C dX11_broken_110 rfl ?_
    refine k_iload_n (q := 1) C dX11_broken_112 rfl rfl ?_
    refine k_bipush (v := 10) C dX11_broken_113 rfl ?_
    refine k_irem C dX11_broken_115 (by decide) ?_
    refine k_iload (q := 7) C dX11_broken_116 rfl ?_
    refine k_iload (q := 5) C dX11_broken_118 rfl ?_
    refine k_cVI C ct_X11_costOf my_11_costOf ml_11_241 rfl ⟨Nat.le_of_ble_eq_true rfl, Nat.le_of_ble_eq_true rfl⟩ recvM rfl (Nat.le_of_ble_eq_true rfl) dX11_broken_120 ⟨Nat.le_refl _, Nat.le_refl _⟩ (fun r5 _ => ?_)
    refine k_iadd C dX11_broken_123 ?_
    refine k_istore (lv' := [(6, .int (x6 + r5.1)), (0, .ref (ad 44)), (1, .int a1), (2, .int a2), (3, .int a3), (4, .int x4), (5, .int x5), (7, .int x7), (8, .int x8)]) C dX11_broken_124 (Nat.le_of_ble_eq_true rfl) rfl ?_
    refine k_iinc (q := 6) (v := x5 + 1) (lv' := [(5, .int (x5 + 1)), (6, .int (x6 + r5.1)), (0, .ref (ad 44)), (1, .int a1), (2, .int a2), (3, .int a3), (4, .int x4), (7, .int x7), (8, .int x8)]) C dX11_broken_126 rfl rfl (Nat.le_of_ble_eq_true rfl) rfl ?_
    refine k_iinc (q := 7) (v := x7 + 1) (lv' := [(7, .int (x7 + 1)), (5, .int (x5 + 1)), (6, .int (x6 + r5.1)), (0, .ref (ad 44)), (1, .int a1), (2, .int a2), (3, .int a3), (4, .int x4), (8, .int x8)]) C dX11_broken_129 rfl rfl (Nat.le_of_ble_eq_true rfl) rfl ?_
    refine k_goto (tgt := 45) C dX11_broken_132 (by decide) ?_
    refine Dk.loc [3, 4, 5, 6, 7, 1, 2, 0] rfl ?_
    exact hK45 _ _ _ _ _
  · refine k_iconst (v := (-1)) C dX11_broken_105 rfl ?_
    exact k_iret C rfl ⟨rfl, rfl⟩ dX11_broken_106
set_option maxRecDepth 20000 in
theorem kb_X11_broken_L68 {X : GX} {θ : TH} {ad : Nat → Nat} {S0 : St} {F : Nat} {a1 : Int32} {a2 : Int32} {a3 : Int32} {K45 : St → Int32 → Int32 → Int32 → Int32 → Option (Int32 × St)} (C : CX (mE X θ (wdM θ ad S0) 9) RX11 cX11_broken (some .int) 67 0 0) (hK45 : ∀ (S : St) (x4 : Int32) (x5 : Int32) (x6 : Int32) (x7 : Int32), Dk (mE X θ (wdM θ ad S0) 9) (mT X θ (wdM θ ad S0) 9 (PIS (wdM θ ad))) 0 0 (wdM θ ad S) [(0, .ref (ad 44)), (1, .int a1), (2, .int a2), (3, .int a3), (4, .int x4), (5, .int x5), (6, .int x6), (7, .int x7)] [] 45 (K45 S x4 x5 x6 x7)) : ∀ (n : Nat) (S : St) (x4 : Int32) (x5 : Int32) (x6 : Int32) (x7 : Int32) (x8 : Int32), Dk (mE X θ (wdM θ ad S0) 9) (mT X θ (wdM θ ad S0) 9 (PIS (wdM θ ad))) 0 0 (wdM θ ad S) [(0, .ref (ad 44)), (1, .int a1), (2, .int a2), (3, .int a3), (4, .int x4), (5, .int x5), (6, .int x6), (7, .int x7), (8, .int x8)] [] 68 (f_X11_broken_L68 F a1 a2 a3 K45 n S x4 x5 x6 x7 x8) := by
  intro n
  induction n with
  | zero => intro S x4 x5 x6 x7 x8; exact Dk.none
  | succ n ih =>
    intro S x4 x5 x6 x7 x8
    show Dk _ _ _ _ _ _ _ _ (if x8 ≤ x5 then f_X11_broken_B98 F a1 a2 a3 K45 S x4 x5 x6 x7 x8 else (f_X11_costOf F S x4 (jrem a1 10) x7 x5).bind fun r4 => (if (0 : Int32) ≤ r4.1 then f_X11_broken_B98 F a1 a2 a3 K45 r4.2 x4 x5 x6 x7 x8 else f_X11_broken_L68 F a1 a2 a3 K45 n r4.2 x4 (x5 + 1) x6 x7 x8))
    refine k_iload (q := 5) C dX11_broken_68 rfl ?_
    refine k_iload (q := 8) C dX11_broken_70 rfl ?_
    refine k_icmp_ge (tgt := 98) C dX11_broken_72 (by decide) (fun _ => ?_) (fun _ => ?_)
    · exact kb_X11_broken_B98 C hK45 _ _ _ _ _ _
    · refine k_aload_n (q := 0) C dX11_broken_75 rfl rfl ?_
      refine k_iload (q := 4) C dX11_broken_76 rfl ?_
      refine k_iload_n (q := 1) C dX11_broken_78 rfl rfl ?_
      refine k_bipush (v := 10) C dX11_broken_79 rfl ?_
      refine k_irem C dX11_broken_81 (by decide) ?_
      refine k_iload (q := 7) C dX11_broken_82 rfl ?_
      refine k_iload (q := 5) C dX11_broken_84 rfl ?_
      refine k_cVI C ct_X11_costOf my_11_costOf ml_11_241 rfl ⟨Nat.le_of_ble_eq_true rfl, Nat.le_of_ble_eq_true rfl⟩ recvM rfl (Nat.le_of_ble_eq_true rfl) dX11_broken_86 ⟨Nat.le_refl _, Nat.le_refl _⟩ (fun r4 _ => ?_)
      refine k_if_ge (tgt := 98) C dX11_broken_89 (by decide) (fun _ => ?_) (fun _ => ?_)
      · exact kb_X11_broken_B98 C hK45 _ _ _ _ _ _
      · refine k_iinc (q := 5) (v := x5 + 1) (lv' := [(5, .int (x5 + 1)), (0, .ref (ad 44)), (1, .int a1), (2, .int a2), (3, .int a3), (4, .int x4), (6, .int x6), (7, .int x7), (8, .int x8)]) C dX11_broken_92 rfl rfl (Nat.le_of_ble_eq_true rfl) rfl ?_
        refine k_goto (tgt := 68) C dX11_broken_95 (by decide) ?_
        refine Dk.loc [1, 2, 3, 4, 5, 0, 6, 7, 8] rfl ?_
        exact ih _ _ _ _ _ _
set_option maxRecDepth 20000 in
theorem kb_X11_broken_L45 {X : GX} {θ : TH} {ad : Nat → Nat} {S0 : St} {F : Nat} {a1 : Int32} {a2 : Int32} {a3 : Int32} (C : CX (mE X θ (wdM θ ad S0) 9) RX11 cX11_broken (some .int) 67 0 0)  : ∀ (n : Nat) (S : St) (x4 : Int32) (x5 : Int32) (x6 : Int32) (x7 : Int32), Dk (mE X θ (wdM θ ad S0) 9) (mT X θ (wdM θ ad S0) 9 (PIS (wdM θ ad))) 0 0 (wdM θ ad S) [(0, .ref (ad 44)), (1, .int a1), (2, .int a2), (3, .int a3), (4, .int x4), (5, .int x5), (6, .int x6), (7, .int x7)] [] 45 (f_X11_broken_L45 F a1 a2 a3 n S x4 x5 x6 x7) := by
  intro n
  induction n with
  | zero => intro S x4 x5 x6 x7; exact Dk.none
  | succ n ih =>
    intro S x4 x5 x6 x7
    show Dk _ _ _ _ _ _ _ _ (chk (inr (6 + x4) 30) ((if (S.2.1 0 (6 + x4).toNatClampNeg) ≤ x7 then if a3 = 0 then some (x5 - 1, S) else if a3 = 1 then some (x6, S) else chk (inr (6 + x4) 30) (some ((x5 - a2) - (S.2.1 0 (6 + x4).toNatClampNeg), S)) else f_X11_broken_L68 F a1 a2 a3 (f_X11_broken_L45 F a1 a2 a3 n) F S x4 x5 x6 x7 (x5 + 2000))))
    refine k_iload (q := 7) C dX11_broken_45 rfl ?_
    refine k_aload_n (q := 0) C dX11_broken_47 rfl rfl ?_
    refine m_geta (kf := 0) C mR_0 fl_11_9 dX11_broken_48 ?_
    refine k_bipush (v := 6) C dX11_broken_51 rfl ?_
    refine k_iload (q := 4) C dX11_broken_53 rfl ?_
    refine k_iadd C dX11_broken_55 ?_
    refine m_iald (x := S.2.1 0 (6 + x4).toNatClampNeg) C mA_0 mN_0 rfl dX11_broken_56 ?_
    refine k_icmp_ge (tgt := 135) C dX11_broken_57 (by decide) (fun _ => ?_) (fun _ => ?_)
    · refine k_iload_n (q := 3) C dX11_broken_135 rfl rfl ?_
      refine k_if_ne (tgt := 146) C dX11_broken_136 (by decide) (fun _ => ?_) (fun _ => ?_)
      · refine k_iload_n (q := 3) C dX11_broken_146 rfl rfl ?_
        refine k_iconst (v := 1) C dX11_broken_147 rfl ?_
        refine k_icmp_ne (tgt := 156) C dX11_broken_148 (by decide) (fun _ => ?_) (fun _ => ?_)
        · refine k_iload (q := 5) C dX11_broken_156 rfl ?_
          refine k_iload_n (q := 2) C dX11_broken_158 rfl rfl ?_
          refine k_isub C dX11_broken_159 ?_
          refine k_aload_n (q := 0) C dX11_broken_160 rfl rfl ?_
          refine m_geta (kf := 0) C mR_0 fl_11_9 dX11_broken_161 ?_
          refine k_bipush (v := 6) C dX11_broken_164 rfl ?_
          refine k_iload (q := 4) C dX11_broken_166 rfl ?_
          refine k_iadd C dX11_broken_168 ?_
          refine m_iald (x := S.2.1 0 (6 + x4).toNatClampNeg) C mA_0 mN_0 rfl dX11_broken_169 ?_
          refine k_isub C dX11_broken_170 ?_
          exact k_iret C rfl ⟨rfl, rfl⟩ dX11_broken_171
        · refine k_iload (q := 6) C dX11_broken_151 rfl ?_
          refine k_goto (tgt := 171) C dX11_broken_153 (by decide) ?_
          exact k_iret C rfl ⟨rfl, rfl⟩ dX11_broken_171
      · refine k_iload (q := 5) C dX11_broken_139 rfl ?_
        refine k_iconst (v := 1) C dX11_broken_141 rfl ?_
        refine k_isub C dX11_broken_142 ?_
        refine k_goto (tgt := 171) C dX11_broken_143 (by decide) ?_
        exact k_iret C rfl ⟨rfl, rfl⟩ dX11_broken_171
    · refine k_iload (q := 5) C dX11_broken_60 rfl ?_
      refine k_sipush (v := 2000) C dX11_broken_62 rfl ?_
      refine k_iadd C dX11_broken_65 ?_
      refine k_istore (lv' := [(8, .int (x5 + 2000)), (0, .ref (ad 44)), (1, .int a1), (2, .int a2), (3, .int a3), (4, .int x4), (5, .int x5), (6, .int x6), (7, .int x7)]) C dX11_broken_66 (Nat.le_of_ble_eq_true rfl) rfl ?_
      refine Dk.loc [1, 2, 3, 4, 5, 6, 7, 8, 0] rfl ?_
      exact kb_X11_broken_L68 C ih _ _ _ _ _ _ _
set_option maxRecDepth 20000 in
theorem kw_X11_broken {X : GX} {θ : TH} {ad : Nat → Nat} {F : Nat} {S : St} {a1 : Int32} {a2 : Int32} {a3 : Int32} (C : CX (mE X θ (wdM θ ad S) 9) RX11 cX11_broken (some .int) 67 0 0)  : Dk (mE X θ (wdM θ ad S) 9) (mT X θ (wdM θ ad S) 9 (PIS (wdM θ ad))) 0 0 (wdM θ ad S) [(0, .ref (ad 44)), (1, .int a1), (2, .int a2), (3, .int a3)] [] 0 (f_X11_broken F S a1 a2 a3) := by
  unfold f_X11_broken
  refine k_aload_n (q := 0) C dX11_broken_0 rfl rfl ?_
  refine k_iload_n (q := 1) C dX11_broken_1 rfl rfl ?_
  refine k_cVI C ct_X11_isDv my_11_isDv ml_11_237 rfl ⟨Nat.le_of_ble_eq_true rfl, Nat.le_of_ble_eq_true rfl⟩ recvM rfl (Nat.le_of_ble_eq_true rfl) dX11_broken_2 ⟨Nat.le_refl _, Nat.le_refl _⟩ (fun r1 _ => ?_)
  refine k_if_eq (tgt := 27) C dX11_broken_5 (by decide) (fun _ => ?_) (fun _ => ?_)
  · refine k_ldc C co_11_240 dX11_broken_27 ?_
    exact k_iret C rfl ⟨rfl, rfl⟩ dX11_broken_29
  · refine k_iload_n (q := 2) C dX11_broken_8 rfl rfl ?_
    refine k_cSI C ct_X11_isHour my_11_isHour ml_11_134 rfl ⟨Nat.le_of_ble_eq_true rfl, Nat.le_of_ble_eq_true rfl⟩ rfl (Nat.le_of_ble_eq_true rfl) dX11_broken_9 ⟨Nat.le_refl _, Nat.le_refl _⟩ (fun r2 _ => ?_)
    refine k_if_eq (tgt := 27) C dX11_broken_12 (by decide) (fun _ => ?_) (fun _ => ?_)
    · refine k_ldc C co_11_240 dX11_broken_27 ?_
      exact k_iret C rfl ⟨rfl, rfl⟩ dX11_broken_29
    · refine k_iload_n (q := 3) C dX11_broken_15 rfl rfl ?_
      refine k_i2l C dX11_broken_16 ?_
      refine k_lconst (v := 0) C dX11_broken_17 rfl ?_
      refine k_ldc2 C co_11_115 dX11_broken_18 ?_
      refine k_cSI C ct_X11_within my_11_within ml_11_106 rfl ⟨Nat.le_of_ble_eq_true rfl, Nat.le_of_ble_eq_true rfl⟩ rfl (Nat.le_of_ble_eq_true rfl) dX11_broken_21 ⟨Nat.le_refl _, Nat.le_refl _⟩ (fun r3 _ => ?_)
      refine k_if_ne (tgt := 30) C dX11_broken_24 (by decide) (fun _ => ?_) (fun _ => ?_)
      · refine k_iload_n (q := 1) C dX11_broken_30 rfl rfl ?_
        refine k_bipush (v := 10) C dX11_broken_31 rfl ?_
        refine k_idiv C dX11_broken_33 (by decide) ?_
        refine k_istore (lv' := [(4, .int (a1 / 10)), (0, .ref (ad 44)), (1, .int a1), (2, .int a2), (3, .int a3)]) C dX11_broken_34 (Nat.le_of_ble_eq_true rfl) rfl ?_
        refine k_iload_n (q := 3) C dX11_broken_36 rfl rfl ?_
        refine k_istore (lv' := [(5, .int a2), (4, .int (a1 / 10)), (0, .ref (ad 44)), (1, .int a1), (2, .int a2), (3, .int a3)]) C dX11_broken_37 (Nat.le_of_ble_eq_true rfl) rfl ?_
        refine k_iconst (v := 0) C dX11_broken_39 rfl ?_
        refine k_istore (lv' := [(6, .int 0), (5, .int a2), (4, .int (a1 / 10)), (0, .ref (ad 44)), (1, .int a1), (2, .int a2), (3, .int a3)]) C dX11_broken_40 (Nat.le_of_ble_eq_true rfl) rfl ?_
        refine k_iconst (v := 0) C dX11_broken_42 rfl ?_
        refine k_istore (lv' := [(7, .int 0), (6, .int 0), (5, .int a2), (4, .int (a1 / 10)), (0, .ref (ad 44)), (1, .int a1), (2, .int a2), (3, .int a3)]) C dX11_broken_43 (Nat.le_of_ble_eq_true rfl) rfl ?_
        refine Dk.loc [4, 5, 6, 7, 3, 2, 1, 0] rfl ?_
        exact kb_X11_broken_L45 C _ _ _ _ _ _
      · refine k_ldc C co_11_240 dX11_broken_27 ?_
        exact k_iret C rfl ⟨rfl, rfl⟩ dX11_broken_29
theorem ct_X11_broken {l : Launch} {θ : TH} {ad : Nat → Nat} {S : St} {F : Nat} {a1 : Int32} {a2 : Int32} {a3 : Int32} : ∀ r, f_X11_broken F S a1 a2 a3 = some r → Ct l θ yX11_broken cX11_broken 9 (some .int) 67 0 0 [.ref (ad 44), .int a1, .int a2, .int a3] (wdM θ ad S) (PIS (wdM θ ad) r) :=
  fun r hr => Ct.of (by decide) (Nat.le_of_ble_eq_true rfl) (fun X _ C _ => kw_X11_broken C r hr)
set_option maxRecDepth 20000 in
theorem kb_X11_findFar_B121 {X : GX} {θ : TH} {ad : Nat → Nat} {S0 : St} {F : Nat} {K36 : St → Int32 → Option (St)} {K46 : St → Int32 → Int32 → Option (St)} {K57 : St → Int32 → Int32 → Int32 → Option (St)} (C : CX (mE X θ (wdM θ ad S0) 6) RX11 cX11_findFar none 0 0 0) (hK36 : ∀ (S : St) (x2 : Int32), Dk (mE X θ (wdM θ ad S0) 6) (mT X θ (wdM θ ad S0) 6 (PVS (wdM θ ad))) 0 0 (wdM θ ad S) [(0, .ref (ad 44)), (2, .int x2)] [] 36 (K36 S x2)) (hK46 : ∀ (S : St) (x2 : Int32) (x3 : Int32), Dk (mE X θ (wdM θ ad S0) 6) (mT X θ (wdM θ ad S0) 6 (PVS (wdM θ ad))) 0 0 (wdM θ ad S) [(0, .ref (ad 44)), (2, .int x2), (3, .int x3)] [] 46 (K46 S x2 x3)) (hK57 : ∀ (S : St) (x2 : Int32) (x3 : Int32) (x4 : Int32), Dk (mE X θ (wdM θ ad S0) 6) (mT X θ (wdM θ ad S0) 6 (PVS (wdM θ ad))) 0 0 (wdM θ ad S) [(0, .ref (ad 44)), (2, .int x2), (3, .int x3), (4, .int x4)] [] 57 (K57 S x2 x3 x4)) (S : St) (x2 : Int32) (x3 : Int32) (x4 : Int32) (t0 : Int32) : Dk (mE X θ (wdM θ ad S0) 6) (mT X θ (wdM θ ad S0) 6 (PVS (wdM θ ad))) 0 0 (wdM θ ad S) [(0, .ref (ad 44)), (2, .int x2), (3, .int x3), (4, .int x4)] [.int t0, .ref (ad 30)] 121 (f_X11_findFar_B121 F K36 K46 K57 S x2 x3 x4 t0) := by
  unfold f_X11_findFar_B121
  refine k_aload_n (q := 0) C dX11_findFar_121 rfl rfl ?_
  refine m_geta (kf := 30) C mR_30 fl_11_65 dX11_findFar_122 ?_
  refine k_iload (q := 3) C dX11_findFar_125 rfl ?_
  refine m_iald (x := S.2.1 30 (x4).toNatClampNeg) C mA_30 mN_30 rfl dX11_findFar_127 ?_
  refine m_iast C mA_30 mN_30 dX11_findFar_128 ?_
  refine k_iinc (q := 3) (v := x4 + 1) (lv' := [(4, .int (x4 + 1)), (0, .ref (ad 44)), (2, .int x2), (3, .int x3)]) C dX11_findFar_129 rfl rfl (Nat.le_of_ble_eq_true rfl) rfl ?_
  refine k_goto (tgt := 57) C dX11_findFar_132 (by decide) ?_
  refine Dk.loc [1, 2, 3, 0] rfl ?_
  exact hK57 _ _ _ _
set_option maxRecDepth 20000 in
theorem kb_X11_findFar_L57 {X : GX} {θ : TH} {ad : Nat → Nat} {S0 : St} {F : Nat} {K36 : St → Int32 → Option (St)} {K46 : St → Int32 → Int32 → Option (St)} (C : CX (mE X θ (wdM θ ad S0) 6) RX11 cX11_findFar none 0 0 0) (hK36 : ∀ (S : St) (x2 : Int32), Dk (mE X θ (wdM θ ad S0) 6) (mT X θ (wdM θ ad S0) 6 (PVS (wdM θ ad))) 0 0 (wdM θ ad S) [(0, .ref (ad 44)), (2, .int x2)] [] 36 (K36 S x2)) (hK46 : ∀ (S : St) (x2 : Int32) (x3 : Int32), Dk (mE X θ (wdM θ ad S0) 6) (mT X θ (wdM θ ad S0) 6 (PVS (wdM θ ad))) 0 0 (wdM θ ad S) [(0, .ref (ad 44)), (2, .int x2), (3, .int x3)] [] 46 (K46 S x2 x3)) : ∀ (n : Nat) (S : St) (x2 : Int32) (x3 : Int32) (x4 : Int32), Dk (mE X θ (wdM θ ad S0) 6) (mT X θ (wdM θ ad S0) 6 (PVS (wdM θ ad))) 0 0 (wdM θ ad S) [(0, .ref (ad 44)), (2, .int x2), (3, .int x3), (4, .int x4)] [] 57 (f_X11_findFar_L57 F K36 K46 n S x2 x3 x4) := by
  intro n
  induction n with
  | zero => intro S x2 x3 x4; exact Dk.none
  | succ n ih =>
    intro S x2 x3 x4
    show Dk _ _ _ _ _ _ _ _ (if (S.1 8) ≤ x4 then K46 S x2 (x3 + 1) else chk (inr ((5 * x3) + x4) 25) (lti (S.2.1 11 ((5 * x3) + x4).toNatClampNeg) fun y1 => (if y1 ≤ 0 then f_X11_findFar_B121 F K36 K46 (f_X11_findFar_L57 F K36 K46 n) S x2 x3 x4 x4 else chk (inr x3 5) (chk (inr x4 5) ((if (S.2.1 30 (x4).toNatClampNeg) ≤ ((S.2.1 30 (x3).toNatClampNeg) + y1) then f_X11_findFar_B121 F K36 K46 (f_X11_findFar_L57 F K36 K46 n) S x2 x3 x4 x4 else chk (inr x3 5) (chk (inr x4 5) (f_X11_findFar_L57 F K36 K46 n (sa S 30 (x4).toNatClampNeg ((S.2.1 30 (x3).toNatClampNeg) + y1)) x2 x3 (x4 + 1)))))))))
    refine k_iload (q := 3) C dX11_findFar_57 rfl ?_
    refine k_aload_n (q := 0) C dX11_findFar_59 rfl rfl ?_
    refine m_geti (kf := 8) (v := S.1 8) C mS_8 fl_11_110 rfl dX11_findFar_60 ?_
    refine k_icmp_ge (tgt := 135) C dX11_findFar_63 (by decide) (fun _ => ?_) (fun _ => ?_)
    · refine k_iinc (q := 2) (v := x3 + 1) (lv' := [(3, .int (x3 + 1)), (0, .ref (ad 44)), (2, .int x2), (4, .int x4)]) C dX11_findFar_135 rfl rfl (Nat.le_of_ble_eq_true rfl) rfl ?_
      refine k_goto (tgt := 46) C dX11_findFar_138 (by decide) ?_
      refine Dk.loc [1, 2, 0] rfl ?_
      exact hK46 _ _ _
    · refine k_aload_n (q := 0) C dX11_findFar_66 rfl rfl ?_
      refine m_geta (kf := 11) C mR_11 fl_11_31 dX11_findFar_67 ?_
      refine k_iconst (v := 5) C dX11_findFar_70 rfl ?_
      refine k_iload_n (q := 2) C dX11_findFar_71 rfl rfl ?_
      refine k_imul C dX11_findFar_72 ?_
      refine k_iload (q := 3) C dX11_findFar_73 rfl ?_
      refine k_iadd C dX11_findFar_75 ?_
      refine m_iald (x := S.2.1 11 ((5 * x3) + x4).toNatClampNeg) C mA_11 mN_11 rfl dX11_findFar_76 ?_
      refine k_lti fun y1 => ?_
      refine k_istore (lv' := [(5, .int y1), (0, .ref (ad 44)), (2, .int x2), (3, .int x3), (4, .int x4)]) C dX11_findFar_77 (Nat.le_of_ble_eq_true rfl) rfl ?_
      refine k_aload_n (q := 1) C dX11_findFar_79 rfl rfl ?_
      refine m_geta (kf := 30) C mR_30 fl_11_65 dX11_findFar_80 ?_
      refine k_iload (q := 4) C dX11_findFar_83 rfl ?_
      refine k_iload (q := 0) C dX11_findFar_85 rfl ?_
      refine k_if_le (tgt := 121) C dX11_findFar_87 (by decide) (fun _ => ?_) (fun _ => ?_)
      · refine Dk.loc [1, 2, 3, 4] rfl ?_
        exact kb_X11_findFar_B121 C hK36 hK46 ih _ _ _ _ _
      · refine k_aload_n (q := 1) C dX11_findFar_90 rfl rfl ?_
        refine m_geta (kf := 30) C mR_30 fl_11_65 dX11_findFar_91 ?_
        refine k_iload_n (q := 3) C dX11_findFar_94 rfl rfl ?_
        refine m_iald (x := S.2.1 30 (x3).toNatClampNeg) C mA_30 mN_30 rfl dX11_findFar_95 ?_
        refine k_iload (q := 0) C dX11_findFar_96 rfl ?_
        refine k_iadd C dX11_findFar_98 ?_
        refine k_aload_n (q := 1) C dX11_findFar_99 rfl rfl ?_
        refine m_geta (kf := 30) C mR_30 fl_11_65 dX11_findFar_100 ?_
        refine k_iload (q := 4) C dX11_findFar_103 rfl ?_
        refine m_iald (x := S.2.1 30 (x4).toNatClampNeg) C mA_30 mN_30 rfl dX11_findFar_105 ?_
        refine k_icmp_ge (tgt := 121) C dX11_findFar_106 (by decide) (fun _ => ?_) (fun _ => ?_)
        · refine Dk.loc [1, 2, 3, 4] rfl ?_
          exact kb_X11_findFar_B121 C hK36 hK46 ih _ _ _ _ _
        · refine k_aload_n (q := 1) C dX11_findFar_109 rfl rfl ?_
          refine m_geta (kf := 30) C mR_30 fl_11_65 dX11_findFar_110 ?_
          refine k_iload_n (q := 3) C dX11_findFar_113 rfl rfl ?_
          refine m_iald (x := S.2.1 30 (x3).toNatClampNeg) C mA_30 mN_30 rfl dX11_findFar_114 ?_
          refine k_iload (q := 0) C dX11_findFar_115 rfl ?_
          refine k_iadd C dX11_findFar_117 ?_
          refine k_goto (tgt := 128) C dX11_findFar_118 (by decide) ?_
          refine m_iast C mA_30 mN_30 dX11_findFar_128 ?_
          refine k_iinc (q := 4) (v := x4 + 1) (lv' := [(4, .int (x4 + 1)), (5, .int y1), (0, .ref (ad 44)), (2, .int x2), (3, .int x3)]) C dX11_findFar_129 rfl rfl (Nat.le_of_ble_eq_true rfl) rfl ?_
          refine k_goto (tgt := 57) C dX11_findFar_132 (by decide) ?_
          refine Dk.loc [2, 3, 4, 0] rfl ?_
          exact ih _ _ _ _
set_option maxRecDepth 20000 in
theorem kb_X11_findFar_L46 {X : GX} {θ : TH} {ad : Nat → Nat} {S0 : St} {F : Nat} {K36 : St → Int32 → Option (St)} (C : CX (mE X θ (wdM θ ad S0) 6) RX11 cX11_findFar none 0 0 0) (hK36 : ∀ (S : St) (x2 : Int32), Dk (mE X θ (wdM θ ad S0) 6) (mT X θ (wdM θ ad S0) 6 (PVS (wdM θ ad))) 0 0 (wdM θ ad S) [(0, .ref (ad 44)), (2, .int x2)] [] 36 (K36 S x2)) : ∀ (n : Nat) (S : St) (x2 : Int32) (x3 : Int32), Dk (mE X θ (wdM θ ad S0) 6) (mT X θ (wdM θ ad S0) 6 (PVS (wdM θ ad))) 0 0 (wdM θ ad S) [(0, .ref (ad 44)), (2, .int x2), (3, .int x3)] [] 46 (f_X11_findFar_L46 F K36 n S x2 x3) := by
  intro n
  induction n with
  | zero => intro S x2 x3; exact Dk.none
  | succ n ih =>
    intro S x2 x3
    show Dk _ _ _ _ _ _ _ _ (if (S.1 8) ≤ x3 then K36 S (x2 + 1) else f_X11_findFar_L57 F K36 (f_X11_findFar_L46 F K36 n) F S x2 x3 0)
    refine k_iload_n (q := 2) C dX11_findFar_46 rfl rfl ?_
    refine k_aload_n (q := 0) C dX11_findFar_47 rfl rfl ?_
    refine m_geti (kf := 8) (v := S.1 8) C mS_8 fl_11_110 rfl dX11_findFar_48 ?_
    refine k_icmp_ge (tgt := 141) C dX11_findFar_51 (by decide) (fun _ => ?_) (fun _ => ?_)
    · refine k_iinc (q := 1) (v := x2 + 1) (lv' := [(2, .int (x2 + 1)), (0, .ref (ad 44)), (3, .int x3)]) C dX11_findFar_141 rfl rfl (Nat.le_of_ble_eq_true rfl) rfl ?_
      refine k_goto (tgt := 36) C dX11_findFar_144 (by decide) ?_
      refine Dk.loc [1, 0] rfl ?_
      exact hK36 _ _
    · refine k_iconst (v := 0) C dX11_findFar_54 rfl ?_
      refine k_istore (lv' := [(4, .int 0), (0, .ref (ad 44)), (2, .int x2), (3, .int x3)]) C dX11_findFar_55 (Nat.le_of_ble_eq_true rfl) rfl ?_
      refine Dk.loc [1, 2, 3, 0] rfl ?_
      exact kb_X11_findFar_L57 C hK36 ih _ _ _ _ _
set_option maxRecDepth 20000 in
theorem kb_X11_findFar_L36 {X : GX} {θ : TH} {ad : Nat → Nat} {S0 : St} {F : Nat} (C : CX (mE X θ (wdM θ ad S0) 6) RX11 cX11_findFar none 0 0 0)  : ∀ (n : Nat) (S : St) (x2 : Int32), Dk (mE X θ (wdM θ ad S0) 6) (mT X θ (wdM θ ad S0) 6 (PVS (wdM θ ad))) 0 0 (wdM θ ad S) [(0, .ref (ad 44)), (2, .int x2)] [] 36 (f_X11_findFar_L36 F n S x2) := by
  intro n
  induction n with
  | zero => intro S x2; exact Dk.none
  | succ n ih =>
    intro S x2
    show Dk _ _ _ _ _ _ _ _ (if (S.1 8) ≤ x2 then some S else f_X11_findFar_L46 F (f_X11_findFar_L36 F n) F S x2 0)
    refine k_iload_n (q := 1) C dX11_findFar_36 rfl rfl ?_
    refine k_aload_n (q := 0) C dX11_findFar_37 rfl rfl ?_
    refine m_geti (kf := 8) (v := S.1 8) C mS_8 fl_11_110 rfl dX11_findFar_38 ?_
    refine k_icmp_ge (tgt := 147) C dX11_findFar_41 (by decide) (fun _ => ?_) (fun _ => ?_)
    · exact k_vret C ⟨rfl, rfl⟩ dX11_findFar_147
    · refine k_iconst (v := 0) C dX11_findFar_44 rfl ?_
      refine k_istore_n (lv' := [(3, .int 0), (0, .ref (ad 44)), (2, .int x2)]) C dX11_findFar_45 rfl (Nat.le_of_ble_eq_true rfl) rfl ?_
      refine Dk.loc [1, 2, 0] rfl ?_
      exact kb_X11_findFar_L46 C ih _ _ _ _
set_option maxRecDepth 20000 in
theorem kb_X11_findFar_L2 {X : GX} {θ : TH} {ad : Nat → Nat} {S0 : St} {F : Nat} {a1 : Int32} (C : CX (mE X θ (wdM θ ad S0) 6) RX11 cX11_findFar none 0 0 0)  : ∀ (n : Nat) (S : St) (x2 : Int32), Dk (mE X θ (wdM θ ad S0) 6) (mT X θ (wdM θ ad S0) 6 (PVS (wdM θ ad))) 0 0 (wdM θ ad S) [(0, .ref (ad 44)), (1, .int a1), (2, .int x2)] [] 2 (f_X11_findFar_L2 F a1 n S x2) := by
  intro n
  induction n with
  | zero => intro S x2; exact Dk.none
  | succ n ih =>
    intro S x2
    show Dk _ _ _ _ _ _ _ _ (if (S.1 8) ≤ x2 then f_X11_findFar_L36 F F S 0 else if x2 = a1 then chk (inr x2 5) (f_X11_findFar_L2 F a1 n (sa S 30 (x2).toNatClampNeg 0) (x2 + 1)) else chk (inr x2 5) (f_X11_findFar_L2 F a1 n (sa S 30 (x2).toNatClampNeg 1000000) (x2 + 1)))
    refine k_iload_n (q := 2) C dX11_findFar_2 rfl rfl ?_
    refine k_aload_n (q := 0) C dX11_findFar_3 rfl rfl ?_
    refine m_geti (kf := 8) (v := S.1 8) C mS_8 fl_11_110 rfl dX11_findFar_4 ?_
    refine k_icmp_ge (tgt := 34) C dX11_findFar_7 (by decide) (fun _ => ?_) (fun _ => ?_)
    · refine k_iconst (v := 0) C dX11_findFar_34 rfl ?_
      refine k_istore_n (lv' := [(2, .int 0), (0, .ref (ad 44)), (1, .int a1)]) C dX11_findFar_35 rfl (Nat.le_of_ble_eq_true rfl) rfl ?_
      refine Dk.loc [1, 0] rfl ?_
      exact kb_X11_findFar_L36 C _ _ _
    · refine k_aload_n (q := 0) C dX11_findFar_10 rfl rfl ?_
      refine m_geta (kf := 30) C mR_30 fl_11_65 dX11_findFar_11 ?_
      refine k_iload_n (q := 2) C dX11_findFar_14 rfl rfl ?_
      refine k_iload_n (q := 2) C dX11_findFar_15 rfl rfl ?_
      refine k_iload_n (q := 1) C dX11_findFar_16 rfl rfl ?_
      refine k_icmp_ne (tgt := 24) C dX11_findFar_17 (by decide) (fun _ => ?_) (fun _ => ?_)
      · refine k_ldcw C co_11_263 dX11_findFar_24 ?_
        refine m_iast C mA_30 mN_30 dX11_findFar_27 ?_
        refine k_iinc (q := 2) (v := x2 + 1) (lv' := [(2, .int (x2 + 1)), (0, .ref (ad 44)), (1, .int a1)]) C dX11_findFar_28 rfl rfl (Nat.le_of_ble_eq_true rfl) rfl ?_
        refine k_goto (tgt := 2) C dX11_findFar_31 (by decide) ?_
        refine Dk.loc [1, 2, 0] rfl ?_
        exact ih _ _
      · refine k_iconst (v := 0) C dX11_findFar_20 rfl ?_
        refine k_goto (tgt := 27) C dX11_findFar_21 (by decide) ?_
        refine m_iast C mA_30 mN_30 dX11_findFar_27 ?_
        refine k_iinc (q := 2) (v := x2 + 1) (lv' := [(2, .int (x2 + 1)), (0, .ref (ad 44)), (1, .int a1)]) C dX11_findFar_28 rfl rfl (Nat.le_of_ble_eq_true rfl) rfl ?_
        refine k_goto (tgt := 2) C dX11_findFar_31 (by decide) ?_
        refine Dk.loc [1, 2, 0] rfl ?_
        exact ih _ _
set_option maxRecDepth 20000 in
theorem kw_X11_findFar {X : GX} {θ : TH} {ad : Nat → Nat} {F : Nat} {S : St} {a1 : Int32} (C : CX (mE X θ (wdM θ ad S) 6) RX11 cX11_findFar none 0 0 0)  : Dk (mE X θ (wdM θ ad S) 6) (mT X θ (wdM θ ad S) 6 (PVS (wdM θ ad))) 0 0 (wdM θ ad S) [(0, .ref (ad 44)), (1, .int a1)] [] 0 (f_X11_findFar F S a1) := by
  unfold f_X11_findFar
  refine k_iconst (v := 0) C dX11_findFar_0 rfl ?_
  refine k_istore_n (lv' := [(2, .int 0), (0, .ref (ad 44)), (1, .int a1)]) C dX11_findFar_1 rfl (Nat.le_of_ble_eq_true rfl) rfl ?_
  refine Dk.loc [1, 2, 0] rfl ?_
  exact kb_X11_findFar_L2 C _ _ _
theorem ct_X11_findFar {l : Launch} {θ : TH} {ad : Nat → Nat} {S : St} {F : Nat} {a1 : Int32} : ∀ r, f_X11_findFar F S a1 = some r → Ct l θ yX11_findFar cX11_findFar 6 none 0 0 0 [.ref (ad 44), .int a1] (wdM θ ad S) (PVS (wdM θ ad) r) :=
  fun r hr => Ct.of (by decide) (Nat.le_of_ble_eq_true rfl) (fun X _ C _ => kw_X11_findFar C r hr)
set_option maxRecDepth 20000 in
theorem kb_X11_elsewhere_B92 {X : GX} {θ : TH} {ad : Nat → Nat} {S0 : St} {F : Nat} {a1 : Int32} {a2 : Int32} {a3 : Int32} {K46 : St → Int32 → Int32 → Int32 → Option (Int32 × St)} (C : CX (mE X θ (wdM θ ad S0) 8) RX11 cX11_elsewhere (some .int) 70 0 0) (hK46 : ∀ (S : St) (x4 : Int32) (x5 : Int32) (x6 : Int32), Dk (mE X θ (wdM θ ad S0) 8) (mT X θ (wdM θ ad S0) 8 (PIS (wdM θ ad))) 0 0 (wdM θ ad S) [(0, .ref (ad 44)), (1, .int a1), (2, .int a2), (3, .int a3), (4, .int x4), (5, .int x5), (6, .int x6)] [] 46 (K46 S x4 x5 x6)) (S : St) (x4 : Int32) (x5 : Int32) (x6 : Int32) (t0 : Int32) : Dk (mE X θ (wdM θ ad S0) 8) (mT X θ (wdM θ ad S0) 8 (PIS (wdM θ ad))) 0 0 (wdM θ ad S) [(0, .ref (ad 44)), (1, .int a1), (2, .int a2), (3, .int a3), (4, .int x4), (5, .int x5), (6, .int x6)] [.int t0] 92 (f_X11_elsewhere_B92 F a1 a2 a3 K46 S x4 x5 x6 t0) := by
  unfold f_X11_elsewhere_B92
  refine k_istore (lv' := [(7, .int t0), (0, .ref (ad 44)), (1, .int a1), (2, .int a2), (3, .int a3), (4, .int x4), (5, .int x5), (6, .int x6)]) C dX11_elsewhere_92 (Nat.le_of_ble_eq_true rfl) rfl ?_
  refine k_iload (q := 0) C dX11_elsewhere_94 rfl ?_
  refine k_if_lt (tgt := 119) C dX11_elsewhere_96 (by decide) (fun _ => ?_) (fun _ => ?_)
  · refine k_iinc (q := 7) (v := x6 + 1) (lv' := [(6, .int (x6 + 1)), (7, .int t0), (0, .ref (ad 44)), (1, .int a1), (2, .int a2), (3, .int a3), (4, .int x4), (5, .int x5)]) C dX11_elsewhere_119 rfl rfl (Nat.le_of_ble_eq_true rfl) rfl ?_
    refine k_goto (tgt := 46) C dX11_elsewhere_122 (by decide) ?_
    refine Dk.loc [2, 3, 4, 5, 6, 7, 0] rfl ?_
    exact hK46 _ _ _ _
  · refine k_iload (q := 5) C dX11_elsewhere_99 rfl ?_
    refine k_if_lt (tgt := 111) C dX11_elsewhere_101 (by decide) (fun _ => ?_) (fun _ => ?_)
    · refine k_iload (q := 7) C dX11_elsewhere_111 rfl ?_
      refine k_istore (lv' := [(4, .int x6), (7, .int t0), (0, .ref (ad 44)), (1, .int a1), (2, .int a2), (3, .int a3), (5, .int x5), (6, .int x6)]) C dX11_elsewhere_113 (Nat.le_of_ble_eq_true rfl) rfl ?_
      refine k_iload (q := 1) C dX11_elsewhere_115 rfl ?_
      refine k_istore (lv' := [(5, .int t0), (4, .int x6), (7, .int t0), (0, .ref (ad 44)), (1, .int a1), (2, .int a2), (3, .int a3), (6, .int x6)]) C dX11_elsewhere_117 (Nat.le_of_ble_eq_true rfl) rfl ?_
      refine k_iinc (q := 7) (v := x6 + 1) (lv' := [(6, .int (x6 + 1)), (5, .int t0), (4, .int x6), (7, .int t0), (0, .ref (ad 44)), (1, .int a1), (2, .int a2), (3, .int a3)]) C dX11_elsewhere_119 rfl rfl (Nat.le_of_ble_eq_true rfl) rfl ?_
      refine k_goto (tgt := 46) C dX11_elsewhere_122 (by decide) ?_
      refine Dk.loc [4, 5, 6, 7, 2, 1, 0] rfl ?_
      exact hK46 _ _ _ _
    · refine k_iload (q := 0) C dX11_elsewhere_104 rfl ?_
      refine k_iload (q := 6) C dX11_elsewhere_106 rfl ?_
      refine k_icmp_ge (tgt := 119) C dX11_elsewhere_108 (by decide) (fun _ => ?_) (fun _ => ?_)
      · refine k_iinc (q := 7) (v := x6 + 1) (lv' := [(6, .int (x6 + 1)), (7, .int t0), (0, .ref (ad 44)), (1, .int a1), (2, .int a2), (3, .int a3), (4, .int x4), (5, .int x5)]) C dX11_elsewhere_119 rfl rfl (Nat.le_of_ble_eq_true rfl) rfl ?_
        refine k_goto (tgt := 46) C dX11_elsewhere_122 (by decide) ?_
        refine Dk.loc [2, 3, 4, 5, 6, 7, 0] rfl ?_
        exact hK46 _ _ _ _
      · refine k_iload (q := 7) C dX11_elsewhere_111 rfl ?_
        refine k_istore (lv' := [(4, .int x6), (7, .int t0), (0, .ref (ad 44)), (1, .int a1), (2, .int a2), (3, .int a3), (5, .int x5), (6, .int x6)]) C dX11_elsewhere_113 (Nat.le_of_ble_eq_true rfl) rfl ?_
        refine k_iload (q := 1) C dX11_elsewhere_115 rfl ?_
        refine k_istore (lv' := [(5, .int t0), (4, .int x6), (7, .int t0), (0, .ref (ad 44)), (1, .int a1), (2, .int a2), (3, .int a3), (6, .int x6)]) C dX11_elsewhere_117 (Nat.le_of_ble_eq_true rfl) rfl ?_
        refine k_iinc (q := 7) (v := x6 + 1) (lv' := [(6, .int (x6 + 1)), (5, .int t0), (4, .int x6), (7, .int t0), (0, .ref (ad 44)), (1, .int a1), (2, .int a2), (3, .int a3)]) C dX11_elsewhere_119 rfl rfl (Nat.le_of_ble_eq_true rfl) rfl ?_
        refine k_goto (tgt := 46) C dX11_elsewhere_122 (by decide) ?_
        refine Dk.loc [4, 5, 6, 7, 2, 1, 0] rfl ?_
        exact hK46 _ _ _ _
set_option maxRecDepth 20000 in
theorem kb_X11_elsewhere_L46 {X : GX} {θ : TH} {ad : Nat → Nat} {S0 : St} {F : Nat} {a1 : Int32} {a2 : Int32} {a3 : Int32} (C : CX (mE X θ (wdM θ ad S0) 8) RX11 cX11_elsewhere (some .int) 70 0 0)  : ∀ (n : Nat) (S : St) (x4 : Int32) (x5 : Int32) (x6 : Int32), Dk (mE X θ (wdM θ ad S0) 8) (mT X θ (wdM θ ad S0) 8 (PIS (wdM θ ad))) 0 0 (wdM θ ad S) [(0, .ref (ad 44)), (1, .int a1), (2, .int a2), (3, .int a3), (4, .int x4), (5, .int x5), (6, .int x6)] [] 46 (f_X11_elsewhere_L46 F a1 a2 a3 n S x4 x5 x6) := by
  intro n
  induction n with
  | zero => intro S x4 x5 x6; exact Dk.none
  | succ n ih =>
    intro S x4 x5 x6
    show Dk _ _ _ _ _ _ _ _ (if (S.1 8) ≤ x6 then if a3 = 0 then some (x4, S) else some (x5, S) else chk (inr x6 5) ((if (S.2.1 30 (x6).toNatClampNeg) < 1000000 then chk (inr x6 5) ((f_X11_fromOf F S (a1 / 10) x6 (a2 + (S.2.1 30 (x6).toNatClampNeg))).bind fun r5 => f_X11_elsewhere_B92 F a1 a2 a3 (f_X11_elsewhere_L46 F a1 a2 a3 n) r5.2 x4 x5 x6 r5.1) else f_X11_elsewhere_B92 F a1 a2 a3 (f_X11_elsewhere_L46 F a1 a2 a3 n) S x4 x5 x6 (-2))))
    refine k_iload (q := 6) C dX11_elsewhere_46 rfl ?_
    refine k_aload_n (q := 0) C dX11_elsewhere_48 rfl rfl ?_
    refine m_geti (kf := 8) (v := S.1 8) C mS_8 fl_11_110 rfl dX11_elsewhere_49 ?_
    refine k_icmp_ge (tgt := 125) C dX11_elsewhere_52 (by decide) (fun _ => ?_) (fun _ => ?_)
    · refine k_iload_n (q := 3) C dX11_elsewhere_125 rfl rfl ?_
      refine k_if_ne (tgt := 134) C dX11_elsewhere_126 (by decide) (fun _ => ?_) (fun _ => ?_)
      · refine k_iload (q := 5) C dX11_elsewhere_134 rfl ?_
        exact k_iret C rfl ⟨rfl, rfl⟩ dX11_elsewhere_136
      · refine k_iload (q := 4) C dX11_elsewhere_129 rfl ?_
        refine k_goto (tgt := 136) C dX11_elsewhere_131 (by decide) ?_
        exact k_iret C rfl ⟨rfl, rfl⟩ dX11_elsewhere_136
    · refine k_aload_n (q := 0) C dX11_elsewhere_55 rfl rfl ?_
      refine m_geta (kf := 30) C mR_30 fl_11_65 dX11_elsewhere_56 ?_
      refine k_iload (q := 6) C dX11_elsewhere_59 rfl ?_
      refine m_iald (x := S.2.1 30 (x6).toNatClampNeg) C mA_30 mN_30 rfl dX11_elsewhere_61 ?_
      refine k_ldcw C co_11_263 dX11_elsewhere_62 ?_
      refine k_icmp_lt (tgt := 73) C dX11_elsewhere_65 (by decide) (fun _ => ?_) (fun _ => ?_)
      · refine k_aload_n (q := 0) C dX11_elsewhere_73 rfl rfl ?_
        refine k_iload_n (q := 1) C dX11_elsewhere_74 rfl rfl ?_
        refine k_bipush (v := 10) C dX11_elsewhere_75 rfl ?_
        refine k_idiv C dX11_elsewhere_77 (by decide) ?_
        refine k_iload (q := 6) C dX11_elsewhere_78 rfl ?_
        refine k_iload_n (q := 2) C dX11_elsewhere_80 rfl rfl ?_
        refine k_aload_n (q := 0) C dX11_elsewhere_81 rfl rfl ?_
        refine m_geta (kf := 30) C mR_30 fl_11_65 dX11_elsewhere_82 ?_
        refine k_iload (q := 6) C dX11_elsewhere_85 rfl ?_
        refine m_iald (x := S.2.1 30 (x6).toNatClampNeg) C mA_30 mN_30 rfl dX11_elsewhere_87 ?_
        refine k_iadd C dX11_elsewhere_88 ?_
        refine k_cVI C ct_X11_fromOf my_11_fromOf ml_11_258 rfl ⟨Nat.le_of_ble_eq_true rfl, Nat.le_of_ble_eq_true rfl⟩ recvM rfl (Nat.le_of_ble_eq_true rfl) dX11_elsewhere_89 ⟨Nat.le_refl _, Nat.le_refl _⟩ (fun r5 _ => ?_)
        exact kb_X11_elsewhere_B92 C ih _ _ _ _ _
      · refine k_bipush (v := (-2)) C dX11_elsewhere_68 rfl ?_
        refine k_goto (tgt := 92) C dX11_elsewhere_70 (by decide) ?_
        exact kb_X11_elsewhere_B92 C ih _ _ _ _ _
set_option maxRecDepth 20000 in
theorem kw_X11_elsewhere {X : GX} {θ : TH} {ad : Nat → Nat} {F : Nat} {S : St} {a1 : Int32} {a2 : Int32} {a3 : Int32} (C : CX (mE X θ (wdM θ ad S) 8) RX11 cX11_elsewhere (some .int) 70 0 0)  : Dk (mE X θ (wdM θ ad S) 8) (mT X θ (wdM θ ad S) 8 (PIS (wdM θ ad))) 0 0 (wdM θ ad S) [(0, .ref (ad 44)), (1, .int a1), (2, .int a2), (3, .int a3)] [] 0 (f_X11_elsewhere F S a1 a2 a3) := by
  unfold f_X11_elsewhere
  refine k_aload_n (q := 0) C dX11_elsewhere_0 rfl rfl ?_
  refine k_iload_n (q := 1) C dX11_elsewhere_1 rfl rfl ?_
  refine k_cVI C ct_X11_isDv my_11_isDv ml_11_237 rfl ⟨Nat.le_of_ble_eq_true rfl, Nat.le_of_ble_eq_true rfl⟩ recvM rfl (Nat.le_of_ble_eq_true rfl) dX11_elsewhere_2 ⟨Nat.le_refl _, Nat.le_refl _⟩ (fun r1 _ => ?_)
  refine k_if_eq (tgt := 25) C dX11_elsewhere_5 (by decide) (fun _ => ?_) (fun _ => ?_)
  · refine k_iconst (v := (-1)) C dX11_elsewhere_25 rfl ?_
    exact k_iret C rfl ⟨rfl, rfl⟩ dX11_elsewhere_26
  · refine k_iload_n (q := 2) C dX11_elsewhere_8 rfl rfl ?_
    refine k_cSI C ct_X11_isHour my_11_isHour ml_11_134 rfl ⟨Nat.le_of_ble_eq_true rfl, Nat.le_of_ble_eq_true rfl⟩ rfl (Nat.le_of_ble_eq_true rfl) dX11_elsewhere_9 ⟨Nat.le_refl _, Nat.le_refl _⟩ (fun r2 _ => ?_)
    refine k_if_eq (tgt := 25) C dX11_elsewhere_12 (by decide) (fun _ => ?_) (fun _ => ?_)
    · refine k_iconst (v := (-1)) C dX11_elsewhere_25 rfl ?_
      exact k_iret C rfl ⟨rfl, rfl⟩ dX11_elsewhere_26
    · refine k_iload_n (q := 3) C dX11_elsewhere_15 rfl rfl ?_
      refine k_i2l C dX11_elsewhere_16 ?_
      refine k_lconst (v := 0) C dX11_elsewhere_17 rfl ?_
      refine k_lconst (v := 1) C dX11_elsewhere_18 rfl ?_
      refine k_cSI C ct_X11_within my_11_within ml_11_106 rfl ⟨Nat.le_of_ble_eq_true rfl, Nat.le_of_ble_eq_true rfl⟩ rfl (Nat.le_of_ble_eq_true rfl) dX11_elsewhere_19 ⟨Nat.le_refl _, Nat.le_refl _⟩ (fun r3 _ => ?_)
      refine k_if_ne (tgt := 27) C dX11_elsewhere_22 (by decide) (fun _ => ?_) (fun _ => ?_)
      · refine k_aload_n (q := 0) C dX11_elsewhere_27 rfl rfl ?_
        refine k_iload_n (q := 1) C dX11_elsewhere_28 rfl rfl ?_
        refine k_bipush (v := 10) C dX11_elsewhere_29 rfl ?_
        refine k_irem C dX11_elsewhere_31 (by decide) ?_
        refine k_cVV C ct_X11_findFar my_11_findFar ml_11_264 rfl ⟨Nat.le_of_ble_eq_true rfl, Nat.le_of_ble_eq_true rfl⟩ recvM rfl (Nat.le_of_ble_eq_true rfl) dX11_elsewhere_32 ⟨Nat.le_refl _, Nat.le_refl _⟩ (fun r4 _ => ?_)
        refine k_bipush (v := (-2)) C dX11_elsewhere_35 rfl ?_
        refine k_istore (lv' := [(4, .int (-2)), (0, .ref (ad 44)), (1, .int a1), (2, .int a2), (3, .int a3)]) C dX11_elsewhere_37 (Nat.le_of_ble_eq_true rfl) rfl ?_
        refine k_bipush (v := (-2)) C dX11_elsewhere_39 rfl ?_
        refine k_istore (lv' := [(5, .int (-2)), (4, .int (-2)), (0, .ref (ad 44)), (1, .int a1), (2, .int a2), (3, .int a3)]) C dX11_elsewhere_41 (Nat.le_of_ble_eq_true rfl) rfl ?_
        refine k_iconst (v := 0) C dX11_elsewhere_43 rfl ?_
        refine k_istore (lv' := [(6, .int 0), (5, .int (-2)), (4, .int (-2)), (0, .ref (ad 44)), (1, .int a1), (2, .int a2), (3, .int a3)]) C dX11_elsewhere_44 (Nat.le_of_ble_eq_true rfl) rfl ?_
        refine Dk.loc [3, 4, 5, 6, 2, 1, 0] rfl ?_
        exact kb_X11_elsewhere_L46 C _ _ _ _ _
      · refine k_iconst (v := (-1)) C dX11_elsewhere_25 rfl ?_
        exact k_iret C rfl ⟨rfl, rfl⟩ dX11_elsewhere_26
theorem ct_X11_elsewhere {l : Launch} {θ : TH} {ad : Nat → Nat} {S : St} {F : Nat} {a1 : Int32} {a2 : Int32} {a3 : Int32} : ∀ r, f_X11_elsewhere F S a1 a2 a3 = some r → Ct l θ yX11_elsewhere cX11_elsewhere 8 (some .int) 70 0 0 [.ref (ad 44), .int a1, .int a2, .int a3] (wdM θ ad S) (PIS (wdM θ ad) r) :=
  fun r hr => Ct.of (by decide) (Nat.le_of_ble_eq_true rfl) (fun X _ C _ => kw_X11_elsewhere C r hr)
set_option maxRecDepth 20000 in
theorem kb_X11_harm_L57 {X : GX} {θ : TH} {ad : Nat → Nat} {S0 : St} {F : Nat} {a1 : Int32} {a2 : Int32} {a3 : Int32} (C : CX (mE X θ (wdM θ ad S0) 5) RX11 cX11_harm (some .int) 69 0 0)  : ∀ (n : Nat) (S : St) (x4 : Int32), Dk (mE X θ (wdM θ ad S0) 5) (mT X θ (wdM θ ad S0) 5 (PIS (wdM θ ad))) 0 0 (wdM θ ad S) [(0, .ref (ad 44)), (1, .int a1), (2, .int a2), (3, .int a3), (4, .int x4)] [] 57 (f_X11_harm_L57 F a1 a2 a3 n S x4) := by
  intro n
  induction n with
  | zero => intro S x4; exact Dk.none
  | succ n ih =>
    intro S x4
    show Dk _ _ _ _ _ _ _ _ (if (a3 + 2000) ≤ x4 then some ((-2 : Int32), S) else (f_X11_mayOf F S (a1 / 100) a2 x4).bind fun r5 => (if r5.1 < 0 then f_X11_harm_L57 F a1 a2 a3 n r5.2 (x4 + 1) else (f_X11_mayOf F r5.2 (jrem a1 100) a2 x4).bind fun r6 => (if (0 : Int32) ≤ r6.1 then f_X11_harm_L57 F a1 a2 a3 n r6.2 (x4 + 1) else some (x4, r6.2))))
    refine k_iload (q := 4) C dX11_harm_57 rfl ?_
    refine k_iload_n (q := 3) C dX11_harm_59 rfl rfl ?_
    refine k_sipush (v := 2000) C dX11_harm_60 rfl ?_
    refine k_iadd C dX11_harm_63 ?_
    refine k_icmp_ge (tgt := 104) C dX11_harm_64 (by decide) (fun _ => ?_) (fun _ => ?_)
    · refine k_bipush (v := (-2)) C dX11_harm_104 rfl ?_
      exact k_iret C rfl ⟨rfl, rfl⟩ dX11_harm_106
    · refine k_aload_n (q := 0) C dX11_harm_67 rfl rfl ?_
      refine k_iload_n (q := 1) C dX11_harm_68 rfl rfl ?_
      refine k_bipush (v := 100) C dX11_harm_69 rfl ?_
      refine k_idiv C dX11_harm_71 (by decide) ?_
      refine k_iload_n (q := 2) C dX11_harm_72 rfl rfl ?_
      refine k_iload (q := 4) C dX11_harm_73 rfl ?_
      refine k_cVI C ct_X11_mayOf my_11_mayOf ml_11_252 rfl ⟨Nat.le_of_ble_eq_true rfl, Nat.le_of_ble_eq_true rfl⟩ recvM rfl (Nat.le_of_ble_eq_true rfl) dX11_harm_75 ⟨Nat.le_refl _, Nat.le_refl _⟩ (fun r5 _ => ?_)
      refine k_if_lt (tgt := 98) C dX11_harm_78 (by decide) (fun _ => ?_) (fun _ => ?_)
      · refine k_iinc (q := 4) (v := x4 + 1) (lv' := [(4, .int (x4 + 1)), (0, .ref (ad 44)), (1, .int a1), (2, .int a2), (3, .int a3)]) C dX11_harm_98 rfl rfl (Nat.le_of_ble_eq_true rfl) rfl ?_
        refine k_goto (tgt := 57) C dX11_harm_101 (by decide) ?_
        refine Dk.loc [1, 2, 3, 4, 0] rfl ?_
        exact ih _ _
      · refine k_aload_n (q := 0) C dX11_harm_81 rfl rfl ?_
        refine k_iload_n (q := 1) C dX11_harm_82 rfl rfl ?_
        refine k_bipush (v := 100) C dX11_harm_83 rfl ?_
        refine k_irem C dX11_harm_85 (by decide) ?_
        refine k_iload_n (q := 2) C dX11_harm_86 rfl rfl ?_
        refine k_iload (q := 4) C dX11_harm_87 rfl ?_
        refine k_cVI C ct_X11_mayOf my_11_mayOf ml_11_252 rfl ⟨Nat.le_of_ble_eq_true rfl, Nat.le_of_ble_eq_true rfl⟩ recvM rfl (Nat.le_of_ble_eq_true rfl) dX11_harm_89 ⟨Nat.le_refl _, Nat.le_refl _⟩ (fun r6 _ => ?_)
        refine k_if_ge (tgt := 98) C dX11_harm_92 (by decide) (fun _ => ?_) (fun _ => ?_)
        · refine k_iinc (q := 4) (v := x4 + 1) (lv' := [(4, .int (x4 + 1)), (0, .ref (ad 44)), (1, .int a1), (2, .int a2), (3, .int a3)]) C dX11_harm_98 rfl rfl (Nat.le_of_ble_eq_true rfl) rfl ?_
          refine k_goto (tgt := 57) C dX11_harm_101 (by decide) ?_
          refine Dk.loc [1, 2, 3, 4, 0] rfl ?_
          exact ih _ _
        · refine k_iload (q := 4) C dX11_harm_95 rfl ?_
          exact k_iret C rfl ⟨rfl, rfl⟩ dX11_harm_97
set_option maxRecDepth 20000 in
theorem kw_X11_harm {X : GX} {θ : TH} {ad : Nat → Nat} {F : Nat} {S : St} {a1 : Int32} {a2 : Int32} {a3 : Int32} (C : CX (mE X θ (wdM θ ad S) 5) RX11 cX11_harm (some .int) 69 0 0)  : Dk (mE X θ (wdM θ ad S) 5) (mT X θ (wdM θ ad S) 5 (PIS (wdM θ ad))) 0 0 (wdM θ ad S) [(0, .ref (ad 44)), (1, .int a1), (2, .int a2), (3, .int a3)] [] 0 (f_X11_harm F S a1 a2 a3) := by
  unfold f_X11_harm
  refine k_iload_n (q := 1) C dX11_harm_0 rfl rfl ?_
  refine k_if_lt (tgt := 52) C dX11_harm_1 (by decide) (fun _ => ?_) (fun _ => ?_)
  · refine k_iconst (v := (-1)) C dX11_harm_52 rfl ?_
    exact k_iret C rfl ⟨rfl, rfl⟩ dX11_harm_53
  · refine k_aload_n (q := 0) C dX11_harm_4 rfl rfl ?_
    refine k_iload_n (q := 1) C dX11_harm_5 rfl rfl ?_
    refine k_bipush (v := 100) C dX11_harm_6 rfl ?_
    refine k_idiv C dX11_harm_8 (by decide) ?_
    refine k_cVI C ct_X11_isDeed my_11_isDeed ml_11_218 rfl ⟨Nat.le_of_ble_eq_true rfl, Nat.le_of_ble_eq_true rfl⟩ recvM rfl (Nat.le_of_ble_eq_true rfl) dX11_harm_9 ⟨Nat.le_refl _, Nat.le_refl _⟩ (fun r1 _ => ?_)
    refine k_if_eq (tgt := 52) C dX11_harm_12 (by decide) (fun _ => ?_) (fun _ => ?_)
    · refine k_iconst (v := (-1)) C dX11_harm_52 rfl ?_
      exact k_iret C rfl ⟨rfl, rfl⟩ dX11_harm_53
    · refine k_aload_n (q := 0) C dX11_harm_15 rfl rfl ?_
      refine k_iload_n (q := 1) C dX11_harm_16 rfl rfl ?_
      refine k_bipush (v := 100) C dX11_harm_17 rfl ?_
      refine k_irem C dX11_harm_19 (by decide) ?_
      refine k_cVI C ct_X11_isDeed my_11_isDeed ml_11_218 rfl ⟨Nat.le_of_ble_eq_true rfl, Nat.le_of_ble_eq_true rfl⟩ recvM rfl (Nat.le_of_ble_eq_true rfl) dX11_harm_20 ⟨Nat.le_refl _, Nat.le_refl _⟩ (fun r2 _ => ?_)
      refine k_if_eq (tgt := 52) C dX11_harm_23 (by decide) (fun _ => ?_) (fun _ => ?_)
      · refine k_iconst (v := (-1)) C dX11_harm_52 rfl ?_
        exact k_iret C rfl ⟨rfl, rfl⟩ dX11_harm_53
      · refine k_iload_n (q := 1) C dX11_harm_26 rfl rfl ?_
        refine k_bipush (v := 100) C dX11_harm_27 rfl ?_
        refine k_idiv C dX11_harm_29 (by decide) ?_
        refine k_iload_n (q := 1) C dX11_harm_30 rfl rfl ?_
        refine k_bipush (v := 100) C dX11_harm_31 rfl ?_
        refine k_irem C dX11_harm_33 (by decide) ?_
        refine k_icmp_eq (tgt := 52) C dX11_harm_34 (by decide) (fun _ => ?_) (fun _ => ?_)
        · refine k_iconst (v := (-1)) C dX11_harm_52 rfl ?_
          exact k_iret C rfl ⟨rfl, rfl⟩ dX11_harm_53
        · refine k_aload_n (q := 0) C dX11_harm_37 rfl rfl ?_
          refine k_iload_n (q := 2) C dX11_harm_38 rfl rfl ?_
          refine k_cVI C ct_X11_isValley my_11_isValley ml_11_119 rfl ⟨Nat.le_of_ble_eq_true rfl, Nat.le_of_ble_eq_true rfl⟩ recvM rfl (Nat.le_of_ble_eq_true rfl) dX11_harm_39 ⟨Nat.le_refl _, Nat.le_refl _⟩ (fun r3 _ => ?_)
          refine k_if_eq (tgt := 52) C dX11_harm_42 (by decide) (fun _ => ?_) (fun _ => ?_)
          · refine k_iconst (v := (-1)) C dX11_harm_52 rfl ?_
            exact k_iret C rfl ⟨rfl, rfl⟩ dX11_harm_53
          · refine k_iload_n (q := 3) C dX11_harm_45 rfl rfl ?_
            refine k_cSI C ct_X11_isHour my_11_isHour ml_11_134 rfl ⟨Nat.le_of_ble_eq_true rfl, Nat.le_of_ble_eq_true rfl⟩ rfl (Nat.le_of_ble_eq_true rfl) dX11_harm_46 ⟨Nat.le_refl _, Nat.le_refl _⟩ (fun r4 _ => ?_)
            refine k_if_ne (tgt := 54) C dX11_harm_49 (by decide) (fun _ => ?_) (fun _ => ?_)
            · refine k_iload_n (q := 3) C dX11_harm_54 rfl rfl ?_
              refine k_istore (lv' := [(4, .int a3), (0, .ref (ad 44)), (1, .int a1), (2, .int a2), (3, .int a3)]) C dX11_harm_55 (Nat.le_of_ble_eq_true rfl) rfl ?_
              refine Dk.loc [1, 2, 3, 4, 0] rfl ?_
              exact kb_X11_harm_L57 C _ _ _
            · refine k_iconst (v := (-1)) C dX11_harm_52 rfl ?_
              exact k_iret C rfl ⟨rfl, rfl⟩ dX11_harm_53
theorem ct_X11_harm {l : Launch} {θ : TH} {ad : Nat → Nat} {S : St} {F : Nat} {a1 : Int32} {a2 : Int32} {a3 : Int32} : ∀ r, f_X11_harm F S a1 a2 a3 = some r → Ct l θ yX11_harm cX11_harm 5 (some .int) 69 0 0 [.ref (ad 44), .int a1, .int a2, .int a3] (wdM θ ad S) (PIS (wdM θ ad) r) :=
  fun r hr => Ct.of (by decide) (Nat.le_of_ble_eq_true rfl) (fun X _ C _ => kw_X11_harm C r hr)
set_option maxRecDepth 20000 in
theorem kw_X11_isState {X : GX} {θ : TH} {ad : Nat → Nat}  {S : St} {a1 : Int32} (C : CX (mE X θ (wdM θ ad S) 2) RX11 cX11_isState (some .boolean) 1 0 0)  : Dk (mE X θ (wdM θ ad S) 2) (mT X θ (wdM θ ad S) 2 (PI (wdM θ ad S))) 0 0 (wdM θ ad S) [(0, .ref (ad 44)), (1, .int a1)] [] 0 (f_X11_isState S a1) := by
  unfold f_X11_isState
  refine k_iload_n (q := 1) C dX11_isState_0 rfl rfl ?_
  refine k_i2l C dX11_isState_1 ?_
  refine k_lconst (v := 0) C dX11_isState_2 rfl ?_
  refine k_iconst (v := 1) C dX11_isState_3 rfl ?_
  refine k_aload_n (q := 0) C dX11_isState_4 rfl rfl ?_
  refine m_geti (kf := 6) (v := S.1 6) C mS_6 fl_11_103 rfl dX11_isState_5 ?_
  refine k_ishl C dX11_isState_8 ?_
  refine k_iconst (v := 1) C dX11_isState_9 rfl ?_
  refine k_isub C dX11_isState_10 ?_
  refine k_i2l C dX11_isState_11 ?_
  refine k_cSI C ct_X11_within my_11_within ml_11_106 rfl ⟨Nat.le_of_ble_eq_true rfl, Nat.le_of_ble_eq_true rfl⟩ rfl (Nat.le_of_ble_eq_true rfl) dX11_isState_12 ⟨Nat.le_refl _, Nat.le_refl _⟩ (fun r1 _ => ?_)
  exact k_zretc C ⟨rfl, rfl⟩ dX11_isState_15
theorem ct_X11_isState {l : Launch} {θ : TH} {ad : Nat → Nat} {S : St}  {a1 : Int32} : ∀ r, f_X11_isState S a1 = some r → Ct l θ yX11_isState cX11_isState 2 (some .boolean) 1 0 0 [.ref (ad 44), .int a1] (wdM θ ad S) (PI (wdM θ ad S) r) :=
  fun r hr => Ct.of (by decide) (Nat.le_of_ble_eq_true rfl) (fun X _ C _ => kw_X11_isState C r hr)
set_option maxRecDepth 20000 in
theorem kb_X11_next_L28 {X : GX} {θ : TH} {ad : Nat → Nat} {F : Nat} {S : St} {a1 : Int32} {a2 : Int32} {a3 : Int32} (C : CX (mE X θ (wdM θ ad S) 5) RX11 cX11_next (some .int) 2 0 0)  : ∀ (n : Nat) (x4 : Int32), Dk (mE X θ (wdM θ ad S) 5) (mT X θ (wdM θ ad S) 5 (PI (wdM θ ad S))) 0 0 (wdM θ ad S) [(0, .ref (ad 44)), (1, .int a1), (2, .int a2), (3, .int a3), (4, .int x4)] [] 28 (f_X11_next_L28 F S a1 a2 a3 n x4) := by
  intro n
  induction n with
  | zero => intro x4; exact Dk.none
  | succ n ih =>
    intro x4
    show Dk _ _ _ _ _ _ _ _ (if (a2 + 100000) ≤ x4 then some ((-2 : Int32)) else (f_X11_stateOf F S a1 x4).bind fun r4 => (if r4 = a3 then some x4 else f_X11_next_L28 F S a1 a2 a3 n (x4 + 1)))
    refine k_iload (q := 4) C dX11_next_28 rfl ?_
    refine k_iload_n (q := 2) C dX11_next_30 rfl rfl ?_
    refine k_ldcw C co_11_271 dX11_next_31 ?_
    refine k_iadd C dX11_next_34 ?_
    refine k_icmp_ge (tgt := 58) C dX11_next_35 (by decide) (fun _ => ?_) (fun _ => ?_)
    · refine k_bipush (v := (-2)) C dX11_next_58 rfl ?_
      exact k_iret C rfl ⟨rfl, rfl⟩ dX11_next_60
    · refine k_aload_n (q := 0) C dX11_next_38 rfl rfl ?_
      refine k_iload_n (q := 1) C dX11_next_39 rfl rfl ?_
      refine k_iload (q := 4) C dX11_next_40 rfl ?_
      refine k_cVI C ct_X11_stateOf my_11_stateOf ml_11_137 rfl ⟨Nat.le_of_ble_eq_true rfl, Nat.le_of_ble_eq_true rfl⟩ recvM rfl (Nat.le_of_ble_eq_true rfl) dX11_next_42 ⟨Nat.le_refl _, Nat.le_refl _⟩ (fun r4 _ => ?_)
      refine k_iload_n (q := 3) C dX11_next_45 rfl rfl ?_
      refine k_icmp_ne (tgt := 52) C dX11_next_46 (by decide) (fun _ => ?_) (fun _ => ?_)
      · refine k_iinc (q := 4) (v := x4 + 1) (lv' := [(4, .int (x4 + 1)), (0, .ref (ad 44)), (1, .int a1), (2, .int a2), (3, .int a3)]) C dX11_next_52 rfl rfl (Nat.le_of_ble_eq_true rfl) rfl ?_
        refine k_goto (tgt := 28) C dX11_next_55 (by decide) ?_
        refine Dk.loc [1, 2, 3, 4, 0] rfl ?_
        exact ih _
      · refine k_iload (q := 4) C dX11_next_49 rfl ?_
        exact k_iret C rfl ⟨rfl, rfl⟩ dX11_next_51
set_option maxRecDepth 20000 in
theorem kw_X11_next {X : GX} {θ : TH} {ad : Nat → Nat} {F : Nat} {S : St} {a1 : Int32} {a2 : Int32} {a3 : Int32} (C : CX (mE X θ (wdM θ ad S) 5) RX11 cX11_next (some .int) 2 0 0)  : Dk (mE X θ (wdM θ ad S) 5) (mT X θ (wdM θ ad S) 5 (PI (wdM θ ad S))) 0 0 (wdM θ ad S) [(0, .ref (ad 44)), (1, .int a1), (2, .int a2), (3, .int a3)] [] 0 (f_X11_next F S a1 a2 a3) := by
  unfold f_X11_next
  refine k_aload_n (q := 0) C dX11_next_0 rfl rfl ?_
  refine k_iload_n (q := 1) C dX11_next_1 rfl rfl ?_
  refine k_cVI C ct_X11_isValley my_11_isValley ml_11_119 rfl ⟨Nat.le_of_ble_eq_true rfl, Nat.le_of_ble_eq_true rfl⟩ recvM rfl (Nat.le_of_ble_eq_true rfl) dX11_next_2 ⟨Nat.le_refl _, Nat.le_refl _⟩ (fun r1 _ => ?_)
  refine k_if_eq (tgt := 23) C dX11_next_5 (by decide) (fun _ => ?_) (fun _ => ?_)
  · refine k_iconst (v := (-1)) C dX11_next_23 rfl ?_
    exact k_iret C rfl ⟨rfl, rfl⟩ dX11_next_24
  · refine k_iload_n (q := 2) C dX11_next_8 rfl rfl ?_
    refine k_cSI C ct_X11_isHour my_11_isHour ml_11_134 rfl ⟨Nat.le_of_ble_eq_true rfl, Nat.le_of_ble_eq_true rfl⟩ rfl (Nat.le_of_ble_eq_true rfl) dX11_next_9 ⟨Nat.le_refl _, Nat.le_refl _⟩ (fun r2 _ => ?_)
    refine k_if_eq (tgt := 23) C dX11_next_12 (by decide) (fun _ => ?_) (fun _ => ?_)
    · refine k_iconst (v := (-1)) C dX11_next_23 rfl ?_
      exact k_iret C rfl ⟨rfl, rfl⟩ dX11_next_24
    · refine k_aload_n (q := 0) C dX11_next_15 rfl rfl ?_
      refine k_iload_n (q := 3) C dX11_next_16 rfl rfl ?_
      refine k_cVI C ct_X11_isState my_11_isState ml_11_268 rfl ⟨Nat.le_of_ble_eq_true rfl, Nat.le_of_ble_eq_true rfl⟩ recvM rfl (Nat.le_of_ble_eq_true rfl) dX11_next_17 ⟨Nat.le_refl _, Nat.le_refl _⟩ (fun r3 _ => ?_)
      refine k_if_ne (tgt := 25) C dX11_next_20 (by decide) (fun _ => ?_) (fun _ => ?_)
      · refine k_iload_n (q := 2) C dX11_next_25 rfl rfl ?_
        refine k_istore (lv' := [(4, .int a2), (0, .ref (ad 44)), (1, .int a1), (2, .int a2), (3, .int a3)]) C dX11_next_26 (Nat.le_of_ble_eq_true rfl) rfl ?_
        refine Dk.loc [1, 2, 3, 4, 0] rfl ?_
        exact kb_X11_next_L28 C _ _
      · refine k_iconst (v := (-1)) C dX11_next_23 rfl ?_
        exact k_iret C rfl ⟨rfl, rfl⟩ dX11_next_24
theorem ct_X11_next {l : Launch} {θ : TH} {ad : Nat → Nat} {S : St} {F : Nat} {a1 : Int32} {a2 : Int32} {a3 : Int32} : ∀ r, f_X11_next F S a1 a2 a3 = some r → Ct l θ yX11_next cX11_next 5 (some .int) 2 0 0 [.ref (ad 44), .int a1, .int a2, .int a3] (wdM θ ad S) (PI (wdM θ ad S) r) :=
  fun r hr => Ct.of (by decide) (Nat.le_of_ble_eq_true rfl) (fun X _ C _ => kw_X11_next C r hr)
set_option maxRecDepth 20000 in
theorem kw_X11_areHours {X : GX} {θ : TH} {ws : va_W}   {a1 : Int32} (C : CX (mE X θ (ws) 1) RX11 cX11_areHours (some .boolean) 1 0 0)  : Dk (mE X θ (ws) 1) (mT X θ (ws) 1 (PI ws)) 0 0 ws [(0, .int a1)] [] 0 (f_X11_areHours a1) := by
  unfold f_X11_areHours
  refine k_iload_n (q := 0) C dX11_areHours_0 rfl rfl ?_
  refine k_i2l C dX11_areHours_1 ?_
  refine k_lconst (v := 1) C dX11_areHours_2 rfl ?_
  refine k_ldc2 C co_11_272 dX11_areHours_3 ?_
  refine k_cSI C ct_X11_within my_11_within ml_11_106 rfl ⟨Nat.le_of_ble_eq_true rfl, Nat.le_of_ble_eq_true rfl⟩ rfl (Nat.le_of_ble_eq_true rfl) dX11_areHours_6 ⟨Nat.le_refl _, Nat.le_refl _⟩ (fun r1 _ => ?_)
  exact k_zretc C ⟨rfl, rfl⟩ dX11_areHours_9
theorem ct_X11_areHours {l : Launch} {θ : TH} {ws : va_W}  {a1 : Int32} : ∀ r, f_X11_areHours a1 = some r → Ct l θ yX11_areHours cX11_areHours 1 (some .boolean) 1 0 0 [.int a1] (ws) (PI ws r) :=
  fun r hr => Ct.of (by decide) (Nat.le_of_ble_eq_true rfl) (fun X _ C _ => kw_X11_areHours C r hr)
set_option maxRecDepth 20000 in
theorem kb_X11_many_L39 {X : GX} {θ : TH} {ad : Nat → Nat} {F : Nat} {S : St} {a1 : Int32} {a2 : Int32} {a3 : Int32} {a4 : Int32} (C : CX (mE X θ (wdM θ ad S) 7) RX11 cX11_many (some .int) 2 0 0)  : ∀ (n : Nat) (x5 : Int32) (x6 : Int32), Dk (mE X θ (wdM θ ad S) 7) (mT X θ (wdM θ ad S) 7 (PI (wdM θ ad S))) 0 0 (wdM θ ad S) [(0, .ref (ad 44)), (1, .int a1), (2, .int a2), (3, .int a3), (4, .int a4), (5, .int x5), (6, .int x6)] [] 39 (f_X11_many_L39 F S a1 a2 a3 a4 n x5 x6) := by
  intro n
  induction n with
  | zero => intro x5 x6; exact Dk.none
  | succ n ih =>
    intro x5 x6
    show Dk _ _ _ _ _ _ _ _ (if (a2 + a3) ≤ x6 then some x5 else (f_X11_stateOf F S a1 x6).bind fun r5 => (if r5 = a4 then f_X11_many_L39 F S a1 a2 a3 a4 n (x5 + 1) (x6 + 1) else f_X11_many_L39 F S a1 a2 a3 a4 n (x5 + 0) (x6 + 1)))
    refine k_iload (q := 6) C dX11_many_39 rfl ?_
    refine k_iload_n (q := 2) C dX11_many_41 rfl rfl ?_
    refine k_iload_n (q := 3) C dX11_many_42 rfl rfl ?_
    refine k_iadd C dX11_many_43 ?_
    refine k_icmp_ge (tgt := 75) C dX11_many_44 (by decide) (fun _ => ?_) (fun _ => ?_)
    · refine k_iload (q := 5) C dX11_many_75 rfl ?_
      exact k_iret C rfl ⟨rfl, rfl⟩ dX11_many_77
    · refine k_iload (q := 5) C dX11_many_47 rfl ?_
      refine k_aload_n (q := 0) C dX11_many_49 rfl rfl ?_
      refine k_iload_n (q := 1) C dX11_many_50 rfl rfl ?_
      refine k_iload (q := 6) C dX11_many_51 rfl ?_
      refine k_cVI C ct_X11_stateOf my_11_stateOf ml_11_137 rfl ⟨Nat.le_of_ble_eq_true rfl, Nat.le_of_ble_eq_true rfl⟩ recvM rfl (Nat.le_of_ble_eq_true rfl) dX11_many_53 ⟨Nat.le_refl _, Nat.le_refl _⟩ (fun r5 _ => ?_)
      refine k_iload (q := 4) C dX11_many_56 rfl ?_
      refine k_icmp_ne (tgt := 65) C dX11_many_58 (by decide) (fun _ => ?_) (fun _ => ?_)
      · refine k_iconst (v := 0) C dX11_many_65 rfl ?_
        refine k_iadd C dX11_many_66 ?_
        refine k_istore (lv' := [(5, .int (x5 + 0)), (0, .ref (ad 44)), (1, .int a1), (2, .int a2), (3, .int a3), (4, .int a4), (6, .int x6)]) C dX11_many_67 (Nat.le_of_ble_eq_true rfl) rfl ?_
        refine k_iinc (q := 6) (v := x6 + 1) (lv' := [(6, .int (x6 + 1)), (5, .int (x5 + 0)), (0, .ref (ad 44)), (1, .int a1), (2, .int a2), (3, .int a3), (4, .int a4)]) C dX11_many_69 rfl rfl (Nat.le_of_ble_eq_true rfl) rfl ?_
        refine k_goto (tgt := 39) C dX11_many_72 (by decide) ?_
        refine Dk.loc [2, 3, 4, 5, 6, 1, 0] rfl ?_
        exact ih _ _
      · refine k_iconst (v := 1) C dX11_many_61 rfl ?_
        refine k_goto (tgt := 66) C dX11_many_62 (by decide) ?_
        refine k_iadd C dX11_many_66 ?_
        refine k_istore (lv' := [(5, .int (x5 + 1)), (0, .ref (ad 44)), (1, .int a1), (2, .int a2), (3, .int a3), (4, .int a4), (6, .int x6)]) C dX11_many_67 (Nat.le_of_ble_eq_true rfl) rfl ?_
        refine k_iinc (q := 6) (v := x6 + 1) (lv' := [(6, .int (x6 + 1)), (5, .int (x5 + 1)), (0, .ref (ad 44)), (1, .int a1), (2, .int a2), (3, .int a3), (4, .int a4)]) C dX11_many_69 rfl rfl (Nat.le_of_ble_eq_true rfl) rfl ?_
        refine k_goto (tgt := 39) C dX11_many_72 (by decide) ?_
        refine Dk.loc [2, 3, 4, 5, 6, 1, 0] rfl ?_
        exact ih _ _
set_option maxRecDepth 20000 in
theorem kw_X11_many {X : GX} {θ : TH} {ad : Nat → Nat} {F : Nat} {S : St} {a1 : Int32} {a2 : Int32} {a3 : Int32} {a4 : Int32} (C : CX (mE X θ (wdM θ ad S) 7) RX11 cX11_many (some .int) 2 0 0)  : Dk (mE X θ (wdM θ ad S) 7) (mT X θ (wdM θ ad S) 7 (PI (wdM θ ad S))) 0 0 (wdM θ ad S) [(0, .ref (ad 44)), (1, .int a1), (2, .int a2), (3, .int a3), (4, .int a4)] [] 0 (f_X11_many F S a1 a2 a3 a4) := by
  unfold f_X11_many
  refine k_aload_n (q := 0) C dX11_many_0 rfl rfl ?_
  refine k_iload_n (q := 1) C dX11_many_1 rfl rfl ?_
  refine k_cVI C ct_X11_isValley my_11_isValley ml_11_119 rfl ⟨Nat.le_of_ble_eq_true rfl, Nat.le_of_ble_eq_true rfl⟩ recvM rfl (Nat.le_of_ble_eq_true rfl) dX11_many_2 ⟨Nat.le_refl _, Nat.le_refl _⟩ (fun r1 _ => ?_)
  refine k_if_eq (tgt := 31) C dX11_many_5 (by decide) (fun _ => ?_) (fun _ => ?_)
  · refine k_iconst (v := (-1)) C dX11_many_31 rfl ?_
    exact k_iret C rfl ⟨rfl, rfl⟩ dX11_many_32
  · refine k_iload_n (q := 2) C dX11_many_8 rfl rfl ?_
    refine k_cSI C ct_X11_isHour my_11_isHour ml_11_134 rfl ⟨Nat.le_of_ble_eq_true rfl, Nat.le_of_ble_eq_true rfl⟩ rfl (Nat.le_of_ble_eq_true rfl) dX11_many_9 ⟨Nat.le_refl _, Nat.le_refl _⟩ (fun r2 _ => ?_)
    refine k_if_eq (tgt := 31) C dX11_many_12 (by decide) (fun _ => ?_) (fun _ => ?_)
    · refine k_iconst (v := (-1)) C dX11_many_31 rfl ?_
      exact k_iret C rfl ⟨rfl, rfl⟩ dX11_many_32
    · refine k_iload_n (q := 3) C dX11_many_15 rfl rfl ?_
      refine k_cSI C ct_X11_areHours my_11_areHours ml_11_274 rfl ⟨Nat.le_of_ble_eq_true rfl, Nat.le_of_ble_eq_true rfl⟩ rfl (Nat.le_of_ble_eq_true rfl) dX11_many_16 ⟨Nat.le_refl _, Nat.le_refl _⟩ (fun r3 _ => ?_)
      refine k_if_eq (tgt := 31) C dX11_many_19 (by decide) (fun _ => ?_) (fun _ => ?_)
      · refine k_iconst (v := (-1)) C dX11_many_31 rfl ?_
        exact k_iret C rfl ⟨rfl, rfl⟩ dX11_many_32
      · refine k_aload_n (q := 0) C dX11_many_22 rfl rfl ?_
        refine k_iload (q := 4) C dX11_many_23 rfl ?_
        refine k_cVI C ct_X11_isState my_11_isState ml_11_268 rfl ⟨Nat.le_of_ble_eq_true rfl, Nat.le_of_ble_eq_true rfl⟩ recvM rfl (Nat.le_of_ble_eq_true rfl) dX11_many_25 ⟨Nat.le_refl _, Nat.le_refl _⟩ (fun r4 _ => ?_)
        refine k_if_ne (tgt := 33) C dX11_many_28 (by decide) (fun _ => ?_) (fun _ => ?_)
        · refine k_iconst (v := 0) C dX11_many_33 rfl ?_
          refine k_istore (lv' := [(5, .int 0), (0, .ref (ad 44)), (1, .int a1), (2, .int a2), (3, .int a3), (4, .int a4)]) C dX11_many_34 (Nat.le_of_ble_eq_true rfl) rfl ?_
          refine k_iload_n (q := 3) C dX11_many_36 rfl rfl ?_
          refine k_istore (lv' := [(6, .int a2), (5, .int 0), (0, .ref (ad 44)), (1, .int a1), (2, .int a2), (3, .int a3), (4, .int a4)]) C dX11_many_37 (Nat.le_of_ble_eq_true rfl) rfl ?_
          refine Dk.loc [2, 3, 4, 5, 6, 1, 0] rfl ?_
          exact kb_X11_many_L39 C _ _ _
        · refine k_iconst (v := (-1)) C dX11_many_31 rfl ?_
          exact k_iret C rfl ⟨rfl, rfl⟩ dX11_many_32
theorem ct_X11_many {l : Launch} {θ : TH} {ad : Nat → Nat} {S : St} {F : Nat} {a1 : Int32} {a2 : Int32} {a3 : Int32} {a4 : Int32} : ∀ r, f_X11_many F S a1 a2 a3 a4 = some r → Ct l θ yX11_many cX11_many 7 (some .int) 2 0 0 [.ref (ad 44), .int a1, .int a2, .int a3, .int a4] (wdM θ ad S) (PI (wdM θ ad S) r) :=
  fun r hr => Ct.of (by decide) (Nat.le_of_ble_eq_true rfl) (fun X _ C _ => kw_X11_many C r hr)
set_option maxRecDepth 20000 in
theorem kb_X11_longest_B86 {X : GX} {θ : TH} {ad : Nat → Nat} {F : Nat} {S : St} {a1 : Int32} {a2 : Int32} {a3 : Int32} {a4 : Int32} {K55 : Int32 → Int32 → Int32 → Int32 → Int32 → Option (Int32)} (C : CX (mE X θ (wdM θ ad S) 11) RX11 cX11_longest (some .int) 2 0 0) (hK55 : ∀ (x5 : Int32) (x6 : Int32) (x7 : Int32) (x8 : Int32) (x9 : Int32), Dk (mE X θ (wdM θ ad S) 11) (mT X θ (wdM θ ad S) 11 (PI (wdM θ ad S))) 0 0 (wdM θ ad S) [(0, .ref (ad 44)), (1, .int a1), (2, .int a2), (3, .int a3), (4, .int a4), (5, .int x5), (6, .int x6), (7, .int x7), (8, .int x8), (9, .int x9)] [] 55 (K55 x5 x6 x7 x8 x9)) (x5 : Int32) (x6 : Int32) (x9 : Int32) (x10 : Int32) (t0 : Int32) : Dk (mE X θ (wdM θ ad S) 11) (mT X θ (wdM θ ad S) 11 (PI (wdM θ ad S))) 0 0 (wdM θ ad S) [(0, .ref (ad 44)), (1, .int a1), (2, .int a2), (3, .int a3), (4, .int a4), (5, .int x5), (6, .int x6), (9, .int x9), (10, .int x10)] [.int t0] 86 (f_X11_longest_B86 F S a1 a2 a3 a4 K55 x5 x6 x9 x10 t0) := by
  unfold f_X11_longest_B86
  refine k_istore (lv' := [(7, .int t0), (0, .ref (ad 44)), (1, .int a1), (2, .int a2), (3, .int a3), (4, .int a4), (5, .int x5), (6, .int x6), (9, .int x9), (10, .int x10)]) C dX11_longest_86 (Nat.le_of_ble_eq_true rfl) rfl ?_
  refine k_iload (q := 9) C dX11_longest_88 rfl ?_
  refine k_istore (lv' := [(8, .int x10), (7, .int t0), (0, .ref (ad 44)), (1, .int a1), (2, .int a2), (3, .int a3), (4, .int a4), (5, .int x5), (6, .int x6), (9, .int x9), (10, .int x10)]) C dX11_longest_90 (Nat.le_of_ble_eq_true rfl) rfl ?_
  refine k_iload (q := 9) C dX11_longest_92 rfl ?_
  refine k_iload (q := 1) C dX11_longest_94 rfl ?_
  refine k_isub C dX11_longest_96 ?_
  refine k_iconst (v := 1) C dX11_longest_97 rfl ?_
  refine k_iadd C dX11_longest_98 ?_
  refine k_iload (q := 7) C dX11_longest_99 rfl ?_
  refine k_icmp_le (tgt := 117) C dX11_longest_101 (by decide) (fun _ => ?_) (fun _ => ?_)
  · refine k_iinc (q := 9) (v := x9 + 1) (lv' := [(9, .int (x9 + 1)), (8, .int x10), (7, .int t0), (0, .ref (ad 44)), (1, .int a1), (2, .int a2), (3, .int a3), (4, .int a4), (5, .int x5), (6, .int x6), (10, .int x10)]) C dX11_longest_117 rfl rfl (Nat.le_of_ble_eq_true rfl) rfl ?_
    refine k_goto (tgt := 55) C dX11_longest_120 (by decide) ?_
    refine Dk.loc [3, 4, 5, 6, 7, 8, 9, 2, 1, 0] rfl ?_
    exact hK55 _ _ _ _ _
  · refine k_iload (q := 9) C dX11_longest_104 rfl ?_
    refine k_iload (q := 1) C dX11_longest_106 rfl ?_
    refine k_isub C dX11_longest_108 ?_
    refine k_iconst (v := 1) C dX11_longest_109 rfl ?_
    refine k_iadd C dX11_longest_110 ?_
    refine k_istore (lv' := [(5, .int ((x9 - t0) + 1)), (8, .int x10), (7, .int t0), (0, .ref (ad 44)), (1, .int a1), (2, .int a2), (3, .int a3), (4, .int a4), (6, .int x6), (9, .int x9), (10, .int x10)]) C dX11_longest_111 (Nat.le_of_ble_eq_true rfl) rfl ?_
    refine k_iload (q := 2) C dX11_longest_113 rfl ?_
    refine k_istore (lv' := [(6, .int t0), (5, .int ((x9 - t0) + 1)), (8, .int x10), (7, .int t0), (0, .ref (ad 44)), (1, .int a1), (2, .int a2), (3, .int a3), (4, .int a4), (9, .int x9), (10, .int x10)]) C dX11_longest_115 (Nat.le_of_ble_eq_true rfl) rfl ?_
    refine k_iinc (q := 9) (v := x9 + 1) (lv' := [(9, .int (x9 + 1)), (6, .int t0), (5, .int ((x9 - t0) + 1)), (8, .int x10), (7, .int t0), (0, .ref (ad 44)), (1, .int a1), (2, .int a2), (3, .int a3), (4, .int a4), (10, .int x10)]) C dX11_longest_117 rfl rfl (Nat.le_of_ble_eq_true rfl) rfl ?_
    refine k_goto (tgt := 55) C dX11_longest_120 (by decide) ?_
    refine Dk.loc [5, 6, 7, 8, 9, 2, 1, 4, 3, 0] rfl ?_
    exact hK55 _ _ _ _ _
set_option maxRecDepth 20000 in
theorem kb_X11_longest_L55 {X : GX} {θ : TH} {ad : Nat → Nat} {F : Nat} {S : St} {a1 : Int32} {a2 : Int32} {a3 : Int32} {a4 : Int32} (C : CX (mE X θ (wdM θ ad S) 11) RX11 cX11_longest (some .int) 2 0 0)  : ∀ (n : Nat) (x5 : Int32) (x6 : Int32) (x7 : Int32) (x8 : Int32) (x9 : Int32), Dk (mE X θ (wdM θ ad S) 11) (mT X θ (wdM θ ad S) 11 (PI (wdM θ ad S))) 0 0 (wdM θ ad S) [(0, .ref (ad 44)), (1, .int a1), (2, .int a2), (3, .int a3), (4, .int a4), (5, .int x5), (6, .int x6), (7, .int x7), (8, .int x8), (9, .int x9)] [] 55 (f_X11_longest_L55 F S a1 a2 a3 a4 n x5 x6 x7 x8 x9) := by
  intro n
  induction n with
  | zero => intro x5 x6 x7 x8 x9; exact Dk.none
  | succ n ih =>
    intro x5 x6 x7 x8 x9
    show Dk _ _ _ _ _ _ _ _ (if (a2 + a3) ≤ x9 then if a4 = 0 then some x5 else some x6 else (f_X11_stateOf F S a1 x9).bind fun r6 => (if r6 = x8 then f_X11_longest_B86 F S a1 a2 a3 a4 (f_X11_longest_L55 F S a1 a2 a3 a4 n) x5 x6 x9 r6 x7 else f_X11_longest_B86 F S a1 a2 a3 a4 (f_X11_longest_L55 F S a1 a2 a3 a4 n) x5 x6 x9 r6 x9))
    refine k_iload (q := 9) C dX11_longest_55 rfl ?_
    refine k_iload_n (q := 2) C dX11_longest_57 rfl rfl ?_
    refine k_iload_n (q := 3) C dX11_longest_58 rfl rfl ?_
    refine k_iadd C dX11_longest_59 ?_
    refine k_icmp_ge (tgt := 123) C dX11_longest_60 (by decide) (fun _ => ?_) (fun _ => ?_)
    · refine k_iload (q := 4) C dX11_longest_123 rfl ?_
      refine k_if_ne (tgt := 133) C dX11_longest_125 (by decide) (fun _ => ?_) (fun _ => ?_)
      · refine k_iload (q := 6) C dX11_longest_133 rfl ?_
        exact k_iret C rfl ⟨rfl, rfl⟩ dX11_longest_135
      · refine k_iload (q := 5) C dX11_longest_128 rfl ?_
        refine k_goto (tgt := 135) C dX11_longest_130 (by decide) ?_
        exact k_iret C rfl ⟨rfl, rfl⟩ dX11_longest_135
    · refine k_aload_n (q := 0) C dX11_longest_63 rfl rfl ?_
      refine k_iload_n (q := 1) C dX11_longest_64 rfl rfl ?_
      refine k_iload (q := 9) C dX11_longest_65 rfl ?_
      refine k_cVI C ct_X11_stateOf my_11_stateOf ml_11_137 rfl ⟨Nat.le_of_ble_eq_true rfl, Nat.le_of_ble_eq_true rfl⟩ recvM rfl (Nat.le_of_ble_eq_true rfl) dX11_longest_67 ⟨Nat.le_refl _, Nat.le_refl _⟩ (fun r6 _ => ?_)
      refine k_istore (lv' := [(10, .int r6), (0, .ref (ad 44)), (1, .int a1), (2, .int a2), (3, .int a3), (4, .int a4), (5, .int x5), (6, .int x6), (7, .int x7), (8, .int x8), (9, .int x9)]) C dX11_longest_70 (Nat.le_of_ble_eq_true rfl) rfl ?_
      refine k_iload (q := 0) C dX11_longest_72 rfl ?_
      refine k_iload (q := 9) C dX11_longest_74 rfl ?_
      refine k_icmp_ne (tgt := 84) C dX11_longest_76 (by decide) (fun _ => ?_) (fun _ => ?_)
      · refine k_iload (q := 10) C dX11_longest_84 rfl ?_
        refine Dk.loc [1, 2, 3, 4, 5, 6, 7, 10, 0] rfl ?_
        exact kb_X11_longest_B86 C ih _ _ _ _ _
      · refine k_iload (q := 8) C dX11_longest_79 rfl ?_
        refine k_goto (tgt := 86) C dX11_longest_81 (by decide) ?_
        refine Dk.loc [1, 2, 3, 4, 5, 6, 7, 10, 0] rfl ?_
        exact kb_X11_longest_B86 C ih _ _ _ _ _
set_option maxRecDepth 20000 in
theorem kw_X11_longest {X : GX} {θ : TH} {ad : Nat → Nat} {F : Nat} {S : St} {a1 : Int32} {a2 : Int32} {a3 : Int32} {a4 : Int32} (C : CX (mE X θ (wdM θ ad S) 11) RX11 cX11_longest (some .int) 2 0 0)  : Dk (mE X θ (wdM θ ad S) 11) (mT X θ (wdM θ ad S) 11 (PI (wdM θ ad S))) 0 0 (wdM θ ad S) [(0, .ref (ad 44)), (1, .int a1), (2, .int a2), (3, .int a3), (4, .int a4)] [] 0 (f_X11_longest F S a1 a2 a3 a4) := by
  unfold f_X11_longest
  refine k_aload_n (q := 0) C dX11_longest_0 rfl rfl ?_
  refine k_iload_n (q := 1) C dX11_longest_1 rfl rfl ?_
  refine k_cVI C ct_X11_isValley my_11_isValley ml_11_119 rfl ⟨Nat.le_of_ble_eq_true rfl, Nat.le_of_ble_eq_true rfl⟩ recvM rfl (Nat.le_of_ble_eq_true rfl) dX11_longest_2 ⟨Nat.le_refl _, Nat.le_refl _⟩ (fun r1 _ => ?_)
  refine k_if_eq (tgt := 33) C dX11_longest_5 (by decide) (fun _ => ?_) (fun _ => ?_)
  · refine k_iconst (v := (-1)) C dX11_longest_33 rfl ?_
    exact k_iret C rfl ⟨rfl, rfl⟩ dX11_longest_34
  · refine k_iload_n (q := 2) C dX11_longest_8 rfl rfl ?_
    refine k_cSI C ct_X11_isHour my_11_isHour ml_11_134 rfl ⟨Nat.le_of_ble_eq_true rfl, Nat.le_of_ble_eq_true rfl⟩ rfl (Nat.le_of_ble_eq_true rfl) dX11_longest_9 ⟨Nat.le_refl _, Nat.le_refl _⟩ (fun r2 _ => ?_)
    refine k_if_eq (tgt := 33) C dX11_longest_12 (by decide) (fun _ => ?_) (fun _ => ?_)
    · refine k_iconst (v := (-1)) C dX11_longest_33 rfl ?_
      exact k_iret C rfl ⟨rfl, rfl⟩ dX11_longest_34
    · refine k_iload_n (q := 3) C dX11_longest_15 rfl rfl ?_
      refine k_cSI C ct_X11_areHours my_11_areHours ml_11_274 rfl ⟨Nat.le_of_ble_eq_true rfl, Nat.le_of_ble_eq_true rfl⟩ rfl (Nat.le_of_ble_eq_true rfl) dX11_longest_16 ⟨Nat.le_refl _, Nat.le_refl _⟩ (fun r3 _ => ?_)
      refine k_if_eq (tgt := 33) C dX11_longest_19 (by decide) (fun _ => ?_) (fun _ => ?_)
      · refine k_iconst (v := (-1)) C dX11_longest_33 rfl ?_
        exact k_iret C rfl ⟨rfl, rfl⟩ dX11_longest_34
      · refine k_iload (q := 4) C dX11_longest_22 rfl ?_
        refine k_i2l C dX11_longest_24 ?_
        refine k_lconst (v := 0) C dX11_longest_25 rfl ?_
        refine k_lconst (v := 1) C dX11_longest_26 rfl ?_
        refine k_cSI C ct_X11_within my_11_within ml_11_106 rfl ⟨Nat.le_of_ble_eq_true rfl, Nat.le_of_ble_eq_true rfl⟩ rfl (Nat.le_of_ble_eq_true rfl) dX11_longest_27 ⟨Nat.le_refl _, Nat.le_refl _⟩ (fun r4 _ => ?_)
        refine k_if_ne (tgt := 35) C dX11_longest_30 (by decide) (fun _ => ?_) (fun _ => ?_)
        · refine k_iconst (v := 0) C dX11_longest_35 rfl ?_
          refine k_istore (lv' := [(5, .int 0), (0, .ref (ad 44)), (1, .int a1), (2, .int a2), (3, .int a3), (4, .int a4)]) C dX11_longest_36 (Nat.le_of_ble_eq_true rfl) rfl ?_
          refine k_iload_n (q := 3) C dX11_longest_38 rfl rfl ?_
          refine k_istore (lv' := [(6, .int a2), (5, .int 0), (0, .ref (ad 44)), (1, .int a1), (2, .int a2), (3, .int a3), (4, .int a4)]) C dX11_longest_39 (Nat.le_of_ble_eq_true rfl) rfl ?_
          refine k_iload_n (q := 4) C dX11_longest_41 rfl rfl ?_
          refine k_istore (lv' := [(7, .int a2), (6, .int a2), (5, .int 0), (0, .ref (ad 44)), (1, .int a1), (2, .int a2), (3, .int a3), (4, .int a4)]) C dX11_longest_42 (Nat.le_of_ble_eq_true rfl) rfl ?_
          refine k_aload_n (q := 3) C dX11_longest_44 rfl rfl ?_
          refine k_iload_n (q := 4) C dX11_longest_45 rfl rfl ?_
          refine k_iload_n (q := 5) C dX11_longest_46 rfl rfl ?_
          refine k_cVI C ct_X11_stateOf my_11_stateOf ml_11_137 rfl ⟨Nat.le_of_ble_eq_true rfl, Nat.le_of_ble_eq_true rfl⟩ recvM rfl (Nat.le_of_ble_eq_true rfl) dX11_longest_47 ⟨Nat.le_refl _, Nat.le_refl _⟩ (fun r5 _ => ?_)
          refine k_istore (lv' := [(8, .int r5), (7, .int a2), (6, .int a2), (5, .int 0), (0, .ref (ad 44)), (1, .int a1), (2, .int a2), (3, .int a3), (4, .int a4)]) C dX11_longest_50 (Nat.le_of_ble_eq_true rfl) rfl ?_
          refine k_iload_n (q := 6) C dX11_longest_52 rfl rfl ?_
          refine k_istore (lv' := [(9, .int a2), (8, .int r5), (7, .int a2), (6, .int a2), (5, .int 0), (0, .ref (ad 44)), (1, .int a1), (2, .int a2), (3, .int a3), (4, .int a4)]) C dX11_longest_53 (Nat.le_of_ble_eq_true rfl) rfl ?_
          refine Dk.loc [5, 6, 7, 8, 9, 4, 3, 2, 1, 0] rfl ?_
          exact kb_X11_longest_L55 C _ _ _ _ _ _
        · refine k_iconst (v := (-1)) C dX11_longest_33 rfl ?_
          exact k_iret C rfl ⟨rfl, rfl⟩ dX11_longest_34
theorem ct_X11_longest {l : Launch} {θ : TH} {ad : Nat → Nat} {S : St} {F : Nat} {a1 : Int32} {a2 : Int32} {a3 : Int32} {a4 : Int32} : ∀ r, f_X11_longest F S a1 a2 a3 a4 = some r → Ct l θ yX11_longest cX11_longest 11 (some .int) 2 0 0 [.ref (ad 44), .int a1, .int a2, .int a3, .int a4] (wdM θ ad S) (PI (wdM θ ad S) r) :=
  fun r hr => Ct.of (by decide) (Nat.le_of_ble_eq_true rfl) (fun X _ C _ => kw_X11_longest C r hr)
set_option maxRecDepth 20000 in
theorem kb_X11_common_L4 {X : GX} {θ : TH} {ws : va_W} {F : Nat} (C : CX (mE X θ (ws) 5) RX11 cX11_common (some .int) 0 0 0)  : ∀ (n : Nat) (x2 : Int32) (x3 : Int32), Dk (mE X θ (ws) 5) (mT X θ (ws) 5 (PI ws)) 0 0 ws [(2, .int x2), (3, .int x3)] [] 4 (f_X11_common_L4 F n x2 x3) := by
  intro n
  induction n with
  | zero => intro x2 x3; exact Dk.none
  | succ n ih =>
    intro x2 x3
    show Dk _ _ _ _ _ _ _ _ (if x3 = 0 then some x2 else chk (nz x3) (f_X11_common_L4 F n x3 (jrem x2 x3)))
    refine k_iload_n (q := 1) C dX11_common_4 rfl rfl ?_
    refine k_if_eq (tgt := 21) C dX11_common_5 (by decide) (fun _ => ?_) (fun _ => ?_)
    · refine k_iload_n (q := 0) C dX11_common_21 rfl rfl ?_
      exact k_iret C rfl ⟨rfl, rfl⟩ dX11_common_22
    · refine k_iload_n (q := 0) C dX11_common_8 rfl rfl ?_
      refine k_iload_n (q := 1) C dX11_common_9 rfl rfl ?_
      refine k_iremc C dX11_common_10 ?_
      refine k_istore (lv' := [(4, .int (jrem x2 x3)), (2, .int x2), (3, .int x3)]) C dX11_common_11 (Nat.le_of_ble_eq_true rfl) rfl ?_
      refine k_iload_n (q := 2) C dX11_common_13 rfl rfl ?_
      refine k_istore_n (lv' := [(2, .int x3), (4, .int (jrem x2 x3)), (3, .int x3)]) C dX11_common_14 rfl (Nat.le_of_ble_eq_true rfl) rfl ?_
      refine k_iload (q := 1) C dX11_common_15 rfl ?_
      refine k_istore_n (lv' := [(3, .int (jrem x2 x3)), (2, .int x3), (4, .int (jrem x2 x3))]) C dX11_common_17 rfl (Nat.le_of_ble_eq_true rfl) rfl ?_
      refine k_goto (tgt := 4) C dX11_common_18 (by decide) ?_
      refine Dk.loc [1, 0] rfl ?_
      exact ih _ _
set_option maxRecDepth 20000 in
theorem kw_X11_common {X : GX} {θ : TH} {ws : va_W} {F : Nat}  {a1 : Int32} {a2 : Int32} (C : CX (mE X θ (ws) 5) RX11 cX11_common (some .int) 0 0 0)  : Dk (mE X θ (ws) 5) (mT X θ (ws) 5 (PI ws)) 0 0 ws [(0, .int a1), (1, .int a2)] [] 0 (f_X11_common F a1 a2) := by
  unfold f_X11_common
  refine k_iload_n (q := 0) C dX11_common_0 rfl rfl ?_
  refine k_istore_n (lv' := [(2, .int a1), (0, .int a1), (1, .int a2)]) C dX11_common_1 rfl (Nat.le_of_ble_eq_true rfl) rfl ?_
  refine k_iload_n (q := 2) C dX11_common_2 rfl rfl ?_
  refine k_istore_n (lv' := [(3, .int a2), (2, .int a1), (0, .int a1), (1, .int a2)]) C dX11_common_3 rfl (Nat.le_of_ble_eq_true rfl) rfl ?_
  refine Dk.loc [1, 0] rfl ?_
  exact kb_X11_common_L4 C _ _ _
theorem ct_X11_common {l : Launch} {θ : TH} {ws : va_W} {F : Nat} {a1 : Int32} {a2 : Int32} : ∀ r, f_X11_common F a1 a2 = some r → Ct l θ yX11_common cX11_common 5 (some .int) 0 0 0 [.int a1, .int a2] (ws) (PI ws r) :=
  fun r hr => Ct.of (by decide) (Nat.le_of_ble_eq_true rfl) (fun X _ C _ => kw_X11_common C r hr)
set_option maxRecDepth 20000 in
theorem kb_X11_round_L14 {X : GX} {θ : TH} {ad : Nat → Nat} {F : Nat} {S : St} (C : CX (mE X θ (wdM θ ad S) 3) RX11 cX11_round (some .int) 1 0 0)  : ∀ (n : Nat) (x1 : Int32) (x2 : Int32), Dk (mE X θ (wdM θ ad S) 3) (mT X θ (wdM θ ad S) 3 (PI (wdM θ ad S))) 0 0 (wdM θ ad S) [(0, .ref (ad 44)), (1, .int x1), (2, .int x2)] [] 14 (f_X11_round_L14 F S n x1 x2) := by
  intro n
  induction n with
  | zero => intro x1 x2; exact Dk.none
  | succ n ih =>
    intro x1 x2
    show Dk _ _ _ _ _ _ _ _ (if (S.1 6) ≤ x2 then some x1 else chk (inr x2 3) ((f_X11_common F x1 (S.2.1 7 (x2).toNatClampNeg)).bind fun r1 => chk (nz r1) (chk (inr x2 3) (lti ((x1 / r1) * (S.2.1 7 (x2).toNatClampNeg)) fun y2 => f_X11_round_L14 F S n y2 (x2 + 1)))))
    refine k_iload_n (q := 2) C dX11_round_14 rfl rfl ?_
    refine k_aload_n (q := 0) C dX11_round_15 rfl rfl ?_
    refine m_geti (kf := 6) (v := S.1 6) C mS_6 fl_11_103 rfl dX11_round_16 ?_
    refine k_icmp_ge (tgt := 48) C dX11_round_19 (by decide) (fun _ => ?_) (fun _ => ?_)
    · refine k_iload_n (q := 1) C dX11_round_48 rfl rfl ?_
      exact k_iret C rfl ⟨rfl, rfl⟩ dX11_round_49
    · refine k_iload_n (q := 1) C dX11_round_22 rfl rfl ?_
      refine k_iload_n (q := 1) C dX11_round_23 rfl rfl ?_
      refine k_aload_n (q := 0) C dX11_round_24 rfl rfl ?_
      refine m_geta (kf := 7) C mR_7 fl_11_22 dX11_round_25 ?_
      refine k_iload_n (q := 2) C dX11_round_28 rfl rfl ?_
      refine m_iald (x := S.2.1 7 (x2).toNatClampNeg) C mA_7 mN_7 rfl dX11_round_29 ?_
      refine k_cSI C ct_X11_common my_11_common ml_11_277 rfl ⟨Nat.le_of_ble_eq_true rfl, Nat.le_of_ble_eq_true rfl⟩ rfl (Nat.le_of_ble_eq_true rfl) dX11_round_30 ⟨Nat.le_refl _, Nat.le_refl _⟩ (fun r1 _ => ?_)
      refine k_idivc C dX11_round_33 ?_
      refine k_aload_n (q := 0) C dX11_round_34 rfl rfl ?_
      refine m_geta (kf := 7) C mR_7 fl_11_22 dX11_round_35 ?_
      refine k_iload_n (q := 2) C dX11_round_38 rfl rfl ?_
      refine m_iald (x := S.2.1 7 (x2).toNatClampNeg) C mA_7 mN_7 rfl dX11_round_39 ?_
      refine k_imul C dX11_round_40 ?_
      refine k_lti fun y2 => ?_
      refine k_istore_n (lv' := [(1, .int y2), (0, .ref (ad 44)), (2, .int x2)]) C dX11_round_41 rfl (Nat.le_of_ble_eq_true rfl) rfl ?_
      refine k_iinc (q := 2) (v := x2 + 1) (lv' := [(2, .int (x2 + 1)), (1, .int y2), (0, .ref (ad 44))]) C dX11_round_42 rfl rfl (Nat.le_of_ble_eq_true rfl) rfl ?_
      refine k_goto (tgt := 14) C dX11_round_45 (by decide) ?_
      refine Dk.loc [2, 1, 0] rfl ?_
      exact ih _ _
set_option maxRecDepth 20000 in
theorem kw_X11_round {X : GX} {θ : TH} {ad : Nat → Nat} {F : Nat} {S : St}  (C : CX (mE X θ (wdM θ ad S) 3) RX11 cX11_round (some .int) 1 0 0)  : Dk (mE X θ (wdM θ ad S) 3) (mT X θ (wdM θ ad S) 3 (PI (wdM θ ad S))) 0 0 (wdM θ ad S) [(0, .ref (ad 44))] [] 0 (f_X11_round F S) := by
  unfold f_X11_round
  refine k_aload_n (q := 0) C dX11_round_0 rfl rfl ?_
  refine m_geti (kf := 6) (v := S.1 6) C mS_6 fl_11_103 rfl dX11_round_1 ?_
  refine k_if_ne (tgt := 10) C dX11_round_4 (by decide) (fun _ => ?_) (fun _ => ?_)
  · refine k_iconst (v := 1) C dX11_round_10 rfl ?_
    refine k_istore_n (lv' := [(1, .int 1), (0, .ref (ad 44))]) C dX11_round_11 rfl (Nat.le_of_ble_eq_true rfl) rfl ?_
    refine k_iconst (v := 0) C dX11_round_12 rfl ?_
    refine k_istore_n (lv' := [(2, .int 0), (1, .int 1), (0, .ref (ad 44))]) C dX11_round_13 rfl (Nat.le_of_ble_eq_true rfl) rfl ?_
    refine Dk.loc [2, 1, 0] rfl ?_
    exact kb_X11_round_L14 C _ _ _
  · refine k_bipush (v := (-5)) C dX11_round_7 rfl ?_
    exact k_iret C rfl ⟨rfl, rfl⟩ dX11_round_9
theorem ct_X11_round {l : Launch} {θ : TH} {ad : Nat → Nat} {S : St} {F : Nat}  : ∀ r, f_X11_round F S = some r → Ct l θ yX11_round cX11_round 3 (some .int) 1 0 0 [.ref (ad 44)] (wdM θ ad S) (PI (wdM θ ad S) r) :=
  fun r hr => Ct.of (by decide) (Nat.le_of_ble_eq_true rfl) (fun X _ C _ => kw_X11_round C r hr)
set_option maxRecDepth 20000 in
theorem kb_X11_seenSum_L55 {X : GX} {θ : TH} {ad : Nat → Nat} {S0 : St} {F : Nat} {a1 : Int32} {a2 : Int32} {a3 : Int32} {a4 : Int32} {a5 : Int32} {K15 : St → Int32 → Int32 → Int32 → Option (Int32 × St)} (C : CX (mE X θ (wdM θ ad S0) 11) RX11 cX11_seenSum (some .int) 66 0 0) (hK15 : ∀ (S : St) (x6 : Int32) (x7 : Int32) (x8 : Int32), Dk (mE X θ (wdM θ ad S0) 11) (mT X θ (wdM θ ad S0) 11 (PIS (wdM θ ad))) 0 0 (wdM θ ad S) [(0, .ref (ad 44)), (1, .int a1), (2, .int a2), (3, .int a3), (4, .int a4), (5, .int a5), (6, .int x6), (7, .int x7), (8, .int x8)] [] 15 (K15 S x6 x7 x8)) : ∀ (n : Nat) (S : St) (x6 : Int32) (x7 : Int32) (x8 : Int32) (x9 : Int32) (x10 : Int32), Dk (mE X θ (wdM θ ad S0) 11) (mT X θ (wdM θ ad S0) 11 (PIS (wdM θ ad))) 0 0 (wdM θ ad S) [(0, .ref (ad 44)), (1, .int a1), (2, .int a2), (3, .int a3), (4, .int a4), (5, .int a5), (6, .int x6), (7, .int x7), (8, .int x8), (9, .int x9), (10, .int x10)] [] 55 (f_X11_seenSum_L55 F a1 a2 a3 a4 a5 K15 n S x6 x7 x8 x9 x10) := by
  intro n
  induction n with
  | zero => intro S x6 x7 x8 x9 x10; exact Dk.none
  | succ n ih =>
    intro S x6 x7 x8 x9 x10
    show Dk _ _ _ _ _ _ _ _ (if (S.1 6) ≤ x10 then K15 S x6 (x7 + x9) (x8 + 1) else if ((x6 >>> (x10 &&& 31)) &&& 1) = 0 then f_X11_seenSum_L55 F a1 a2 a3 a4 a5 K15 n S x6 x7 x8 (x9 * 1) (x10 + 1) else if ((x8 >>> (x10 &&& 31)) &&& 1) = 1 then f_X11_seenSum_L55 F a1 a2 a3 a4 a5 K15 n S x6 x7 x8 (x9 * (100 - a5)) (x10 + 1) else f_X11_seenSum_L55 F a1 a2 a3 a4 a5 K15 n S x6 x7 x8 (x9 * a5) (x10 + 1))
    refine k_iload (q := 10) C dX11_seenSum_55 rfl ?_
    refine k_aload_n (q := 0) C dX11_seenSum_57 rfl rfl ?_
    refine m_geti (kf := 6) (v := S.1 6) C mS_6 fl_11_103 rfl dX11_seenSum_58 ?_
    refine k_icmp_ge (tgt := 110) C dX11_seenSum_61 (by decide) (fun _ => ?_) (fun _ => ?_)
    · refine k_iload (q := 7) C dX11_seenSum_110 rfl ?_
      refine k_iload (q := 9) C dX11_seenSum_112 rfl ?_
      refine k_iadd C dX11_seenSum_114 ?_
      refine k_istore (lv' := [(7, .int (x7 + x9)), (0, .ref (ad 44)), (1, .int a1), (2, .int a2), (3, .int a3), (4, .int a4), (5, .int a5), (6, .int x6), (8, .int x8), (9, .int x9), (10, .int x10)]) C dX11_seenSum_115 (Nat.le_of_ble_eq_true rfl) rfl ?_
      refine k_iinc (q := 8) (v := x8 + 1) (lv' := [(8, .int (x8 + 1)), (7, .int (x7 + x9)), (0, .ref (ad 44)), (1, .int a1), (2, .int a2), (3, .int a3), (4, .int a4), (5, .int a5), (6, .int x6), (9, .int x9), (10, .int x10)]) C dX11_seenSum_117 rfl rfl (Nat.le_of_ble_eq_true rfl) rfl ?_
      refine k_goto (tgt := 15) C dX11_seenSum_120 (by decide) ?_
      refine Dk.loc [2, 3, 4, 5, 6, 7, 8, 1, 0] rfl ?_
      exact hK15 _ _ _ _
    · refine k_iload (q := 9) C dX11_seenSum_64 rfl ?_
      refine k_iload (q := 6) C dX11_seenSum_66 rfl ?_
      refine k_iload (q := 10) C dX11_seenSum_68 rfl ?_
      refine k_ishr C dX11_seenSum_70 ?_
      refine k_iconst (v := 1) C dX11_seenSum_71 rfl ?_
      refine k_iand C dX11_seenSum_72 ?_
      refine k_if_ne (tgt := 80) C dX11_seenSum_73 (by decide) (fun _ => ?_) (fun _ => ?_)
      · refine k_iload (q := 8) C dX11_seenSum_80 rfl ?_
        refine k_iload (q := 10) C dX11_seenSum_82 rfl ?_
        refine k_ishr C dX11_seenSum_84 ?_
        refine k_iconst (v := 1) C dX11_seenSum_85 rfl ?_
        refine k_iand C dX11_seenSum_86 ?_
        refine k_iconst (v := 1) C dX11_seenSum_87 rfl ?_
        refine k_icmp_ne (tgt := 99) C dX11_seenSum_88 (by decide) (fun _ => ?_) (fun _ => ?_)
        · refine k_iload (q := 5) C dX11_seenSum_99 rfl ?_
          refine k_imul C dX11_seenSum_101 ?_
          refine k_istore (lv' := [(9, .int (x9 * a5)), (0, .ref (ad 44)), (1, .int a1), (2, .int a2), (3, .int a3), (4, .int a4), (5, .int a5), (6, .int x6), (7, .int x7), (8, .int x8), (10, .int x10)]) C dX11_seenSum_102 (Nat.le_of_ble_eq_true rfl) rfl ?_
          refine k_iinc (q := 10) (v := x10 + 1) (lv' := [(10, .int (x10 + 1)), (9, .int (x9 * a5)), (0, .ref (ad 44)), (1, .int a1), (2, .int a2), (3, .int a3), (4, .int a4), (5, .int a5), (6, .int x6), (7, .int x7), (8, .int x8)]) C dX11_seenSum_104 rfl rfl (Nat.le_of_ble_eq_true rfl) rfl ?_
          refine k_goto (tgt := 55) C dX11_seenSum_107 (by decide) ?_
          refine Dk.loc [2, 3, 4, 5, 6, 7, 8, 9, 10, 1, 0] rfl ?_
          exact ih _ _ _ _ _ _
        · refine k_bipush (v := 100) C dX11_seenSum_91 rfl ?_
          refine k_iload (q := 5) C dX11_seenSum_93 rfl ?_
          refine k_isub C dX11_seenSum_95 ?_
          refine k_goto (tgt := 101) C dX11_seenSum_96 (by decide) ?_
          refine k_imul C dX11_seenSum_101 ?_
          refine k_istore (lv' := [(9, .int (x9 * (100 - a5))), (0, .ref (ad 44)), (1, .int a1), (2, .int a2), (3, .int a3), (4, .int a4), (5, .int a5), (6, .int x6), (7, .int x7), (8, .int x8), (10, .int x10)]) C dX11_seenSum_102 (Nat.le_of_ble_eq_true rfl) rfl ?_
          refine k_iinc (q := 10) (v := x10 + 1) (lv' := [(10, .int (x10 + 1)), (9, .int (x9 * (100 - a5))), (0, .ref (ad 44)), (1, .int a1), (2, .int a2), (3, .int a3), (4, .int a4), (5, .int a5), (6, .int x6), (7, .int x7), (8, .int x8)]) C dX11_seenSum_104 rfl rfl (Nat.le_of_ble_eq_true rfl) rfl ?_
          refine k_goto (tgt := 55) C dX11_seenSum_107 (by decide) ?_
          refine Dk.loc [2, 3, 4, 5, 6, 7, 8, 9, 10, 1, 0] rfl ?_
          exact ih _ _ _ _ _ _
      · refine k_iconst (v := 1) C dX11_seenSum_76 rfl ?_
        refine k_goto (tgt := 101) C dX11_seenSum_77 (by decide) ?_
        refine k_imul C dX11_seenSum_101 ?_
        refine k_istore (lv' := [(9, .int (x9 * 1)), (0, .ref (ad 44)), (1, .int a1), (2, .int a2), (3, .int a3), (4, .int a4), (5, .int a5), (6, .int x6), (7, .int x7), (8, .int x8), (10, .int x10)]) C dX11_seenSum_102 (Nat.le_of_ble_eq_true rfl) rfl ?_
        refine k_iinc (q := 10) (v := x10 + 1) (lv' := [(10, .int (x10 + 1)), (9, .int (x9 * 1)), (0, .ref (ad 44)), (1, .int a1), (2, .int a2), (3, .int a3), (4, .int a4), (5, .int a5), (6, .int x6), (7, .int x7), (8, .int x8)]) C dX11_seenSum_104 rfl rfl (Nat.le_of_ble_eq_true rfl) rfl ?_
        refine k_goto (tgt := 55) C dX11_seenSum_107 (by decide) ?_
        refine Dk.loc [2, 3, 4, 5, 6, 7, 8, 9, 10, 1, 0] rfl ?_
        exact ih _ _ _ _ _ _
set_option maxRecDepth 20000 in
theorem kb_X11_seenSum_L15 {X : GX} {θ : TH} {ad : Nat → Nat} {S0 : St} {F : Nat} {a1 : Int32} {a2 : Int32} {a3 : Int32} {a4 : Int32} {a5 : Int32} (C : CX (mE X θ (wdM θ ad S0) 11) RX11 cX11_seenSum (some .int) 66 0 0)  : ∀ (n : Nat) (S : St) (x6 : Int32) (x7 : Int32) (x8 : Int32), Dk (mE X θ (wdM θ ad S0) 11) (mT X θ (wdM θ ad S0) 11 (PIS (wdM θ ad))) 0 0 (wdM θ ad S) [(0, .ref (ad 44)), (1, .int a1), (2, .int a2), (3, .int a3), (4, .int a4), (5, .int a5), (6, .int x6), (7, .int x7), (8, .int x8)] [] 15 (f_X11_seenSum_L15 F a1 a2 a3 a4 a5 n S x6 x7 x8) := by
  intro n
  induction n with
  | zero => intro S x6 x7 x8; exact Dk.none
  | succ n ih =>
    intro S x6 x7 x8
    show Dk _ _ _ _ _ _ _ _ (if x6 < x8 then some (x7, S) else if (x8 &&& (x6 ^^^ (-1))) = 0 then (f_X11_costBy F S x8 a1 a2 a3 a4).bind fun r2 => (if (0 : Int32) ≤ r2.1 then f_X11_seenSum_L55 F a1 a2 a3 a4 a5 (f_X11_seenSum_L15 F a1 a2 a3 a4 a5 n) F r2.2 x6 x7 x8 1 0 else f_X11_seenSum_L15 F a1 a2 a3 a4 a5 n r2.2 x6 x7 (x8 + 1)) else f_X11_seenSum_L15 F a1 a2 a3 a4 a5 n S x6 x7 (x8 + 1))
    refine k_iload (q := 8) C dX11_seenSum_15 rfl ?_
    refine k_iload (q := 6) C dX11_seenSum_17 rfl ?_
    refine k_icmp_gt (tgt := 123) C dX11_seenSum_19 (by decide) (fun _ => ?_) (fun _ => ?_)
    · refine k_iload (q := 7) C dX11_seenSum_123 rfl ?_
      exact k_iret C rfl ⟨rfl, rfl⟩ dX11_seenSum_125
    · refine k_iload (q := 8) C dX11_seenSum_22 rfl ?_
      refine k_iload (q := 6) C dX11_seenSum_24 rfl ?_
      refine k_iconst (v := (-1)) C dX11_seenSum_26 rfl ?_
      refine k_ixor C dX11_seenSum_27 ?_
      refine k_iand C dX11_seenSum_28 ?_
      refine k_if_ne (tgt := 117) C dX11_seenSum_29 (by decide) (fun _ => ?_) (fun _ => ?_)
      · refine k_iinc (q := 8) (v := x8 + 1) (lv' := [(8, .int (x8 + 1)), (0, .ref (ad 44)), (1, .int a1), (2, .int a2), (3, .int a3), (4, .int a4), (5, .int a5), (6, .int x6), (7, .int x7)]) C dX11_seenSum_117 rfl rfl (Nat.le_of_ble_eq_true rfl) rfl ?_
        refine k_goto (tgt := 15) C dX11_seenSum_120 (by decide) ?_
        refine Dk.loc [1, 2, 3, 4, 5, 6, 7, 8, 0] rfl ?_
        exact ih _ _ _ _
      · refine k_aload_n (q := 0) C dX11_seenSum_32 rfl rfl ?_
        refine k_iload (q := 8) C dX11_seenSum_33 rfl ?_
        refine k_iload_n (q := 1) C dX11_seenSum_35 rfl rfl ?_
        refine k_iload_n (q := 2) C dX11_seenSum_36 rfl rfl ?_
        refine k_iload_n (q := 3) C dX11_seenSum_37 rfl rfl ?_
        refine k_iload (q := 4) C dX11_seenSum_38 rfl ?_
        refine k_cVI C ct_X11_costBy my_11_costBy ml_11_234 rfl ⟨Nat.le_of_ble_eq_true rfl, Nat.le_of_ble_eq_true rfl⟩ recvM rfl (Nat.le_of_ble_eq_true rfl) dX11_seenSum_40 ⟨Nat.le_refl _, Nat.le_refl _⟩ (fun r2 _ => ?_)
        refine k_if_ge (tgt := 49) C dX11_seenSum_43 (by decide) (fun _ => ?_) (fun _ => ?_)
        · refine k_iconst (v := 1) C dX11_seenSum_49 rfl ?_
          refine k_istore (lv' := [(9, .int 1), (0, .ref (ad 44)), (1, .int a1), (2, .int a2), (3, .int a3), (4, .int a4), (5, .int a5), (6, .int x6), (7, .int x7), (8, .int x8)]) C dX11_seenSum_50 (Nat.le_of_ble_eq_true rfl) rfl ?_
          refine k_iconst (v := 0) C dX11_seenSum_52 rfl ?_
          refine k_istore (lv' := [(10, .int 0), (9, .int 1), (0, .ref (ad 44)), (1, .int a1), (2, .int a2), (3, .int a3), (4, .int a4), (5, .int a5), (6, .int x6), (7, .int x7), (8, .int x8)]) C dX11_seenSum_53 (Nat.le_of_ble_eq_true rfl) rfl ?_
          refine Dk.loc [2, 3, 4, 5, 6, 7, 8, 9, 10, 1, 0] rfl ?_
          exact kb_X11_seenSum_L55 C ih _ _ _ _ _ _ _
        · refine k_goto (tgt := 117) C dX11_seenSum_46 (by decide) ?_
          refine k_iinc (q := 8) (v := x8 + 1) (lv' := [(8, .int (x8 + 1)), (0, .ref (ad 44)), (1, .int a1), (2, .int a2), (3, .int a3), (4, .int a4), (5, .int a5), (6, .int x6), (7, .int x7)]) C dX11_seenSum_117 rfl rfl (Nat.le_of_ble_eq_true rfl) rfl ?_
          refine k_goto (tgt := 15) C dX11_seenSum_120 (by decide) ?_
          refine Dk.loc [1, 2, 3, 4, 5, 6, 7, 8, 0] rfl ?_
          exact ih _ _ _ _
set_option maxRecDepth 20000 in
theorem kw_X11_seenSum {X : GX} {θ : TH} {ad : Nat → Nat} {F : Nat} {S : St} {a1 : Int32} {a2 : Int32} {a3 : Int32} {a4 : Int32} {a5 : Int32} (C : CX (mE X θ (wdM θ ad S) 11) RX11 cX11_seenSum (some .int) 66 0 0)  : Dk (mE X θ (wdM θ ad S) 11) (mT X θ (wdM θ ad S) 11 (PIS (wdM θ ad))) 0 0 (wdM θ ad S) [(0, .ref (ad 44)), (1, .int a1), (2, .int a2), (3, .int a3), (4, .int a4), (5, .int a5)] [] 0 (f_X11_seenSum F S a1 a2 a3 a4 a5) := by
  unfold f_X11_seenSum
  refine k_aload_n (q := 0) C dX11_seenSum_0 rfl rfl ?_
  refine k_iload_n (q := 2) C dX11_seenSum_1 rfl rfl ?_
  refine k_iload (q := 4) C dX11_seenSum_2 rfl ?_
  refine k_cVI C ct_X11_stateOf my_11_stateOf ml_11_137 rfl ⟨Nat.le_of_ble_eq_true rfl, Nat.le_of_ble_eq_true rfl⟩ recvM rfl (Nat.le_of_ble_eq_true rfl) dX11_seenSum_4 ⟨Nat.le_refl _, Nat.le_refl _⟩ (fun r1 _ => ?_)
  refine k_istore (lv' := [(6, .int r1), (0, .ref (ad 44)), (1, .int a1), (2, .int a2), (3, .int a3), (4, .int a4), (5, .int a5)]) C dX11_seenSum_7 (Nat.le_of_ble_eq_true rfl) rfl ?_
  refine k_iconst (v := 0) C dX11_seenSum_9 rfl ?_
  refine k_istore (lv' := [(7, .int 0), (6, .int r1), (0, .ref (ad 44)), (1, .int a1), (2, .int a2), (3, .int a3), (4, .int a4), (5, .int a5)]) C dX11_seenSum_10 (Nat.le_of_ble_eq_true rfl) rfl ?_
  refine k_iconst (v := 0) C dX11_seenSum_12 rfl ?_
  refine k_istore (lv' := [(8, .int 0), (7, .int 0), (6, .int r1), (0, .ref (ad 44)), (1, .int a1), (2, .int a2), (3, .int a3), (4, .int a4), (5, .int a5)]) C dX11_seenSum_13 (Nat.le_of_ble_eq_true rfl) rfl ?_
  refine Dk.loc [3, 4, 5, 6, 7, 8, 2, 1, 0] rfl ?_
  exact kb_X11_seenSum_L15 C _ _ _ _ _
theorem ct_X11_seenSum {l : Launch} {θ : TH} {ad : Nat → Nat} {S : St} {F : Nat} {a1 : Int32} {a2 : Int32} {a3 : Int32} {a4 : Int32} {a5 : Int32} : ∀ r, f_X11_seenSum F S a1 a2 a3 a4 a5 = some r → Ct l θ yX11_seenSum cX11_seenSum 11 (some .int) 66 0 0 [.ref (ad 44), .int a1, .int a2, .int a3, .int a4, .int a5] (wdM θ ad S) (PIS (wdM θ ad) r) :=
  fun r hr => Ct.of (by decide) (Nat.le_of_ble_eq_true rfl) (fun X _ C _ => kw_X11_seenSum C r hr)
set_option maxRecDepth 20000 in
theorem kb_X11_odds_L95 {X : GX} {θ : TH} {ad : Nat → Nat} {S0 : St} {F : Nat} {a1 : Int32} {a2 : Int32} {a3 : Int32} {K60 : St → Int32 → Int64 → Int32 → Option (Int32 × St)} (C : CX (mE X θ (wdM θ ad S0) 10) RX11 cX11_odds (some .int) 67 0 0) (hK60 : ∀ (S : St) (x4 : Int32) (x5 : Int64) (x7 : Int32), Dk (mE X θ (wdM θ ad S0) 10) (mT X θ (wdM θ ad S0) 10 (PIS (wdM θ ad))) 0 0 (wdM θ ad S) [(0, .ref (ad 44)), (1, .int a1), (2, .int a2), (3, .int a3), (4, .int x4), (5, .long x5), (7, .int x7)] [] 60 (K60 S x4 x5 x7)) : ∀ (n : Nat) (S : St) (x4 : Int32) (x5 : Int64) (x7 : Int32) (x8 : Int32) (x9 : Int32), Dk (mE X θ (wdM θ ad S0) 10) (mT X θ (wdM θ ad S0) 10 (PIS (wdM θ ad))) 0 0 (wdM θ ad S) [(0, .ref (ad 44)), (1, .int a1), (2, .int a2), (3, .int a3), (4, .int x4), (5, .long x5), (7, .int x7), (8, .int x8), (9, .int x9)] [] 95 (f_X11_odds_L95 F a1 a2 a3 K60 n S x4 x5 x7 x8 x9) := by
  intro n
  induction n with
  | zero => intro S x4 x5 x7 x8 x9; exact Dk.none
  | succ n ih =>
    intro S x4 x5 x7 x8 x9
    show Dk _ _ _ _ _ _ _ _ (if x9 ≤ 0 then (f_X11_seenSum F S x4 (jrem a1 10) x7 (a2 + x7) a3).bind fun r6 => chk (nzl x8.toInt64) (lti ((x5 * r6.1.toInt64) / x8.toInt64) fun y7 => K60 r6.2 x4 y7 (x7 + 1)) else f_X11_odds_L95 F a1 a2 a3 K60 n S x4 x5 x7 (x8 * 100) (x9 + (-1)))
    refine k_iload (q := 8) C dX11_odds_95 rfl ?_
    refine k_if_le (tgt := 113) C dX11_odds_97 (by decide) (fun _ => ?_) (fun _ => ?_)
    · refine k_lload (q := 5) C dX11_odds_113 rfl ?_
      refine k_aload_n (q := 0) C dX11_odds_115 rfl rfl ?_
      refine k_iload (q := 4) C dX11_odds_116 rfl ?_
      refine k_iload_n (q := 1) C dX11_odds_118 rfl rfl ?_
      refine k_bipush (v := 10) C dX11_odds_119 rfl ?_
      refine k_irem C dX11_odds_121 (by decide) ?_
      refine k_iload (q := 6) C dX11_odds_122 rfl ?_
      refine k_iload_n (q := 2) C dX11_odds_124 rfl rfl ?_
      refine k_iload (q := 6) C dX11_odds_125 rfl ?_
      refine k_iadd C dX11_odds_127 ?_
      refine k_iload_n (q := 3) C dX11_odds_128 rfl rfl ?_
      refine k_cVI C ct_X11_seenSum my_11_seenSum ml_11_284 rfl ⟨Nat.le_of_ble_eq_true rfl, Nat.le_of_ble_eq_true rfl⟩ recvM rfl (Nat.le_of_ble_eq_true rfl) dX11_odds_129 ⟨Nat.le_refl _, Nat.le_refl _⟩ (fun r6 _ => ?_)
      refine k_i2l C dX11_odds_132 ?_
      refine k_lmul C dX11_odds_133 ?_
      refine k_iload (q := 7) C dX11_odds_134 rfl ?_
      refine k_i2l C dX11_odds_136 ?_
      refine k_ldivc C dX11_odds_137 ?_
      refine k_lti fun y7 => ?_
      refine k_lstore (lv' := [(5, .long y7), (0, .ref (ad 44)), (1, .int a1), (2, .int a2), (3, .int a3), (4, .int x4), (7, .int x7), (8, .int x8), (9, .int x9)]) C dX11_odds_138 (Nat.le_of_ble_eq_true rfl) rfl ?_
      refine k_iinc (q := 6) (v := x7 + 1) (lv' := [(7, .int (x7 + 1)), (5, .long y7), (0, .ref (ad 44)), (1, .int a1), (2, .int a2), (3, .int a3), (4, .int x4), (8, .int x8), (9, .int x9)]) C dX11_odds_140 rfl rfl (Nat.le_of_ble_eq_true rfl) rfl ?_
      refine k_goto (tgt := 60) C dX11_odds_143 (by decide) ?_
      refine Dk.loc [2, 3, 4, 5, 6, 1, 0] rfl ?_
      exact hK60 _ _ _ _
    · refine k_iload (q := 7) C dX11_odds_100 rfl ?_
      refine k_bipush (v := 100) C dX11_odds_102 rfl ?_
      refine k_imul C dX11_odds_104 ?_
      refine k_istore (lv' := [(8, .int (x8 * 100)), (0, .ref (ad 44)), (1, .int a1), (2, .int a2), (3, .int a3), (4, .int x4), (5, .long x5), (7, .int x7), (9, .int x9)]) C dX11_odds_105 (Nat.le_of_ble_eq_true rfl) rfl ?_
      refine k_iinc (q := 8) (v := x9 + (-1)) (lv' := [(9, .int (x9 + (-1))), (8, .int (x8 * 100)), (0, .ref (ad 44)), (1, .int a1), (2, .int a2), (3, .int a3), (4, .int x4), (5, .long x5), (7, .int x7)]) C dX11_odds_107 rfl rfl (Nat.le_of_ble_eq_true rfl) rfl ?_
      refine k_goto (tgt := 95) C dX11_odds_110 (by decide) ?_
      refine Dk.loc [2, 3, 4, 5, 6, 7, 8, 1, 0] rfl ?_
      exact ih _ _ _ _ _ _
set_option maxRecDepth 20000 in
theorem kb_X11_odds_L60 {X : GX} {θ : TH} {ad : Nat → Nat} {S0 : St} {F : Nat} {a1 : Int32} {a2 : Int32} {a3 : Int32} (C : CX (mE X θ (wdM θ ad S0) 10) RX11 cX11_odds (some .int) 67 0 0)  : ∀ (n : Nat) (S : St) (x4 : Int32) (x5 : Int64) (x7 : Int32), Dk (mE X θ (wdM θ ad S0) 10) (mT X θ (wdM θ ad S0) 10 (PIS (wdM θ ad))) 0 0 (wdM θ ad S) [(0, .ref (ad 44)), (1, .int a1), (2, .int a2), (3, .int a3), (4, .int x4), (5, .long x5), (7, .int x7)] [] 60 (f_X11_odds_L60 F a1 a2 a3 n S x4 x5 x7) := by
  intro n
  induction n with
  | zero => intro S x4 x5 x7; exact Dk.none
  | succ n ih =>
    intro S x4 x5 x7
    show Dk _ _ _ _ _ _ _ _ (chk (inr (6 + x4) 30) ((if (S.2.1 0 (6 + x4).toNatClampNeg) ≤ x7 then some (x5.toInt32, S) else (f_X11_stateOf F S (jrem a1 10) (a2 + x7)).bind fun r4 => (f_X11_bitsOf F r4).bind fun r5 => f_X11_odds_L95 F a1 a2 a3 (f_X11_odds_L60 F a1 a2 a3 n) F S x4 x5 x7 1 r5)))
    refine k_iload (q := 6) C dX11_odds_60 rfl ?_
    refine k_aload_n (q := 0) C dX11_odds_62 rfl rfl ?_
    refine m_geta (kf := 0) C mR_0 fl_11_9 dX11_odds_63 ?_
    refine k_bipush (v := 6) C dX11_odds_66 rfl ?_
    refine k_iload (q := 4) C dX11_odds_68 rfl ?_
    refine k_iadd C dX11_odds_70 ?_
    refine m_iald (x := S.2.1 0 (6 + x4).toNatClampNeg) C mA_0 mN_0 rfl dX11_odds_71 ?_
    refine k_icmp_ge (tgt := 146) C dX11_odds_72 (by decide) (fun _ => ?_) (fun _ => ?_)
    · refine k_lload (q := 5) C dX11_odds_146 rfl ?_
      refine k_l2i C dX11_odds_148 ?_
      exact k_iret C rfl ⟨rfl, rfl⟩ dX11_odds_149
    · refine k_iconst (v := 1) C dX11_odds_75 rfl ?_
      refine k_istore (lv' := [(8, .int 1), (0, .ref (ad 44)), (1, .int a1), (2, .int a2), (3, .int a3), (4, .int x4), (5, .long x5), (7, .int x7)]) C dX11_odds_76 (Nat.le_of_ble_eq_true rfl) rfl ?_
      refine k_aload_n (q := 1) C dX11_odds_78 rfl rfl ?_
      refine k_iload_n (q := 2) C dX11_odds_79 rfl rfl ?_
      refine k_bipush (v := 10) C dX11_odds_80 rfl ?_
      refine k_irem C dX11_odds_82 (by decide) ?_
      refine k_iload_n (q := 3) C dX11_odds_83 rfl rfl ?_
      refine k_iload (q := 7) C dX11_odds_84 rfl ?_
      refine k_iadd C dX11_odds_86 ?_
      refine k_cVI C ct_X11_stateOf my_11_stateOf ml_11_137 rfl ⟨Nat.le_of_ble_eq_true rfl, Nat.le_of_ble_eq_true rfl⟩ recvM rfl (Nat.le_of_ble_eq_true rfl) dX11_odds_87 ⟨Nat.le_refl _, Nat.le_refl _⟩ (fun r4 _ => ?_)
      refine k_cSI C ct_X11_bitsOf my_11_bitsOf ml_11_231 rfl ⟨Nat.le_of_ble_eq_true rfl, Nat.le_of_ble_eq_true rfl⟩ rfl (Nat.le_of_ble_eq_true rfl) dX11_odds_90 ⟨Nat.le_refl _, Nat.le_refl _⟩ (fun r5 _ => ?_)
      refine k_istore (lv' := [(9, .int r5), (8, .int 1), (0, .ref (ad 44)), (1, .int a1), (2, .int a2), (3, .int a3), (4, .int x4), (5, .long x5), (7, .int x7)]) C dX11_odds_93 (Nat.le_of_ble_eq_true rfl) rfl ?_
      refine Dk.loc [2, 3, 4, 5, 6, 7, 8, 1, 0] rfl ?_
      exact kb_X11_odds_L95 C ih _ _ _ _ _ _ _
set_option maxRecDepth 20000 in
theorem kw_X11_odds {X : GX} {θ : TH} {ad : Nat → Nat} {F : Nat} {S : St} {a1 : Int32} {a2 : Int32} {a3 : Int32} (C : CX (mE X θ (wdM θ ad S) 10) RX11 cX11_odds (some .int) 67 0 0)  : Dk (mE X θ (wdM θ ad S) 10) (mT X θ (wdM θ ad S) 10 (PIS (wdM θ ad))) 0 0 (wdM θ ad S) [(0, .ref (ad 44)), (1, .int a1), (2, .int a2), (3, .int a3)] [] 0 (f_X11_odds F S a1 a2 a3) := by
  unfold f_X11_odds
  refine k_aload_n (q := 0) C dX11_odds_0 rfl rfl ?_
  refine k_iload_n (q := 1) C dX11_odds_1 rfl rfl ?_
  refine k_cVI C ct_X11_isDv my_11_isDv ml_11_237 rfl ⟨Nat.le_of_ble_eq_true rfl, Nat.le_of_ble_eq_true rfl⟩ recvM rfl (Nat.le_of_ble_eq_true rfl) dX11_odds_2 ⟨Nat.le_refl _, Nat.le_refl _⟩ (fun r1 _ => ?_)
  refine k_if_eq (tgt := 27) C dX11_odds_5 (by decide) (fun _ => ?_) (fun _ => ?_)
  · refine k_iconst (v := (-1)) C dX11_odds_27 rfl ?_
    exact k_iret C rfl ⟨rfl, rfl⟩ dX11_odds_28
  · refine k_iload_n (q := 2) C dX11_odds_8 rfl rfl ?_
    refine k_cSI C ct_X11_isHour my_11_isHour ml_11_134 rfl ⟨Nat.le_of_ble_eq_true rfl, Nat.le_of_ble_eq_true rfl⟩ rfl (Nat.le_of_ble_eq_true rfl) dX11_odds_9 ⟨Nat.le_refl _, Nat.le_refl _⟩ (fun r2 _ => ?_)
    refine k_if_eq (tgt := 27) C dX11_odds_12 (by decide) (fun _ => ?_) (fun _ => ?_)
    · refine k_iconst (v := (-1)) C dX11_odds_27 rfl ?_
      exact k_iret C rfl ⟨rfl, rfl⟩ dX11_odds_28
    · refine k_iload_n (q := 3) C dX11_odds_15 rfl rfl ?_
      refine k_i2l C dX11_odds_16 ?_
      refine k_lconst (v := 0) C dX11_odds_17 rfl ?_
      refine k_ldc2 C co_11_280 dX11_odds_18 ?_
      refine k_cSI C ct_X11_within my_11_within ml_11_106 rfl ⟨Nat.le_of_ble_eq_true rfl, Nat.le_of_ble_eq_true rfl⟩ rfl (Nat.le_of_ble_eq_true rfl) dX11_odds_21 ⟨Nat.le_refl _, Nat.le_refl _⟩ (fun r3 _ => ?_)
      refine k_if_ne (tgt := 29) C dX11_odds_24 (by decide) (fun _ => ?_) (fun _ => ?_)
      · refine k_iload_n (q := 1) C dX11_odds_29 rfl rfl ?_
        refine k_bipush (v := 10) C dX11_odds_30 rfl ?_
        refine k_idiv C dX11_odds_32 (by decide) ?_
        refine k_istore (lv' := [(4, .int (a1 / 10)), (0, .ref (ad 44)), (1, .int a1), (2, .int a2), (3, .int a3)]) C dX11_odds_33 (Nat.le_of_ble_eq_true rfl) rfl ?_
        refine k_aload_n (q := 1) C dX11_odds_35 rfl rfl ?_
        refine m_geta (kf := 0) C mR_0 fl_11_9 dX11_odds_36 ?_
        refine k_bipush (v := 18) C dX11_odds_39 rfl ?_
        refine k_iload (q := 0) C dX11_odds_41 rfl ?_
        refine k_iadd C dX11_odds_43 ?_
        refine m_iald (x := S.2.1 0 (18 + (a1 / 10)).toNatClampNeg) C mA_0 mN_0 rfl dX11_odds_44 ?_
        refine k_iconst (v := 2) C dX11_odds_45 rfl ?_
        refine k_icmp_eq (tgt := 52) C dX11_odds_46 (by decide) (fun _ => ?_) (fun _ => ?_)
        · refine k_ldc2 C co_11_282 dX11_odds_52 ?_
          refine k_lstore (lv' := [(5, .long 1000000), (4, .int (a1 / 10)), (0, .ref (ad 44)), (1, .int a1), (2, .int a2), (3, .int a3)]) C dX11_odds_55 (Nat.le_of_ble_eq_true rfl) rfl ?_
          refine k_iconst (v := 0) C dX11_odds_57 rfl ?_
          refine k_istore (lv' := [(7, .int 0), (5, .long 1000000), (4, .int (a1 / 10)), (0, .ref (ad 44)), (1, .int a1), (2, .int a2), (3, .int a3)]) C dX11_odds_58 (Nat.le_of_ble_eq_true rfl) rfl ?_
          refine Dk.loc [3, 4, 5, 6, 2, 1, 0] rfl ?_
          exact kb_X11_odds_L60 C _ _ _ _ _
        · refine k_bipush (v := (-5)) C dX11_odds_49 rfl ?_
          exact k_iret C rfl ⟨rfl, rfl⟩ dX11_odds_51
      · refine k_iconst (v := (-1)) C dX11_odds_27 rfl ?_
        exact k_iret C rfl ⟨rfl, rfl⟩ dX11_odds_28
theorem ct_X11_odds {l : Launch} {θ : TH} {ad : Nat → Nat} {S : St} {F : Nat} {a1 : Int32} {a2 : Int32} {a3 : Int32} : ∀ r, f_X11_odds F S a1 a2 a3 = some r → Ct l θ yX11_odds cX11_odds 10 (some .int) 67 0 0 [.ref (ad 44), .int a1, .int a2, .int a3] (wdM θ ad S) (PIS (wdM θ ad) r) :=
  fun r hr => Ct.of (by decide) (Nat.le_of_ble_eq_true rfl) (fun X _ C _ => kw_X11_odds C r hr)
set_option maxRecDepth 20000 in
theorem kw_X11_isPromise {X : GX} {θ : TH} {ad : Nat → Nat}  {S : St} {a1 : Int32} (C : CX (mE X θ (wdM θ ad S) 2) RX11 cX11_isPromise (some .boolean) 1 0 0)  : Dk (mE X θ (wdM θ ad S) 2) (mT X θ (wdM θ ad S) 2 (PI (wdM θ ad S))) 0 0 (wdM θ ad S) [(0, .ref (ad 44)), (1, .int a1)] [] 0 (f_X11_isPromise S a1) := by
  unfold f_X11_isPromise
  refine k_iload_n (q := 1) C dX11_isPromise_0 rfl rfl ?_
  refine k_i2l C dX11_isPromise_1 ?_
  refine k_lconst (v := 0) C dX11_isPromise_2 rfl ?_
  refine k_aload_n (q := 0) C dX11_isPromise_3 rfl rfl ?_
  refine m_geti (kf := 31) (v := S.1 31) C mS_31 fl_11_287 rfl dX11_isPromise_4 ?_
  refine k_iconst (v := 1) C dX11_isPromise_7 rfl ?_
  refine k_isub C dX11_isPromise_8 ?_
  refine k_i2l C dX11_isPromise_9 ?_
  refine k_cSI C ct_X11_within my_11_within ml_11_106 rfl ⟨Nat.le_of_ble_eq_true rfl, Nat.le_of_ble_eq_true rfl⟩ rfl (Nat.le_of_ble_eq_true rfl) dX11_isPromise_10 ⟨Nat.le_refl _, Nat.le_refl _⟩ (fun r1 _ => ?_)
  exact k_zretc C ⟨rfl, rfl⟩ dX11_isPromise_13
theorem ct_X11_isPromise {l : Launch} {θ : TH} {ad : Nat → Nat} {S : St}  {a1 : Int32} : ∀ r, f_X11_isPromise S a1 = some r → Ct l θ yX11_isPromise cX11_isPromise 2 (some .boolean) 1 0 0 [.ref (ad 44), .int a1] (wdM θ ad S) (PI (wdM θ ad S) r) :=
  fun r hr => Ct.of (by decide) (Nat.le_of_ble_eq_true rfl) (fun X _ C _ => kw_X11_isPromise C r hr)
set_option maxRecDepth 20000 in
theorem kw_X11_promise {X : GX} {θ : TH} {ad : Nat → Nat}  {S : St} {a1 : Int32} {a2 : Int32} (C : CX (mE X θ (wdM θ ad S) 3) RX11 cX11_promise (some .int) 3 0 0)  : Dk (mE X θ (wdM θ ad S) 3) (mT X θ (wdM θ ad S) 3 (PIS (wdM θ ad))) 0 0 (wdM θ ad S) [(0, .ref (ad 44)), (1, .int a1), (2, .int a2)] [] 0 (f_X11_promise S a1 a2) := by
  unfold f_X11_promise
  refine k_aload_n (q := 0) C dX11_promise_0 rfl rfl ?_
  refine k_iload_n (q := 1) C dX11_promise_1 rfl rfl ?_
  refine k_cVI C ct_X11_isDv my_11_isDv ml_11_237 rfl ⟨Nat.le_of_ble_eq_true rfl, Nat.le_of_ble_eq_true rfl⟩ recvM rfl (Nat.le_of_ble_eq_true rfl) dX11_promise_2 ⟨Nat.le_refl _, Nat.le_refl _⟩ (fun r1 _ => ?_)
  refine k_if_eq (tgt := 15) C dX11_promise_5 (by decide) (fun _ => ?_) (fun _ => ?_)
  · refine k_iconst (v := (-1)) C dX11_promise_15 rfl ?_
    exact k_iret C rfl ⟨rfl, rfl⟩ dX11_promise_16
  · refine k_iload_n (q := 2) C dX11_promise_8 rfl rfl ?_
    refine k_cSI C ct_X11_isHour my_11_isHour ml_11_134 rfl ⟨Nat.le_of_ble_eq_true rfl, Nat.le_of_ble_eq_true rfl⟩ rfl (Nat.le_of_ble_eq_true rfl) dX11_promise_9 ⟨Nat.le_refl _, Nat.le_refl _⟩ (fun r2 _ => ?_)
    refine k_if_ne (tgt := 17) C dX11_promise_12 (by decide) (fun _ => ?_) (fun _ => ?_)
    · refine k_aload_n (q := 0) C dX11_promise_17 rfl rfl ?_
      refine m_geti (kf := 31) (v := S.1 31) C mS_31 fl_11_287 rfl dX11_promise_18 ?_
      refine k_bipush (v := 20) C dX11_promise_21 rfl ?_
      refine k_icmp_ne (tgt := 29) C dX11_promise_23 (by decide) (fun _ => ?_) (fun _ => ?_)
      · refine k_aload_n (q := 0) C dX11_promise_29 rfl rfl ?_
        refine m_geta (kf := 32) C mR_32 fl_11_68 dX11_promise_30 ?_
        refine k_aload_n (q := 0) C dX11_promise_33 rfl rfl ?_
        refine m_geti (kf := 31) (v := S.1 31) C mS_31 fl_11_287 rfl dX11_promise_34 ?_
        refine k_iload_n (q := 1) C dX11_promise_37 rfl rfl ?_
        refine m_iast C mA_32 mN_32 dX11_promise_38 ?_
        refine k_aload_n (q := 0) C dX11_promise_39 rfl rfl ?_
        refine m_geta (kf := 33) C mR_33 fl_11_71 dX11_promise_40 ?_
        refine k_aload_n (q := 0) C dX11_promise_43 rfl rfl ?_
        refine m_geti (kf := 31) (v := S.1 31) C mS_31 fl_11_287 rfl dX11_promise_44 ?_
        refine k_iload_n (q := 2) C dX11_promise_47 rfl rfl ?_
        refine m_iast C mA_33 mN_33 dX11_promise_48 ?_
        refine k_aload_n (q := 0) C dX11_promise_49 rfl rfl ?_
        refine k_dup C dX11_promise_50 rfl ?_
        refine m_geti (kf := 31) (v := S.1 31) C mS_31 fl_11_287 rfl dX11_promise_51 ?_
        refine k_iconst (v := 1) C dX11_promise_54 rfl ?_
        refine k_iadd C dX11_promise_55 ?_
        refine m_puti (kf := 31) C mS_31 mP_31 fl_11_287 dX11_promise_56 ?_
        refine k_aload_n (q := 0) C dX11_promise_59 rfl rfl ?_
        refine m_geti (kf := 31) (v := (S.1 31) + 1) C mS_31 fl_11_287 rfl dX11_promise_60 ?_
        refine k_iconst (v := 1) C dX11_promise_63 rfl ?_
        refine k_isub C dX11_promise_64 ?_
        exact k_iret C rfl ⟨rfl, rfl⟩ dX11_promise_65
      · refine k_bipush (v := (-3)) C dX11_promise_26 rfl ?_
        exact k_iret C rfl ⟨rfl, rfl⟩ dX11_promise_28
    · refine k_iconst (v := (-1)) C dX11_promise_15 rfl ?_
      exact k_iret C rfl ⟨rfl, rfl⟩ dX11_promise_16
theorem ct_X11_promise {l : Launch} {θ : TH} {ad : Nat → Nat} {S : St}  {a1 : Int32} {a2 : Int32} : ∀ r, f_X11_promise S a1 a2 = some r → Ct l θ yX11_promise cX11_promise 3 (some .int) 3 0 0 [.ref (ad 44), .int a1, .int a2] (wdM θ ad S) (PIS (wdM θ ad) r) :=
  fun r hr => Ct.of (by decide) (Nat.le_of_ble_eq_true rfl) (fun X _ C _ => kw_X11_promise C r hr)
set_option maxRecDepth 20000 in
theorem kw_X11_mayAt {X : GX} {θ : TH} {ad : Nat → Nat} {F : Nat} {S : St} {a1 : Int32} {a2 : Int32} (C : CX (mE X θ (wdM θ ad S) 3) RX11 cX11_mayAt (some .boolean) 69 0 0)  : Dk (mE X θ (wdM θ ad S) 3) (mT X θ (wdM θ ad S) 3 (PIS (wdM θ ad))) 0 0 (wdM θ ad S) [(0, .ref (ad 44)), (1, .int a1), (2, .int a2)] [] 0 (f_X11_mayAt F S a1 a2) := by
  unfold f_X11_mayAt
  refine k_aload_n (q := 0) C dX11_mayAt_0 rfl rfl ?_
  refine k_aload_n (q := 0) C dX11_mayAt_1 rfl rfl ?_
  refine m_geta (kf := 32) C mR_32 fl_11_68 dX11_mayAt_2 ?_
  refine k_iload_n (q := 1) C dX11_mayAt_5 rfl rfl ?_
  refine m_iald (x := S.2.1 32 (a1).toNatClampNeg) C mA_32 mN_32 rfl dX11_mayAt_6 ?_
  refine k_bipush (v := 10) C dX11_mayAt_7 rfl ?_
  refine k_idiv C dX11_mayAt_9 (by decide) ?_
  refine k_aload_n (q := 0) C dX11_mayAt_10 rfl rfl ?_
  refine m_geta (kf := 32) C mR_32 fl_11_68 dX11_mayAt_11 ?_
  refine k_iload_n (q := 1) C dX11_mayAt_14 rfl rfl ?_
  refine m_iald (x := S.2.1 32 (a1).toNatClampNeg) C mA_32 mN_32 rfl dX11_mayAt_15 ?_
  refine k_bipush (v := 10) C dX11_mayAt_16 rfl ?_
  refine k_irem C dX11_mayAt_18 (by decide) ?_
  refine k_iload_n (q := 2) C dX11_mayAt_19 rfl rfl ?_
  refine k_cVI C ct_X11_mayOf my_11_mayOf ml_11_252 rfl ⟨Nat.le_of_ble_eq_true rfl, Nat.le_of_ble_eq_true rfl⟩ recvM rfl (Nat.le_of_ble_eq_true rfl) dX11_mayAt_20 ⟨Nat.le_refl _, Nat.le_refl _⟩ (fun r1 _ => ?_)
  refine k_if_lt (tgt := 30) C dX11_mayAt_23 (by decide) (fun _ => ?_) (fun _ => ?_)
  · refine k_iconst (v := 0) C dX11_mayAt_30 rfl ?_
    exact k_iret C rfl ⟨rfl, rfl⟩ dX11_mayAt_31
  · refine k_iconst (v := 1) C dX11_mayAt_26 rfl ?_
    refine k_goto (tgt := 31) C dX11_mayAt_27 (by decide) ?_
    exact k_iret C rfl ⟨rfl, rfl⟩ dX11_mayAt_31
theorem ct_X11_mayAt {l : Launch} {θ : TH} {ad : Nat → Nat} {S : St} {F : Nat} {a1 : Int32} {a2 : Int32} : ∀ r, f_X11_mayAt F S a1 a2 = some r → Ct l θ yX11_mayAt cX11_mayAt 3 (some .boolean) 69 0 0 [.ref (ad 44), .int a1, .int a2] (wdM θ ad S) (PIS (wdM θ ad) r) :=
  fun r hr => Ct.of (by decide) (Nat.le_of_ble_eq_true rfl) (fun X _ C _ => kw_X11_mayAt C r hr)
set_option maxRecDepth 20000 in
theorem kb_X11_judge_L2 {X : GX} {θ : TH} {ad : Nat → Nat} {S0 : St} {F : Nat} (C : CX (mE X θ (wdM θ ad S0) 2) RX11 cX11_judge (some .int) 70 0 0)  : ∀ (n : Nat) (S : St) (x1 : Int32), Dk (mE X θ (wdM θ ad S0) 2) (mT X θ (wdM θ ad S0) 2 (PIS (wdM θ ad))) 0 0 (wdM θ ad S) [(0, .ref (ad 44)), (1, .int x1)] [] 2 (f_X11_judge_L2 F n S x1) := by
  intro n
  induction n with
  | zero => intro S x1; exact Dk.none
  | succ n ih =>
    intro S x1
    show Dk _ _ _ _ _ _ _ _ (if (S.1 31) ≤ x1 then some ((-2 : Int32), S) else chk (inr x1 20) ((f_X11_mayAt F S x1 (S.2.1 33 (x1).toNatClampNeg)).bind fun r1 => (if r1.1 = 0 then some (x1, r1.2) else f_X11_judge_L2 F n r1.2 (x1 + 1))))
    refine k_iload_n (q := 1) C dX11_judge_2 rfl rfl ?_
    refine k_aload_n (q := 0) C dX11_judge_3 rfl rfl ?_
    refine m_geti (kf := 31) (v := S.1 31) C mS_31 fl_11_287 rfl dX11_judge_4 ?_
    refine k_icmp_ge (tgt := 32) C dX11_judge_7 (by decide) (fun _ => ?_) (fun _ => ?_)
    · refine k_bipush (v := (-2)) C dX11_judge_32 rfl ?_
      exact k_iret C rfl ⟨rfl, rfl⟩ dX11_judge_34
    · refine k_aload_n (q := 0) C dX11_judge_10 rfl rfl ?_
      refine k_iload_n (q := 1) C dX11_judge_11 rfl rfl ?_
      refine k_aload_n (q := 0) C dX11_judge_12 rfl rfl ?_
      refine m_geta (kf := 33) C mR_33 fl_11_71 dX11_judge_13 ?_
      refine k_iload_n (q := 1) C dX11_judge_16 rfl rfl ?_
      refine m_iald (x := S.2.1 33 (x1).toNatClampNeg) C mA_33 mN_33 rfl dX11_judge_17 ?_
      refine k_cVI C ct_X11_mayAt my_11_mayAt ml_11_290 rfl ⟨Nat.le_of_ble_eq_true rfl, Nat.le_of_ble_eq_true rfl⟩ recvM rfl (Nat.le_of_ble_eq_true rfl) dX11_judge_18 ⟨Nat.le_refl _, Nat.le_refl _⟩ (fun r1 _ => ?_)
      refine k_if_ne (tgt := 26) C dX11_judge_21 (by decide) (fun _ => ?_) (fun _ => ?_)
      · refine k_iinc (q := 1) (v := x1 + 1) (lv' := [(1, .int (x1 + 1)), (0, .ref (ad 44))]) C dX11_judge_26 rfl rfl (Nat.le_of_ble_eq_true rfl) rfl ?_
        refine k_goto (tgt := 2) C dX11_judge_29 (by decide) ?_
        refine Dk.loc [1, 0] rfl ?_
        exact ih _ _
      · refine k_iload_n (q := 1) C dX11_judge_24 rfl rfl ?_
        exact k_iret C rfl ⟨rfl, rfl⟩ dX11_judge_25
set_option maxRecDepth 20000 in
theorem kw_X11_judge {X : GX} {θ : TH} {ad : Nat → Nat} {F : Nat} {S : St}  (C : CX (mE X θ (wdM θ ad S) 2) RX11 cX11_judge (some .int) 70 0 0)  : Dk (mE X θ (wdM θ ad S) 2) (mT X θ (wdM θ ad S) 2 (PIS (wdM θ ad))) 0 0 (wdM θ ad S) [(0, .ref (ad 44))] [] 0 (f_X11_judge F S) := by
  unfold f_X11_judge
  refine k_iconst (v := 0) C dX11_judge_0 rfl ?_
  refine k_istore_n (lv' := [(1, .int 0), (0, .ref (ad 44))]) C dX11_judge_1 rfl (Nat.le_of_ble_eq_true rfl) rfl ?_
  refine Dk.loc [1, 0] rfl ?_
  exact kb_X11_judge_L2 C _ _ _
theorem ct_X11_judge {l : Launch} {θ : TH} {ad : Nat → Nat} {S : St} {F : Nat}  : ∀ r, f_X11_judge F S = some r → Ct l θ yX11_judge cX11_judge 2 (some .int) 70 0 0 [.ref (ad 44)] (wdM θ ad S) (PIS (wdM θ ad) r) :=
  fun r hr => Ct.of (by decide) (Nat.le_of_ble_eq_true rfl) (fun X _ C _ => kw_X11_judge C r hr)
set_option maxRecDepth 20000 in
theorem kb_X11_dated_B50 {X : GX} {θ : TH} {ad : Nat → Nat} {S0 : St} {F : Nat} {a1 : Int32} {K19 : St → Int32 → Int32 → Option (Int32 × St)} (C : CX (mE X θ (wdM θ ad S0) 4) RX11 cX11_dated (some .int) 70 0 0) (hK19 : ∀ (S : St) (x2 : Int32) (x3 : Int32), Dk (mE X θ (wdM θ ad S0) 4) (mT X θ (wdM θ ad S0) 4 (PIS (wdM θ ad))) 0 0 (wdM θ ad S) [(0, .ref (ad 44)), (1, .int a1), (2, .int x2), (3, .int x3)] [] 19 (K19 S x2 x3)) (S : St) (x2 : Int32) (x3 : Int32) : Dk (mE X θ (wdM θ ad S0) 4) (mT X θ (wdM θ ad S0) 4 (PIS (wdM θ ad))) 0 0 (wdM θ ad S) [(0, .ref (ad 44)), (1, .int a1), (2, .int x2), (3, .int x3)] [] 50 (f_X11_dated_B50 F a1 K19 S x2 x3) := by
  unfold f_X11_dated_B50
  refine k_iload_n (q := 2) C dX11_dated_50 rfl rfl ?_
  refine k_iload_n (q := 3) C dX11_dated_51 rfl rfl ?_
  refine k_iadd C dX11_dated_52 ?_
  refine k_cSI C ct_X11_isHour my_11_isHour ml_11_134 rfl ⟨Nat.le_of_ble_eq_true rfl, Nat.le_of_ble_eq_true rfl⟩ rfl (Nat.le_of_ble_eq_true rfl) dX11_dated_53 ⟨Nat.le_refl _, Nat.le_refl _⟩ (fun r5 _ => ?_)
  refine k_if_eq (tgt := 74) C dX11_dated_56 (by decide) (fun _ => ?_) (fun _ => ?_)
  · refine k_iinc (q := 3) (v := x3 + 1) (lv' := [(3, .int (x3 + 1)), (0, .ref (ad 44)), (1, .int a1), (2, .int x2)]) C dX11_dated_74 rfl rfl (Nat.le_of_ble_eq_true rfl) rfl ?_
    refine k_goto (tgt := 19) C dX11_dated_77 (by decide) ?_
    refine Dk.loc [1, 2, 3, 0] rfl ?_
    exact hK19 _ _ _
  · refine k_aload_n (q := 0) C dX11_dated_59 rfl rfl ?_
    refine k_iload_n (q := 1) C dX11_dated_60 rfl rfl ?_
    refine k_iload_n (q := 2) C dX11_dated_61 rfl rfl ?_
    refine k_iload_n (q := 3) C dX11_dated_62 rfl rfl ?_
    refine k_iadd C dX11_dated_63 ?_
    refine k_cVI C ct_X11_mayAt my_11_mayAt ml_11_290 rfl ⟨Nat.le_of_ble_eq_true rfl, Nat.le_of_ble_eq_true rfl⟩ recvM rfl (Nat.le_of_ble_eq_true rfl) dX11_dated_64 ⟨Nat.le_refl _, Nat.le_refl _⟩ (fun r6 _ => ?_)
    refine k_if_eq (tgt := 74) C dX11_dated_67 (by decide) (fun _ => ?_) (fun _ => ?_)
    · refine k_iinc (q := 3) (v := x3 + 1) (lv' := [(3, .int (x3 + 1)), (0, .ref (ad 44)), (1, .int a1), (2, .int x2)]) C dX11_dated_74 rfl rfl (Nat.le_of_ble_eq_true rfl) rfl ?_
      refine k_goto (tgt := 19) C dX11_dated_77 (by decide) ?_
      refine Dk.loc [1, 2, 3, 0] rfl ?_
      exact hK19 _ _ _
    · refine k_iload_n (q := 2) C dX11_dated_70 rfl rfl ?_
      refine k_iload_n (q := 3) C dX11_dated_71 rfl rfl ?_
      refine k_iadd C dX11_dated_72 ?_
      exact k_iret C rfl ⟨rfl, rfl⟩ dX11_dated_73
set_option maxRecDepth 20000 in
theorem kb_X11_dated_L19 {X : GX} {θ : TH} {ad : Nat → Nat} {S0 : St} {F : Nat} {a1 : Int32} (C : CX (mE X θ (wdM θ ad S0) 4) RX11 cX11_dated (some .int) 70 0 0)  : ∀ (n : Nat) (S : St) (x2 : Int32) (x3 : Int32), Dk (mE X θ (wdM θ ad S0) 4) (mT X θ (wdM θ ad S0) 4 (PIS (wdM θ ad))) 0 0 (wdM θ ad S) [(0, .ref (ad 44)), (1, .int a1), (2, .int x2), (3, .int x3)] [] 19 (f_X11_dated_L19 F a1 n S x2 x3) := by
  intro n
  induction n with
  | zero => intro S x2 x3; exact Dk.none
  | succ n ih =>
    intro S x2 x3
    show Dk _ _ _ _ _ _ _ _ (if (500 : Int32) < x3 then some ((-2 : Int32), S) else (f_X11_isHour (x2 - x3)).bind fun r3 => (if r3 = 0 then f_X11_dated_B50 F a1 (f_X11_dated_L19 F a1 n) S x2 x3 else (f_X11_mayAt F S a1 (x2 - x3)).bind fun r4 => (if r4.1 = 0 then f_X11_dated_B50 F a1 (f_X11_dated_L19 F a1 n) r4.2 x2 x3 else some (x2 - x3, r4.2))))
    refine k_iload_n (q := 3) C dX11_dated_19 rfl rfl ?_
    refine k_sipush (v := 500) C dX11_dated_20 rfl ?_
    refine k_icmp_gt (tgt := 80) C dX11_dated_23 (by decide) (fun _ => ?_) (fun _ => ?_)
    · refine k_bipush (v := (-2)) C dX11_dated_80 rfl ?_
      exact k_iret C rfl ⟨rfl, rfl⟩ dX11_dated_82
    · refine k_iload_n (q := 2) C dX11_dated_26 rfl rfl ?_
      refine k_iload_n (q := 3) C dX11_dated_27 rfl rfl ?_
      refine k_isub C dX11_dated_28 ?_
      refine k_cSI C ct_X11_isHour my_11_isHour ml_11_134 rfl ⟨Nat.le_of_ble_eq_true rfl, Nat.le_of_ble_eq_true rfl⟩ rfl (Nat.le_of_ble_eq_true rfl) dX11_dated_29 ⟨Nat.le_refl _, Nat.le_refl _⟩ (fun r3 _ => ?_)
      refine k_if_eq (tgt := 50) C dX11_dated_32 (by decide) (fun _ => ?_) (fun _ => ?_)
      · exact kb_X11_dated_B50 C ih _ _ _
      · refine k_aload_n (q := 0) C dX11_dated_35 rfl rfl ?_
        refine k_iload_n (q := 1) C dX11_dated_36 rfl rfl ?_
        refine k_iload_n (q := 2) C dX11_dated_37 rfl rfl ?_
        refine k_iload_n (q := 3) C dX11_dated_38 rfl rfl ?_
        refine k_isub C dX11_dated_39 ?_
        refine k_cVI C ct_X11_mayAt my_11_mayAt ml_11_290 rfl ⟨Nat.le_of_ble_eq_true rfl, Nat.le_of_ble_eq_true rfl⟩ recvM rfl (Nat.le_of_ble_eq_true rfl) dX11_dated_40 ⟨Nat.le_refl _, Nat.le_refl _⟩ (fun r4 _ => ?_)
        refine k_if_eq (tgt := 50) C dX11_dated_43 (by decide) (fun _ => ?_) (fun _ => ?_)
        · exact kb_X11_dated_B50 C ih _ _ _
        · refine k_iload_n (q := 2) C dX11_dated_46 rfl rfl ?_
          refine k_iload_n (q := 3) C dX11_dated_47 rfl rfl ?_
          refine k_isub C dX11_dated_48 ?_
          exact k_iret C rfl ⟨rfl, rfl⟩ dX11_dated_49
set_option maxRecDepth 20000 in
theorem kw_X11_dated {X : GX} {θ : TH} {ad : Nat → Nat} {F : Nat} {S : St} {a1 : Int32} (C : CX (mE X θ (wdM θ ad S) 4) RX11 cX11_dated (some .int) 70 0 0)  : Dk (mE X θ (wdM θ ad S) 4) (mT X θ (wdM θ ad S) 4 (PIS (wdM θ ad))) 0 0 (wdM θ ad S) [(0, .ref (ad 44)), (1, .int a1)] [] 0 (f_X11_dated F S a1) := by
  unfold f_X11_dated
  refine k_aload_n (q := 0) C dX11_dated_0 rfl rfl ?_
  refine k_iload_n (q := 1) C dX11_dated_1 rfl rfl ?_
  refine k_cVI C ct_X11_isPromise my_11_isPromise ml_11_294 rfl ⟨Nat.le_of_ble_eq_true rfl, Nat.le_of_ble_eq_true rfl⟩ recvM rfl (Nat.le_of_ble_eq_true rfl) dX11_dated_2 ⟨Nat.le_refl _, Nat.le_refl _⟩ (fun r1 _ => ?_)
  refine k_if_ne (tgt := 10) C dX11_dated_5 (by decide) (fun _ => ?_) (fun _ => ?_)
  · refine k_aload_n (q := 0) C dX11_dated_10 rfl rfl ?_
    refine m_geta (kf := 33) C mR_33 fl_11_71 dX11_dated_11 ?_
    refine k_iload_n (q := 1) C dX11_dated_14 rfl rfl ?_
    refine m_iald (x := S.2.1 33 (a1).toNatClampNeg) C mA_33 mN_33 rfl dX11_dated_15 ?_
    refine k_lti fun y2 => ?_
    refine k_istore_n (lv' := [(2, .int y2), (0, .ref (ad 44)), (1, .int a1)]) C dX11_dated_16 rfl (Nat.le_of_ble_eq_true rfl) rfl ?_
    refine k_iconst (v := 0) C dX11_dated_17 rfl ?_
    refine k_istore_n (lv' := [(3, .int 0), (2, .int y2), (0, .ref (ad 44)), (1, .int a1)]) C dX11_dated_18 rfl (Nat.le_of_ble_eq_true rfl) rfl ?_
    refine Dk.loc [2, 3, 1, 0] rfl ?_
    exact kb_X11_dated_L19 C _ _ _ _
  · refine k_iconst (v := (-1)) C dX11_dated_8 rfl ?_
    exact k_iret C rfl ⟨rfl, rfl⟩ dX11_dated_9
theorem ct_X11_dated {l : Launch} {θ : TH} {ad : Nat → Nat} {S : St} {F : Nat} {a1 : Int32} : ∀ r, f_X11_dated F S a1 = some r → Ct l θ yX11_dated cX11_dated 4 (some .int) 70 0 0 [.ref (ad 44), .int a1] (wdM θ ad S) (PIS (wdM θ ad) r) :=
  fun r hr => Ct.of (by decide) (Nat.le_of_ble_eq_true rfl) (fun X _ C _ => kw_X11_dated C r hr)
set_option maxRecDepth 20000 in
theorem kb_X11_claims_L80 {X : GX} {θ : TH} {ad : Nat → Nat} {S0 : St} {F : Nat} {a2 : Int32} (C : CX (mE X θ (wdM θ ad S0) 8) RX11 cX11_claims (some .int) 70 0 0)  : ∀ (n : Nat) (S : St) (x3 : Int32) (x4 : Int32) (x5 : Int32) (x6 : Int32) (x7 : Int32), Dk (mE X θ (wdM θ ad S0) 8) (mT X θ (wdM θ ad S0) 8 (PIS (wdM θ ad))) 0 0 (wdM θ ad S) [(0, .ref (ad 44)), (2, .int a2), (3, .int x3), (4, .int x4), (5, .int x5), (6, .int x6), (7, .int x7)] [] 80 (f_X11_claims_L80 F a2 n S x3 x4 x5 x6 x7) := by
  intro n
  induction n with
  | zero => intro S x3 x4 x5 x6 x7; exact Dk.none
  | succ n ih =>
    intro S x3 x4 x5 x6 x7
    show Dk _ _ _ _ _ _ _ _ (if (x5 + a2) ≤ x7 then some (x6, S) else (f_X11_stateOf F S x4 x7).bind fun r7 => (f_X11_stateOf F S x4 x3).bind fun r8 => (if r7 = r8 then f_X11_claims_L80 F a2 n S x3 x4 x5 (x6 + 1) (x7 + 1) else f_X11_claims_L80 F a2 n S x3 x4 x5 (x6 + 0) (x7 + 1)))
    refine k_iload (q := 6) C dX11_claims_80 rfl ?_
    refine k_iload (q := 4) C dX11_claims_82 rfl ?_
    refine k_iload_n (q := 1) C dX11_claims_84 rfl rfl ?_
    refine k_iadd C dX11_claims_85 ?_
    refine k_icmp_ge (tgt := 123) C dX11_claims_86 (by decide) (fun _ => ?_) (fun _ => ?_)
    · refine k_iload (q := 5) C dX11_claims_123 rfl ?_
      exact k_iret C rfl ⟨rfl, rfl⟩ dX11_claims_125
    · refine k_iload (q := 5) C dX11_claims_89 rfl ?_
      refine k_aload_n (q := 0) C dX11_claims_91 rfl rfl ?_
      refine k_iload (q := 3) C dX11_claims_92 rfl ?_
      refine k_iload (q := 6) C dX11_claims_94 rfl ?_
      refine k_cVI C ct_X11_stateOf my_11_stateOf ml_11_137 rfl ⟨Nat.le_of_ble_eq_true rfl, Nat.le_of_ble_eq_true rfl⟩ recvM rfl (Nat.le_of_ble_eq_true rfl) dX11_claims_96 ⟨Nat.le_refl _, Nat.le_refl _⟩ (fun r7 _ => ?_)
      refine k_aload_n (q := 0) C dX11_claims_99 rfl rfl ?_
      refine k_iload (q := 3) C dX11_claims_100 rfl ?_
      refine k_iload_n (q := 2) C dX11_claims_102 rfl rfl ?_
      refine k_cVI C ct_X11_stateOf my_11_stateOf ml_11_137 rfl ⟨Nat.le_of_ble_eq_true rfl, Nat.le_of_ble_eq_true rfl⟩ recvM rfl (Nat.le_of_ble_eq_true rfl) dX11_claims_103 ⟨Nat.le_refl _, Nat.le_refl _⟩ (fun r8 _ => ?_)
      refine k_icmp_ne (tgt := 113) C dX11_claims_106 (by decide) (fun _ => ?_) (fun _ => ?_)
      · refine k_iconst (v := 0) C dX11_claims_113 rfl ?_
        refine k_iadd C dX11_claims_114 ?_
        refine k_istore (lv' := [(6, .int (x6 + 0)), (0, .ref (ad 44)), (2, .int a2), (3, .int x3), (4, .int x4), (5, .int x5), (7, .int x7)]) C dX11_claims_115 (Nat.le_of_ble_eq_true rfl) rfl ?_
        refine k_iinc (q := 6) (v := x7 + 1) (lv' := [(7, .int (x7 + 1)), (6, .int (x6 + 0)), (0, .ref (ad 44)), (2, .int a2), (3, .int x3), (4, .int x4), (5, .int x5)]) C dX11_claims_117 rfl rfl (Nat.le_of_ble_eq_true rfl) rfl ?_
        refine k_goto (tgt := 80) C dX11_claims_120 (by decide) ?_
        refine Dk.loc [2, 3, 4, 5, 6, 1, 0] rfl ?_
        exact ih _ _ _ _ _ _
      · refine k_iconst (v := 1) C dX11_claims_109 rfl ?_
        refine k_goto (tgt := 114) C dX11_claims_110 (by decide) ?_
        refine k_iadd C dX11_claims_114 ?_
        refine k_istore (lv' := [(6, .int (x6 + 1)), (0, .ref (ad 44)), (2, .int a2), (3, .int x3), (4, .int x4), (5, .int x5), (7, .int x7)]) C dX11_claims_115 (Nat.le_of_ble_eq_true rfl) rfl ?_
        refine k_iinc (q := 6) (v := x7 + 1) (lv' := [(7, .int (x7 + 1)), (6, .int (x6 + 1)), (0, .ref (ad 44)), (2, .int a2), (3, .int x3), (4, .int x4), (5, .int x5)]) C dX11_claims_117 rfl rfl (Nat.le_of_ble_eq_true rfl) rfl ?_
        refine k_goto (tgt := 80) C dX11_claims_120 (by decide) ?_
        refine Dk.loc [2, 3, 4, 5, 6, 1, 0] rfl ?_
        exact ih _ _ _ _ _ _
set_option maxRecDepth 20000 in
theorem kw_X11_claims {X : GX} {θ : TH} {ad : Nat → Nat} {F : Nat} {S : St} {a1 : Int32} {a2 : Int32} (C : CX (mE X θ (wdM θ ad S) 8) RX11 cX11_claims (some .int) 70 0 0)  : Dk (mE X θ (wdM θ ad S) 8) (mT X θ (wdM θ ad S) 8 (PIS (wdM θ ad))) 0 0 (wdM θ ad S) [(0, .ref (ad 44)), (1, .int a1), (2, .int a2)] [] 0 (f_X11_claims F S a1 a2) := by
  unfold f_X11_claims
  refine k_aload_n (q := 0) C dX11_claims_0 rfl rfl ?_
  refine k_iload_n (q := 1) C dX11_claims_1 rfl rfl ?_
  refine k_cVI C ct_X11_isPromise my_11_isPromise ml_11_294 rfl ⟨Nat.le_of_ble_eq_true rfl, Nat.le_of_ble_eq_true rfl⟩ recvM rfl (Nat.le_of_ble_eq_true rfl) dX11_claims_2 ⟨Nat.le_refl _, Nat.le_refl _⟩ (fun r1 _ => ?_)
  refine k_if_eq (tgt := 20) C dX11_claims_5 (by decide) (fun _ => ?_) (fun _ => ?_)
  · refine k_iconst (v := (-1)) C dX11_claims_20 rfl ?_
    exact k_iret C rfl ⟨rfl, rfl⟩ dX11_claims_21
  · refine k_iload_n (q := 2) C dX11_claims_8 rfl rfl ?_
    refine k_i2l C dX11_claims_9 ?_
    refine k_lconst (v := 1) C dX11_claims_10 rfl ?_
    refine k_ldc2 C co_11_297 dX11_claims_11 ?_
    refine k_cSI C ct_X11_within my_11_within ml_11_106 rfl ⟨Nat.le_of_ble_eq_true rfl, Nat.le_of_ble_eq_true rfl⟩ rfl (Nat.le_of_ble_eq_true rfl) dX11_claims_14 ⟨Nat.le_refl _, Nat.le_refl _⟩ (fun r2 _ => ?_)
    refine k_if_ne (tgt := 22) C dX11_claims_17 (by decide) (fun _ => ?_) (fun _ => ?_)
    · refine k_aload_n (q := 0) C dX11_claims_22 rfl rfl ?_
      refine m_geta (kf := 33) C mR_33 fl_11_71 dX11_claims_23 ?_
      refine k_iload_n (q := 1) C dX11_claims_26 rfl rfl ?_
      refine m_iald (x := S.2.1 33 (a1).toNatClampNeg) C mA_33 mN_33 rfl dX11_claims_27 ?_
      refine k_lti fun y3 => ?_
      refine k_istore_n (lv' := [(3, .int y3), (0, .ref (ad 44)), (1, .int a1), (2, .int a2)]) C dX11_claims_28 rfl (Nat.le_of_ble_eq_true rfl) rfl ?_
      refine k_aload_n (q := 1) C dX11_claims_29 rfl rfl ?_
      refine k_iload_n (q := 2) C dX11_claims_30 rfl rfl ?_
      refine k_iload_n (q := 0) C dX11_claims_31 rfl rfl ?_
      refine k_cVI C ct_X11_mayAt my_11_mayAt ml_11_290 rfl ⟨Nat.le_of_ble_eq_true rfl, Nat.le_of_ble_eq_true rfl⟩ recvM rfl (Nat.le_of_ble_eq_true rfl) dX11_claims_32 ⟨Nat.le_refl _, Nat.le_refl _⟩ (fun r4 _ => ?_)
      refine k_if_ne (tgt := 41) C dX11_claims_35 (by decide) (fun _ => ?_) (fun _ => ?_)
      · refine k_aload_n (q := 1) C dX11_claims_41 rfl rfl ?_
        refine m_geta (kf := 32) C mR_32 fl_11_68 dX11_claims_42 ?_
        refine k_iload_n (q := 2) C dX11_claims_45 rfl rfl ?_
        refine m_iald (x := r4.2.2.1 32 (a1).toNatClampNeg) C mA_32 mN_32 rfl dX11_claims_46 ?_
        refine k_bipush (v := 10) C dX11_claims_47 rfl ?_
        refine k_irem C dX11_claims_49 (by decide) ?_
        refine k_lti fun y5 => ?_
        refine k_istore (lv' := [(4, .int y5), (3, .int y3), (0, .ref (ad 44)), (1, .int a1), (2, .int a2)]) C dX11_claims_50 (Nat.le_of_ble_eq_true rfl) rfl ?_
        refine k_iload_n (q := 1) C dX11_claims_52 rfl rfl ?_
        refine k_aload_n (q := 2) C dX11_claims_53 rfl rfl ?_
        refine m_geta (kf := 0) C mR_0 fl_11_9 dX11_claims_54 ?_
        refine k_bipush (v := 6) C dX11_claims_57 rfl ?_
        refine k_aload_n (q := 2) C dX11_claims_59 rfl rfl ?_
        refine m_geta (kf := 32) C mR_32 fl_11_68 dX11_claims_60 ?_
        refine k_iload_n (q := 3) C dX11_claims_63 rfl rfl ?_
        refine m_iald (x := r4.2.2.1 32 (a1).toNatClampNeg) C mA_32 mN_32 rfl dX11_claims_64 ?_
        refine k_bipush (v := 10) C dX11_claims_65 rfl ?_
        refine k_idiv C dX11_claims_67 (by decide) ?_
        refine k_iadd C dX11_claims_68 ?_
        refine m_iald (x := r4.2.2.1 0 (6 + ((r4.2.2.1 32 (a1).toNatClampNeg) / 10)).toNatClampNeg) C mA_0 mN_0 rfl dX11_claims_69 ?_
        refine k_iadd C dX11_claims_70 ?_
        refine k_lti fun y6 => ?_
        refine k_istore (lv' := [(5, .int y6), (4, .int y5), (3, .int y3), (0, .ref (ad 44)), (1, .int a1), (2, .int a2)]) C dX11_claims_71 (Nat.le_of_ble_eq_true rfl) rfl ?_
        refine k_iconst (v := 0) C dX11_claims_73 rfl ?_
        refine k_istore (lv' := [(6, .int 0), (5, .int y6), (4, .int y5), (3, .int y3), (0, .ref (ad 44)), (1, .int a1), (2, .int a2)]) C dX11_claims_74 (Nat.le_of_ble_eq_true rfl) rfl ?_
        refine k_iload (q := 1) C dX11_claims_76 rfl ?_
        refine k_istore (lv' := [(7, .int y6), (6, .int 0), (5, .int y6), (4, .int y5), (3, .int y3), (0, .ref (ad 44)), (1, .int a1), (2, .int a2)]) C dX11_claims_78 (Nat.le_of_ble_eq_true rfl) rfl ?_
        refine Dk.loc [5, 7, 4, 3, 2, 1, 0] rfl ?_
        exact kb_X11_claims_L80 C _ _ _ _ _ _ _
      · refine k_bipush (v := (-5)) C dX11_claims_38 rfl ?_
        exact k_iret C rfl ⟨rfl, rfl⟩ dX11_claims_40
    · refine k_iconst (v := (-1)) C dX11_claims_20 rfl ?_
      exact k_iret C rfl ⟨rfl, rfl⟩ dX11_claims_21
theorem ct_X11_claims {l : Launch} {θ : TH} {ad : Nat → Nat} {S : St} {F : Nat} {a1 : Int32} {a2 : Int32} : ∀ r, f_X11_claims F S a1 a2 = some r → Ct l θ yX11_claims cX11_claims 8 (some .int) 70 0 0 [.ref (ad 44), .int a1, .int a2] (wdM θ ad S) (PIS (wdM θ ad) r) :=
  fun r hr => Ct.of (by decide) (Nat.le_of_ble_eq_true rfl) (fun X _ C _ => kw_X11_claims C r hr)
set_option maxRecDepth 20000 in
theorem kb_X11_yearOf_L6 {X : GX} {θ : TH} {ad : Nat → Nat} {S0 : St} {F : Nat} {a1 : Int32} {a2 : Int32} {a3 : Int32} {a4 : Int32} (C : CX (mE X θ (wdM θ ad S0) 7) RX11 cX11_yearOf (some .int) 69 0 0)  : ∀ (n : Nat) (S : St) (x5 : Int32) (x6 : Int32), Dk (mE X θ (wdM θ ad S0) 7) (mT X θ (wdM θ ad S0) 7 (PIS (wdM θ ad))) 0 0 (wdM θ ad S) [(0, .ref (ad 44)), (1, .int a1), (2, .int a2), (3, .int a3), (4, .int a4), (5, .int x5), (6, .int x6)] [] 6 (f_X11_yearOf_L6 F a1 a2 a3 a4 n S x5 x6) := by
  intro n
  induction n with
  | zero => intro S x5 x6; exact Dk.none
  | succ n ih =>
    intro S x5 x6
    show Dk _ _ _ _ _ _ _ _ (if (a3 + a4) ≤ x6 then some (x5, S) else (f_X11_mayOf F S a1 a2 x6).bind fun r1 => (if r1.1 < 0 then f_X11_yearOf_L6 F a1 a2 a3 a4 n r1.2 (x5 + 0) (x6 + 1) else f_X11_yearOf_L6 F a1 a2 a3 a4 n r1.2 (x5 + 1) (x6 + 1)))
    refine k_iload (q := 6) C dX11_yearOf_6 rfl ?_
    refine k_iload_n (q := 3) C dX11_yearOf_8 rfl rfl ?_
    refine k_iload (q := 4) C dX11_yearOf_9 rfl ?_
    refine k_iadd C dX11_yearOf_11 ?_
    refine k_icmp_ge (tgt := 42) C dX11_yearOf_12 (by decide) (fun _ => ?_) (fun _ => ?_)
    · refine k_iload (q := 5) C dX11_yearOf_42 rfl ?_
      exact k_iret C rfl ⟨rfl, rfl⟩ dX11_yearOf_44
    · refine k_iload (q := 5) C dX11_yearOf_15 rfl ?_
      refine k_aload_n (q := 0) C dX11_yearOf_17 rfl rfl ?_
      refine k_iload_n (q := 1) C dX11_yearOf_18 rfl rfl ?_
      refine k_iload_n (q := 2) C dX11_yearOf_19 rfl rfl ?_
      refine k_iload (q := 6) C dX11_yearOf_20 rfl ?_
      refine k_cVI C ct_X11_mayOf my_11_mayOf ml_11_252 rfl ⟨Nat.le_of_ble_eq_true rfl, Nat.le_of_ble_eq_true rfl⟩ recvM rfl (Nat.le_of_ble_eq_true rfl) dX11_yearOf_22 ⟨Nat.le_refl _, Nat.le_refl _⟩ (fun r1 _ => ?_)
      refine k_if_lt (tgt := 32) C dX11_yearOf_25 (by decide) (fun _ => ?_) (fun _ => ?_)
      · refine k_iconst (v := 0) C dX11_yearOf_32 rfl ?_
        refine k_iadd C dX11_yearOf_33 ?_
        refine k_istore (lv' := [(5, .int (x5 + 0)), (0, .ref (ad 44)), (1, .int a1), (2, .int a2), (3, .int a3), (4, .int a4), (6, .int x6)]) C dX11_yearOf_34 (Nat.le_of_ble_eq_true rfl) rfl ?_
        refine k_iinc (q := 6) (v := x6 + 1) (lv' := [(6, .int (x6 + 1)), (5, .int (x5 + 0)), (0, .ref (ad 44)), (1, .int a1), (2, .int a2), (3, .int a3), (4, .int a4)]) C dX11_yearOf_36 rfl rfl (Nat.le_of_ble_eq_true rfl) rfl ?_
        refine k_goto (tgt := 6) C dX11_yearOf_39 (by decide) ?_
        refine Dk.loc [2, 3, 4, 5, 6, 1, 0] rfl ?_
        exact ih _ _ _
      · refine k_iconst (v := 1) C dX11_yearOf_28 rfl ?_
        refine k_goto (tgt := 33) C dX11_yearOf_29 (by decide) ?_
        refine k_iadd C dX11_yearOf_33 ?_
        refine k_istore (lv' := [(5, .int (x5 + 1)), (0, .ref (ad 44)), (1, .int a1), (2, .int a2), (3, .int a3), (4, .int a4), (6, .int x6)]) C dX11_yearOf_34 (Nat.le_of_ble_eq_true rfl) rfl ?_
        refine k_iinc (q := 6) (v := x6 + 1) (lv' := [(6, .int (x6 + 1)), (5, .int (x5 + 1)), (0, .ref (ad 44)), (1, .int a1), (2, .int a2), (3, .int a3), (4, .int a4)]) C dX11_yearOf_36 rfl rfl (Nat.le_of_ble_eq_true rfl) rfl ?_
        refine k_goto (tgt := 6) C dX11_yearOf_39 (by decide) ?_
        refine Dk.loc [2, 3, 4, 5, 6, 1, 0] rfl ?_
        exact ih _ _ _
set_option maxRecDepth 20000 in
theorem kw_X11_yearOf {X : GX} {θ : TH} {ad : Nat → Nat} {F : Nat} {S : St} {a1 : Int32} {a2 : Int32} {a3 : Int32} {a4 : Int32} (C : CX (mE X θ (wdM θ ad S) 7) RX11 cX11_yearOf (some .int) 69 0 0)  : Dk (mE X θ (wdM θ ad S) 7) (mT X θ (wdM θ ad S) 7 (PIS (wdM θ ad))) 0 0 (wdM θ ad S) [(0, .ref (ad 44)), (1, .int a1), (2, .int a2), (3, .int a3), (4, .int a4)] [] 0 (f_X11_yearOf F S a1 a2 a3 a4) := by
  unfold f_X11_yearOf
  refine k_iconst (v := 0) C dX11_yearOf_0 rfl ?_
  refine k_istore (lv' := [(5, .int 0), (0, .ref (ad 44)), (1, .int a1), (2, .int a2), (3, .int a3), (4, .int a4)]) C dX11_yearOf_1 (Nat.le_of_ble_eq_true rfl) rfl ?_
  refine k_iload_n (q := 4) C dX11_yearOf_3 rfl rfl ?_
  refine k_istore (lv' := [(6, .int a3), (5, .int 0), (0, .ref (ad 44)), (1, .int a1), (2, .int a2), (3, .int a3), (4, .int a4)]) C dX11_yearOf_4 (Nat.le_of_ble_eq_true rfl) rfl ?_
  refine Dk.loc [2, 3, 4, 5, 6, 1, 0] rfl ?_
  exact kb_X11_yearOf_L6 C _ _ _ _
theorem ct_X11_yearOf {l : Launch} {θ : TH} {ad : Nat → Nat} {S : St} {F : Nat} {a1 : Int32} {a2 : Int32} {a3 : Int32} {a4 : Int32} : ∀ r, f_X11_yearOf F S a1 a2 a3 a4 = some r → Ct l θ yX11_yearOf cX11_yearOf 7 (some .int) 69 0 0 [.ref (ad 44), .int a1, .int a2, .int a3, .int a4] (wdM θ ad S) (PIS (wdM θ ad) r) :=
  fun r hr => Ct.of (by decide) (Nat.le_of_ble_eq_true rfl) (fun X _ C _ => kw_X11_yearOf C r hr)
set_option maxRecDepth 20000 in
theorem kb_X11_year_L76 {X : GX} {θ : TH} {ad : Nat → Nat} {S0 : St} {F : Nat} {a2 : Int32} {a3 : Int32} {a4 : Int32} (C : CX (mE X θ (wdM θ ad S0) 9) RX11 cX11_year (some .int) 70 0 0)  : ∀ (n : Nat) (S : St) (x5 : Int32) (x6 : Int32) (x7 : Int32), Dk (mE X θ (wdM θ ad S0) 9) (mT X θ (wdM θ ad S0) 9 (PIS (wdM θ ad))) 0 0 (wdM θ ad S) [(0, .ref (ad 44)), (2, .int a2), (3, .int a3), (4, .int a4), (5, .int x5), (6, .int x6), (7, .int x7)] [] 76 (f_X11_year_L76 F a2 a3 a4 n S x5 x6 x7) := by
  intro n
  induction n with
  | zero => intro S x5 x6 x7; exact Dk.none
  | succ n ih =>
    intro S x5 x6 x7
    show Dk _ _ _ _ _ _ _ _ (if (S.1 22) ≤ x7 then some (x5, S) else (f_X11_yearOf F S x7 a2 a3 a4).bind fun r6 => (if r6.1 ≤ x6 then f_X11_year_L76 F a2 a3 a4 n r6.2 x5 x6 (x7 + 1) else f_X11_year_L76 F a2 a3 a4 n r6.2 x7 r6.1 (x7 + 1)))
    refine k_iload (q := 6) C dX11_year_76 rfl ?_
    refine k_aload_n (q := 0) C dX11_year_78 rfl rfl ?_
    refine m_geti (kf := 22) (v := S.1 22) C mS_22 fl_11_196 rfl dX11_year_79 ?_
    refine k_icmp_ge (tgt := 118) C dX11_year_82 (by decide) (fun _ => ?_) (fun _ => ?_)
    · refine k_iload (q := 4) C dX11_year_118 rfl ?_
      exact k_iret C rfl ⟨rfl, rfl⟩ dX11_year_120
    · refine k_aload_n (q := 0) C dX11_year_85 rfl rfl ?_
      refine k_iload (q := 6) C dX11_year_86 rfl ?_
      refine k_iload_n (q := 1) C dX11_year_88 rfl rfl ?_
      refine k_iload_n (q := 2) C dX11_year_89 rfl rfl ?_
      refine k_iload (q := 3) C dX11_year_90 rfl ?_
      refine k_cVI C ct_X11_yearOf my_11_yearOf ml_11_301 rfl ⟨Nat.le_of_ble_eq_true rfl, Nat.le_of_ble_eq_true rfl⟩ recvM rfl (Nat.le_of_ble_eq_true rfl) dX11_year_92 ⟨Nat.le_refl _, Nat.le_refl _⟩ (fun r6 _ => ?_)
      refine k_istore (lv' := [(8, .int r6.1), (0, .ref (ad 44)), (2, .int a2), (3, .int a3), (4, .int a4), (5, .int x5), (6, .int x6), (7, .int x7)]) C dX11_year_95 (Nat.le_of_ble_eq_true rfl) rfl ?_
      refine k_iload (q := 0) C dX11_year_97 rfl ?_
      refine k_iload (q := 6) C dX11_year_99 rfl ?_
      refine k_icmp_le (tgt := 112) C dX11_year_101 (by decide) (fun _ => ?_) (fun _ => ?_)
      · refine k_iinc (q := 7) (v := x7 + 1) (lv' := [(7, .int (x7 + 1)), (8, .int r6.1), (0, .ref (ad 44)), (2, .int a2), (3, .int a3), (4, .int a4), (5, .int x5), (6, .int x6)]) C dX11_year_112 rfl rfl (Nat.le_of_ble_eq_true rfl) rfl ?_
        refine k_goto (tgt := 76) C dX11_year_115 (by decide) ?_
        refine Dk.loc [2, 3, 4, 5, 6, 7, 0] rfl ?_
        exact ih _ _ _ _
      · refine k_iload (q := 7) C dX11_year_104 rfl ?_
        refine k_istore (lv' := [(5, .int x7), (8, .int r6.1), (0, .ref (ad 44)), (2, .int a2), (3, .int a3), (4, .int a4), (6, .int x6), (7, .int x7)]) C dX11_year_106 (Nat.le_of_ble_eq_true rfl) rfl ?_
        refine k_iload (q := 1) C dX11_year_108 rfl ?_
        refine k_istore (lv' := [(6, .int r6.1), (5, .int x7), (8, .int r6.1), (0, .ref (ad 44)), (2, .int a2), (3, .int a3), (4, .int a4), (7, .int x7)]) C dX11_year_110 (Nat.le_of_ble_eq_true rfl) rfl ?_
        refine k_iinc (q := 7) (v := x7 + 1) (lv' := [(7, .int (x7 + 1)), (6, .int r6.1), (5, .int x7), (8, .int r6.1), (0, .ref (ad 44)), (2, .int a2), (3, .int a3), (4, .int a4)]) C dX11_year_112 rfl rfl (Nat.le_of_ble_eq_true rfl) rfl ?_
        refine k_goto (tgt := 76) C dX11_year_115 (by decide) ?_
        refine Dk.loc [4, 5, 6, 7, 2, 1, 0] rfl ?_
        exact ih _ _ _ _
set_option maxRecDepth 20000 in
theorem kb_X11_year_B13 {X : GX} {θ : TH} {ad : Nat → Nat} {S0 : St} {F : Nat} {a1 : Int32} {a2 : Int32} {a3 : Int32} {a4 : Int32} (C : CX (mE X θ (wdM θ ad S0) 9) RX11 cX11_year (some .int) 70 0 0)  (S : St) : Dk (mE X θ (wdM θ ad S0) 9) (mT X θ (wdM θ ad S0) 9 (PIS (wdM θ ad))) 0 0 (wdM θ ad S) [(0, .ref (ad 44)), (1, .int a1), (2, .int a2), (3, .int a3), (4, .int a4)] [] 13 (f_X11_year_B13 F a1 a2 a3 a4 S) := by
  unfold f_X11_year_B13
  refine k_aload_n (q := 0) C dX11_year_13 rfl rfl ?_
  refine k_iload_n (q := 2) C dX11_year_14 rfl rfl ?_
  refine k_cVI C ct_X11_isValley my_11_isValley ml_11_119 rfl ⟨Nat.le_of_ble_eq_true rfl, Nat.le_of_ble_eq_true rfl⟩ recvM rfl (Nat.le_of_ble_eq_true rfl) dX11_year_15 ⟨Nat.le_refl _, Nat.le_refl _⟩ (fun r2 _ => ?_)
  refine k_if_eq (tgt := 41) C dX11_year_18 (by decide) (fun _ => ?_) (fun _ => ?_)
  · refine k_iconst (v := (-1)) C dX11_year_41 rfl ?_
    exact k_iret C rfl ⟨rfl, rfl⟩ dX11_year_42
  · refine k_iload_n (q := 3) C dX11_year_21 rfl rfl ?_
    refine k_cSI C ct_X11_isHour my_11_isHour ml_11_134 rfl ⟨Nat.le_of_ble_eq_true rfl, Nat.le_of_ble_eq_true rfl⟩ rfl (Nat.le_of_ble_eq_true rfl) dX11_year_22 ⟨Nat.le_refl _, Nat.le_refl _⟩ (fun r3 _ => ?_)
    refine k_if_eq (tgt := 41) C dX11_year_25 (by decide) (fun _ => ?_) (fun _ => ?_)
    · refine k_iconst (v := (-1)) C dX11_year_41 rfl ?_
      exact k_iret C rfl ⟨rfl, rfl⟩ dX11_year_42
    · refine k_iload (q := 4) C dX11_year_28 rfl ?_
      refine k_i2l C dX11_year_30 ?_
      refine k_lconst (v := 1) C dX11_year_31 rfl ?_
      refine k_ldc2 C co_11_299 dX11_year_32 ?_
      refine k_cSI C ct_X11_within my_11_within ml_11_106 rfl ⟨Nat.le_of_ble_eq_true rfl, Nat.le_of_ble_eq_true rfl⟩ rfl (Nat.le_of_ble_eq_true rfl) dX11_year_35 ⟨Nat.le_refl _, Nat.le_refl _⟩ (fun r4 _ => ?_)
      refine k_if_ne (tgt := 43) C dX11_year_38 (by decide) (fun _ => ?_) (fun _ => ?_)
      · refine k_aload_n (q := 0) C dX11_year_43 rfl rfl ?_
        refine m_geti (kf := 22) (v := S.1 22) C mS_22 fl_11_196 rfl dX11_year_44 ?_
        refine k_if_ne (tgt := 53) C dX11_year_47 (by decide) (fun _ => ?_) (fun _ => ?_)
        · refine k_iload_n (q := 1) C dX11_year_53 rfl rfl ?_
          refine k_if_lt (tgt := 67) C dX11_year_54 (by decide) (fun _ => ?_) (fun _ => ?_)
          · refine k_iconst (v := 0) C dX11_year_67 rfl ?_
            refine k_istore (lv' := [(5, .int 0), (0, .ref (ad 44)), (1, .int a1), (2, .int a2), (3, .int a3), (4, .int a4)]) C dX11_year_68 (Nat.le_of_ble_eq_true rfl) rfl ?_
            refine k_iconst (v := (-1)) C dX11_year_70 rfl ?_
            refine k_istore (lv' := [(6, .int (-1)), (5, .int 0), (0, .ref (ad 44)), (1, .int a1), (2, .int a2), (3, .int a3), (4, .int a4)]) C dX11_year_71 (Nat.le_of_ble_eq_true rfl) rfl ?_
            refine k_iconst (v := 0) C dX11_year_73 rfl ?_
            refine k_istore (lv' := [(7, .int 0), (6, .int (-1)), (5, .int 0), (0, .ref (ad 44)), (1, .int a1), (2, .int a2), (3, .int a3), (4, .int a4)]) C dX11_year_74 (Nat.le_of_ble_eq_true rfl) rfl ?_
            refine Dk.loc [3, 5, 6, 7, 2, 1, 0] rfl ?_
            exact kb_X11_year_L76 C _ _ _ _ _
          · refine k_aload_n (q := 0) C dX11_year_57 rfl rfl ?_
            refine k_iload_n (q := 1) C dX11_year_58 rfl rfl ?_
            refine k_iload_n (q := 2) C dX11_year_59 rfl rfl ?_
            refine k_iload_n (q := 3) C dX11_year_60 rfl rfl ?_
            refine k_iload (q := 4) C dX11_year_61 rfl ?_
            refine k_cVI C ct_X11_yearOf my_11_yearOf ml_11_301 rfl ⟨Nat.le_of_ble_eq_true rfl, Nat.le_of_ble_eq_true rfl⟩ recvM rfl (Nat.le_of_ble_eq_true rfl) dX11_year_63 ⟨Nat.le_refl _, Nat.le_refl _⟩ (fun r5 _ => ?_)
            exact k_iret C rfl ⟨rfl, rfl⟩ dX11_year_66
        · refine k_bipush (v := (-5)) C dX11_year_50 rfl ?_
          exact k_iret C rfl ⟨rfl, rfl⟩ dX11_year_52
      · refine k_iconst (v := (-1)) C dX11_year_41 rfl ?_
        exact k_iret C rfl ⟨rfl, rfl⟩ dX11_year_42
