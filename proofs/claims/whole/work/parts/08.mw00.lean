theorem mR_0 : 0 < 44 ∧ scM 0 = false := by decide +kernel
theorem mN_0 : lnM 0 = 30 := rfl
theorem mA_0 : 0 ∈ LM ∧ 0 < 42 := by decide +kernel
theorem mR_1 : 1 < 44 ∧ scM 1 = false := by decide +kernel
theorem mN_1 : lnM 1 = 40 := rfl
theorem mA_1 : 1 ∈ LM ∧ 1 < 42 := by decide +kernel
theorem mR_2 : 2 < 44 ∧ scM 2 = false := by decide +kernel
theorem mN_2 : lnM 2 = 40 := rfl
theorem mA_2 : 2 ∈ LM ∧ 2 < 42 := by decide +kernel
theorem mR_3 : 3 < 44 ∧ scM 3 = false := by decide +kernel
theorem mN_3 : lnM 3 = 40 := rfl
theorem mA_3 : 3 ∈ LM ∧ 3 < 42 := by decide +kernel
theorem mS_4 : 4 < 44 ∧ scM 4 = true := by decide +kernel
theorem mP_4 : (TX11 4).2.2.2 = false ∧ tyX11 4 = .int := ⟨rfl, rfl⟩
theorem mS_5 : 5 < 44 ∧ scM 5 = true := by decide +kernel
theorem mP_5 : (TX11 5).2.2.2 = false ∧ tyX11 5 = .int := ⟨rfl, rfl⟩
theorem mS_6 : 6 < 44 ∧ scM 6 = true := by decide +kernel
theorem mP_6 : (TX11 6).2.2.2 = false ∧ tyX11 6 = .int := ⟨rfl, rfl⟩
theorem mR_7 : 7 < 44 ∧ scM 7 = false := by decide +kernel
theorem mN_7 : lnM 7 = 3 := rfl
theorem mA_7 : 7 ∈ LM ∧ 7 < 42 := by decide +kernel
theorem mS_8 : 8 < 44 ∧ scM 8 = true := by decide +kernel
theorem mP_8 : (TX11 8).2.2.2 = false ∧ tyX11 8 = .int := ⟨rfl, rfl⟩
theorem mR_9 : 9 < 44 ∧ scM 9 = false := by decide +kernel
theorem mN_9 : lnM 9 = 15 := rfl
theorem mA_9 : 9 ∈ LM ∧ 9 < 42 := by decide +kernel
theorem mR_10 : 10 < 44 ∧ scM 10 = false := by decide +kernel
theorem mN_10 : lnM 10 = 15 := rfl
theorem mA_10 : 10 ∈ LM ∧ 10 < 42 := by decide +kernel
theorem mR_11 : 11 < 44 ∧ scM 11 = false := by decide +kernel
theorem mN_11 : lnM 11 = 25 := rfl
theorem mA_11 : 11 ∈ LM ∧ 11 < 42 := by decide +kernel
theorem mR_12 : 12 < 44 ∧ scM 12 = false := by decide +kernel
theorem mN_12 : lnM 12 = 120 := rfl
theorem mA_12 : 12 ∈ LM ∧ 12 < 42 := by decide +kernel
theorem mS_13 : 13 < 44 ∧ scM 13 = true := by decide +kernel
theorem mP_13 : (TX11 13).2.2.2 = false ∧ tyX11 13 = .int := ⟨rfl, rfl⟩
theorem mR_14 : 14 < 44 ∧ scM 14 = false := by decide +kernel
theorem mN_14 : lnM 14 = 360 := rfl
theorem mA_14 : 14 ∈ LM ∧ 14 < 42 := by decide +kernel
theorem mR_15 : 15 < 44 ∧ scM 15 = false := by decide +kernel
theorem mN_15 : lnM 15 = 3 := rfl
theorem mA_15 : 15 ∈ LM ∧ 15 < 42 := by decide +kernel
theorem mS_16 : 16 < 44 ∧ scM 16 = true := by decide +kernel
theorem mP_16 : (TX11 16).2.2.2 = false ∧ tyX11 16 = .int := ⟨rfl, rfl⟩
theorem mS_17 : 17 < 44 ∧ scM 17 = true := by decide +kernel
theorem mP_17 : (TX11 17).2.2.2 = false ∧ tyX11 17 = .int := ⟨rfl, rfl⟩
theorem mS_18 : 18 < 44 ∧ scM 18 = true := by decide +kernel
theorem mP_18 : (TX11 18).2.2.2 = false ∧ tyX11 18 = .int := ⟨rfl, rfl⟩
theorem mS_19 : 19 < 44 ∧ scM 19 = true := by decide +kernel
theorem mP_19 : (TX11 19).2.2.2 = false ∧ tyX11 19 = .int := ⟨rfl, rfl⟩
theorem mS_20 : 20 < 44 ∧ scM 20 = true := by decide +kernel
theorem mP_20 : (TX11 20).2.2.2 = false ∧ tyX11 20 = .int := ⟨rfl, rfl⟩
theorem mR_21 : 21 < 44 ∧ scM 21 = false := by decide +kernel
theorem mN_21 : lnM 21 = 7 := rfl
theorem mA_21 : 21 ∈ LM ∧ 21 < 42 := by decide +kernel
theorem mS_22 : 22 < 44 ∧ scM 22 = true := by decide +kernel
theorem mP_22 : (TX11 22).2.2.2 = false ∧ tyX11 22 = .int := ⟨rfl, rfl⟩
theorem mR_23 : 23 < 44 ∧ scM 23 = false := by decide +kernel
theorem mN_23 : lnM 23 = 12 := rfl
theorem mA_23 : 23 ∈ LM ∧ 23 < 42 := by decide +kernel
theorem mR_24 : 24 < 44 ∧ scM 24 = false := by decide +kernel
theorem mN_24 : lnM 24 = 12 := rfl
theorem mA_24 : 24 ∈ LM ∧ 24 < 42 := by decide +kernel
theorem mR_25 : 25 < 44 ∧ scM 25 = false := by decide +kernel
theorem mN_25 : lnM 25 = 110592 := rfl
theorem mA_25 : 25 ∈ LM ∧ 25 < 42 := by decide +kernel
theorem mR_26 : 26 < 44 ∧ scM 26 = false := by decide +kernel
theorem mN_26 : lnM 26 = 110592 := rfl
theorem mA_26 : 26 ∈ LM ∧ 26 < 42 := by decide +kernel
theorem mR_27 : 27 < 44 ∧ scM 27 = false := by decide +kernel
theorem mN_27 : lnM 27 = 12 := rfl
theorem mA_27 : 27 ∈ LM ∧ 27 < 42 := by decide +kernel
theorem mR_28 : 28 < 44 ∧ scM 28 = false := by decide +kernel
theorem mN_28 : lnM 28 = 12 := rfl
theorem mA_28 : 28 ∈ LM ∧ 28 < 42 := by decide +kernel
theorem mS_29 : 29 < 44 ∧ scM 29 = true := by decide +kernel
theorem mP_29 : (TX11 29).2.2.2 = false ∧ tyX11 29 = .int := ⟨rfl, rfl⟩
theorem mR_30 : 30 < 44 ∧ scM 30 = false := by decide +kernel
theorem mN_30 : lnM 30 = 5 := rfl
theorem mA_30 : 30 ∈ LM ∧ 30 < 42 := by decide +kernel
theorem mS_31 : 31 < 44 ∧ scM 31 = true := by decide +kernel
theorem mP_31 : (TX11 31).2.2.2 = false ∧ tyX11 31 = .int := ⟨rfl, rfl⟩
theorem mR_32 : 32 < 44 ∧ scM 32 = false := by decide +kernel
theorem mN_32 : lnM 32 = 20 := rfl
theorem mA_32 : 32 ∈ LM ∧ 32 < 42 := by decide +kernel
theorem mR_33 : 33 < 44 ∧ scM 33 = false := by decide +kernel
theorem mN_33 : lnM 33 = 20 := rfl
theorem mA_33 : 33 ∈ LM ∧ 33 < 42 := by decide +kernel
theorem mS_34 : 34 < 44 ∧ scM 34 = true := by decide +kernel
theorem mP_34 : (TX11 34).2.2.2 = false ∧ tyX11 34 = .int := ⟨rfl, rfl⟩
theorem mR_35 : 35 < 44 ∧ scM 35 = false := by decide +kernel
theorem mN_35 : lnM 35 = 50 := rfl
theorem mA_35 : 35 ∈ LM ∧ 35 < 42 := by decide +kernel
theorem mR_36 : 36 < 44 ∧ scM 36 = false := by decide +kernel
theorem mN_36 : lnM 36 = 24 := rfl
theorem mA_36 : 36 ∈ LM ∧ 36 < 42 := by decide +kernel
theorem mS_37 : 37 < 44 ∧ scM 37 = true := by decide +kernel
theorem mP_37 : (TX11 37).2.2.2 = false ∧ tyX11 37 = .int := ⟨rfl, rfl⟩
theorem mS_38 : 38 < 44 ∧ scM 38 = true := by decide +kernel
theorem mP_38 : (TX11 38).2.2.2 = false ∧ tyX11 38 = .int := ⟨rfl, rfl⟩
theorem mS_39 : 39 < 44 ∧ scM 39 = true := by decide +kernel
theorem mP_39 : (TX11 39).2.2.2 = false ∧ tyX11 39 = .int := ⟨rfl, rfl⟩
theorem mR_40 : 40 < 44 ∧ scM 40 = false := by decide +kernel
theorem mN_40 : lnM 40 = 6 := rfl
theorem mA_40 : 40 ∈ LM ∧ 40 < 42 := by decide +kernel
theorem mR_41 : 41 < 44 ∧ scM 41 = false := by decide +kernel
theorem mN_41 : lnM 41 = 6 := rfl
theorem mA_41 : 41 ∈ LM ∧ 41 < 42 := by decide +kernel
theorem mR_42 : 42 < 44 ∧ scM 42 = false := by decide +kernel
theorem mN_42 : lnM 42 = 360 := rfl
theorem mB_42 : 42 ∈ LM ∧ (42 = 42 ∨ 42 = 43) := by decide +kernel
theorem mR_43 : 43 < 44 ∧ scM 43 = false := by decide +kernel
theorem mN_43 : lnM 43 = 60 := rfl
theorem mB_43 : 43 ∈ LM ∧ (43 = 42 ∨ 43 = 43) := by decide +kernel
set_option maxRecDepth 20000 in
theorem kw_X11_within {X : GX} {θ : TH} {ws : va_W}   {a1 : Int64} {a2 : Int64} {a3 : Int64} (C : CX (mE X θ (ws) 6) RX11 cX11_within (some .boolean) 0 0 0)  : Dk (mE X θ (ws) 6) (mT X θ (ws) 6 (PI ws)) 0 0 ws [(0, .long a1), (2, .long a2), (4, .long a3)] [] 0 (f_X11_within a1 a2 a3) := by
  unfold f_X11_within
  refine k_lload_n (q := 0) C dX11_within_0 rfl rfl ?_
  refine k_lload_n (q := 1) C dX11_within_1 rfl rfl ?_
  refine k_lcmp C dX11_within_2 ?_
  refine k_if_lt (tgt := 17) C dX11_within_3 (by decide) (fun _ => ?_) (fun _ => ?_)
  · refine k_iconst (v := 0) C dX11_within_17 rfl ?_
    exact k_iret C rfl ⟨rfl, rfl⟩ dX11_within_18
  · refine k_lload_n (q := 0) C dX11_within_6 rfl rfl ?_
    refine k_lload (q := 2) C dX11_within_7 rfl ?_
    refine k_lcmp C dX11_within_9 ?_
    refine k_if_gt (tgt := 17) C dX11_within_10 (by decide) (fun _ => ?_) (fun _ => ?_)
    · refine k_iconst (v := 0) C dX11_within_17 rfl ?_
      exact k_iret C rfl ⟨rfl, rfl⟩ dX11_within_18
    · refine k_iconst (v := 1) C dX11_within_13 rfl ?_
      refine k_goto (tgt := 18) C dX11_within_14 (by decide) ?_
      exact k_iret C rfl ⟨rfl, rfl⟩ dX11_within_18
theorem ct_X11_within {l : Launch} {θ : TH} {ws : va_W}  {a1 : Int64} {a2 : Int64} {a3 : Int64} : ∀ r, f_X11_within a1 a2 a3 = some r → Ct l θ yX11_within cX11_within 6 (some .boolean) 0 0 0 [.long a1, .long a2, .long a3] (ws) (PI ws r) :=
  fun r hr => Ct.of (by decide) (Nat.le_of_ble_eq_true rfl) (fun X _ C _ => kw_X11_within C r hr)
set_option maxRecDepth 20000 in
theorem kb_X11_forgets_L2 {X : GX} {θ : TH} {ad : Nat → Nat} {S0 : St} {F : Nat} (C : CX (mE X θ (wdM θ ad S0) 2) RX11 cX11_forgets none 0 0 0)  : ∀ (n : Nat) (S : St) (x1 : Int32), Dk (mE X θ (wdM θ ad S0) 2) (mT X θ (wdM θ ad S0) 2 (PVS (wdM θ ad))) 0 0 (wdM θ ad S) [(0, .ref (ad 44)), (1, .int x1)] [] 2 (f_X11_forgets_L2 F n S x1) := by
  intro n
  induction n with
  | zero => intro S x1; exact Dk.none
  | succ n ih =>
    intro S x1
    show Dk _ _ _ _ _ _ _ _ (if (12 : Int32) ≤ x1 then some S else chk (inr x1 12) (f_X11_forgets_L2 F n (sa S 27 (x1).toNatClampNeg 0) (x1 + 1)))
    refine k_iload_n (q := 1) C dX11_forgets_2 rfl rfl ?_
    refine k_bipush (v := 12) C dX11_forgets_3 rfl ?_
    refine k_icmp_ge (tgt := 21) C dX11_forgets_5 (by decide) (fun _ => ?_) (fun _ => ?_)
    · exact k_vret C ⟨rfl, rfl⟩ dX11_forgets_21
    · refine k_aload_n (q := 0) C dX11_forgets_8 rfl rfl ?_
      refine m_geta (kf := 27) C mR_27 fl_11_59 dX11_forgets_9 ?_
      refine k_iload_n (q := 1) C dX11_forgets_12 rfl rfl ?_
      refine k_iconst (v := 0) C dX11_forgets_13 rfl ?_
      refine m_iast C mA_27 mN_27 dX11_forgets_14 ?_
      refine k_iinc (q := 1) (v := x1 + 1) (lv' := [(1, .int (x1 + 1)), (0, .ref (ad 44))]) C dX11_forgets_15 rfl rfl (Nat.le_of_ble_eq_true rfl) rfl ?_
      refine k_goto (tgt := 2) C dX11_forgets_18 (by decide) ?_
      refine Dk.loc [1, 0] rfl ?_
      exact ih _ _
set_option maxRecDepth 20000 in
theorem kw_X11_forgets {X : GX} {θ : TH} {ad : Nat → Nat} {F : Nat} {S : St}  (C : CX (mE X θ (wdM θ ad S) 2) RX11 cX11_forgets none 0 0 0)  : Dk (mE X θ (wdM θ ad S) 2) (mT X θ (wdM θ ad S) 2 (PVS (wdM θ ad))) 0 0 (wdM θ ad S) [(0, .ref (ad 44))] [] 0 (f_X11_forgets F S) := by
  unfold f_X11_forgets
  refine k_iconst (v := 0) C dX11_forgets_0 rfl ?_
  refine k_istore_n (lv' := [(1, .int 0), (0, .ref (ad 44))]) C dX11_forgets_1 rfl (Nat.le_of_ble_eq_true rfl) rfl ?_
  refine Dk.loc [1, 0] rfl ?_
  exact kb_X11_forgets_L2 C _ _ _
theorem ct_X11_forgets {l : Launch} {θ : TH} {ad : Nat → Nat} {S : St} {F : Nat}  : ∀ r, f_X11_forgets F S = some r → Ct l θ yX11_forgets cX11_forgets 2 none 0 0 0 [.ref (ad 44)] (wdM θ ad S) (PVS (wdM θ ad) r) :=
  fun r hr => Ct.of (by decide) (Nat.le_of_ble_eq_true rfl) (fun X _ C _ => kw_X11_forgets C r hr)
set_option maxRecDepth 20000 in
theorem kb_X11_becomes_B101 {X : GX} {θ : TH} {ad : Nat → Nat} {S0 : St} {F : Nat} {a1 : Int32} {a2 : Int32} (C : CX (mE X θ (wdM θ ad S0) 5) RX11 cX11_becomes (some .int) 1 0 0)  (S : St) (x3 : Int32) : Dk (mE X θ (wdM θ ad S0) 5) (mT X θ (wdM θ ad S0) 5 (PIS (wdM θ ad))) 0 0 (wdM θ ad S) [(0, .ref (ad 44)), (1, .int a1), (2, .int a2), (3, .int x3)] [] 101 (f_X11_becomes_B101 F a1 a2 S x3) := by
  unfold f_X11_becomes_B101
  refine k_aload_n (q := 0) C dX11_becomes_101 rfl rfl ?_
  refine m_geta (kf := 1) C mR_1 fl_11_13 dX11_becomes_102 ?_
  refine k_aload_n (q := 0) C dX11_becomes_105 rfl rfl ?_
  refine m_geti (kf := 5) (v := S.1 5) C mS_5 fl_11_96 rfl dX11_becomes_106 ?_
  refine k_iload_n (q := 1) C dX11_becomes_109 rfl rfl ?_
  refine m_iast C mA_1 mN_1 dX11_becomes_110 ?_
  refine k_aload_n (q := 0) C dX11_becomes_111 rfl rfl ?_
  refine m_geta (kf := 2) C mR_2 fl_11_16 dX11_becomes_112 ?_
  refine k_aload_n (q := 0) C dX11_becomes_115 rfl rfl ?_
  refine m_geti (kf := 5) (v := S.1 5) C mS_5 fl_11_96 rfl dX11_becomes_116 ?_
  refine k_iload_n (q := 3) C dX11_becomes_119 rfl rfl ?_
  refine m_iast C mA_2 mN_2 dX11_becomes_120 ?_
  refine k_aload_n (q := 0) C dX11_becomes_121 rfl rfl ?_
  refine m_geta (kf := 3) C mR_3 fl_11_19 dX11_becomes_122 ?_
  refine k_aload_n (q := 0) C dX11_becomes_125 rfl rfl ?_
  refine m_geti (kf := 5) (v := S.1 5) C mS_5 fl_11_96 rfl dX11_becomes_126 ?_
  refine k_iload_n (q := 2) C dX11_becomes_129 rfl rfl ?_
  refine m_iast C mA_3 mN_3 dX11_becomes_130 ?_
  refine k_aload_n (q := 0) C dX11_becomes_131 rfl rfl ?_
  refine k_dup C dX11_becomes_132 rfl ?_
  refine m_geti (kf := 5) (v := S.1 5) C mS_5 fl_11_96 rfl dX11_becomes_133 ?_
  refine k_iconst (v := 1) C dX11_becomes_136 rfl ?_
  refine k_iadd C dX11_becomes_137 ?_
  refine m_puti (kf := 5) C mS_5 mP_5 fl_11_96 dX11_becomes_138 ?_
  refine k_aload_n (q := 0) C dX11_becomes_141 rfl rfl ?_
  refine k_aload_n (q := 0) C dX11_becomes_142 rfl rfl ?_
  refine m_geti (kf := 5) (v := (S.1 5) + 1) C mS_5 fl_11_96 rfl dX11_becomes_143 ?_
  refine m_puti (kf := 4) C mS_4 mP_4 fl_11_100 dX11_becomes_146 ?_
  refine k_aload_n (q := 0) C dX11_becomes_149 rfl rfl ?_
  refine m_geta (kf := 0) C mR_0 fl_11_9 dX11_becomes_150 ?_
  refine k_iload_n (q := 1) C dX11_becomes_153 rfl rfl ?_
  refine k_iload_n (q := 2) C dX11_becomes_154 rfl rfl ?_
  refine m_iast C mA_0 mN_0 dX11_becomes_155 ?_
  refine k_iload_n (q := 3) C dX11_becomes_156 rfl rfl ?_
  exact k_iret C rfl ⟨rfl, rfl⟩ dX11_becomes_157
set_option maxRecDepth 20000 in
theorem kb_X11_becomes_L30 {X : GX} {θ : TH} {ad : Nat → Nat} {S0 : St} {F : Nat} {a1 : Int32} {a2 : Int32} (C : CX (mE X θ (wdM θ ad S0) 5) RX11 cX11_becomes (some .int) 1 0 0)  : ∀ (n : Nat) (S : St) (x3 : Int32) (x4 : Int32), Dk (mE X θ (wdM θ ad S0) 5) (mT X θ (wdM θ ad S0) 5 (PIS (wdM θ ad))) 0 0 (wdM θ ad S) [(0, .ref (ad 44)), (1, .int a1), (2, .int a2), (3, .int x3), (4, .int x4)] [] 30 (f_X11_becomes_L30 F a1 a2 n S x3 x4) := by
  intro n
  induction n with
  | zero => intro S x3 x4; exact Dk.none
  | succ n ih =>
    intro S x3 x4
    show Dk _ _ _ _ _ _ _ _ (if (40 : Int32) ≤ x4 then f_X11_becomes_B101 F a1 a2 (sf S 5 ((S.1 5) - 1)) x3 else chk (inr x4 40) (chk (inr (x4 - 1) 40) (chk (inr x4 40) (chk (inr (x4 - 1) 40) (chk (inr x4 40) (chk (inr (x4 - 1) 40) (f_X11_becomes_L30 F a1 a2 n (sa (sa (sa S 1 (x4 - 1).toNatClampNeg (S.2.1 1 (x4).toNatClampNeg)) 2 (x4 - 1).toNatClampNeg (S.2.1 2 (x4).toNatClampNeg)) 3 (x4 - 1).toNatClampNeg (S.2.1 3 (x4).toNatClampNeg)) x3 (x4 + 1))))))))
    refine k_iload (q := 4) C dX11_becomes_30 rfl ?_
    refine k_bipush (v := 40) C dX11_becomes_32 rfl ?_
    refine k_icmp_ge (tgt := 91) C dX11_becomes_34 (by decide) (fun _ => ?_) (fun _ => ?_)
    · refine k_aload_n (q := 0) C dX11_becomes_91 rfl rfl ?_
      refine k_dup C dX11_becomes_92 rfl ?_
      refine m_geti (kf := 5) (v := S.1 5) C mS_5 fl_11_96 rfl dX11_becomes_93 ?_
      refine k_iconst (v := 1) C dX11_becomes_96 rfl ?_
      refine k_isub C dX11_becomes_97 ?_
      refine m_puti (kf := 5) C mS_5 mP_5 fl_11_96 dX11_becomes_98 ?_
      refine Dk.loc [0, 1, 2, 3] rfl ?_
      exact kb_X11_becomes_B101 C _ _
    · refine k_aload_n (q := 0) C dX11_becomes_37 rfl rfl ?_
      refine m_geta (kf := 1) C mR_1 fl_11_13 dX11_becomes_38 ?_
      refine k_iload (q := 4) C dX11_becomes_41 rfl ?_
      refine k_iconst (v := 1) C dX11_becomes_43 rfl ?_
      refine k_isub C dX11_becomes_44 ?_
      refine k_aload_n (q := 0) C dX11_becomes_45 rfl rfl ?_
      refine m_geta (kf := 1) C mR_1 fl_11_13 dX11_becomes_46 ?_
      refine k_iload (q := 4) C dX11_becomes_49 rfl ?_
      refine m_iald (x := S.2.1 1 (x4).toNatClampNeg) C mA_1 mN_1 rfl dX11_becomes_51 ?_
      refine m_iast C mA_1 mN_1 dX11_becomes_52 ?_
      refine k_aload_n (q := 0) C dX11_becomes_53 rfl rfl ?_
      refine m_geta (kf := 2) C mR_2 fl_11_16 dX11_becomes_54 ?_
      refine k_iload (q := 4) C dX11_becomes_57 rfl ?_
      refine k_iconst (v := 1) C dX11_becomes_59 rfl ?_
      refine k_isub C dX11_becomes_60 ?_
      refine k_aload_n (q := 0) C dX11_becomes_61 rfl rfl ?_
      refine m_geta (kf := 2) C mR_2 fl_11_16 dX11_becomes_62 ?_
      refine k_iload (q := 4) C dX11_becomes_65 rfl ?_
      refine m_iald (x := S.2.1 2 (x4).toNatClampNeg) C mA_2 mN_2 rfl dX11_becomes_67 ?_
      refine m_iast C mA_2 mN_2 dX11_becomes_68 ?_
      refine k_aload_n (q := 0) C dX11_becomes_69 rfl rfl ?_
      refine m_geta (kf := 3) C mR_3 fl_11_19 dX11_becomes_70 ?_
      refine k_iload (q := 4) C dX11_becomes_73 rfl ?_
      refine k_iconst (v := 1) C dX11_becomes_75 rfl ?_
      refine k_isub C dX11_becomes_76 ?_
      refine k_aload_n (q := 0) C dX11_becomes_77 rfl rfl ?_
      refine m_geta (kf := 3) C mR_3 fl_11_19 dX11_becomes_78 ?_
      refine k_iload (q := 4) C dX11_becomes_81 rfl ?_
      refine m_iald (x := S.2.1 3 (x4).toNatClampNeg) C mA_3 mN_3 rfl dX11_becomes_83 ?_
      refine m_iast C mA_3 mN_3 dX11_becomes_84 ?_
      refine k_iinc (q := 4) (v := x4 + 1) (lv' := [(4, .int (x4 + 1)), (0, .ref (ad 44)), (1, .int a1), (2, .int a2), (3, .int x3)]) C dX11_becomes_85 rfl rfl (Nat.le_of_ble_eq_true rfl) rfl ?_
      refine k_goto (tgt := 30) C dX11_becomes_88 (by decide) ?_
      refine Dk.loc [1, 2, 3, 4, 0] rfl ?_
      exact ih _ _ _
set_option maxRecDepth 20000 in
theorem kw_X11_becomes {X : GX} {θ : TH} {ad : Nat → Nat} {F : Nat} {S : St} {a1 : Int32} {a2 : Int32} (C : CX (mE X θ (wdM θ ad S) 5) RX11 cX11_becomes (some .int) 1 0 0)  : Dk (mE X θ (wdM θ ad S) 5) (mT X θ (wdM θ ad S) 5 (PIS (wdM θ ad))) 0 0 (wdM θ ad S) [(0, .ref (ad 44)), (1, .int a1), (2, .int a2)] [] 0 (f_X11_becomes F S a1 a2) := by
  unfold f_X11_becomes
  refine k_aload_n (q := 0) C dX11_becomes_0 rfl rfl ?_
  refine m_geta (kf := 0) C mR_0 fl_11_9 dX11_becomes_1 ?_
  refine k_iload_n (q := 1) C dX11_becomes_4 rfl rfl ?_
  refine m_iald (x := S.2.1 0 (a1).toNatClampNeg) C mA_0 mN_0 rfl dX11_becomes_5 ?_
  refine k_lti fun y1 => ?_
  refine k_istore_n (lv' := [(3, .int y1), (0, .ref (ad 44)), (1, .int a1), (2, .int a2)]) C dX11_becomes_6 rfl (Nat.le_of_ble_eq_true rfl) rfl ?_
  refine k_iload_n (q := 0) C dX11_becomes_7 rfl rfl ?_
  refine k_iload_n (q := 3) C dX11_becomes_8 rfl rfl ?_
  refine k_icmp_ne (tgt := 14) C dX11_becomes_9 (by decide) (fun _ => ?_) (fun _ => ?_)
  · refine k_aload_n (q := 1) C dX11_becomes_14 rfl rfl ?_
    refine k_cVV C ct_X11_forgets my_11_forgets ml_11_93 rfl ⟨Nat.le_of_ble_eq_true rfl, Nat.le_of_ble_eq_true rfl⟩ recvM rfl (Nat.le_of_ble_eq_true rfl) dX11_becomes_15 ⟨Nat.le_refl _, Nat.le_refl _⟩ (fun r2 _ => ?_)
    refine k_aload_n (q := 1) C dX11_becomes_18 rfl rfl ?_
    refine m_geti (kf := 5) (v := r2.1 5) C mS_5 fl_11_96 rfl dX11_becomes_19 ?_
    refine k_bipush (v := 40) C dX11_becomes_22 rfl ?_
    refine k_icmp_ne (tgt := 101) C dX11_becomes_24 (by decide) (fun _ => ?_) (fun _ => ?_)
    · refine Dk.loc [1, 2, 3, 0] rfl ?_
      exact kb_X11_becomes_B101 C _ _
    · refine k_iconst (v := 1) C dX11_becomes_27 rfl ?_
      refine k_istore (lv' := [(4, .int 1), (3, .int y1), (0, .ref (ad 44)), (1, .int a1), (2, .int a2)]) C dX11_becomes_28 (Nat.le_of_ble_eq_true rfl) rfl ?_
      refine Dk.loc [2, 3, 4, 1, 0] rfl ?_
      exact kb_X11_becomes_L30 C _ _ _ _
  · refine k_iload_n (q := 0) C dX11_becomes_12 rfl rfl ?_
    exact k_iret C rfl ⟨rfl, rfl⟩ dX11_becomes_13
theorem ct_X11_becomes {l : Launch} {θ : TH} {ad : Nat → Nat} {S : St} {F : Nat} {a1 : Int32} {a2 : Int32} : ∀ r, f_X11_becomes F S a1 a2 = some r → Ct l θ yX11_becomes cX11_becomes 5 (some .int) 1 0 0 [.ref (ad 44), .int a1, .int a2] (wdM θ ad S) (PIS (wdM θ ad) r) :=
  fun r hr => Ct.of (by decide) (Nat.le_of_ble_eq_true rfl) (fun X _ C _ => kw_X11_becomes C r hr)
set_option maxRecDepth 20000 in
theorem kw_X11_undo {X : GX} {θ : TH} {ad : Nat → Nat} {F : Nat} {S : St}  (C : CX (mE X θ (wdM θ ad S) 1) RX11 cX11_undo (some .int) 1 0 0)  : Dk (mE X θ (wdM θ ad S) 1) (mT X θ (wdM θ ad S) 1 (PIS (wdM θ ad))) 0 0 (wdM θ ad S) [(0, .ref (ad 44))] [] 0 (f_X11_undo F S) := by
  unfold f_X11_undo
  refine k_aload_n (q := 0) C dX11_undo_0 rfl rfl ?_
  refine m_geti (kf := 5) (v := S.1 5) C mS_5 fl_11_96 rfl dX11_undo_1 ?_
  refine k_if_ne (tgt := 10) C dX11_undo_4 (by decide) (fun _ => ?_) (fun _ => ?_)
  · refine k_aload_n (q := 0) C dX11_undo_10 rfl rfl ?_
    refine k_dup C dX11_undo_11 rfl ?_
    refine m_geti (kf := 5) (v := S.1 5) C mS_5 fl_11_96 rfl dX11_undo_12 ?_
    refine k_iconst (v := 1) C dX11_undo_15 rfl ?_
    refine k_isub C dX11_undo_16 ?_
    refine m_puti (kf := 5) C mS_5 mP_5 fl_11_96 dX11_undo_17 ?_
    refine k_aload_n (q := 0) C dX11_undo_20 rfl rfl ?_
    refine k_cVV C ct_X11_forgets my_11_forgets ml_11_93 rfl ⟨Nat.le_of_ble_eq_true rfl, Nat.le_of_ble_eq_true rfl⟩ recvM rfl (Nat.le_of_ble_eq_true rfl) dX11_undo_21 ⟨Nat.le_refl _, Nat.le_refl _⟩ (fun r1 _ => ?_)
    refine k_aload_n (q := 0) C dX11_undo_24 rfl rfl ?_
    refine m_geta (kf := 0) C mR_0 fl_11_9 dX11_undo_25 ?_
    refine k_aload_n (q := 0) C dX11_undo_28 rfl rfl ?_
    refine m_geta (kf := 1) C mR_1 fl_11_13 dX11_undo_29 ?_
    refine k_aload_n (q := 0) C dX11_undo_32 rfl rfl ?_
    refine m_geti (kf := 5) (v := r1.1 5) C mS_5 fl_11_96 rfl dX11_undo_33 ?_
    refine m_iald (x := r1.2.1 1 (r1.1 5).toNatClampNeg) C mA_1 mN_1 rfl dX11_undo_36 ?_
    refine k_aload_n (q := 0) C dX11_undo_37 rfl rfl ?_
    refine m_geta (kf := 2) C mR_2 fl_11_16 dX11_undo_38 ?_
    refine k_aload_n (q := 0) C dX11_undo_41 rfl rfl ?_
    refine m_geti (kf := 5) (v := r1.1 5) C mS_5 fl_11_96 rfl dX11_undo_42 ?_
    refine m_iald (x := r1.2.1 2 (r1.1 5).toNatClampNeg) C mA_2 mN_2 rfl dX11_undo_45 ?_
    refine m_iast C mA_0 mN_0 dX11_undo_46 ?_
    refine k_aload_n (q := 0) C dX11_undo_47 rfl rfl ?_
    refine m_geti (kf := 5) (v := r1.1 5) C mS_5 fl_11_96 rfl dX11_undo_48 ?_
    exact k_iret C rfl ⟨rfl, rfl⟩ dX11_undo_51
  · refine k_bipush (v := (-5)) C dX11_undo_7 rfl ?_
    exact k_iret C rfl ⟨rfl, rfl⟩ dX11_undo_9
theorem ct_X11_undo {l : Launch} {θ : TH} {ad : Nat → Nat} {S : St} {F : Nat}  : ∀ r, f_X11_undo F S = some r → Ct l θ yX11_undo cX11_undo 1 (some .int) 1 0 0 [.ref (ad 44)] (wdM θ ad S) (PIS (wdM θ ad) r) :=
  fun r hr => Ct.of (by decide) (Nat.le_of_ble_eq_true rfl) (fun X _ C _ => kw_X11_undo C r hr)
set_option maxRecDepth 20000 in
theorem kw_X11_redo {X : GX} {θ : TH} {ad : Nat → Nat} {F : Nat} {S : St}  (C : CX (mE X θ (wdM θ ad S) 1) RX11 cX11_redo (some .int) 1 0 0)  : Dk (mE X θ (wdM θ ad S) 1) (mT X θ (wdM θ ad S) 1 (PIS (wdM θ ad))) 0 0 (wdM θ ad S) [(0, .ref (ad 44))] [] 0 (f_X11_redo F S) := by
  unfold f_X11_redo
  refine k_aload_n (q := 0) C dX11_redo_0 rfl rfl ?_
  refine m_geti (kf := 5) (v := S.1 5) C mS_5 fl_11_96 rfl dX11_redo_1 ?_
  refine k_aload_n (q := 0) C dX11_redo_4 rfl rfl ?_
  refine m_geti (kf := 4) (v := S.1 4) C mS_4 fl_11_100 rfl dX11_redo_5 ?_
  refine k_icmp_ne (tgt := 14) C dX11_redo_8 (by decide) (fun _ => ?_) (fun _ => ?_)
  · refine k_aload_n (q := 0) C dX11_redo_14 rfl rfl ?_
    refine m_geta (kf := 0) C mR_0 fl_11_9 dX11_redo_15 ?_
    refine k_aload_n (q := 0) C dX11_redo_18 rfl rfl ?_
    refine m_geta (kf := 1) C mR_1 fl_11_13 dX11_redo_19 ?_
    refine k_aload_n (q := 0) C dX11_redo_22 rfl rfl ?_
    refine m_geti (kf := 5) (v := S.1 5) C mS_5 fl_11_96 rfl dX11_redo_23 ?_
    refine m_iald (x := S.2.1 1 (S.1 5).toNatClampNeg) C mA_1 mN_1 rfl dX11_redo_26 ?_
    refine k_aload_n (q := 0) C dX11_redo_27 rfl rfl ?_
    refine m_geta (kf := 3) C mR_3 fl_11_19 dX11_redo_28 ?_
    refine k_aload_n (q := 0) C dX11_redo_31 rfl rfl ?_
    refine m_geti (kf := 5) (v := S.1 5) C mS_5 fl_11_96 rfl dX11_redo_32 ?_
    refine m_iald (x := S.2.1 3 (S.1 5).toNatClampNeg) C mA_3 mN_3 rfl dX11_redo_35 ?_
    refine m_iast C mA_0 mN_0 dX11_redo_36 ?_
    refine k_aload_n (q := 0) C dX11_redo_37 rfl rfl ?_
    refine k_dup C dX11_redo_38 rfl ?_
    refine m_geti (kf := 5) (v := S.1 5) C mS_5 fl_11_96 rfl dX11_redo_39 ?_
    refine k_iconst (v := 1) C dX11_redo_42 rfl ?_
    refine k_iadd C dX11_redo_43 ?_
    refine m_puti (kf := 5) C mS_5 mP_5 fl_11_96 dX11_redo_44 ?_
    refine k_aload_n (q := 0) C dX11_redo_47 rfl rfl ?_
    refine k_cVV C ct_X11_forgets my_11_forgets ml_11_93 rfl ⟨Nat.le_of_ble_eq_true rfl, Nat.le_of_ble_eq_true rfl⟩ recvM rfl (Nat.le_of_ble_eq_true rfl) dX11_redo_48 ⟨Nat.le_refl _, Nat.le_refl _⟩ (fun r1 _ => ?_)
    refine k_aload_n (q := 0) C dX11_redo_51 rfl rfl ?_
    refine m_geti (kf := 4) (v := r1.1 4) C mS_4 fl_11_100 rfl dX11_redo_52 ?_
    refine k_aload_n (q := 0) C dX11_redo_55 rfl rfl ?_
    refine m_geti (kf := 5) (v := r1.1 5) C mS_5 fl_11_96 rfl dX11_redo_56 ?_
    refine k_isub C dX11_redo_59 ?_
    exact k_iret C rfl ⟨rfl, rfl⟩ dX11_redo_60
  · refine k_bipush (v := (-5)) C dX11_redo_11 rfl ?_
    exact k_iret C rfl ⟨rfl, rfl⟩ dX11_redo_13
theorem ct_X11_redo {l : Launch} {θ : TH} {ad : Nat → Nat} {S : St} {F : Nat}  : ∀ r, f_X11_redo F S = some r → Ct l θ yX11_redo cX11_redo 1 (some .int) 1 0 0 [.ref (ad 44)] (wdM θ ad S) (PIS (wdM θ ad) r) :=
  fun r hr => Ct.of (by decide) (Nat.le_of_ble_eq_true rfl) (fun X _ C _ => kw_X11_redo C r hr)
set_option maxRecDepth 20000 in
theorem kw_X11_isMoon {X : GX} {θ : TH} {ad : Nat → Nat}  {S : St} {a1 : Int32} (C : CX (mE X θ (wdM θ ad S) 2) RX11 cX11_isMoon (some .boolean) 1 0 0)  : Dk (mE X θ (wdM θ ad S) 2) (mT X θ (wdM θ ad S) 2 (PI (wdM θ ad S))) 0 0 (wdM θ ad S) [(0, .ref (ad 44)), (1, .int a1)] [] 0 (f_X11_isMoon S a1) := by
  unfold f_X11_isMoon
  refine k_iload_n (q := 1) C dX11_isMoon_0 rfl rfl ?_
  refine k_i2l C dX11_isMoon_1 ?_
  refine k_lconst (v := 0) C dX11_isMoon_2 rfl ?_
  refine k_aload_n (q := 0) C dX11_isMoon_3 rfl rfl ?_
  refine m_geti (kf := 6) (v := S.1 6) C mS_6 fl_11_103 rfl dX11_isMoon_4 ?_
  refine k_iconst (v := 1) C dX11_isMoon_7 rfl ?_
  refine k_isub C dX11_isMoon_8 ?_
  refine k_i2l C dX11_isMoon_9 ?_
  refine k_cSI C ct_X11_within my_11_within ml_11_106 rfl ⟨Nat.le_of_ble_eq_true rfl, Nat.le_of_ble_eq_true rfl⟩ rfl (Nat.le_of_ble_eq_true rfl) dX11_isMoon_10 ⟨Nat.le_refl _, Nat.le_refl _⟩ (fun r1 _ => ?_)
  exact k_zretc C ⟨rfl, rfl⟩ dX11_isMoon_13
theorem ct_X11_isMoon {l : Launch} {θ : TH} {ad : Nat → Nat} {S : St}  {a1 : Int32} : ∀ r, f_X11_isMoon S a1 = some r → Ct l θ yX11_isMoon cX11_isMoon 2 (some .boolean) 1 0 0 [.ref (ad 44), .int a1] (wdM θ ad S) (PI (wdM θ ad S) r) :=
  fun r hr => Ct.of (by decide) (Nat.le_of_ble_eq_true rfl) (fun X _ C _ => kw_X11_isMoon C r hr)
set_option maxRecDepth 20000 in
theorem kw_X11_isValley {X : GX} {θ : TH} {ad : Nat → Nat}  {S : St} {a1 : Int32} (C : CX (mE X θ (wdM θ ad S) 2) RX11 cX11_isValley (some .boolean) 1 0 0)  : Dk (mE X θ (wdM θ ad S) 2) (mT X θ (wdM θ ad S) 2 (PI (wdM θ ad S))) 0 0 (wdM θ ad S) [(0, .ref (ad 44)), (1, .int a1)] [] 0 (f_X11_isValley S a1) := by
  unfold f_X11_isValley
  refine k_iload_n (q := 1) C dX11_isValley_0 rfl rfl ?_
  refine k_i2l C dX11_isValley_1 ?_
  refine k_lconst (v := 0) C dX11_isValley_2 rfl ?_
  refine k_aload_n (q := 0) C dX11_isValley_3 rfl rfl ?_
  refine m_geti (kf := 8) (v := S.1 8) C mS_8 fl_11_110 rfl dX11_isValley_4 ?_
  refine k_iconst (v := 1) C dX11_isValley_7 rfl ?_
  refine k_isub C dX11_isValley_8 ?_
  refine k_i2l C dX11_isValley_9 ?_
  refine k_cSI C ct_X11_within my_11_within ml_11_106 rfl ⟨Nat.le_of_ble_eq_true rfl, Nat.le_of_ble_eq_true rfl⟩ rfl (Nat.le_of_ble_eq_true rfl) dX11_isValley_10 ⟨Nat.le_refl _, Nat.le_refl _⟩ (fun r1 _ => ?_)
  exact k_zretc C ⟨rfl, rfl⟩ dX11_isValley_13
theorem ct_X11_isValley {l : Launch} {θ : TH} {ad : Nat → Nat} {S : St}  {a1 : Int32} : ∀ r, f_X11_isValley S a1 = some r → Ct l θ yX11_isValley cX11_isValley 2 (some .boolean) 1 0 0 [.ref (ad 44), .int a1] (wdM θ ad S) (PI (wdM θ ad S) r) :=
  fun r hr => Ct.of (by decide) (Nat.le_of_ble_eq_true rfl) (fun X _ C _ => kw_X11_isValley C r hr)
set_option maxRecDepth 20000 in
theorem kw_X11_isHour {X : GX} {θ : TH} {ws : va_W}   {a1 : Int32} (C : CX (mE X θ (ws) 1) RX11 cX11_isHour (some .boolean) 1 0 0)  : Dk (mE X θ (ws) 1) (mT X θ (ws) 1 (PI ws)) 0 0 ws [(0, .int a1)] [] 0 (f_X11_isHour a1) := by
  unfold f_X11_isHour
  refine k_iload_n (q := 0) C dX11_isHour_0 rfl rfl ?_
  refine k_i2l C dX11_isHour_1 ?_
  refine k_lconst (v := 0) C dX11_isHour_2 rfl ?_
  refine k_ldc2 C co_11_113 dX11_isHour_3 ?_
  refine k_cSI C ct_X11_within my_11_within ml_11_106 rfl ⟨Nat.le_of_ble_eq_true rfl, Nat.le_of_ble_eq_true rfl⟩ rfl (Nat.le_of_ble_eq_true rfl) dX11_isHour_6 ⟨Nat.le_refl _, Nat.le_refl _⟩ (fun r1 _ => ?_)
  exact k_zretc C ⟨rfl, rfl⟩ dX11_isHour_9
theorem ct_X11_isHour {l : Launch} {θ : TH} {ws : va_W}  {a1 : Int32} : ∀ r, f_X11_isHour a1 = some r → Ct l θ yX11_isHour cX11_isHour 1 (some .boolean) 1 0 0 [.int a1] (ws) (PI ws r) :=
  fun r hr => Ct.of (by decide) (Nat.le_of_ble_eq_true rfl) (fun X _ C _ => kw_X11_isHour C r hr)
set_option maxRecDepth 20000 in
theorem kw_X11_moon {X : GX} {θ : TH} {ad : Nat → Nat}  {S : St} {a1 : Int32} {a2 : Int32} (C : CX (mE X θ (wdM θ ad S) 3) RX11 cX11_moon (some .int) 1 0 0)  : Dk (mE X θ (wdM θ ad S) 3) (mT X θ (wdM θ ad S) 3 (PIS (wdM θ ad))) 0 0 (wdM θ ad S) [(0, .ref (ad 44)), (1, .int a1), (2, .int a2)] [] 0 (f_X11_moon S a1 a2) := by
  unfold f_X11_moon
  refine k_iload_n (q := 1) C dX11_moon_0 rfl rfl ?_
  refine k_i2l C dX11_moon_1 ?_
  refine k_ldc2 C co_11_115 dX11_moon_2 ?_
  refine k_ldc2 C co_11_117 dX11_moon_5 ?_
  refine k_cSI C ct_X11_within my_11_within ml_11_106 rfl ⟨Nat.le_of_ble_eq_true rfl, Nat.le_of_ble_eq_true rfl⟩ rfl (Nat.le_of_ble_eq_true rfl) dX11_moon_8 ⟨Nat.le_refl _, Nat.le_refl _⟩ (fun r1 _ => ?_)
  refine k_if_eq (tgt := 36) C dX11_moon_11 (by decide) (fun _ => ?_) (fun _ => ?_)
  · refine k_iconst (v := (-1)) C dX11_moon_36 rfl ?_
    exact k_iret C rfl ⟨rfl, rfl⟩ dX11_moon_37
  · refine k_iload_n (q := 2) C dX11_moon_14 rfl rfl ?_
    refine k_if_lt (tgt := 36) C dX11_moon_15 (by decide) (fun _ => ?_) (fun _ => ?_)
    · refine k_iconst (v := (-1)) C dX11_moon_36 rfl ?_
      exact k_iret C rfl ⟨rfl, rfl⟩ dX11_moon_37
    · refine k_iload_n (q := 2) C dX11_moon_18 rfl rfl ?_
      refine k_sipush (v := 1000) C dX11_moon_19 rfl ?_
      refine k_idiv C dX11_moon_22 (by decide) ?_
      refine k_iload_n (q := 1) C dX11_moon_23 rfl rfl ?_
      refine k_icmp_gt (tgt := 36) C dX11_moon_24 (by decide) (fun _ => ?_) (fun _ => ?_)
      · refine k_iconst (v := (-1)) C dX11_moon_36 rfl ?_
        exact k_iret C rfl ⟨rfl, rfl⟩ dX11_moon_37
      · refine k_iload_n (q := 2) C dX11_moon_27 rfl rfl ?_
        refine k_sipush (v := 1000) C dX11_moon_28 rfl ?_
        refine k_irem C dX11_moon_31 (by decide) ?_
        refine k_iload_n (q := 1) C dX11_moon_32 rfl rfl ?_
        refine k_icmp_lt (tgt := 38) C dX11_moon_33 (by decide) (fun _ => ?_) (fun _ => ?_)
        · refine k_aload_n (q := 0) C dX11_moon_38 rfl rfl ?_
          refine m_geti (kf := 6) (v := S.1 6) C mS_6 fl_11_103 rfl dX11_moon_39 ?_
          refine k_iconst (v := 3) C dX11_moon_42 rfl ?_
          refine k_icmp_ne (tgt := 49) C dX11_moon_43 (by decide) (fun _ => ?_) (fun _ => ?_)
          · refine k_aload_n (q := 0) C dX11_moon_49 rfl rfl ?_
            refine m_geta (kf := 7) C mR_7 fl_11_22 dX11_moon_50 ?_
            refine k_aload_n (q := 0) C dX11_moon_53 rfl rfl ?_
            refine m_geti (kf := 6) (v := S.1 6) C mS_6 fl_11_103 rfl dX11_moon_54 ?_
            refine k_iload_n (q := 1) C dX11_moon_57 rfl rfl ?_
            refine m_iast C mA_7 mN_7 dX11_moon_58 ?_
            refine k_aload_n (q := 0) C dX11_moon_59 rfl rfl ?_
            refine m_geta (kf := 0) C mR_0 fl_11_9 dX11_moon_60 ?_
            refine k_aload_n (q := 0) C dX11_moon_63 rfl rfl ?_
            refine m_geti (kf := 6) (v := S.1 6) C mS_6 fl_11_103 rfl dX11_moon_64 ?_
            refine k_iload_n (q := 2) C dX11_moon_67 rfl rfl ?_
            refine k_sipush (v := 1000) C dX11_moon_68 rfl ?_
            refine k_idiv C dX11_moon_71 (by decide) ?_
            refine m_iast C mA_0 mN_0 dX11_moon_72 ?_
            refine k_aload_n (q := 0) C dX11_moon_73 rfl rfl ?_
            refine m_geta (kf := 0) C mR_0 fl_11_9 dX11_moon_74 ?_
            refine k_iconst (v := 3) C dX11_moon_77 rfl ?_
            refine k_aload_n (q := 0) C dX11_moon_78 rfl rfl ?_
            refine m_geti (kf := 6) (v := S.1 6) C mS_6 fl_11_103 rfl dX11_moon_79 ?_
            refine k_iadd C dX11_moon_82 ?_
            refine k_iload_n (q := 2) C dX11_moon_83 rfl rfl ?_
            refine k_sipush (v := 1000) C dX11_moon_84 rfl ?_
            refine k_irem C dX11_moon_87 (by decide) ?_
            refine m_iast C mA_0 mN_0 dX11_moon_88 ?_
            refine k_aload_n (q := 0) C dX11_moon_89 rfl rfl ?_
            refine k_dup C dX11_moon_90 rfl ?_
            refine m_geti (kf := 6) (v := S.1 6) C mS_6 fl_11_103 rfl dX11_moon_91 ?_
            refine k_iconst (v := 1) C dX11_moon_94 rfl ?_
            refine k_iadd C dX11_moon_95 ?_
            refine m_puti (kf := 6) C mS_6 mP_6 fl_11_103 dX11_moon_96 ?_
            refine k_aload_n (q := 0) C dX11_moon_99 rfl rfl ?_
            refine m_geti (kf := 6) (v := (S.1 6) + 1) C mS_6 fl_11_103 rfl dX11_moon_100 ?_
            refine k_iconst (v := 1) C dX11_moon_103 rfl ?_
            refine k_isub C dX11_moon_104 ?_
            exact k_iret C rfl ⟨rfl, rfl⟩ dX11_moon_105
          · refine k_bipush (v := (-3)) C dX11_moon_46 rfl ?_
            exact k_iret C rfl ⟨rfl, rfl⟩ dX11_moon_48
        · refine k_iconst (v := (-1)) C dX11_moon_36 rfl ?_
          exact k_iret C rfl ⟨rfl, rfl⟩ dX11_moon_37
theorem ct_X11_moon {l : Launch} {θ : TH} {ad : Nat → Nat} {S : St}  {a1 : Int32} {a2 : Int32} : ∀ r, f_X11_moon S a1 a2 = some r → Ct l θ yX11_moon cX11_moon 3 (some .int) 1 0 0 [.ref (ad 44), .int a1, .int a2] (wdM θ ad S) (PIS (wdM θ ad) r) :=
  fun r hr => Ct.of (by decide) (Nat.le_of_ble_eq_true rfl) (fun X _ C _ => kw_X11_moon C r hr)
set_option maxRecDepth 20000 in
theorem kw_X11_valley {X : GX} {θ : TH} {ad : Nat → Nat}  {S : St}  (C : CX (mE X θ (wdM θ ad S) 1) RX11 cX11_valley (some .int) 0 0 0)  : Dk (mE X θ (wdM θ ad S) 1) (mT X θ (wdM θ ad S) 1 (PIS (wdM θ ad))) 0 0 (wdM θ ad S) [(0, .ref (ad 44))] [] 0 (f_X11_valley S) := by
  unfold f_X11_valley
  refine k_aload_n (q := 0) C dX11_valley_0 rfl rfl ?_
  refine m_geti (kf := 8) (v := S.1 8) C mS_8 fl_11_110 rfl dX11_valley_1 ?_
  refine k_iconst (v := 5) C dX11_valley_4 rfl ?_
  refine k_icmp_ne (tgt := 11) C dX11_valley_5 (by decide) (fun _ => ?_) (fun _ => ?_)
  · refine k_aload_n (q := 0) C dX11_valley_11 rfl rfl ?_
    refine k_dup C dX11_valley_12 rfl ?_
    refine m_geti (kf := 8) (v := S.1 8) C mS_8 fl_11_110 rfl dX11_valley_13 ?_
    refine k_iconst (v := 1) C dX11_valley_16 rfl ?_
    refine k_iadd C dX11_valley_17 ?_
    refine m_puti (kf := 8) C mS_8 mP_8 fl_11_110 dX11_valley_18 ?_
    refine k_aload_n (q := 0) C dX11_valley_21 rfl rfl ?_
    refine m_geti (kf := 8) (v := (S.1 8) + 1) C mS_8 fl_11_110 rfl dX11_valley_22 ?_
    refine k_iconst (v := 1) C dX11_valley_25 rfl ?_
    refine k_isub C dX11_valley_26 ?_
    exact k_iret C rfl ⟨rfl, rfl⟩ dX11_valley_27
  · refine k_bipush (v := (-3)) C dX11_valley_8 rfl ?_
    exact k_iret C rfl ⟨rfl, rfl⟩ dX11_valley_10
theorem ct_X11_valley {l : Launch} {θ : TH} {ad : Nat → Nat} {S : St}   : ∀ r, f_X11_valley S = some r → Ct l θ yX11_valley cX11_valley 1 (some .int) 0 0 0 [.ref (ad 44)] (wdM θ ad S) (PIS (wdM θ ad) r) :=
  fun r hr => Ct.of (by decide) (Nat.le_of_ble_eq_true rfl) (fun X _ C _ => kw_X11_valley C r hr)
set_option maxRecDepth 20000 in
theorem kw_X11_hills {X : GX} {θ : TH} {ad : Nat → Nat}  {S : St} {a1 : Int32} {a2 : Int32} (C : CX (mE X θ (wdM θ ad S) 5) RX11 cX11_hills (some .int) 2 0 0)  : Dk (mE X θ (wdM θ ad S) 5) (mT X θ (wdM θ ad S) 5 (PIS (wdM θ ad))) 0 0 (wdM θ ad S) [(0, .ref (ad 44)), (1, .int a1), (2, .int a2)] [] 0 (f_X11_hills S a1 a2) := by
  unfold f_X11_hills
  refine k_iload_n (q := 1) C dX11_hills_0 rfl rfl ?_
  refine k_if_lt (tgt := 38) C dX11_hills_1 (by decide) (fun _ => ?_) (fun _ => ?_)
  · refine k_iconst (v := (-1)) C dX11_hills_38 rfl ?_
    exact k_iret C rfl ⟨rfl, rfl⟩ dX11_hills_39
  · refine k_aload_n (q := 0) C dX11_hills_4 rfl rfl ?_
    refine k_iload_n (q := 1) C dX11_hills_5 rfl rfl ?_
    refine k_bipush (v := 10) C dX11_hills_6 rfl ?_
    refine k_idiv C dX11_hills_8 (by decide) ?_
    refine k_cVI C ct_X11_isValley my_11_isValley ml_11_119 rfl ⟨Nat.le_of_ble_eq_true rfl, Nat.le_of_ble_eq_true rfl⟩ recvM rfl (Nat.le_of_ble_eq_true rfl) dX11_hills_9 ⟨Nat.le_refl _, Nat.le_refl _⟩ (fun r1 _ => ?_)
    refine k_if_eq (tgt := 38) C dX11_hills_12 (by decide) (fun _ => ?_) (fun _ => ?_)
    · refine k_iconst (v := (-1)) C dX11_hills_38 rfl ?_
      exact k_iret C rfl ⟨rfl, rfl⟩ dX11_hills_39
    · refine k_aload_n (q := 0) C dX11_hills_15 rfl rfl ?_
      refine k_iload_n (q := 1) C dX11_hills_16 rfl rfl ?_
      refine k_bipush (v := 10) C dX11_hills_17 rfl ?_
      refine k_irem C dX11_hills_19 (by decide) ?_
      refine k_cVI C ct_X11_isMoon my_11_isMoon ml_11_123 rfl ⟨Nat.le_of_ble_eq_true rfl, Nat.le_of_ble_eq_true rfl⟩ recvM rfl (Nat.le_of_ble_eq_true rfl) dX11_hills_20 ⟨Nat.le_refl _, Nat.le_refl _⟩ (fun r2 _ => ?_)
      refine k_if_eq (tgt := 38) C dX11_hills_23 (by decide) (fun _ => ?_) (fun _ => ?_)
      · refine k_iconst (v := (-1)) C dX11_hills_38 rfl ?_
        exact k_iret C rfl ⟨rfl, rfl⟩ dX11_hills_39
      · refine k_iload_n (q := 2) C dX11_hills_26 rfl rfl ?_
        refine k_i2l C dX11_hills_27 ?_
        refine k_lconst (v := 0) C dX11_hills_28 rfl ?_
        refine k_ldc2 C co_11_126 dX11_hills_29 ?_
        refine k_cSI C ct_X11_within my_11_within ml_11_106 rfl ⟨Nat.le_of_ble_eq_true rfl, Nat.le_of_ble_eq_true rfl⟩ rfl (Nat.le_of_ble_eq_true rfl) dX11_hills_32 ⟨Nat.le_refl _, Nat.le_refl _⟩ (fun r3 _ => ?_)
        refine k_if_ne (tgt := 40) C dX11_hills_35 (by decide) (fun _ => ?_) (fun _ => ?_)
        · refine k_iconst (v := 3) C dX11_hills_40 rfl ?_
          refine k_iload_n (q := 1) C dX11_hills_41 rfl rfl ?_
          refine k_bipush (v := 10) C dX11_hills_42 rfl ?_
          refine k_idiv C dX11_hills_44 (by decide) ?_
          refine k_imul C dX11_hills_45 ?_
          refine k_iload_n (q := 1) C dX11_hills_46 rfl rfl ?_
          refine k_bipush (v := 10) C dX11_hills_47 rfl ?_
          refine k_irem C dX11_hills_49 (by decide) ?_
          refine k_iadd C dX11_hills_50 ?_
          refine k_lti fun y4 => ?_
          refine k_istore_n (lv' := [(3, .int y4), (0, .ref (ad 44)), (1, .int a1), (2, .int a2)]) C dX11_hills_51 rfl (Nat.le_of_ble_eq_true rfl) rfl ?_
          refine k_bipush (v := 100) C dX11_hills_52 rfl ?_
          refine k_aload_n (q := 1) C dX11_hills_54 rfl rfl ?_
          refine m_geta (kf := 9) C mR_9 fl_11_25 dX11_hills_55 ?_
          refine k_iload_n (q := 0) C dX11_hills_58 rfl rfl ?_
          refine m_iald (x := S.2.1 9 (y4).toNatClampNeg) C mA_9 mN_9 rfl dX11_hills_59 ?_
          refine k_imul C dX11_hills_60 ?_
          refine k_aload_n (q := 1) C dX11_hills_61 rfl rfl ?_
          refine m_geta (kf := 10) C mR_10 fl_11_28 dX11_hills_62 ?_
          refine k_iload_n (q := 0) C dX11_hills_65 rfl rfl ?_
          refine m_iald (x := S.2.1 10 (y4).toNatClampNeg) C mA_10 mN_10 rfl dX11_hills_66 ?_
          refine k_iadd C dX11_hills_67 ?_
          refine k_lti fun y5 => ?_
          refine k_istore (lv' := [(4, .int y5), (3, .int y4), (0, .ref (ad 44)), (1, .int a1), (2, .int a2)]) C dX11_hills_68 (Nat.le_of_ble_eq_true rfl) rfl ?_
          refine k_aload_n (q := 2) C dX11_hills_70 rfl rfl ?_
          refine m_geta (kf := 9) C mR_9 fl_11_25 dX11_hills_71 ?_
          refine k_iload_n (q := 1) C dX11_hills_74 rfl rfl ?_
          refine k_iload_n (q := 4) C dX11_hills_75 rfl rfl ?_
          refine k_bipush (v := 100) C dX11_hills_76 rfl ?_
          refine k_idiv C dX11_hills_78 (by decide) ?_
          refine m_iast C mA_9 mN_9 dX11_hills_79 ?_
          refine k_aload_n (q := 2) C dX11_hills_80 rfl rfl ?_
          refine m_geta (kf := 10) C mR_10 fl_11_28 dX11_hills_81 ?_
          refine k_iload_n (q := 1) C dX11_hills_84 rfl rfl ?_
          refine k_iload_n (q := 4) C dX11_hills_85 rfl rfl ?_
          refine k_bipush (v := 100) C dX11_hills_86 rfl ?_
          refine k_irem C dX11_hills_88 (by decide) ?_
          refine m_iast C mA_10 mN_10 dX11_hills_89 ?_
          refine k_iload (q := 0) C dX11_hills_90 rfl ?_
          exact k_iret C rfl ⟨rfl, rfl⟩ dX11_hills_92
        · refine k_iconst (v := (-1)) C dX11_hills_38 rfl ?_
          exact k_iret C rfl ⟨rfl, rfl⟩ dX11_hills_39
theorem ct_X11_hills {l : Launch} {θ : TH} {ad : Nat → Nat} {S : St}  {a1 : Int32} {a2 : Int32} : ∀ r, f_X11_hills S a1 a2 = some r → Ct l θ yX11_hills cX11_hills 5 (some .int) 2 0 0 [.ref (ad 44), .int a1, .int a2] (wdM θ ad S) (PIS (wdM θ ad) r) :=
  fun r hr => Ct.of (by decide) (Nat.le_of_ble_eq_true rfl) (fun X _ C _ => kw_X11_hills C r hr)
set_option maxRecDepth 20000 in
theorem kw_X11_way {X : GX} {θ : TH} {ad : Nat → Nat}  {S : St} {a1 : Int32} {a2 : Int32} (C : CX (mE X θ (wdM θ ad S) 4) RX11 cX11_way (some .int) 2 0 0)  : Dk (mE X θ (wdM θ ad S) 4) (mT X θ (wdM θ ad S) 4 (PIS (wdM θ ad))) 0 0 (wdM θ ad S) [(0, .ref (ad 44)), (1, .int a1), (2, .int a2)] [] 0 (f_X11_way S a1 a2) := by
  unfold f_X11_way
  refine k_iload_n (q := 1) C dX11_way_0 rfl rfl ?_
  refine k_if_lt (tgt := 49) C dX11_way_1 (by decide) (fun _ => ?_) (fun _ => ?_)
  · refine k_iconst (v := (-1)) C dX11_way_49 rfl ?_
    exact k_iret C rfl ⟨rfl, rfl⟩ dX11_way_50
  · refine k_aload_n (q := 0) C dX11_way_4 rfl rfl ?_
    refine k_iload_n (q := 1) C dX11_way_5 rfl rfl ?_
    refine k_bipush (v := 10) C dX11_way_6 rfl ?_
    refine k_idiv C dX11_way_8 (by decide) ?_
    refine k_cVI C ct_X11_isValley my_11_isValley ml_11_119 rfl ⟨Nat.le_of_ble_eq_true rfl, Nat.le_of_ble_eq_true rfl⟩ recvM rfl (Nat.le_of_ble_eq_true rfl) dX11_way_9 ⟨Nat.le_refl _, Nat.le_refl _⟩ (fun r1 _ => ?_)
    refine k_if_eq (tgt := 49) C dX11_way_12 (by decide) (fun _ => ?_) (fun _ => ?_)
    · refine k_iconst (v := (-1)) C dX11_way_49 rfl ?_
      exact k_iret C rfl ⟨rfl, rfl⟩ dX11_way_50
    · refine k_aload_n (q := 0) C dX11_way_15 rfl rfl ?_
      refine k_iload_n (q := 1) C dX11_way_16 rfl rfl ?_
      refine k_bipush (v := 10) C dX11_way_17 rfl ?_
      refine k_irem C dX11_way_19 (by decide) ?_
      refine k_cVI C ct_X11_isValley my_11_isValley ml_11_119 rfl ⟨Nat.le_of_ble_eq_true rfl, Nat.le_of_ble_eq_true rfl⟩ recvM rfl (Nat.le_of_ble_eq_true rfl) dX11_way_20 ⟨Nat.le_refl _, Nat.le_refl _⟩ (fun r2 _ => ?_)
      refine k_if_eq (tgt := 49) C dX11_way_23 (by decide) (fun _ => ?_) (fun _ => ?_)
      · refine k_iconst (v := (-1)) C dX11_way_49 rfl ?_
        exact k_iret C rfl ⟨rfl, rfl⟩ dX11_way_50
      · refine k_iload_n (q := 1) C dX11_way_26 rfl rfl ?_
        refine k_bipush (v := 10) C dX11_way_27 rfl ?_
        refine k_idiv C dX11_way_29 (by decide) ?_
        refine k_iload_n (q := 1) C dX11_way_30 rfl rfl ?_
        refine k_bipush (v := 10) C dX11_way_31 rfl ?_
        refine k_irem C dX11_way_33 (by decide) ?_
        refine k_icmp_eq (tgt := 49) C dX11_way_34 (by decide) (fun _ => ?_) (fun _ => ?_)
        · refine k_iconst (v := (-1)) C dX11_way_49 rfl ?_
          exact k_iret C rfl ⟨rfl, rfl⟩ dX11_way_50
        · refine k_iload_n (q := 2) C dX11_way_37 rfl rfl ?_
          refine k_i2l C dX11_way_38 ?_
          refine k_lconst (v := 0) C dX11_way_39 rfl ?_
          refine k_ldc2 C co_11_128 dX11_way_40 ?_
          refine k_cSI C ct_X11_within my_11_within ml_11_106 rfl ⟨Nat.le_of_ble_eq_true rfl, Nat.le_of_ble_eq_true rfl⟩ rfl (Nat.le_of_ble_eq_true rfl) dX11_way_43 ⟨Nat.le_refl _, Nat.le_refl _⟩ (fun r3 _ => ?_)
          refine k_if_ne (tgt := 51) C dX11_way_46 (by decide) (fun _ => ?_) (fun _ => ?_)
          · refine k_aload_n (q := 0) C dX11_way_51 rfl rfl ?_
            refine m_geta (kf := 11) C mR_11 fl_11_31 dX11_way_52 ?_
            refine k_iconst (v := 5) C dX11_way_55 rfl ?_
            refine k_iload_n (q := 1) C dX11_way_56 rfl rfl ?_
            refine k_bipush (v := 10) C dX11_way_57 rfl ?_
            refine k_idiv C dX11_way_59 (by decide) ?_
            refine k_imul C dX11_way_60 ?_
            refine k_iload_n (q := 1) C dX11_way_61 rfl rfl ?_
            refine k_bipush (v := 10) C dX11_way_62 rfl ?_
            refine k_irem C dX11_way_64 (by decide) ?_
            refine k_iadd C dX11_way_65 ?_
            refine m_iald (x := S.2.1 11 ((5 * (a1 / 10)) + (jrem a1 10)).toNatClampNeg) C mA_11 mN_11 rfl dX11_way_66 ?_
            refine k_lti fun y4 => ?_
            refine k_istore_n (lv' := [(3, .int y4), (0, .ref (ad 44)), (1, .int a1), (2, .int a2)]) C dX11_way_67 rfl (Nat.le_of_ble_eq_true rfl) rfl ?_
            refine k_aload_n (q := 1) C dX11_way_68 rfl rfl ?_
            refine m_geta (kf := 11) C mR_11 fl_11_31 dX11_way_69 ?_
            refine k_iconst (v := 5) C dX11_way_72 rfl ?_
            refine k_iload_n (q := 2) C dX11_way_73 rfl rfl ?_
            refine k_bipush (v := 10) C dX11_way_74 rfl ?_
            refine k_idiv C dX11_way_76 (by decide) ?_
            refine k_imul C dX11_way_77 ?_
            refine k_iload_n (q := 2) C dX11_way_78 rfl rfl ?_
            refine k_bipush (v := 10) C dX11_way_79 rfl ?_
            refine k_irem C dX11_way_81 (by decide) ?_
            refine k_iadd C dX11_way_82 ?_
            refine k_iload_n (q := 3) C dX11_way_83 rfl rfl ?_
            refine m_iast C mA_11 mN_11 dX11_way_84 ?_
            refine k_aload_n (q := 1) C dX11_way_85 rfl rfl ?_
            refine m_geta (kf := 11) C mR_11 fl_11_31 dX11_way_86 ?_
            refine k_iconst (v := 5) C dX11_way_89 rfl ?_
            refine k_iload_n (q := 2) C dX11_way_90 rfl rfl ?_
            refine k_bipush (v := 10) C dX11_way_91 rfl ?_
            refine k_irem C dX11_way_93 (by decide) ?_
            refine k_imul C dX11_way_94 ?_
            refine k_iload_n (q := 2) C dX11_way_95 rfl rfl ?_
            refine k_bipush (v := 10) C dX11_way_96 rfl ?_
            refine k_idiv C dX11_way_98 (by decide) ?_
            refine k_iadd C dX11_way_99 ?_
            refine k_iload_n (q := 3) C dX11_way_100 rfl rfl ?_
            refine m_iast C mA_11 mN_11 dX11_way_101 ?_
            refine k_iload_n (q := 0) C dX11_way_102 rfl rfl ?_
            exact k_iret C rfl ⟨rfl, rfl⟩ dX11_way_103
          · refine k_iconst (v := (-1)) C dX11_way_49 rfl ?_
            exact k_iret C rfl ⟨rfl, rfl⟩ dX11_way_50
theorem ct_X11_way {l : Launch} {θ : TH} {ad : Nat → Nat} {S : St}  {a1 : Int32} {a2 : Int32} : ∀ r, f_X11_way S a1 a2 = some r → Ct l θ yX11_way cX11_way 4 (some .int) 2 0 0 [.ref (ad 44), .int a1, .int a2] (wdM θ ad S) (PIS (wdM θ ad) r) :=
  fun r hr => Ct.of (by decide) (Nat.le_of_ble_eq_true rfl) (fun X _ C _ => kw_X11_way C r hr)
set_option maxRecDepth 20000 in
theorem kb_X11_isUp_B49 {X : GX} {θ : TH} {ad : Nat → Nat} {S : St} {a1 : Int32} {a2 : Int32} (C : CX (mE X θ (wdM θ ad S) 5) RX11 cX11_isUp (some .boolean) 0 0 0)  (t0 : Int32) : Dk (mE X θ (wdM θ ad S) 5) (mT X θ (wdM θ ad S) 5 (PI (wdM θ ad S))) 0 0 (wdM θ ad S) [(0, .ref (ad 44)), (1, .int a1), (2, .int a2)] [.int t0] 49 (f_X11_isUp_B49 S a1 a2 t0) := by
  unfold f_X11_isUp_B49
  refine k_istore (lv' := [(4, .int t0), (0, .ref (ad 44)), (1, .int a1), (2, .int a2)]) C dX11_isUp_49 (Nat.le_of_ble_eq_true rfl) rfl ?_
  refine k_iload (q := 0) C dX11_isUp_51 rfl ?_
  refine k_aload_n (q := 1) C dX11_isUp_53 rfl rfl ?_
  refine m_geta (kf := 0) C mR_0 fl_11_9 dX11_isUp_54 ?_
  refine k_iload_n (q := 2) C dX11_isUp_57 rfl rfl ?_
  refine m_iald (x := S.2.1 0 (a1).toNatClampNeg) C mA_0 mN_0 rfl dX11_isUp_58 ?_
  refine k_aload_n (q := 1) C dX11_isUp_59 rfl rfl ?_
  refine m_geta (kf := 10) C mR_10 fl_11_28 dX11_isUp_60 ?_
  refine k_iconst (v := 3) C dX11_isUp_63 rfl ?_
  refine k_iload_n (q := 3) C dX11_isUp_64 rfl rfl ?_
  refine k_imul C dX11_isUp_65 ?_
  refine k_iload_n (q := 2) C dX11_isUp_66 rfl rfl ?_
  refine k_iadd C dX11_isUp_67 ?_
  refine m_iald (x := S.2.1 10 ((3 * a2) + a1).toNatClampNeg) C mA_10 mN_10 rfl dX11_isUp_68 ?_
  refine k_isub C dX11_isUp_69 ?_
  refine k_icmp_ge (tgt := 77) C dX11_isUp_70 (by decide) (fun _ => ?_) (fun _ => ?_)
  · refine k_iconst (v := 0) C dX11_isUp_77 rfl ?_
    exact k_iret C rfl ⟨rfl, rfl⟩ dX11_isUp_78
  · refine k_iconst (v := 1) C dX11_isUp_73 rfl ?_
    refine k_goto (tgt := 78) C dX11_isUp_74 (by decide) ?_
    exact k_iret C rfl ⟨rfl, rfl⟩ dX11_isUp_78
set_option maxRecDepth 20000 in
theorem kw_X11_isUp {X : GX} {θ : TH} {ad : Nat → Nat}  {S : St} {a1 : Int32} {a2 : Int32} {a3 : Int32} (C : CX (mE X θ (wdM θ ad S) 5) RX11 cX11_isUp (some .boolean) 0 0 0)  : Dk (mE X θ (wdM θ ad S) 5) (mT X θ (wdM θ ad S) 5 (PI (wdM θ ad S))) 0 0 (wdM θ ad S) [(0, .ref (ad 44)), (1, .int a1), (2, .int a2), (3, .int a3)] [] 0 (f_X11_isUp S a1 a2 a3) := by
  unfold f_X11_isUp
  refine k_iload_n (q := 3) C dX11_isUp_0 rfl rfl ?_
  refine k_aload_n (q := 0) C dX11_isUp_1 rfl rfl ?_
  refine m_geta (kf := 0) C mR_0 fl_11_9 dX11_isUp_2 ?_
  refine k_iconst (v := 3) C dX11_isUp_5 rfl ?_
  refine k_iload_n (q := 1) C dX11_isUp_6 rfl rfl ?_
  refine k_iadd C dX11_isUp_7 ?_
  refine m_iald (x := S.2.1 0 (3 + a1).toNatClampNeg) C mA_0 mN_0 rfl dX11_isUp_8 ?_
  refine k_isub C dX11_isUp_9 ?_
  refine k_aload_n (q := 0) C dX11_isUp_10 rfl rfl ?_
  refine m_geta (kf := 9) C mR_9 fl_11_25 dX11_isUp_11 ?_
  refine k_iconst (v := 3) C dX11_isUp_14 rfl ?_
  refine k_iload_n (q := 2) C dX11_isUp_15 rfl rfl ?_
  refine k_imul C dX11_isUp_16 ?_
  refine k_iload_n (q := 1) C dX11_isUp_17 rfl rfl ?_
  refine k_iadd C dX11_isUp_18 ?_
  refine m_iald (x := S.2.1 9 ((3 * a2) + a1).toNatClampNeg) C mA_9 mN_9 rfl dX11_isUp_19 ?_
  refine k_isub C dX11_isUp_20 ?_
  refine k_aload_n (q := 0) C dX11_isUp_21 rfl rfl ?_
  refine m_geta (kf := 7) C mR_7 fl_11_22 dX11_isUp_22 ?_
  refine k_iload_n (q := 1) C dX11_isUp_25 rfl rfl ?_
  refine m_iald (x := S.2.1 7 (a1).toNatClampNeg) C mA_7 mN_7 rfl dX11_isUp_26 ?_
  refine k_iremc C dX11_isUp_27 ?_
  refine k_lti fun y1 => ?_
  refine k_istore (lv' := [(4, .int y1), (0, .ref (ad 44)), (1, .int a1), (2, .int a2), (3, .int a3)]) C dX11_isUp_28 (Nat.le_of_ble_eq_true rfl) rfl ?_
  refine k_iload (q := 0) C dX11_isUp_30 rfl ?_
  refine k_if_ge (tgt := 47) C dX11_isUp_32 (by decide) (fun _ => ?_) (fun _ => ?_)
  · refine k_iload (q := 0) C dX11_isUp_47 rfl ?_
    refine Dk.loc [1, 2, 3] rfl ?_
    exact kb_X11_isUp_B49 C _
  · refine k_iload (q := 0) C dX11_isUp_35 rfl ?_
    refine k_aload_n (q := 1) C dX11_isUp_37 rfl rfl ?_
    refine m_geta (kf := 7) C mR_7 fl_11_22 dX11_isUp_38 ?_
    refine k_iload_n (q := 2) C dX11_isUp_41 rfl rfl ?_
    refine m_iald (x := S.2.1 7 (a1).toNatClampNeg) C mA_7 mN_7 rfl dX11_isUp_42 ?_
    refine k_iadd C dX11_isUp_43 ?_
    refine k_goto (tgt := 49) C dX11_isUp_44 (by decide) ?_
    refine Dk.loc [1, 2, 3] rfl ?_
    exact kb_X11_isUp_B49 C _
theorem ct_X11_isUp {l : Launch} {θ : TH} {ad : Nat → Nat} {S : St}  {a1 : Int32} {a2 : Int32} {a3 : Int32} : ∀ r, f_X11_isUp S a1 a2 a3 = some r → Ct l θ yX11_isUp cX11_isUp 5 (some .boolean) 0 0 0 [.ref (ad 44), .int a1, .int a2, .int a3] (wdM θ ad S) (PI (wdM θ ad S) r) :=
  fun r hr => Ct.of (by decide) (Nat.le_of_ble_eq_true rfl) (fun X _ C _ => kw_X11_isUp C r hr)
set_option maxRecDepth 20000 in
theorem kb_X11_stateOf_L5 {X : GX} {θ : TH} {ad : Nat → Nat} {F : Nat} {S : St} {a1 : Int32} {a2 : Int32} (C : CX (mE X θ (wdM θ ad S) 5) RX11 cX11_stateOf (some .int) 1 0 0)  : ∀ (n : Nat) (x3 : Int32) (x4 : Int32), Dk (mE X θ (wdM θ ad S) 5) (mT X θ (wdM θ ad S) 5 (PI (wdM θ ad S))) 0 0 (wdM θ ad S) [(0, .ref (ad 44)), (1, .int a1), (2, .int a2), (3, .int x3), (4, .int x4)] [] 5 (f_X11_stateOf_L5 F S a1 a2 n x3 x4) := by
  intro n
  induction n with
  | zero => intro x3 x4; exact Dk.none
  | succ n ih =>
    intro x3 x4
    show Dk _ _ _ _ _ _ _ _ (if (S.1 6) ≤ x4 then some x3 else (f_X11_isUp S x4 a1 a2).bind fun r1 => (if r1 = 0 then f_X11_stateOf_L5 F S a1 a2 n (x3 ||| 0) (x4 + 1) else lti (x3 ||| (1 <<< (x4 &&& 31))) fun y2 => f_X11_stateOf_L5 F S a1 a2 n y2 (x4 + 1)))
    refine k_iload (q := 4) C dX11_stateOf_5 rfl ?_
    refine k_aload_n (q := 0) C dX11_stateOf_7 rfl rfl ?_
    refine m_geti (kf := 6) (v := S.1 6) C mS_6 fl_11_103 rfl dX11_stateOf_8 ?_
    refine k_icmp_ge (tgt := 42) C dX11_stateOf_11 (by decide) (fun _ => ?_) (fun _ => ?_)
    · refine k_iload_n (q := 3) C dX11_stateOf_42 rfl rfl ?_
      exact k_iret C rfl ⟨rfl, rfl⟩ dX11_stateOf_43
    · refine k_iload_n (q := 3) C dX11_stateOf_14 rfl rfl ?_
      refine k_aload_n (q := 0) C dX11_stateOf_15 rfl rfl ?_
      refine k_iload (q := 4) C dX11_stateOf_16 rfl ?_
      refine k_iload_n (q := 1) C dX11_stateOf_18 rfl rfl ?_
      refine k_iload_n (q := 2) C dX11_stateOf_19 rfl rfl ?_
      refine k_cVI C ct_X11_isUp my_11_isUp ml_11_130 rfl ⟨Nat.le_of_ble_eq_true rfl, Nat.le_of_ble_eq_true rfl⟩ recvM rfl (Nat.le_of_ble_eq_true rfl) dX11_stateOf_20 ⟨Nat.le_refl _, Nat.le_refl _⟩ (fun r1 _ => ?_)
      refine k_if_eq (tgt := 33) C dX11_stateOf_23 (by decide) (fun _ => ?_) (fun _ => ?_)
      · refine k_iconst (v := 0) C dX11_stateOf_33 rfl ?_
        refine k_ior C dX11_stateOf_34 ?_
        refine k_istore_n (lv' := [(3, .int (x3 ||| 0)), (0, .ref (ad 44)), (1, .int a1), (2, .int a2), (4, .int x4)]) C dX11_stateOf_35 rfl (Nat.le_of_ble_eq_true rfl) rfl ?_
        refine k_iinc (q := 4) (v := x4 + 1) (lv' := [(4, .int (x4 + 1)), (3, .int (x3 ||| 0)), (0, .ref (ad 44)), (1, .int a1), (2, .int a2)]) C dX11_stateOf_36 rfl rfl (Nat.le_of_ble_eq_true rfl) rfl ?_
        refine k_goto (tgt := 5) C dX11_stateOf_39 (by decide) ?_
        refine Dk.loc [2, 3, 4, 1, 0] rfl ?_
        exact ih _ _
      · refine k_iconst (v := 1) C dX11_stateOf_26 rfl ?_
        refine k_iload (q := 4) C dX11_stateOf_27 rfl ?_
        refine k_ishl C dX11_stateOf_29 ?_
        refine k_goto (tgt := 34) C dX11_stateOf_30 (by decide) ?_
        refine k_ior C dX11_stateOf_34 ?_
        refine k_lti fun y2 => ?_
        refine k_istore_n (lv' := [(3, .int y2), (0, .ref (ad 44)), (1, .int a1), (2, .int a2), (4, .int x4)]) C dX11_stateOf_35 rfl (Nat.le_of_ble_eq_true rfl) rfl ?_
        refine k_iinc (q := 4) (v := x4 + 1) (lv' := [(4, .int (x4 + 1)), (3, .int y2), (0, .ref (ad 44)), (1, .int a1), (2, .int a2)]) C dX11_stateOf_36 rfl rfl (Nat.le_of_ble_eq_true rfl) rfl ?_
        refine k_goto (tgt := 5) C dX11_stateOf_39 (by decide) ?_
        refine Dk.loc [2, 3, 4, 1, 0] rfl ?_
        exact ih _ _
set_option maxRecDepth 20000 in
theorem kw_X11_stateOf {X : GX} {θ : TH} {ad : Nat → Nat} {F : Nat} {S : St} {a1 : Int32} {a2 : Int32} (C : CX (mE X θ (wdM θ ad S) 5) RX11 cX11_stateOf (some .int) 1 0 0)  : Dk (mE X θ (wdM θ ad S) 5) (mT X θ (wdM θ ad S) 5 (PI (wdM θ ad S))) 0 0 (wdM θ ad S) [(0, .ref (ad 44)), (1, .int a1), (2, .int a2)] [] 0 (f_X11_stateOf F S a1 a2) := by
  unfold f_X11_stateOf
  refine k_iconst (v := 0) C dX11_stateOf_0 rfl ?_
  refine k_istore_n (lv' := [(3, .int 0), (0, .ref (ad 44)), (1, .int a1), (2, .int a2)]) C dX11_stateOf_1 rfl (Nat.le_of_ble_eq_true rfl) rfl ?_
  refine k_iconst (v := 0) C dX11_stateOf_2 rfl ?_
  refine k_istore (lv' := [(4, .int 0), (3, .int 0), (0, .ref (ad 44)), (1, .int a1), (2, .int a2)]) C dX11_stateOf_3 (Nat.le_of_ble_eq_true rfl) rfl ?_
  refine Dk.loc [2, 3, 4, 1, 0] rfl ?_
  exact kb_X11_stateOf_L5 C _ _ _
theorem ct_X11_stateOf {l : Launch} {θ : TH} {ad : Nat → Nat} {S : St} {F : Nat} {a1 : Int32} {a2 : Int32} : ∀ r, f_X11_stateOf F S a1 a2 = some r → Ct l θ yX11_stateOf cX11_stateOf 5 (some .int) 1 0 0 [.ref (ad 44), .int a1, .int a2] (wdM θ ad S) (PI (wdM θ ad S) r) :=
  fun r hr => Ct.of (by decide) (Nat.le_of_ble_eq_true rfl) (fun X _ C _ => kw_X11_stateOf C r hr)
set_option maxRecDepth 20000 in
theorem kw_X11_state {X : GX} {θ : TH} {ad : Nat → Nat} {F : Nat} {S : St} {a1 : Int32} {a2 : Int32} (C : CX (mE X θ (wdM θ ad S) 3) RX11 cX11_state (some .int) 2 0 0)  : Dk (mE X θ (wdM θ ad S) 3) (mT X θ (wdM θ ad S) 3 (PI (wdM θ ad S))) 0 0 (wdM θ ad S) [(0, .ref (ad 44)), (1, .int a1), (2, .int a2)] [] 0 (f_X11_state F S a1 a2) := by
  unfold f_X11_state
  refine k_aload_n (q := 0) C dX11_state_0 rfl rfl ?_
  refine k_iload_n (q := 1) C dX11_state_1 rfl rfl ?_
  refine k_cVI C ct_X11_isValley my_11_isValley ml_11_119 rfl ⟨Nat.le_of_ble_eq_true rfl, Nat.le_of_ble_eq_true rfl⟩ recvM rfl (Nat.le_of_ble_eq_true rfl) dX11_state_2 ⟨Nat.le_refl _, Nat.le_refl _⟩ (fun r1 _ => ?_)
  refine k_if_eq (tgt := 24) C dX11_state_5 (by decide) (fun _ => ?_) (fun _ => ?_)
  · refine k_iconst (v := (-1)) C dX11_state_24 rfl ?_
    exact k_iret C rfl ⟨rfl, rfl⟩ dX11_state_25
  · refine k_iload_n (q := 2) C dX11_state_8 rfl rfl ?_
    refine k_cSI C ct_X11_isHour my_11_isHour ml_11_134 rfl ⟨Nat.le_of_ble_eq_true rfl, Nat.le_of_ble_eq_true rfl⟩ rfl (Nat.le_of_ble_eq_true rfl) dX11_state_9 ⟨Nat.le_refl _, Nat.le_refl _⟩ (fun r2 _ => ?_)
    refine k_if_eq (tgt := 24) C dX11_state_12 (by decide) (fun _ => ?_) (fun _ => ?_)
    · refine k_iconst (v := (-1)) C dX11_state_24 rfl ?_
      exact k_iret C rfl ⟨rfl, rfl⟩ dX11_state_25
    · refine k_aload_n (q := 0) C dX11_state_15 rfl rfl ?_
      refine k_iload_n (q := 1) C dX11_state_16 rfl rfl ?_
      refine k_iload_n (q := 2) C dX11_state_17 rfl rfl ?_
      refine k_cVI C ct_X11_stateOf my_11_stateOf ml_11_137 rfl ⟨Nat.le_of_ble_eq_true rfl, Nat.le_of_ble_eq_true rfl⟩ recvM rfl (Nat.le_of_ble_eq_true rfl) dX11_state_18 ⟨Nat.le_refl _, Nat.le_refl _⟩ (fun r3 _ => ?_)
      refine k_goto (tgt := 25) C dX11_state_21 (by decide) ?_
      exact k_iret C rfl ⟨rfl, rfl⟩ dX11_state_25
theorem ct_X11_state {l : Launch} {θ : TH} {ad : Nat → Nat} {S : St} {F : Nat} {a1 : Int32} {a2 : Int32} : ∀ r, f_X11_state F S a1 a2 = some r → Ct l θ yX11_state cX11_state 3 (some .int) 2 0 0 [.ref (ad 44), .int a1, .int a2] (wdM θ ad S) (PI (wdM θ ad S) r) :=
  fun r hr => Ct.of (by decide) (Nat.le_of_ble_eq_true rfl) (fun X _ C _ => kw_X11_state C r hr)
set_option maxRecDepth 20000 in
theorem kw_X11_feed {X : GX} {θ : TH} {ad : Nat → Nat}  {S : St} {a1 : Int32} (C : CX (mE X θ (wdM θ ad S) 2) RX11 cX11_feed (some .int) 1 0 0)  : Dk (mE X θ (wdM θ ad S) 2) (mT X θ (wdM θ ad S) 2 (PIS (wdM θ ad))) 0 0 (wdM θ ad S) [(0, .ref (ad 44)), (1, .int a1)] [] 0 (f_X11_feed S a1) := by
  unfold f_X11_feed
  refine k_iload_n (q := 1) C dX11_feed_0 rfl rfl ?_
  refine k_i2l C dX11_feed_1 ?_
  refine k_lconst (v := 0) C dX11_feed_2 rfl ?_
  refine k_ldc2 C co_11_141 dX11_feed_3 ?_
  refine k_cSI C ct_X11_within my_11_within ml_11_106 rfl ⟨Nat.le_of_ble_eq_true rfl, Nat.le_of_ble_eq_true rfl⟩ rfl (Nat.le_of_ble_eq_true rfl) dX11_feed_6 ⟨Nat.le_refl _, Nat.le_refl _⟩ (fun r1 _ => ?_)
  refine k_if_ne (tgt := 14) C dX11_feed_9 (by decide) (fun _ => ?_) (fun _ => ?_)
  · refine k_aload_n (q := 0) C dX11_feed_14 rfl rfl ?_
    refine m_geti (kf := 13) (v := S.1 13) C mS_13 fl_11_143 rfl dX11_feed_15 ?_
    refine k_bipush (v := 120) C dX11_feed_18 rfl ?_
    refine k_icmp_ne (tgt := 26) C dX11_feed_20 (by decide) (fun _ => ?_) (fun _ => ?_)
    · refine k_aload_n (q := 0) C dX11_feed_26 rfl rfl ?_
      refine m_geta (kf := 12) C mR_12 fl_11_34 dX11_feed_27 ?_
      refine k_aload_n (q := 0) C dX11_feed_30 rfl rfl ?_
      refine m_geti (kf := 13) (v := S.1 13) C mS_13 fl_11_143 rfl dX11_feed_31 ?_
      refine k_iload_n (q := 1) C dX11_feed_34 rfl rfl ?_
      refine m_iast C mA_12 mN_12 dX11_feed_35 ?_
      refine k_aload_n (q := 0) C dX11_feed_36 rfl rfl ?_
      refine k_dup C dX11_feed_37 rfl ?_
      refine m_geti (kf := 13) (v := S.1 13) C mS_13 fl_11_143 rfl dX11_feed_38 ?_
      refine k_iconst (v := 1) C dX11_feed_41 rfl ?_
      refine k_iadd C dX11_feed_42 ?_
      refine m_puti (kf := 13) C mS_13 mP_13 fl_11_143 dX11_feed_43 ?_
      refine k_aload_n (q := 0) C dX11_feed_46 rfl rfl ?_
      refine m_geti (kf := 13) (v := (S.1 13) + 1) C mS_13 fl_11_143 rfl dX11_feed_47 ?_
      exact k_iret C rfl ⟨rfl, rfl⟩ dX11_feed_50
    · refine k_bipush (v := (-3)) C dX11_feed_23 rfl ?_
      exact k_iret C rfl ⟨rfl, rfl⟩ dX11_feed_25
  · refine k_iconst (v := (-1)) C dX11_feed_12 rfl ?_
    exact k_iret C rfl ⟨rfl, rfl⟩ dX11_feed_13
theorem ct_X11_feed {l : Launch} {θ : TH} {ad : Nat → Nat} {S : St}  {a1 : Int32} : ∀ r, f_X11_feed S a1 = some r → Ct l θ yX11_feed cX11_feed 2 (some .int) 1 0 0 [.ref (ad 44), .int a1] (wdM θ ad S) (PIS (wdM θ ad) r) :=
  fun r hr => Ct.of (by decide) (Nat.le_of_ble_eq_true rfl) (fun X _ C _ => kw_X11_feed C r hr)
set_option maxRecDepth 20000 in
theorem kw_X11_byteAt {X : GX} {θ : TH} {ad : Nat → Nat}  {S : St}  (C : CX (mE X θ (wdM θ ad S) 1) RX11 cX11_byteAt (some .int) 0 0 0)  : Dk (mE X θ (wdM θ ad S) 1) (mT X θ (wdM θ ad S) 1 (PI (wdM θ ad S))) 0 0 (wdM θ ad S) [(0, .ref (ad 44))] [] 0 (f_X11_byteAt S) := by
  unfold f_X11_byteAt
  refine k_aload_n (q := 0) C dX11_byteAt_0 rfl rfl ?_
  refine m_geti (kf := 17) (v := S.1 17) C mS_17 fl_11_146 rfl dX11_byteAt_1 ?_
  refine k_aload_n (q := 0) C dX11_byteAt_4 rfl rfl ?_
  refine m_geti (kf := 18) (v := S.1 18) C mS_18 fl_11_149 rfl dX11_byteAt_5 ?_
  refine k_icmp_ge (tgt := 47) C dX11_byteAt_8 (by decide) (fun _ => ?_) (fun _ => ?_)
  · refine k_iconst (v := 0) C dX11_byteAt_47 rfl ?_
    exact k_iret C rfl ⟨rfl, rfl⟩ dX11_byteAt_48
  · refine k_aload_n (q := 0) C dX11_byteAt_11 rfl rfl ?_
    refine m_geti (kf := 16) (v := S.1 16) C mS_16 fl_11_152 rfl dX11_byteAt_12 ?_
    refine k_if_ge (tgt := 30) C dX11_byteAt_15 (by decide) (fun _ => ?_) (fun _ => ?_)
    · refine k_aload_n (q := 0) C dX11_byteAt_30 rfl rfl ?_
      refine m_geta (kf := 14) C mR_14 fl_11_37 dX11_byteAt_31 ?_
      refine k_aload_n (q := 0) C dX11_byteAt_34 rfl rfl ?_
      refine m_geti (kf := 16) (v := S.1 16) C mS_16 fl_11_152 rfl dX11_byteAt_35 ?_
      refine k_aload_n (q := 0) C dX11_byteAt_38 rfl rfl ?_
      refine m_geti (kf := 17) (v := S.1 17) C mS_17 fl_11_146 rfl dX11_byteAt_39 ?_
      refine k_iadd C dX11_byteAt_42 ?_
      refine m_iald (x := S.2.1 14 ((S.1 16) + (S.1 17)).toNatClampNeg) C mA_14 mN_14 rfl dX11_byteAt_43 ?_
      refine k_goto (tgt := 48) C dX11_byteAt_44 (by decide) ?_
      exact k_iret C rfl ⟨rfl, rfl⟩ dX11_byteAt_48
    · refine k_aload_n (q := 0) C dX11_byteAt_18 rfl rfl ?_
      refine m_geta (kf := 12) C mR_12 fl_11_34 dX11_byteAt_19 ?_
      refine k_aload_n (q := 0) C dX11_byteAt_22 rfl rfl ?_
      refine m_geti (kf := 17) (v := S.1 17) C mS_17 fl_11_146 rfl dX11_byteAt_23 ?_
      refine m_iald (x := S.2.1 12 (S.1 17).toNatClampNeg) C mA_12 mN_12 rfl dX11_byteAt_26 ?_
      refine k_goto (tgt := 48) C dX11_byteAt_27 (by decide) ?_
      exact k_iret C rfl ⟨rfl, rfl⟩ dX11_byteAt_48
theorem ct_X11_byteAt {l : Launch} {θ : TH} {ad : Nat → Nat} {S : St}   : ∀ r, f_X11_byteAt S = some r → Ct l θ yX11_byteAt cX11_byteAt 1 (some .int) 0 0 0 [.ref (ad 44)] (wdM θ ad S) (PI (wdM θ ad S) r) :=
  fun r hr => Ct.of (by decide) (Nat.le_of_ble_eq_true rfl) (fun X _ C _ => kw_X11_byteAt C r hr)
set_option maxRecDepth 20000 in
theorem kw_X11_wrong {X : GX} {θ : TH} {ad : Nat → Nat}  {S : St}  (C : CX (mE X θ (wdM θ ad S) 1) RX11 cX11_wrong (some .int) 0 0 0)  : Dk (mE X θ (wdM θ ad S) 1) (mT X θ (wdM θ ad S) 1 (PIS (wdM θ ad))) 0 0 (wdM θ ad S) [(0, .ref (ad 44))] [] 0 (f_X11_wrong S) := by
  unfold f_X11_wrong
  refine k_aload_n (q := 0) C dX11_wrong_0 rfl rfl ?_
  refine k_aload_n (q := 0) C dX11_wrong_1 rfl rfl ?_
  refine m_geti (kf := 19) (v := S.1 19) C mS_19 fl_11_155 rfl dX11_wrong_2 ?_
  refine k_if_ge (tgt := 15) C dX11_wrong_5 (by decide) (fun _ => ?_) (fun _ => ?_)
  · refine k_aload_n (q := 0) C dX11_wrong_15 rfl rfl ?_
    refine m_geti (kf := 19) (v := S.1 19) C mS_19 fl_11_155 rfl dX11_wrong_16 ?_
    refine m_puti (kf := 19) C mS_19 mP_19 fl_11_155 dX11_wrong_19 ?_
    refine k_iconst (v := 0) C dX11_wrong_22 rfl ?_
    exact k_iret C rfl ⟨rfl, rfl⟩ dX11_wrong_23
  · refine k_aload_n (q := 0) C dX11_wrong_8 rfl rfl ?_
    refine m_geti (kf := 17) (v := S.1 17) C mS_17 fl_11_146 rfl dX11_wrong_9 ?_
    refine k_goto (tgt := 19) C dX11_wrong_12 (by decide) ?_
    refine m_puti (kf := 19) C mS_19 mP_19 fl_11_155 dX11_wrong_19 ?_
    refine k_iconst (v := 0) C dX11_wrong_22 rfl ?_
    exact k_iret C rfl ⟨rfl, rfl⟩ dX11_wrong_23
theorem ct_X11_wrong {l : Launch} {θ : TH} {ad : Nat → Nat} {S : St}   : ∀ r, f_X11_wrong S = some r → Ct l θ yX11_wrong cX11_wrong 1 (some .int) 0 0 0 [.ref (ad 44)] (wdM θ ad S) (PIS (wdM θ ad) r) :=
  fun r hr => Ct.of (by decide) (Nat.le_of_ble_eq_true rfl) (fun X _ C _ => kw_X11_wrong C r hr)
set_option maxRecDepth 20000 in
theorem kw_X11_takes {X : GX} {θ : TH} {ad : Nat → Nat}  {S : St} {a1 : Int32} (C : CX (mE X θ (wdM θ ad S) 2) RX11 cX11_takes (some .boolean) 1 0 0)  : Dk (mE X θ (wdM θ ad S) 2) (mT X θ (wdM θ ad S) 2 (PIS (wdM θ ad))) 0 0 (wdM θ ad S) [(0, .ref (ad 44)), (1, .int a1)] [] 0 (f_X11_takes S a1) := by
  unfold f_X11_takes
  refine k_aload_n (q := 0) C dX11_takes_0 rfl rfl ?_
  refine m_geti (kf := 19) (v := S.1 19) C mS_19 fl_11_155 rfl dX11_takes_1 ?_
  refine k_if_ge (tgt := 15) C dX11_takes_4 (by decide) (fun _ => ?_) (fun _ => ?_)
  · refine k_iconst (v := 0) C dX11_takes_15 rfl ?_
    exact k_iret C rfl ⟨rfl, rfl⟩ dX11_takes_16
  · refine k_aload_n (q := 0) C dX11_takes_7 rfl rfl ?_
    refine k_cVI C ct_X11_byteAt my_11_byteAt ml_11_158 rfl ⟨Nat.le_of_ble_eq_true rfl, Nat.le_of_ble_eq_true rfl⟩ recvM rfl (Nat.le_of_ble_eq_true rfl) dX11_takes_8 ⟨Nat.le_refl _, Nat.le_refl _⟩ (fun r1 _ => ?_)
    refine k_iload_n (q := 1) C dX11_takes_11 rfl rfl ?_
    refine k_icmp_eq (tgt := 17) C dX11_takes_12 (by decide) (fun _ => ?_) (fun _ => ?_)
    · refine k_aload_n (q := 0) C dX11_takes_17 rfl rfl ?_
      refine k_dup C dX11_takes_18 rfl ?_
      refine m_geti (kf := 17) (v := S.1 17) C mS_17 fl_11_146 rfl dX11_takes_19 ?_
      refine k_iconst (v := 1) C dX11_takes_22 rfl ?_
      refine k_iadd C dX11_takes_23 ?_
      refine m_puti (kf := 17) C mS_17 mP_17 fl_11_146 dX11_takes_24 ?_
      refine k_iconst (v := 1) C dX11_takes_27 rfl ?_
      exact k_iret C rfl ⟨rfl, rfl⟩ dX11_takes_28
    · refine k_iconst (v := 0) C dX11_takes_15 rfl ?_
      exact k_iret C rfl ⟨rfl, rfl⟩ dX11_takes_16
theorem ct_X11_takes {l : Launch} {θ : TH} {ad : Nat → Nat} {S : St}  {a1 : Int32} : ∀ r, f_X11_takes S a1 = some r → Ct l θ yX11_takes cX11_takes 2 (some .boolean) 1 0 0 [.ref (ad 44), .int a1] (wdM θ ad S) (PIS (wdM θ ad) r) :=
  fun r hr => Ct.of (by decide) (Nat.le_of_ble_eq_true rfl) (fun X _ C _ => kw_X11_takes C r hr)
set_option maxRecDepth 20000 in
theorem kw_X11_nameOf {X : GX} {θ : TH} {ws : va_W}   {a1 : Int32} (C : CX (mE X θ (ws) 1) RX11 cX11_nameOf (some .int) 0 0 0)  : Dk (mE X θ (ws) 1) (mT X θ (ws) 1 (PI ws)) 0 0 ws [(0, .int a1)] [] 0 (f_X11_nameOf a1) := by
  unfold f_X11_nameOf
  refine k_iload_n (q := 0) C dX11_nameOf_0 rfl rfl ?_
  refine k_case (c := 104) (fun q1 => ?_) (fun q1 => ?_)
  · refine k_tableIn (off := 85) (tgt := 86) C dX11_nameOf_1 (by rw [q1]; decide) (by rw [q1]; decide) (by rw [q1]; rfl) (by decide) ?_
    refine k_iconst (v := 3) C dX11_nameOf_86 rfl ?_
    exact k_iret C rfl ⟨rfl, rfl⟩ dX11_nameOf_87
  refine k_case (c := 105) (fun q2 => ?_) (fun q2 => ?_)
  · refine k_tableIn (off := 94) (tgt := 95) C dX11_nameOf_1 (by rw [q2]; decide) (by rw [q2]; decide) (by rw [q2]; rfl) (by decide) ?_
    refine k_iconst (v := (-1)) C dX11_nameOf_95 rfl ?_
    exact k_iret C rfl ⟨rfl, rfl⟩ dX11_nameOf_96
  refine k_case (c := 106) (fun q3 => ?_) (fun q3 => ?_)
  · refine k_tableIn (off := 94) (tgt := 95) C dX11_nameOf_1 (by rw [q3]; decide) (by rw [q3]; decide) (by rw [q3]; rfl) (by decide) ?_
    refine k_iconst (v := (-1)) C dX11_nameOf_95 rfl ?_
    exact k_iret C rfl ⟨rfl, rfl⟩ dX11_nameOf_96
  refine k_case (c := 107) (fun q4 => ?_) (fun q4 => ?_)
  · refine k_tableIn (off := 79) (tgt := 80) C dX11_nameOf_1 (by rw [q4]; decide) (by rw [q4]; decide) (by rw [q4]; rfl) (by decide) ?_
    refine k_iconst (v := 0) C dX11_nameOf_80 rfl ?_
    exact k_iret C rfl ⟨rfl, rfl⟩ dX11_nameOf_81
  refine k_case (c := 108) (fun q5 => ?_) (fun q5 => ?_)
  · refine k_tableIn (off := 83) (tgt := 84) C dX11_nameOf_1 (by rw [q5]; decide) (by rw [q5]; decide) (by rw [q5]; rfl) (by decide) ?_
    refine k_iconst (v := 2) C dX11_nameOf_84 rfl ?_
    exact k_iret C rfl ⟨rfl, rfl⟩ dX11_nameOf_85
  refine k_case (c := 109) (fun q6 => ?_) (fun q6 => ?_)
  · refine k_tableIn (off := 91) (tgt := 92) C dX11_nameOf_1 (by rw [q6]; decide) (by rw [q6]; decide) (by rw [q6]; rfl) (by decide) ?_
    refine k_bipush (v := 6) C dX11_nameOf_92 rfl ?_
    exact k_iret C rfl ⟨rfl, rfl⟩ dX11_nameOf_94
  refine k_case (c := 110) (fun q7 => ?_) (fun q7 => ?_)
  · refine k_tableIn (off := 81) (tgt := 82) C dX11_nameOf_1 (by rw [q7]; decide) (by rw [q7]; decide) (by rw [q7]; rfl) (by decide) ?_
    refine k_iconst (v := 1) C dX11_nameOf_82 rfl ?_
    exact k_iret C rfl ⟨rfl, rfl⟩ dX11_nameOf_83
  refine k_case (c := 111) (fun q8 => ?_) (fun q8 => ?_)
  · refine k_tableIn (off := 94) (tgt := 95) C dX11_nameOf_1 (by rw [q8]; decide) (by rw [q8]; decide) (by rw [q8]; rfl) (by decide) ?_
    refine k_iconst (v := (-1)) C dX11_nameOf_95 rfl ?_
    exact k_iret C rfl ⟨rfl, rfl⟩ dX11_nameOf_96
  refine k_case (c := 112) (fun q9 => ?_) (fun q9 => ?_)
  · refine k_tableIn (off := 94) (tgt := 95) C dX11_nameOf_1 (by rw [q9]; decide) (by rw [q9]; decide) (by rw [q9]; rfl) (by decide) ?_
    refine k_iconst (v := (-1)) C dX11_nameOf_95 rfl ?_
    exact k_iret C rfl ⟨rfl, rfl⟩ dX11_nameOf_96
  refine k_case (c := 113) (fun q10 => ?_) (fun q10 => ?_)
  · refine k_tableIn (off := 94) (tgt := 95) C dX11_nameOf_1 (by rw [q10]; decide) (by rw [q10]; decide) (by rw [q10]; rfl) (by decide) ?_
    refine k_iconst (v := (-1)) C dX11_nameOf_95 rfl ?_
    exact k_iret C rfl ⟨rfl, rfl⟩ dX11_nameOf_96
  refine k_case (c := 114) (fun q11 => ?_) (fun q11 => ?_)
  · refine k_tableIn (off := 94) (tgt := 95) C dX11_nameOf_1 (by rw [q11]; decide) (by rw [q11]; decide) (by rw [q11]; rfl) (by decide) ?_
    refine k_iconst (v := (-1)) C dX11_nameOf_95 rfl ?_
    exact k_iret C rfl ⟨rfl, rfl⟩ dX11_nameOf_96
  refine k_case (c := 115) (fun q12 => ?_) (fun q12 => ?_)
  · refine k_tableIn (off := 94) (tgt := 95) C dX11_nameOf_1 (by rw [q12]; decide) (by rw [q12]; decide) (by rw [q12]; rfl) (by decide) ?_
    refine k_iconst (v := (-1)) C dX11_nameOf_95 rfl ?_
    exact k_iret C rfl ⟨rfl, rfl⟩ dX11_nameOf_96
  refine k_case (c := 116) (fun q13 => ?_) (fun q13 => ?_)
  · refine k_tableIn (off := 94) (tgt := 95) C dX11_nameOf_1 (by rw [q13]; decide) (by rw [q13]; decide) (by rw [q13]; rfl) (by decide) ?_
    refine k_iconst (v := (-1)) C dX11_nameOf_95 rfl ?_
    exact k_iret C rfl ⟨rfl, rfl⟩ dX11_nameOf_96
  refine k_case (c := 117) (fun q14 => ?_) (fun q14 => ?_)
  · refine k_tableIn (off := 94) (tgt := 95) C dX11_nameOf_1 (by rw [q14]; decide) (by rw [q14]; decide) (by rw [q14]; rfl) (by decide) ?_
    refine k_iconst (v := (-1)) C dX11_nameOf_95 rfl ?_
    exact k_iret C rfl ⟨rfl, rfl⟩ dX11_nameOf_96
  refine k_case (c := 118) (fun q15 => ?_) (fun q15 => ?_)
  · refine k_tableIn (off := 87) (tgt := 88) C dX11_nameOf_1 (by rw [q15]; decide) (by rw [q15]; decide) (by rw [q15]; rfl) (by decide) ?_
    refine k_iconst (v := 4) C dX11_nameOf_88 rfl ?_
    exact k_iret C rfl ⟨rfl, rfl⟩ dX11_nameOf_89
  refine k_case (c := 119) (fun q16 => ?_) (fun q16 => ?_)
  · refine k_tableIn (off := 89) (tgt := 90) C dX11_nameOf_1 (by rw [q16]; decide) (by rw [q16]; decide) (by rw [q16]; rfl) (by decide) ?_
    refine k_iconst (v := 5) C dX11_nameOf_90 rfl ?_
    exact k_iret C rfl ⟨rfl, rfl⟩ dX11_nameOf_91
  refine k_tableOut (tgt := 95) C dX11_nameOf_1 (by have zq1 := i32ne q1 (z := 104) rfl; have zq2 := i32ne q2 (z := 105) rfl; have zq3 := i32ne q3 (z := 106) rfl; have zq4 := i32ne q4 (z := 107) rfl; have zq5 := i32ne q5 (z := 108) rfl; have zq6 := i32ne q6 (z := 109) rfl; have zq7 := i32ne q7 (z := 110) rfl; have zq8 := i32ne q8 (z := 111) rfl; have zq9 := i32ne q9 (z := 112) rfl; have zq10 := i32ne q10 (z := 113) rfl; have zq11 := i32ne q11 (z := 114) rfl; have zq12 := i32ne q12 (z := 115) rfl; have zq13 := i32ne q13 (z := 116) rfl; have zq14 := i32ne q14 (z := 117) rfl; have zq15 := i32ne q15 (z := 118) rfl; have zq16 := i32ne q16 (z := 119) rfl; omega) (by decide) ?_
  refine k_iconst (v := (-1)) C dX11_nameOf_95 rfl ?_
  exact k_iret C rfl ⟨rfl, rfl⟩ dX11_nameOf_96
theorem ct_X11_nameOf {l : Launch} {θ : TH} {ws : va_W}  {a1 : Int32} : ∀ r, f_X11_nameOf a1 = some r → Ct l θ yX11_nameOf cX11_nameOf 1 (some .int) 0 0 0 [.int a1] (ws) (PI ws r) :=
  fun r hr => Ct.of (by decide) (Nat.le_of_ble_eq_true rfl) (fun X _ C _ => kw_X11_nameOf C r hr)
set_option maxRecDepth 20000 in
theorem kb_X11_one_B229 {X : GX} {θ : TH} {ad : Nat → Nat} {S0 : St} {d : Nat} {F : Nat} {g : Nat → St → Option (Int32 × St)} (C : CX (mE X θ (wdM θ ad S0) 5) RX11 cX11_one (some .int) (2 + (d + 1)) 0 0) (hg_either : ∀ (S : St) (r : Int32 × St), g 0 S = some r → Ct X.2.1 θ yX11_either cX11_either 3 (some .int) (2 + d) 0 0 [.ref (ad 44)] (wdM θ ad S) (PIS (wdM θ ad) r)) (hg_one : ∀ (S : St) (r : Int32 × St), g 5 S = some r → Ct X.2.1 θ yX11_one cX11_one 5 (some .int) (2 + d) 0 0 [.ref (ad 44)] (wdM θ ad S) (PIS (wdM θ ad) r)) (S : St) (x3 : Int32) (x4 : Int32) : Dk (mE X θ (wdM θ ad S0) 5) (mT X θ (wdM θ ad S0) 5 (PIS (wdM θ ad))) 0 0 (wdM θ ad S) [(0, .ref (ad 44)), (3, .int x3), (4, .int x4)] [] 229 (f_X11_one_B229 F g S x3 x4) := by
  unfold f_X11_one_B229
  refine k_iload (q := 2) C dX11_one_229 rfl ?_
  refine k_if_ne (tgt := 241) C dX11_one_231 (by decide) (fun _ => ?_) (fun _ => ?_)
  · refine k_iload_n (q := 1) C dX11_one_241 rfl rfl ?_
    exact k_iret C rfl ⟨rfl, rfl⟩ dX11_one_242
  · refine k_aload_n (q := 0) C dX11_one_234 rfl rfl ?_
    refine k_cVI C ct_X11_wrong my_11_wrong ml_11_183 rfl ⟨by omega, Nat.le_of_ble_eq_true rfl⟩ recvM rfl (Nat.le_of_ble_eq_true rfl) dX11_one_235 ⟨Nat.le_refl _, Nat.le_refl _⟩ (fun r11 _ => ?_)
    refine k_goto (tgt := 242) C dX11_one_238 (by decide) ?_
    exact k_iret C rfl ⟨rfl, rfl⟩ dX11_one_242
set_option maxRecDepth 20000 in
theorem kb_X11_one_L176 {X : GX} {θ : TH} {ad : Nat → Nat} {S0 : St} {d : Nat} {F : Nat} {g : Nat → St → Option (Int32 × St)} (C : CX (mE X θ (wdM θ ad S0) 5) RX11 cX11_one (some .int) (2 + (d + 1)) 0 0) (hg_either : ∀ (S : St) (r : Int32 × St), g 0 S = some r → Ct X.2.1 θ yX11_either cX11_either 3 (some .int) (2 + d) 0 0 [.ref (ad 44)] (wdM θ ad S) (PIS (wdM θ ad) r)) (hg_one : ∀ (S : St) (r : Int32 × St), g 5 S = some r → Ct X.2.1 θ yX11_one cX11_one 5 (some .int) (2 + d) 0 0 [.ref (ad 44)] (wdM θ ad S) (PIS (wdM θ ad) r)) : ∀ (n : Nat) (S : St) (x3 : Int32) (x4 : Int32), Dk (mE X θ (wdM θ ad S0) 5) (mT X θ (wdM θ ad S0) 5 (PIS (wdM θ ad))) 0 0 (wdM θ ad S) [(0, .ref (ad 44)), (3, .int x3), (4, .int x4)] [] 176 (f_X11_one_L176 F g n S x3 x4) := by
  intro n
  induction n with
  | zero => intro S x3 x4; exact Dk.none
  | succ n ih =>
    intro S x3 x4
    show Dk _ _ _ _ _ _ _ _ (if (4 : Int32) ≤ x4 then f_X11_one_B229 F g S x3 x4 else (f_X11_byteAt S).bind fun r6 => (if r6 < 48 then f_X11_one_B229 F g S x3 x4 else (f_X11_byteAt S).bind fun r7 => (if (57 : Int32) < r7 then f_X11_one_B229 F g S x3 x4 else (f_X11_byteAt S).bind fun r8 => f_X11_one_L176 F g n (sf S 17 ((S.1 17) + 1)) (((10 * x3) + r8) - 48) (x4 + 1))))
    refine k_iload (q := 2) C dX11_one_176 rfl ?_
    refine k_iconst (v := 4) C dX11_one_178 rfl ?_
    refine k_icmp_ge (tgt := 229) C dX11_one_179 (by decide) (fun _ => ?_) (fun _ => ?_)
    · exact kb_X11_one_B229 C hg_either hg_one _ _ _
    · refine k_aload_n (q := 0) C dX11_one_182 rfl rfl ?_
      refine k_cVI C ct_X11_byteAt my_11_byteAt ml_11_158 rfl ⟨by omega, Nat.le_of_ble_eq_true rfl⟩ recvM rfl (Nat.le_of_ble_eq_true rfl) dX11_one_183 ⟨Nat.le_refl _, Nat.le_refl _⟩ (fun r6 _ => ?_)
      refine k_bipush (v := 48) C dX11_one_186 rfl ?_
      refine k_icmp_lt (tgt := 229) C dX11_one_188 (by decide) (fun _ => ?_) (fun _ => ?_)
      · exact kb_X11_one_B229 C hg_either hg_one _ _ _
      · refine k_aload_n (q := 0) C dX11_one_191 rfl rfl ?_
        refine k_cVI C ct_X11_byteAt my_11_byteAt ml_11_158 rfl ⟨by omega, Nat.le_of_ble_eq_true rfl⟩ recvM rfl (Nat.le_of_ble_eq_true rfl) dX11_one_192 ⟨Nat.le_refl _, Nat.le_refl _⟩ (fun r7 _ => ?_)
        refine k_bipush (v := 57) C dX11_one_195 rfl ?_
        refine k_icmp_gt (tgt := 229) C dX11_one_197 (by decide) (fun _ => ?_) (fun _ => ?_)
        · exact kb_X11_one_B229 C hg_either hg_one _ _ _
        · refine k_bipush (v := 10) C dX11_one_200 rfl ?_
          refine k_iload_n (q := 1) C dX11_one_202 rfl rfl ?_
          refine k_imul C dX11_one_203 ?_
          refine k_aload_n (q := 0) C dX11_one_204 rfl rfl ?_
          refine k_cVI C ct_X11_byteAt my_11_byteAt ml_11_158 rfl ⟨by omega, Nat.le_of_ble_eq_true rfl⟩ recvM rfl (Nat.le_of_ble_eq_true rfl) dX11_one_205 ⟨Nat.le_refl _, Nat.le_refl _⟩ (fun r8 _ => ?_)
          refine k_iadd C dX11_one_208 ?_
          refine k_bipush (v := 48) C dX11_one_209 rfl ?_
          refine k_isub C dX11_one_211 ?_
          refine k_istore_n (lv' := [(3, .int (((10 * x3) + r8) - 48)), (0, .ref (ad 44)), (4, .int x4)]) C dX11_one_212 rfl (Nat.le_of_ble_eq_true rfl) rfl ?_
          refine k_iinc (q := 2) (v := x4 + 1) (lv' := [(4, .int (x4 + 1)), (3, .int (((10 * x3) + r8) - 48)), (0, .ref (ad 44))]) C dX11_one_213 rfl rfl (Nat.le_of_ble_eq_true rfl) rfl ?_
          refine k_aload_n (q := 2) C dX11_one_216 rfl rfl ?_
          refine k_dup C dX11_one_217 rfl ?_
          refine m_geti (kf := 17) (v := S.1 17) C mS_17 fl_11_146 rfl dX11_one_218 ?_
          refine k_iconst (v := 1) C dX11_one_221 rfl ?_
          refine k_iadd C dX11_one_222 ?_
          refine m_puti (kf := 17) C mS_17 mP_17 fl_11_146 dX11_one_223 ?_
          refine k_goto (tgt := 176) C dX11_one_226 (by decide) ?_
          refine Dk.loc [2, 1, 0] rfl ?_
          exact ih _ _ _
set_option maxRecDepth 20000 in
theorem kb_X11_one_B104 {X : GX} {θ : TH} {ad : Nat → Nat} {S0 : St} {d : Nat} {F : Nat} {g : Nat → St → Option (Int32 × St)} (C : CX (mE X θ (wdM θ ad S0) 5) RX11 cX11_one (some .int) (2 + (d + 1)) 0 0) (hg_either : ∀ (S : St) (r : Int32 × St), g 0 S = some r → Ct X.2.1 θ yX11_either cX11_either 3 (some .int) (2 + d) 0 0 [.ref (ad 44)] (wdM θ ad S) (PIS (wdM θ ad) r)) (hg_one : ∀ (S : St) (r : Int32 × St), g 5 S = some r → Ct X.2.1 θ yX11_one cX11_one 5 (some .int) (2 + d) 0 0 [.ref (ad 44)] (wdM θ ad S) (PIS (wdM θ ad) r)) (S : St) (x1 : Int32) (x2 : Int32) : Dk (mE X θ (wdM θ ad S0) 5) (mT X θ (wdM θ ad S0) 5 (PIS (wdM θ ad))) 0 0 (wdM θ ad S) [(0, .ref (ad 44)), (1, .int x1), (2, .int x2)] [] 104 (f_X11_one_B104 F g S x1 x2) := by
  unfold f_X11_one_B104
  refine k_aload_n (q := 0) C dX11_one_104 rfl rfl ?_
  refine k_dup C dX11_one_105 rfl ?_
  refine m_geti (kf := 20) (v := S.1 20) C mS_20 fl_11_180 rfl dX11_one_106 ?_
  refine k_iconst (v := 1) C dX11_one_109 rfl ?_
  refine k_isub C dX11_one_110 ?_
  refine m_puti (kf := 20) C mS_20 mP_20 fl_11_180 dX11_one_111 ?_
  refine k_iload_n (q := 1) C dX11_one_114 rfl rfl ?_
  refine k_bipush (v := 40) C dX11_one_115 rfl ?_
  refine k_icmp_ne (tgt := 124) C dX11_one_117 (by decide) (fun _ => ?_) (fun _ => ?_)
  · refine k_iload_n (q := 1) C dX11_one_124 rfl rfl ?_
    refine k_bipush (v := 45) C dX11_one_125 rfl ?_
    refine k_icmp_ne (tgt := 135) C dX11_one_127 (by decide) (fun _ => ?_) (fun _ => ?_)
    · refine k_iload_n (q := 2) C dX11_one_135 rfl rfl ?_
      refine k_if_ne (tgt := 143) C dX11_one_136 (by decide) (fun _ => ?_) (fun _ => ?_)
      · refine k_iconst (v := 0) C dX11_one_143 rfl ?_
        exact k_iret C rfl ⟨rfl, rfl⟩ dX11_one_144
      · refine k_iconst (v := 1) C dX11_one_139 rfl ?_
        refine k_goto (tgt := 144) C dX11_one_140 (by decide) ?_
        exact k_iret C rfl ⟨rfl, rfl⟩ dX11_one_144
    · refine k_iload_n (q := 2) C dX11_one_130 rfl rfl ?_
      refine k_ineg C dX11_one_131 ?_
      refine k_goto (tgt := 144) C dX11_one_132 (by decide) ?_
      exact k_iret C rfl ⟨rfl, rfl⟩ dX11_one_144
  · refine k_iload_n (q := 2) C dX11_one_120 rfl rfl ?_
    refine k_goto (tgt := 144) C dX11_one_121 (by decide) ?_
    exact k_iret C rfl ⟨rfl, rfl⟩ dX11_one_144
set_option maxRecDepth 20000 in
theorem kb_X11_one_B83 {X : GX} {θ : TH} {ad : Nat → Nat} {S0 : St} {d : Nat} {F : Nat} {g : Nat → St → Option (Int32 × St)} (C : CX (mE X θ (wdM θ ad S0) 5) RX11 cX11_one (some .int) (2 + (d + 1)) 0 0) (hg_either : ∀ (S : St) (r : Int32 × St), g 0 S = some r → Ct X.2.1 θ yX11_either cX11_either 3 (some .int) (2 + d) 0 0 [.ref (ad 44)] (wdM θ ad S) (PIS (wdM θ ad) r)) (hg_one : ∀ (S : St) (r : Int32 × St), g 5 S = some r → Ct X.2.1 θ yX11_one cX11_one 5 (some .int) (2 + d) 0 0 [.ref (ad 44)] (wdM θ ad S) (PIS (wdM θ ad) r)) (S : St) (x1 : Int32) (t0 : Int32) : Dk (mE X θ (wdM θ ad S0) 5) (mT X θ (wdM θ ad S0) 5 (PIS (wdM θ ad))) 0 0 (wdM θ ad S) [(0, .ref (ad 44)), (1, .int x1)] [.int t0] 83 (f_X11_one_B83 F g S x1 t0) := by
  unfold f_X11_one_B83
  refine k_istore_n (lv' := [(2, .int t0), (0, .ref (ad 44)), (1, .int x1)]) C dX11_one_83 rfl (Nat.le_of_ble_eq_true rfl) rfl ?_
  refine k_iload_n (q := 2) C dX11_one_84 rfl rfl ?_
  refine k_bipush (v := 40) C dX11_one_85 rfl ?_
  refine k_icmp_ne (tgt := 104) C dX11_one_87 (by decide) (fun _ => ?_) (fun _ => ?_)
  · refine Dk.loc [1, 2, 0] rfl ?_
    exact kb_X11_one_B104 C hg_either hg_one _ _ _
  · refine k_aload_n (q := 1) C dX11_one_90 rfl rfl ?_
    refine k_bipush (v := 41) C dX11_one_91 rfl ?_
    refine k_cVI C ct_X11_takes my_11_takes ml_11_165 rfl ⟨by omega, Nat.le_of_ble_eq_true rfl⟩ recvM rfl (Nat.le_of_ble_eq_true rfl) dX11_one_93 ⟨Nat.le_refl _, Nat.le_refl _⟩ (fun r9 _ => ?_)
    refine k_if_ne (tgt := 104) C dX11_one_96 (by decide) (fun _ => ?_) (fun _ => ?_)
    · refine Dk.loc [1, 2, 0] rfl ?_
      exact kb_X11_one_B104 C hg_either hg_one _ _ _
    · refine k_aload_n (q := 1) C dX11_one_99 rfl rfl ?_
      refine k_cVI C ct_X11_wrong my_11_wrong ml_11_183 rfl ⟨by omega, Nat.le_of_ble_eq_true rfl⟩ recvM rfl (Nat.le_of_ble_eq_true rfl) dX11_one_100 ⟨Nat.le_refl _, Nat.le_refl _⟩ (fun r10 _ => ?_)
      exact k_iret C rfl ⟨rfl, rfl⟩ dX11_one_103
set_option maxRecDepth 20000 in
theorem kb_X11_one_B32 {X : GX} {θ : TH} {ad : Nat → Nat} {S0 : St} {d : Nat} {F : Nat} {g : Nat → St → Option (Int32 × St)} (C : CX (mE X θ (wdM θ ad S0) 5) RX11 cX11_one (some .int) (2 + (d + 1)) 0 0) (hg_either : ∀ (S : St) (r : Int32 × St), g 0 S = some r → Ct X.2.1 θ yX11_either cX11_either 3 (some .int) (2 + d) 0 0 [.ref (ad 44)] (wdM θ ad S) (PIS (wdM θ ad) r)) (hg_one : ∀ (S : St) (r : Int32 × St), g 5 S = some r → Ct X.2.1 θ yX11_one cX11_one 5 (some .int) (2 + d) 0 0 [.ref (ad 44)] (wdM θ ad S) (PIS (wdM θ ad) r)) (S : St) (x1 : Int32) : Dk (mE X θ (wdM θ ad S0) 5) (mT X θ (wdM θ ad S0) 5 (PIS (wdM θ ad))) 0 0 (wdM θ ad S) [(0, .ref (ad 44)), (1, .int x1)] [] 32 (f_X11_one_B32 F g S x1) := by
  unfold f_X11_one_B32
  refine k_aload_n (q := 0) C dX11_one_32 rfl rfl ?_
  refine m_geti (kf := 20) (v := S.1 20) C mS_20 fl_11_180 rfl dX11_one_33 ?_
  refine k_bipush (v := 6) C dX11_one_36 rfl ?_
  refine k_icmp_ne (tgt := 46) C dX11_one_38 (by decide) (fun _ => ?_) (fun _ => ?_)
  · refine k_aload_n (q := 0) C dX11_one_46 rfl rfl ?_
    refine k_dup C dX11_one_47 rfl ?_
    refine m_geti (kf := 20) (v := S.1 20) C mS_20 fl_11_180 rfl dX11_one_48 ?_
    refine k_iconst (v := 1) C dX11_one_51 rfl ?_
    refine k_iadd C dX11_one_52 ?_
    refine m_puti (kf := 20) C mS_20 mP_20 fl_11_180 dX11_one_53 ?_
    refine k_aload_n (q := 0) C dX11_one_56 rfl rfl ?_
    refine k_dup C dX11_one_57 rfl ?_
    refine m_geti (kf := 17) (v := S.1 17) C mS_17 fl_11_146 rfl dX11_one_58 ?_
    refine k_iconst (v := 1) C dX11_one_61 rfl ?_
    refine k_iadd C dX11_one_62 ?_
    refine m_puti (kf := 17) C mS_17 mP_17 fl_11_146 dX11_one_63 ?_
    refine k_iload_n (q := 1) C dX11_one_66 rfl rfl ?_
    refine k_bipush (v := 40) C dX11_one_67 rfl ?_
    refine k_icmp_ne (tgt := 79) C dX11_one_69 (by decide) (fun _ => ?_) (fun _ => ?_)
    · refine k_aload_n (q := 0) C dX11_one_79 rfl rfl ?_
      refine k_cVI C (hg_one _) my_11_one ml_11_177 rfl ⟨Nat.le_refl _, Nat.le_of_ble_eq_true rfl⟩ recvM rfl (Nat.le_of_ble_eq_true rfl) dX11_one_80 ⟨Nat.le_refl _, Nat.le_refl _⟩ (fun r3 _ => ?_)
      exact kb_X11_one_B83 C hg_either hg_one _ _ _
    · refine k_aload_n (q := 0) C dX11_one_72 rfl rfl ?_
      refine k_cVI C (hg_either _) my_11_either ml_11_186 rfl ⟨Nat.le_refl _, Nat.le_of_ble_eq_true rfl⟩ recvM rfl (Nat.le_of_ble_eq_true rfl) dX11_one_73 ⟨Nat.le_refl _, Nat.le_refl _⟩ (fun r4 _ => ?_)
      refine k_goto (tgt := 83) C dX11_one_76 (by decide) ?_
      exact kb_X11_one_B83 C hg_either hg_one _ _ _
  · refine k_aload_n (q := 0) C dX11_one_41 rfl rfl ?_
    refine k_cVI C ct_X11_wrong my_11_wrong ml_11_183 rfl ⟨by omega, Nat.le_of_ble_eq_true rfl⟩ recvM rfl (Nat.le_of_ble_eq_true rfl) dX11_one_42 ⟨Nat.le_refl _, Nat.le_refl _⟩ (fun r5 _ => ?_)
    exact k_iret C rfl ⟨rfl, rfl⟩ dX11_one_45
set_option maxRecDepth 20000 in
theorem kw_X11_one {X : GX} {θ : TH} {ad : Nat → Nat} {d : Nat} {F : Nat} {g : Nat → St → Option (Int32 × St)} {S : St}  (C : CX (mE X θ (wdM θ ad S) 5) RX11 cX11_one (some .int) (2 + (d + 1)) 0 0) (hg_either : ∀ (S : St) (r : Int32 × St), g 0 S = some r → Ct X.2.1 θ yX11_either cX11_either 3 (some .int) (2 + d) 0 0 [.ref (ad 44)] (wdM θ ad S) (PIS (wdM θ ad) r)) (hg_one : ∀ (S : St) (r : Int32 × St), g 5 S = some r → Ct X.2.1 θ yX11_one cX11_one 5 (some .int) (2 + d) 0 0 [.ref (ad 44)] (wdM θ ad S) (PIS (wdM θ ad) r)) : Dk (mE X θ (wdM θ ad S) 5) (mT X θ (wdM θ ad S) 5 (PIS (wdM θ ad))) 0 0 (wdM θ ad S) [(0, .ref (ad 44))] [] 0 (f_X11_one F g S) := by
  unfold f_X11_one
  refine k_aload_n (q := 0) C dX11_one_0 rfl rfl ?_
  refine m_geti (kf := 19) (v := S.1 19) C mS_19 fl_11_155 rfl dX11_one_1 ?_
  refine k_if_lt (tgt := 9) C dX11_one_4 (by decide) (fun _ => ?_) (fun _ => ?_)
  · refine k_aload_n (q := 0) C dX11_one_9 rfl rfl ?_
    refine k_cVI C ct_X11_byteAt my_11_byteAt ml_11_158 rfl ⟨by omega, Nat.le_of_ble_eq_true rfl⟩ recvM rfl (Nat.le_of_ble_eq_true rfl) dX11_one_10 ⟨Nat.le_refl _, Nat.le_refl _⟩ (fun r1 _ => ?_)
    refine k_istore_n (lv' := [(1, .int r1), (0, .ref (ad 44))]) C dX11_one_13 rfl (Nat.le_of_ble_eq_true rfl) rfl ?_
    refine k_iload_n (q := 0) C dX11_one_14 rfl rfl ?_
    refine k_bipush (v := 33) C dX11_one_15 rfl ?_
    refine k_icmp_eq (tgt := 32) C dX11_one_17 (by decide) (fun _ => ?_) (fun _ => ?_)
    · refine Dk.loc [1, 0] rfl ?_
      exact kb_X11_one_B32 C hg_either hg_one _ _
    · refine k_iload_n (q := 0) C dX11_one_20 rfl rfl ?_
      refine k_bipush (v := 45) C dX11_one_21 rfl ?_
      refine k_icmp_eq (tgt := 32) C dX11_one_23 (by decide) (fun _ => ?_) (fun _ => ?_)
      · refine Dk.loc [1, 0] rfl ?_
        exact kb_X11_one_B32 C hg_either hg_one _ _
      · refine k_iload_n (q := 0) C dX11_one_26 rfl rfl ?_
        refine k_bipush (v := 40) C dX11_one_27 rfl ?_
        refine k_icmp_ne (tgt := 145) C dX11_one_29 (by decide) (fun _ => ?_) (fun _ => ?_)
        · refine k_iload_n (q := 0) C dX11_one_145 rfl rfl ?_
          refine k_cSI C ct_X11_nameOf my_11_nameOf ml_11_189 rfl ⟨by omega, Nat.le_of_ble_eq_true rfl⟩ rfl (Nat.le_of_ble_eq_true rfl) dX11_one_146 ⟨Nat.le_refl _, Nat.le_refl _⟩ (fun r2 _ => ?_)
          refine k_istore_n (lv' := [(2, .int r2), (1, .int r1), (0, .ref (ad 44))]) C dX11_one_149 rfl (Nat.le_of_ble_eq_true rfl) rfl ?_
          refine k_iload_n (q := 0) C dX11_one_150 rfl rfl ?_
          refine k_if_lt (tgt := 171) C dX11_one_151 (by decide) (fun _ => ?_) (fun _ => ?_)
          · refine k_iconst (v := 0) C dX11_one_171 rfl ?_
            refine k_istore_n (lv' := [(3, .int 0), (2, .int r2), (1, .int r1), (0, .ref (ad 44))]) C dX11_one_172 rfl (Nat.le_of_ble_eq_true rfl) rfl ?_
            refine k_iconst (v := 0) C dX11_one_173 rfl ?_
            refine k_istore (lv' := [(4, .int 0), (3, .int 0), (2, .int r2), (1, .int r1), (0, .ref (ad 44))]) C dX11_one_174 (Nat.le_of_ble_eq_true rfl) rfl ?_
            refine Dk.loc [4, 1, 0] rfl ?_
            exact kb_X11_one_L176 C hg_either hg_one _ _ _ _
          · refine k_aload_n (q := 2) C dX11_one_154 rfl rfl ?_
            refine k_dup C dX11_one_155 rfl ?_
            refine m_geti (kf := 17) (v := S.1 17) C mS_17 fl_11_146 rfl dX11_one_156 ?_
            refine k_iconst (v := 1) C dX11_one_159 rfl ?_
            refine k_iadd C dX11_one_160 ?_
            refine m_puti (kf := 17) C mS_17 mP_17 fl_11_146 dX11_one_161 ?_
            refine k_aload_n (q := 2) C dX11_one_164 rfl rfl ?_
            refine m_geta (kf := 21) C mR_21 fl_11_43 dX11_one_165 ?_
            refine k_iload_n (q := 0) C dX11_one_168 rfl rfl ?_
            refine m_iald (x := S.2.1 21 (r2).toNatClampNeg) C mA_21 mN_21 rfl dX11_one_169 ?_
            exact k_iret C rfl ⟨rfl, rfl⟩ dX11_one_170
        · refine Dk.loc [1, 0] rfl ?_
          exact kb_X11_one_B32 C hg_either hg_one _ _
  · refine k_iconst (v := 0) C dX11_one_7 rfl ?_
    exact k_iret C rfl ⟨rfl, rfl⟩ dX11_one_8
theorem ct_X11_one {l : Launch} {θ : TH} {ad : Nat → Nat} {d : Nat} {F : Nat} {g : Nat → St → Option (Int32 × St)} {S : St}  (hg_either : ∀ (S : St) (r : Int32 × St), g 0 S = some r → Ct l θ yX11_either cX11_either 3 (some .int) (2 + d) 0 0 [.ref (ad 44)] (wdM θ ad S) (PIS (wdM θ ad) r)) (hg_one : ∀ (S : St) (r : Int32 × St), g 5 S = some r → Ct l θ yX11_one cX11_one 5 (some .int) (2 + d) 0 0 [.ref (ad 44)] (wdM θ ad S) (PIS (wdM θ ad) r)) : ∀ r, f_X11_one F g S = some r → Ct l θ yX11_one cX11_one 5 (some .int) (2 + (d + 1)) 0 0 [.ref (ad 44)] (wdM θ ad S) (PIS (wdM θ ad) r) :=
  fun r hr => Ct.of (by decide) (Nat.le_of_ble_eq_true rfl) (fun X hX C _ => by subst hX; exact kw_X11_one C hg_either hg_one r hr)
set_option maxRecDepth 20000 in
theorem kb_X11_product_B35 {X : GX} {θ : TH} {ad : Nat → Nat} {S0 : St} {d : Nat} {F : Nat} {g : Nat → St → Option (Int32 × St)} {K10 : St → Int32 → Int32 → Option (Int32 × St)} (C : CX (mE X θ (wdM θ ad S0) 4) RX11 cX11_product (some .int) (2 + (d + 1)) 0 0) (hg_one : ∀ (S : St) (r : Int32 × St), g 5 S = some r → Ct X.2.1 θ yX11_one cX11_one 5 (some .int) (2 + d) 0 0 [.ref (ad 44)] (wdM θ ad S) (PIS (wdM θ ad) r)) (hK10 : ∀ (S : St) (x1 : Int32) (x2 : Int32), Dk (mE X θ (wdM θ ad S0) 4) (mT X θ (wdM θ ad S0) 4 (PIS (wdM θ ad))) 0 0 (wdM θ ad S) [(0, .ref (ad 44)), (1, .int x1), (2, .int x2)] [] 10 (K10 S x1 x2)) (S : St) (x1 : Int32) (x2 : Int32) : Dk (mE X θ (wdM θ ad S0) 4) (mT X θ (wdM θ ad S0) 4 (PIS (wdM θ ad))) 0 0 (wdM θ ad S) [(0, .ref (ad 44)), (1, .int x1), (2, .int x2)] [] 35 (f_X11_product_B35 F g K10 S x1 x2) := by
  unfold f_X11_product_B35
  refine k_aload_n (q := 0) C dX11_product_35 rfl rfl ?_
  refine k_dup C dX11_product_36 rfl ?_
  refine m_geti (kf := 17) (v := S.1 17) C mS_17 fl_11_146 rfl dX11_product_37 ?_
  refine k_iconst (v := 1) C dX11_product_40 rfl ?_
  refine k_iadd C dX11_product_41 ?_
  refine m_puti (kf := 17) C mS_17 mP_17 fl_11_146 dX11_product_42 ?_
  refine k_aload_n (q := 0) C dX11_product_45 rfl rfl ?_
  refine k_cVI C (hg_one _) my_11_one ml_11_177 rfl ⟨Nat.le_refl _, Nat.le_of_ble_eq_true rfl⟩ recvM rfl (Nat.le_of_ble_eq_true rfl) dX11_product_46 ⟨Nat.le_refl _, Nat.le_refl _⟩ (fun r3 _ => ?_)
  refine k_istore_n (lv' := [(3, .int r3.1), (0, .ref (ad 44)), (1, .int x1), (2, .int x2)]) C dX11_product_49 rfl (Nat.le_of_ble_eq_true rfl) rfl ?_
  refine k_iload_n (q := 3) C dX11_product_50 rfl rfl ?_
  refine k_bipush (v := 42) C dX11_product_51 rfl ?_
  refine k_icmp_ne (tgt := 62) C dX11_product_53 (by decide) (fun _ => ?_) (fun _ => ?_)
  · refine k_iload_n (q := 0) C dX11_product_62 rfl rfl ?_
    refine k_if_ne (tgt := 70) C dX11_product_63 (by decide) (fun _ => ?_) (fun _ => ?_)
    · refine k_iload_n (q := 3) C dX11_product_70 rfl rfl ?_
      refine k_bipush (v := 47) C dX11_product_71 rfl ?_
      refine k_icmp_ne (tgt := 82) C dX11_product_73 (by decide) (fun _ => ?_) (fun _ => ?_)
      · refine k_iload_n (q := 2) C dX11_product_82 rfl rfl ?_
        refine k_iload_n (q := 0) C dX11_product_83 rfl rfl ?_
        refine k_iremc C dX11_product_84 ?_
        refine k_istore_n (lv' := [(1, .int (jrem x1 r3.1)), (3, .int r3.1), (0, .ref (ad 44)), (2, .int x2)]) C dX11_product_85 rfl (Nat.le_of_ble_eq_true rfl) rfl ?_
        refine k_aload_n (q := 2) C dX11_product_86 rfl rfl ?_
        refine k_cVI C ct_X11_byteAt my_11_byteAt ml_11_158 rfl ⟨by omega, Nat.le_of_ble_eq_true rfl⟩ recvM rfl (Nat.le_of_ble_eq_true rfl) dX11_product_87 ⟨Nat.le_refl _, Nat.le_refl _⟩ (fun r4 _ => ?_)
        refine k_istore_n (lv' := [(2, .int r4), (1, .int (jrem x1 r3.1)), (3, .int r3.1), (0, .ref (ad 44))]) C dX11_product_90 rfl (Nat.le_of_ble_eq_true rfl) rfl ?_
        refine k_goto (tgt := 10) C dX11_product_91 (by decide) ?_
        refine Dk.loc [3, 1, 0] rfl ?_
        exact hK10 _ _ _
      · refine k_iload_n (q := 2) C dX11_product_76 rfl rfl ?_
        refine k_iload_n (q := 0) C dX11_product_77 rfl rfl ?_
        refine k_idivc C dX11_product_78 ?_
        refine k_goto (tgt := 85) C dX11_product_79 (by decide) ?_
        refine k_istore_n (lv' := [(1, .int (x1 / r3.1)), (3, .int r3.1), (0, .ref (ad 44)), (2, .int x2)]) C dX11_product_85 rfl (Nat.le_of_ble_eq_true rfl) rfl ?_
        refine k_aload_n (q := 2) C dX11_product_86 rfl rfl ?_
        refine k_cVI C ct_X11_byteAt my_11_byteAt ml_11_158 rfl ⟨by omega, Nat.le_of_ble_eq_true rfl⟩ recvM rfl (Nat.le_of_ble_eq_true rfl) dX11_product_87 ⟨Nat.le_refl _, Nat.le_refl _⟩ (fun r5 _ => ?_)
        refine k_istore_n (lv' := [(2, .int r5), (1, .int (x1 / r3.1)), (3, .int r3.1), (0, .ref (ad 44))]) C dX11_product_90 rfl (Nat.le_of_ble_eq_true rfl) rfl ?_
        refine k_goto (tgt := 10) C dX11_product_91 (by decide) ?_
        refine Dk.loc [3, 1, 0] rfl ?_
        exact hK10 _ _ _
    · refine k_iconst (v := 0) C dX11_product_66 rfl ?_
      refine k_goto (tgt := 85) C dX11_product_67 (by decide) ?_
      refine k_istore_n (lv' := [(1, .int 0), (3, .int r3.1), (0, .ref (ad 44)), (2, .int x2)]) C dX11_product_85 rfl (Nat.le_of_ble_eq_true rfl) rfl ?_
      refine k_aload_n (q := 2) C dX11_product_86 rfl rfl ?_
      refine k_cVI C ct_X11_byteAt my_11_byteAt ml_11_158 rfl ⟨by omega, Nat.le_of_ble_eq_true rfl⟩ recvM rfl (Nat.le_of_ble_eq_true rfl) dX11_product_87 ⟨Nat.le_refl _, Nat.le_refl _⟩ (fun r6 _ => ?_)
      refine k_istore_n (lv' := [(2, .int r6), (1, .int 0), (3, .int r3.1), (0, .ref (ad 44))]) C dX11_product_90 rfl (Nat.le_of_ble_eq_true rfl) rfl ?_
      refine k_goto (tgt := 10) C dX11_product_91 (by decide) ?_
      refine Dk.loc [3, 1, 0] rfl ?_
      exact hK10 _ _ _
  · refine k_iload_n (q := 2) C dX11_product_56 rfl rfl ?_
    refine k_iload_n (q := 0) C dX11_product_57 rfl rfl ?_
    refine k_imul C dX11_product_58 ?_
    refine k_goto (tgt := 85) C dX11_product_59 (by decide) ?_
    refine k_istore_n (lv' := [(1, .int (x1 * r3.1)), (3, .int r3.1), (0, .ref (ad 44)), (2, .int x2)]) C dX11_product_85 rfl (Nat.le_of_ble_eq_true rfl) rfl ?_
    refine k_aload_n (q := 2) C dX11_product_86 rfl rfl ?_
    refine k_cVI C ct_X11_byteAt my_11_byteAt ml_11_158 rfl ⟨by omega, Nat.le_of_ble_eq_true rfl⟩ recvM rfl (Nat.le_of_ble_eq_true rfl) dX11_product_87 ⟨Nat.le_refl _, Nat.le_refl _⟩ (fun r7 _ => ?_)
    refine k_istore_n (lv' := [(2, .int r7), (1, .int (x1 * r3.1)), (3, .int r3.1), (0, .ref (ad 44))]) C dX11_product_90 rfl (Nat.le_of_ble_eq_true rfl) rfl ?_
    refine k_goto (tgt := 10) C dX11_product_91 (by decide) ?_
    refine Dk.loc [3, 1, 0] rfl ?_
    exact hK10 _ _ _
set_option maxRecDepth 20000 in
theorem kb_X11_product_L10 {X : GX} {θ : TH} {ad : Nat → Nat} {S0 : St} {d : Nat} {F : Nat} {g : Nat → St → Option (Int32 × St)} (C : CX (mE X θ (wdM θ ad S0) 4) RX11 cX11_product (some .int) (2 + (d + 1)) 0 0) (hg_one : ∀ (S : St) (r : Int32 × St), g 5 S = some r → Ct X.2.1 θ yX11_one cX11_one 5 (some .int) (2 + d) 0 0 [.ref (ad 44)] (wdM θ ad S) (PIS (wdM θ ad) r)) : ∀ (n : Nat) (S : St) (x1 : Int32) (x2 : Int32), Dk (mE X θ (wdM θ ad S0) 4) (mT X θ (wdM θ ad S0) 4 (PIS (wdM θ ad))) 0 0 (wdM θ ad S) [(0, .ref (ad 44)), (1, .int x1), (2, .int x2)] [] 10 (f_X11_product_L10 F g n S x1 x2) := by
  intro n
  induction n with
  | zero => intro S x1 x2; exact Dk.none
  | succ n ih =>
    intro S x1 x2
    show Dk _ _ _ _ _ _ _ _ (if (0 : Int32) ≤ (S.1 19) then some (x1, S) else if x2 = 42 then f_X11_product_B35 F g (f_X11_product_L10 F g n) S x1 x2 else if x2 = 47 then f_X11_product_B35 F g (f_X11_product_L10 F g n) S x1 x2 else if x2 = 37 then f_X11_product_B35 F g (f_X11_product_L10 F g n) S x1 x2 else some (x1, S))
    refine k_aload_n (q := 0) C dX11_product_10 rfl rfl ?_
    refine m_geti (kf := 19) (v := S.1 19) C mS_19 fl_11_155 rfl dX11_product_11 ?_
    refine k_if_ge (tgt := 94) C dX11_product_14 (by decide) (fun _ => ?_) (fun _ => ?_)
    · refine k_iload_n (q := 1) C dX11_product_94 rfl rfl ?_
      exact k_iret C rfl ⟨rfl, rfl⟩ dX11_product_95
    · refine k_iload_n (q := 2) C dX11_product_17 rfl rfl ?_
      refine k_bipush (v := 42) C dX11_product_18 rfl ?_
      refine k_icmp_eq (tgt := 35) C dX11_product_20 (by decide) (fun _ => ?_) (fun _ => ?_)
      · exact kb_X11_product_B35 C hg_one ih _ _ _
      · refine k_iload_n (q := 2) C dX11_product_23 rfl rfl ?_
        refine k_bipush (v := 47) C dX11_product_24 rfl ?_
        refine k_icmp_eq (tgt := 35) C dX11_product_26 (by decide) (fun _ => ?_) (fun _ => ?_)
        · exact kb_X11_product_B35 C hg_one ih _ _ _
        · refine k_iload_n (q := 2) C dX11_product_29 rfl rfl ?_
          refine k_bipush (v := 37) C dX11_product_30 rfl ?_
          refine k_icmp_ne (tgt := 94) C dX11_product_32 (by decide) (fun _ => ?_) (fun _ => ?_)
          · refine k_iload_n (q := 1) C dX11_product_94 rfl rfl ?_
            exact k_iret C rfl ⟨rfl, rfl⟩ dX11_product_95
          · exact kb_X11_product_B35 C hg_one ih _ _ _
set_option maxRecDepth 20000 in
theorem kw_X11_product {X : GX} {θ : TH} {ad : Nat → Nat} {d : Nat} {F : Nat} {g : Nat → St → Option (Int32 × St)} {S : St}  (C : CX (mE X θ (wdM θ ad S) 4) RX11 cX11_product (some .int) (2 + (d + 1)) 0 0) (hg_one : ∀ (S : St) (r : Int32 × St), g 5 S = some r → Ct X.2.1 θ yX11_one cX11_one 5 (some .int) (2 + d) 0 0 [.ref (ad 44)] (wdM θ ad S) (PIS (wdM θ ad) r)) : Dk (mE X θ (wdM θ ad S) 4) (mT X θ (wdM θ ad S) 4 (PIS (wdM θ ad))) 0 0 (wdM θ ad S) [(0, .ref (ad 44))] [] 0 (f_X11_product F g S) := by
  unfold f_X11_product
  refine k_aload_n (q := 0) C dX11_product_0 rfl rfl ?_
  refine k_cVI C (hg_one _) my_11_one ml_11_177 rfl ⟨Nat.le_refl _, Nat.le_of_ble_eq_true rfl⟩ recvM rfl (Nat.le_of_ble_eq_true rfl) dX11_product_1 ⟨Nat.le_refl _, Nat.le_refl _⟩ (fun r1 _ => ?_)
  refine k_istore_n (lv' := [(1, .int r1.1), (0, .ref (ad 44))]) C dX11_product_4 rfl (Nat.le_of_ble_eq_true rfl) rfl ?_
  refine k_aload_n (q := 1) C dX11_product_5 rfl rfl ?_
  refine k_cVI C ct_X11_byteAt my_11_byteAt ml_11_158 rfl ⟨by omega, Nat.le_of_ble_eq_true rfl⟩ recvM rfl (Nat.le_of_ble_eq_true rfl) dX11_product_6 ⟨Nat.le_refl _, Nat.le_refl _⟩ (fun r2 _ => ?_)
  refine k_istore_n (lv' := [(2, .int r2), (1, .int r1.1), (0, .ref (ad 44))]) C dX11_product_9 rfl (Nat.le_of_ble_eq_true rfl) rfl ?_
  refine Dk.loc [2, 1, 0] rfl ?_
  exact kb_X11_product_L10 C hg_one _ _ _ _
theorem ct_X11_product {l : Launch} {θ : TH} {ad : Nat → Nat} {d : Nat} {F : Nat} {g : Nat → St → Option (Int32 × St)} {S : St}  (hg_one : ∀ (S : St) (r : Int32 × St), g 5 S = some r → Ct l θ yX11_one cX11_one 5 (some .int) (2 + d) 0 0 [.ref (ad 44)] (wdM θ ad S) (PIS (wdM θ ad) r)) : ∀ r, f_X11_product F g S = some r → Ct l θ yX11_product cX11_product 4 (some .int) (2 + (d + 1)) 0 0 [.ref (ad 44)] (wdM θ ad S) (PIS (wdM θ ad) r) :=
  fun r hr => Ct.of (by decide) (Nat.le_of_ble_eq_true rfl) (fun X hX C _ => by subst hX; exact kw_X11_product C hg_one r hr)
set_option maxRecDepth 20000 in
theorem kb_X11_sums_B44 {X : GX} {θ : TH} {ad : Nat → Nat} {S0 : St} {d : Nat} {F : Nat} {g : Nat → St → Option (Int32 × St)} {K5 : St → Int32 → Option (Int32 × St)} (C : CX (mE X θ (wdM θ ad S0) 4) RX11 cX11_sums (some .int) (2 + (d + 1)) 0 0) (hg_product : ∀ (S : St) (r : Int32 × St), g 4 S = some r → Ct X.2.1 θ yX11_product cX11_product 4 (some .int) (2 + d) 0 0 [.ref (ad 44)] (wdM θ ad S) (PIS (wdM θ ad) r)) (hK5 : ∀ (S : St) (x1 : Int32), Dk (mE X θ (wdM θ ad S0) 4) (mT X θ (wdM θ ad S0) 4 (PIS (wdM θ ad))) 0 0 (wdM θ ad S) [(0, .ref (ad 44)), (1, .int x1)] [] 5 (K5 S x1)) (S : St) (x1 : Int32) (t0 : Int32) : Dk (mE X θ (wdM θ ad S0) 4) (mT X θ (wdM θ ad S0) 4 (PIS (wdM θ ad))) 0 0 (wdM θ ad S) [(0, .ref (ad 44)), (1, .int x1)] [.int t0] 44 (f_X11_sums_B44 F g K5 S x1 t0) := by
  unfold f_X11_sums_B44
  refine k_istore_n (lv' := [(2, .int t0), (0, .ref (ad 44)), (1, .int x1)]) C dX11_sums_44 rfl (Nat.le_of_ble_eq_true rfl) rfl ?_
  refine k_aload_n (q := 1) C dX11_sums_45 rfl rfl ?_
  refine k_dup C dX11_sums_46 rfl ?_
  refine m_geti (kf := 17) (v := S.1 17) C mS_17 fl_11_146 rfl dX11_sums_47 ?_
  refine k_iconst (v := 1) C dX11_sums_50 rfl ?_
  refine k_iadd C dX11_sums_51 ?_
  refine m_puti (kf := 17) C mS_17 mP_17 fl_11_146 dX11_sums_52 ?_
  refine k_aload_n (q := 1) C dX11_sums_55 rfl rfl ?_
  refine k_cVI C (hg_product _) my_11_product ml_11_174 rfl ⟨Nat.le_refl _, Nat.le_of_ble_eq_true rfl⟩ recvM rfl (Nat.le_of_ble_eq_true rfl) dX11_sums_56 ⟨Nat.le_refl _, Nat.le_refl _⟩ (fun r5 _ => ?_)
  refine k_istore_n (lv' := [(3, .int r5.1), (2, .int t0), (0, .ref (ad 44)), (1, .int x1)]) C dX11_sums_59 rfl (Nat.le_of_ble_eq_true rfl) rfl ?_
  refine k_iload_n (q := 1) C dX11_sums_60 rfl rfl ?_
  refine k_if_eq (tgt := 70) C dX11_sums_61 (by decide) (fun _ => ?_) (fun _ => ?_)
  · refine k_iload_n (q := 3) C dX11_sums_70 rfl rfl ?_
    refine k_iload_n (q := 0) C dX11_sums_71 rfl rfl ?_
    refine k_isub C dX11_sums_72 ?_
    refine k_istore_n (lv' := [(1, .int (x1 - r5.1)), (3, .int r5.1), (2, .int t0), (0, .ref (ad 44))]) C dX11_sums_73 rfl (Nat.le_of_ble_eq_true rfl) rfl ?_
    refine k_goto (tgt := 5) C dX11_sums_74 (by decide) ?_
    refine Dk.loc [3, 0] rfl ?_
    exact hK5 _ _
  · refine k_iload_n (q := 3) C dX11_sums_64 rfl rfl ?_
    refine k_iload_n (q := 0) C dX11_sums_65 rfl rfl ?_
    refine k_iadd C dX11_sums_66 ?_
    refine k_goto (tgt := 73) C dX11_sums_67 (by decide) ?_
    refine k_istore_n (lv' := [(1, .int (x1 + r5.1)), (3, .int r5.1), (2, .int t0), (0, .ref (ad 44))]) C dX11_sums_73 rfl (Nat.le_of_ble_eq_true rfl) rfl ?_
    refine k_goto (tgt := 5) C dX11_sums_74 (by decide) ?_
    refine Dk.loc [3, 0] rfl ?_
    exact hK5 _ _
set_option maxRecDepth 20000 in
theorem kb_X11_sums_B30 {X : GX} {θ : TH} {ad : Nat → Nat} {S0 : St} {d : Nat} {F : Nat} {g : Nat → St → Option (Int32 × St)} {K5 : St → Int32 → Option (Int32 × St)} (C : CX (mE X θ (wdM θ ad S0) 4) RX11 cX11_sums (some .int) (2 + (d + 1)) 0 0) (hg_product : ∀ (S : St) (r : Int32 × St), g 4 S = some r → Ct X.2.1 θ yX11_product cX11_product 4 (some .int) (2 + d) 0 0 [.ref (ad 44)] (wdM θ ad S) (PIS (wdM θ ad) r)) (hK5 : ∀ (S : St) (x1 : Int32), Dk (mE X θ (wdM θ ad S0) 4) (mT X θ (wdM θ ad S0) 4 (PIS (wdM θ ad))) 0 0 (wdM θ ad S) [(0, .ref (ad 44)), (1, .int x1)] [] 5 (K5 S x1)) (S : St) (x1 : Int32) : Dk (mE X θ (wdM θ ad S0) 4) (mT X θ (wdM θ ad S0) 4 (PIS (wdM θ ad))) 0 0 (wdM θ ad S) [(0, .ref (ad 44)), (1, .int x1)] [] 30 (f_X11_sums_B30 F g K5 S x1) := by
  unfold f_X11_sums_B30
  refine k_aload_n (q := 0) C dX11_sums_30 rfl rfl ?_
  refine k_cVI C ct_X11_byteAt my_11_byteAt ml_11_158 rfl ⟨by omega, Nat.le_of_ble_eq_true rfl⟩ recvM rfl (Nat.le_of_ble_eq_true rfl) dX11_sums_31 ⟨Nat.le_refl _, Nat.le_refl _⟩ (fun r4 _ => ?_)
  refine k_bipush (v := 43) C dX11_sums_34 rfl ?_
  refine k_icmp_ne (tgt := 43) C dX11_sums_36 (by decide) (fun _ => ?_) (fun _ => ?_)
  · refine k_iconst (v := 0) C dX11_sums_43 rfl ?_
    exact kb_X11_sums_B44 C hg_product hK5 _ _ _
  · refine k_iconst (v := 1) C dX11_sums_39 rfl ?_
    refine k_goto (tgt := 44) C dX11_sums_40 (by decide) ?_
    exact kb_X11_sums_B44 C hg_product hK5 _ _ _
set_option maxRecDepth 20000 in
theorem kb_X11_sums_L5 {X : GX} {θ : TH} {ad : Nat → Nat} {S0 : St} {d : Nat} {F : Nat} {g : Nat → St → Option (Int32 × St)} (C : CX (mE X θ (wdM θ ad S0) 4) RX11 cX11_sums (some .int) (2 + (d + 1)) 0 0) (hg_product : ∀ (S : St) (r : Int32 × St), g 4 S = some r → Ct X.2.1 θ yX11_product cX11_product 4 (some .int) (2 + d) 0 0 [.ref (ad 44)] (wdM θ ad S) (PIS (wdM θ ad) r)) : ∀ (n : Nat) (S : St) (x1 : Int32), Dk (mE X θ (wdM θ ad S0) 4) (mT X θ (wdM θ ad S0) 4 (PIS (wdM θ ad))) 0 0 (wdM θ ad S) [(0, .ref (ad 44)), (1, .int x1)] [] 5 (f_X11_sums_L5 F g n S x1) := by
  intro n
  induction n with
  | zero => intro S x1; exact Dk.none
  | succ n ih =>
    intro S x1
    show Dk _ _ _ _ _ _ _ _ (if (0 : Int32) ≤ (S.1 19) then some (x1, S) else (f_X11_byteAt S).bind fun r2 => (if r2 = 43 then f_X11_sums_B30 F g (f_X11_sums_L5 F g n) S x1 else (f_X11_byteAt S).bind fun r3 => (if r3 = 45 then f_X11_sums_B30 F g (f_X11_sums_L5 F g n) S x1 else some (x1, S))))
    refine k_aload_n (q := 0) C dX11_sums_5 rfl rfl ?_
    refine m_geti (kf := 19) (v := S.1 19) C mS_19 fl_11_155 rfl dX11_sums_6 ?_
    refine k_if_ge (tgt := 77) C dX11_sums_9 (by decide) (fun _ => ?_) (fun _ => ?_)
    · refine k_iload_n (q := 1) C dX11_sums_77 rfl rfl ?_
      exact k_iret C rfl ⟨rfl, rfl⟩ dX11_sums_78
    · refine k_aload_n (q := 0) C dX11_sums_12 rfl rfl ?_
      refine k_cVI C ct_X11_byteAt my_11_byteAt ml_11_158 rfl ⟨by omega, Nat.le_of_ble_eq_true rfl⟩ recvM rfl (Nat.le_of_ble_eq_true rfl) dX11_sums_13 ⟨Nat.le_refl _, Nat.le_refl _⟩ (fun r2 _ => ?_)
      refine k_bipush (v := 43) C dX11_sums_16 rfl ?_
      refine k_icmp_eq (tgt := 30) C dX11_sums_18 (by decide) (fun _ => ?_) (fun _ => ?_)
      · exact kb_X11_sums_B30 C hg_product ih _ _
      · refine k_aload_n (q := 0) C dX11_sums_21 rfl rfl ?_
        refine k_cVI C ct_X11_byteAt my_11_byteAt ml_11_158 rfl ⟨by omega, Nat.le_of_ble_eq_true rfl⟩ recvM rfl (Nat.le_of_ble_eq_true rfl) dX11_sums_22 ⟨Nat.le_refl _, Nat.le_refl _⟩ (fun r3 _ => ?_)
        refine k_bipush (v := 45) C dX11_sums_25 rfl ?_
        refine k_icmp_ne (tgt := 77) C dX11_sums_27 (by decide) (fun _ => ?_) (fun _ => ?_)
        · refine k_iload_n (q := 1) C dX11_sums_77 rfl rfl ?_
          exact k_iret C rfl ⟨rfl, rfl⟩ dX11_sums_78
        · exact kb_X11_sums_B30 C hg_product ih _ _
set_option maxRecDepth 20000 in
theorem kw_X11_sums {X : GX} {θ : TH} {ad : Nat → Nat} {d : Nat} {F : Nat} {g : Nat → St → Option (Int32 × St)} {S : St}  (C : CX (mE X θ (wdM θ ad S) 4) RX11 cX11_sums (some .int) (2 + (d + 1)) 0 0) (hg_product : ∀ (S : St) (r : Int32 × St), g 4 S = some r → Ct X.2.1 θ yX11_product cX11_product 4 (some .int) (2 + d) 0 0 [.ref (ad 44)] (wdM θ ad S) (PIS (wdM θ ad) r)) : Dk (mE X θ (wdM θ ad S) 4) (mT X θ (wdM θ ad S) 4 (PIS (wdM θ ad))) 0 0 (wdM θ ad S) [(0, .ref (ad 44))] [] 0 (f_X11_sums F g S) := by
  unfold f_X11_sums
  refine k_aload_n (q := 0) C dX11_sums_0 rfl rfl ?_
  refine k_cVI C (hg_product _) my_11_product ml_11_174 rfl ⟨Nat.le_refl _, Nat.le_of_ble_eq_true rfl⟩ recvM rfl (Nat.le_of_ble_eq_true rfl) dX11_sums_1 ⟨Nat.le_refl _, Nat.le_refl _⟩ (fun r1 _ => ?_)
  refine k_istore_n (lv' := [(1, .int r1.1), (0, .ref (ad 44))]) C dX11_sums_4 rfl (Nat.le_of_ble_eq_true rfl) rfl ?_
  refine Dk.loc [1, 0] rfl ?_
  exact kb_X11_sums_L5 C hg_product _ _ _
theorem ct_X11_sums {l : Launch} {θ : TH} {ad : Nat → Nat} {d : Nat} {F : Nat} {g : Nat → St → Option (Int32 × St)} {S : St}  (hg_product : ∀ (S : St) (r : Int32 × St), g 4 S = some r → Ct l θ yX11_product cX11_product 4 (some .int) (2 + d) 0 0 [.ref (ad 44)] (wdM θ ad S) (PIS (wdM θ ad) r)) : ∀ r, f_X11_sums F g S = some r → Ct l θ yX11_sums cX11_sums 4 (some .int) (2 + (d + 1)) 0 0 [.ref (ad 44)] (wdM θ ad S) (PIS (wdM θ ad) r) :=
  fun r hr => Ct.of (by decide) (Nat.le_of_ble_eq_true rfl) (fun X hX C _ => by subst hX; exact kw_X11_sums C hg_product r hr)
set_option maxRecDepth 20000 in
theorem kb_X11_compared_B37 {X : GX} {θ : TH} {ad : Nat → Nat} {S0 : St} {d : Nat} {F : Nat} {g : Nat → St → Option (Int32 × St)} (C : CX (mE X θ (wdM θ ad S0) 4) RX11 cX11_compared (some .int) (2 + (d + 1)) 0 0) (hg_sums : ∀ (S : St) (r : Int32 × St), g 3 S = some r → Ct X.2.1 θ yX11_sums cX11_sums 4 (some .int) (2 + d) 0 0 [.ref (ad 44)] (wdM θ ad S) (PIS (wdM θ ad) r)) (S : St) (x1 : Int32) (x2 : Int32) : Dk (mE X θ (wdM θ ad S0) 4) (mT X θ (wdM θ ad S0) 4 (PIS (wdM θ ad))) 0 0 (wdM θ ad S) [(0, .ref (ad 44)), (1, .int x1), (2, .int x2)] [] 37 (f_X11_compared_B37 F g S x1 x2) := by
  unfold f_X11_compared_B37
  refine k_aload_n (q := 0) C dX11_compared_37 rfl rfl ?_
  refine k_dup C dX11_compared_38 rfl ?_
  refine m_geti (kf := 17) (v := S.1 17) C mS_17 fl_11_146 rfl dX11_compared_39 ?_
  refine k_iconst (v := 1) C dX11_compared_42 rfl ?_
  refine k_iadd C dX11_compared_43 ?_
  refine m_puti (kf := 17) C mS_17 mP_17 fl_11_146 dX11_compared_44 ?_
  refine k_aload_n (q := 0) C dX11_compared_47 rfl rfl ?_
  refine k_cVI C (hg_sums _) my_11_sums ml_11_171 rfl ⟨Nat.le_refl _, Nat.le_of_ble_eq_true rfl⟩ recvM rfl (Nat.le_of_ble_eq_true rfl) dX11_compared_48 ⟨Nat.le_refl _, Nat.le_refl _⟩ (fun r3 _ => ?_)
  refine k_istore_n (lv' := [(3, .int r3.1), (0, .ref (ad 44)), (1, .int x1), (2, .int x2)]) C dX11_compared_51 rfl (Nat.le_of_ble_eq_true rfl) rfl ?_
  refine k_iload_n (q := 3) C dX11_compared_52 rfl rfl ?_
  refine k_bipush (v := 60) C dX11_compared_53 rfl ?_
  refine k_icmp_ne (tgt := 66) C dX11_compared_55 (by decide) (fun _ => ?_) (fun _ => ?_)
  · refine k_iload_n (q := 3) C dX11_compared_66 rfl rfl ?_
    refine k_bipush (v := 61) C dX11_compared_67 rfl ?_
    refine k_icmp_ne (tgt := 80) C dX11_compared_69 (by decide) (fun _ => ?_) (fun _ => ?_)
    · refine k_iload_n (q := 2) C dX11_compared_80 rfl rfl ?_
      refine k_iload_n (q := 0) C dX11_compared_81 rfl rfl ?_
      refine k_icmp_le (tgt := 89) C dX11_compared_82 (by decide) (fun _ => ?_) (fun _ => ?_)
      · refine k_iconst (v := 0) C dX11_compared_89 rfl ?_
        exact k_iret C rfl ⟨rfl, rfl⟩ dX11_compared_90
      · refine k_iconst (v := 1) C dX11_compared_85 rfl ?_
        refine k_goto (tgt := 90) C dX11_compared_86 (by decide) ?_
        exact k_iret C rfl ⟨rfl, rfl⟩ dX11_compared_90
    · refine k_iload_n (q := 2) C dX11_compared_72 rfl rfl ?_
      refine k_iload_n (q := 0) C dX11_compared_73 rfl rfl ?_
      refine k_icmp_ne (tgt := 89) C dX11_compared_74 (by decide) (fun _ => ?_) (fun _ => ?_)
      · refine k_iconst (v := 0) C dX11_compared_89 rfl ?_
        exact k_iret C rfl ⟨rfl, rfl⟩ dX11_compared_90
      · refine k_goto (tgt := 85) C dX11_compared_77 (by decide) ?_
        refine k_iconst (v := 1) C dX11_compared_85 rfl ?_
        refine k_goto (tgt := 90) C dX11_compared_86 (by decide) ?_
        exact k_iret C rfl ⟨rfl, rfl⟩ dX11_compared_90
  · refine k_iload_n (q := 2) C dX11_compared_58 rfl rfl ?_
    refine k_iload_n (q := 0) C dX11_compared_59 rfl rfl ?_
    refine k_icmp_ge (tgt := 89) C dX11_compared_60 (by decide) (fun _ => ?_) (fun _ => ?_)
    · refine k_iconst (v := 0) C dX11_compared_89 rfl ?_
      exact k_iret C rfl ⟨rfl, rfl⟩ dX11_compared_90
    · refine k_goto (tgt := 85) C dX11_compared_63 (by decide) ?_
      refine k_iconst (v := 1) C dX11_compared_85 rfl ?_
      refine k_goto (tgt := 90) C dX11_compared_86 (by decide) ?_
      exact k_iret C rfl ⟨rfl, rfl⟩ dX11_compared_90
set_option maxRecDepth 20000 in
theorem kw_X11_compared {X : GX} {θ : TH} {ad : Nat → Nat} {d : Nat} {F : Nat} {g : Nat → St → Option (Int32 × St)} {S : St}  (C : CX (mE X θ (wdM θ ad S) 4) RX11 cX11_compared (some .int) (2 + (d + 1)) 0 0) (hg_sums : ∀ (S : St) (r : Int32 × St), g 3 S = some r → Ct X.2.1 θ yX11_sums cX11_sums 4 (some .int) (2 + d) 0 0 [.ref (ad 44)] (wdM θ ad S) (PIS (wdM θ ad) r)) : Dk (mE X θ (wdM θ ad S) 4) (mT X θ (wdM θ ad S) 4 (PIS (wdM θ ad))) 0 0 (wdM θ ad S) [(0, .ref (ad 44))] [] 0 (f_X11_compared F g S) := by
  unfold f_X11_compared
  refine k_aload_n (q := 0) C dX11_compared_0 rfl rfl ?_
  refine k_cVI C (hg_sums _) my_11_sums ml_11_171 rfl ⟨Nat.le_refl _, Nat.le_of_ble_eq_true rfl⟩ recvM rfl (Nat.le_of_ble_eq_true rfl) dX11_compared_1 ⟨Nat.le_refl _, Nat.le_refl _⟩ (fun r1 _ => ?_)
  refine k_istore_n (lv' := [(1, .int r1.1), (0, .ref (ad 44))]) C dX11_compared_4 rfl (Nat.le_of_ble_eq_true rfl) rfl ?_
  refine k_aload_n (q := 1) C dX11_compared_5 rfl rfl ?_
  refine k_cVI C ct_X11_byteAt my_11_byteAt ml_11_158 rfl ⟨by omega, Nat.le_of_ble_eq_true rfl⟩ recvM rfl (Nat.le_of_ble_eq_true rfl) dX11_compared_6 ⟨Nat.le_refl _, Nat.le_refl _⟩ (fun r2 _ => ?_)
  refine k_istore_n (lv' := [(2, .int r2), (1, .int r1.1), (0, .ref (ad 44))]) C dX11_compared_9 rfl (Nat.le_of_ble_eq_true rfl) rfl ?_
  refine k_aload_n (q := 2) C dX11_compared_10 rfl rfl ?_
  refine m_geti (kf := 19) (v := r1.2.1 19) C mS_19 fl_11_155 rfl dX11_compared_11 ?_
  refine k_if_ge (tgt := 35) C dX11_compared_14 (by decide) (fun _ => ?_) (fun _ => ?_)
  · refine k_iload_n (q := 1) C dX11_compared_35 rfl rfl ?_
    exact k_iret C rfl ⟨rfl, rfl⟩ dX11_compared_36
  · refine k_iload_n (q := 0) C dX11_compared_17 rfl rfl ?_
    refine k_bipush (v := 60) C dX11_compared_18 rfl ?_
    refine k_icmp_eq (tgt := 37) C dX11_compared_20 (by decide) (fun _ => ?_) (fun _ => ?_)
    · refine Dk.loc [2, 1, 0] rfl ?_
      exact kb_X11_compared_B37 C hg_sums _ _ _
    · refine k_iload_n (q := 0) C dX11_compared_23 rfl rfl ?_
      refine k_bipush (v := 61) C dX11_compared_24 rfl ?_
      refine k_icmp_eq (tgt := 37) C dX11_compared_26 (by decide) (fun _ => ?_) (fun _ => ?_)
      · refine Dk.loc [2, 1, 0] rfl ?_
        exact kb_X11_compared_B37 C hg_sums _ _ _
      · refine k_iload_n (q := 0) C dX11_compared_29 rfl rfl ?_
        refine k_bipush (v := 62) C dX11_compared_30 rfl ?_
        refine k_icmp_eq (tgt := 37) C dX11_compared_32 (by decide) (fun _ => ?_) (fun _ => ?_)
        · refine Dk.loc [2, 1, 0] rfl ?_
          exact kb_X11_compared_B37 C hg_sums _ _ _
        · refine k_iload_n (q := 1) C dX11_compared_35 rfl rfl ?_
          exact k_iret C rfl ⟨rfl, rfl⟩ dX11_compared_36
theorem ct_X11_compared {l : Launch} {θ : TH} {ad : Nat → Nat} {d : Nat} {F : Nat} {g : Nat → St → Option (Int32 × St)} {S : St}  (hg_sums : ∀ (S : St) (r : Int32 × St), g 3 S = some r → Ct l θ yX11_sums cX11_sums 4 (some .int) (2 + d) 0 0 [.ref (ad 44)] (wdM θ ad S) (PIS (wdM θ ad) r)) : ∀ r, f_X11_compared F g S = some r → Ct l θ yX11_compared cX11_compared 4 (some .int) (2 + (d + 1)) 0 0 [.ref (ad 44)] (wdM θ ad S) (PIS (wdM θ ad) r) :=
  fun r hr => Ct.of (by decide) (Nat.le_of_ble_eq_true rfl) (fun X hX C _ => by subst hX; exact kw_X11_compared C hg_sums r hr)
set_option maxRecDepth 20000 in
theorem kb_X11_both_L5 {X : GX} {θ : TH} {ad : Nat → Nat} {S0 : St} {d : Nat} {F : Nat} {g : Nat → St → Option (Int32 × St)} (C : CX (mE X θ (wdM θ ad S0) 3) RX11 cX11_both (some .int) (2 + (d + 1)) 0 0) (hg_compared : ∀ (S : St) (r : Int32 × St), g 2 S = some r → Ct X.2.1 θ yX11_compared cX11_compared 4 (some .int) (2 + d) 0 0 [.ref (ad 44)] (wdM θ ad S) (PIS (wdM θ ad) r)) : ∀ (n : Nat) (S : St) (x1 : Int32), Dk (mE X θ (wdM θ ad S0) 3) (mT X θ (wdM θ ad S0) 3 (PIS (wdM θ ad))) 0 0 (wdM θ ad S) [(0, .ref (ad 44)), (1, .int x1)] [] 5 (f_X11_both_L5 F g n S x1) := by
  intro n
  induction n with
  | zero => intro S x1; exact Dk.none
  | succ n ih =>
    intro S x1
    show Dk _ _ _ _ _ _ _ _ ((f_X11_takes S 38).bind fun r2 => (if r2.1 = 0 then some (x1, r2.2) else (g 2 r2.2).bind fun r3 => (if x1 = 0 then f_X11_both_L5 F g n r3.2 0 else if r3.1 = 0 then f_X11_both_L5 F g n r3.2 0 else f_X11_both_L5 F g n r3.2 1)))
    refine k_aload_n (q := 0) C dX11_both_5 rfl rfl ?_
    refine k_bipush (v := 38) C dX11_both_6 rfl ?_
    refine k_cVI C ct_X11_takes my_11_takes ml_11_165 rfl ⟨by omega, Nat.le_of_ble_eq_true rfl⟩ recvM rfl (Nat.le_of_ble_eq_true rfl) dX11_both_8 ⟨Nat.le_refl _, Nat.le_refl _⟩ (fun r2 _ => ?_)
    refine k_if_eq (tgt := 36) C dX11_both_11 (by decide) (fun _ => ?_) (fun _ => ?_)
    · refine k_iload_n (q := 1) C dX11_both_36 rfl rfl ?_
      exact k_iret C rfl ⟨rfl, rfl⟩ dX11_both_37
    · refine k_aload_n (q := 0) C dX11_both_14 rfl rfl ?_
      refine k_cVI C (hg_compared _) my_11_compared ml_11_168 rfl ⟨Nat.le_refl _, Nat.le_of_ble_eq_true rfl⟩ recvM rfl (Nat.le_of_ble_eq_true rfl) dX11_both_15 ⟨Nat.le_refl _, Nat.le_refl _⟩ (fun r3 _ => ?_)
      refine k_istore_n (lv' := [(2, .int r3.1), (0, .ref (ad 44)), (1, .int x1)]) C dX11_both_18 rfl (Nat.le_of_ble_eq_true rfl) rfl ?_
      refine k_iload_n (q := 2) C dX11_both_19 rfl rfl ?_
      refine k_if_eq (tgt := 31) C dX11_both_20 (by decide) (fun _ => ?_) (fun _ => ?_)
      · refine k_iconst (v := 0) C dX11_both_31 rfl ?_
        refine k_istore_n (lv' := [(1, .int 0), (2, .int r3.1), (0, .ref (ad 44))]) C dX11_both_32 rfl (Nat.le_of_ble_eq_true rfl) rfl ?_
        refine k_goto (tgt := 5) C dX11_both_33 (by decide) ?_
        refine Dk.loc [2, 0] rfl ?_
        exact ih _ _
      · refine k_iload_n (q := 0) C dX11_both_23 rfl rfl ?_
        refine k_if_eq (tgt := 31) C dX11_both_24 (by decide) (fun _ => ?_) (fun _ => ?_)
        · refine k_iconst (v := 0) C dX11_both_31 rfl ?_
          refine k_istore_n (lv' := [(1, .int 0), (2, .int r3.1), (0, .ref (ad 44))]) C dX11_both_32 rfl (Nat.le_of_ble_eq_true rfl) rfl ?_
          refine k_goto (tgt := 5) C dX11_both_33 (by decide) ?_
          refine Dk.loc [2, 0] rfl ?_
          exact ih _ _
        · refine k_iconst (v := 1) C dX11_both_27 rfl ?_
          refine k_goto (tgt := 32) C dX11_both_28 (by decide) ?_
          refine k_istore_n (lv' := [(1, .int 1), (2, .int r3.1), (0, .ref (ad 44))]) C dX11_both_32 rfl (Nat.le_of_ble_eq_true rfl) rfl ?_
          refine k_goto (tgt := 5) C dX11_both_33 (by decide) ?_
          refine Dk.loc [2, 0] rfl ?_
          exact ih _ _
set_option maxRecDepth 20000 in
theorem kw_X11_both {X : GX} {θ : TH} {ad : Nat → Nat} {d : Nat} {F : Nat} {g : Nat → St → Option (Int32 × St)} {S : St}  (C : CX (mE X θ (wdM θ ad S) 3) RX11 cX11_both (some .int) (2 + (d + 1)) 0 0) (hg_compared : ∀ (S : St) (r : Int32 × St), g 2 S = some r → Ct X.2.1 θ yX11_compared cX11_compared 4 (some .int) (2 + d) 0 0 [.ref (ad 44)] (wdM θ ad S) (PIS (wdM θ ad) r)) : Dk (mE X θ (wdM θ ad S) 3) (mT X θ (wdM θ ad S) 3 (PIS (wdM θ ad))) 0 0 (wdM θ ad S) [(0, .ref (ad 44))] [] 0 (f_X11_both F g S) := by
  unfold f_X11_both
  refine k_aload_n (q := 0) C dX11_both_0 rfl rfl ?_
  refine k_cVI C (hg_compared _) my_11_compared ml_11_168 rfl ⟨Nat.le_refl _, Nat.le_of_ble_eq_true rfl⟩ recvM rfl (Nat.le_of_ble_eq_true rfl) dX11_both_1 ⟨Nat.le_refl _, Nat.le_refl _⟩ (fun r1 _ => ?_)
  refine k_istore_n (lv' := [(1, .int r1.1), (0, .ref (ad 44))]) C dX11_both_4 rfl (Nat.le_of_ble_eq_true rfl) rfl ?_
  refine Dk.loc [1, 0] rfl ?_
  exact kb_X11_both_L5 C hg_compared _ _ _
theorem ct_X11_both {l : Launch} {θ : TH} {ad : Nat → Nat} {d : Nat} {F : Nat} {g : Nat → St → Option (Int32 × St)} {S : St}  (hg_compared : ∀ (S : St) (r : Int32 × St), g 2 S = some r → Ct l θ yX11_compared cX11_compared 4 (some .int) (2 + d) 0 0 [.ref (ad 44)] (wdM θ ad S) (PIS (wdM θ ad) r)) : ∀ r, f_X11_both F g S = some r → Ct l θ yX11_both cX11_both 3 (some .int) (2 + (d + 1)) 0 0 [.ref (ad 44)] (wdM θ ad S) (PIS (wdM θ ad) r) :=
  fun r hr => Ct.of (by decide) (Nat.le_of_ble_eq_true rfl) (fun X hX C _ => by subst hX; exact kw_X11_both C hg_compared r hr)
set_option maxRecDepth 20000 in
theorem kb_X11_either_L5 {X : GX} {θ : TH} {ad : Nat → Nat} {S0 : St} {d : Nat} {F : Nat} {g : Nat → St → Option (Int32 × St)} (C : CX (mE X θ (wdM θ ad S0) 3) RX11 cX11_either (some .int) (2 + (d + 1)) 0 0) (hg_both : ∀ (S : St) (r : Int32 × St), g 1 S = some r → Ct X.2.1 θ yX11_both cX11_both 3 (some .int) (2 + d) 0 0 [.ref (ad 44)] (wdM θ ad S) (PIS (wdM θ ad) r)) : ∀ (n : Nat) (S : St) (x1 : Int32), Dk (mE X θ (wdM θ ad S0) 3) (mT X θ (wdM θ ad S0) 3 (PIS (wdM θ ad))) 0 0 (wdM θ ad S) [(0, .ref (ad 44)), (1, .int x1)] [] 5 (f_X11_either_L5 F g n S x1) := by
  intro n
  induction n with
  | zero => intro S x1; exact Dk.none
  | succ n ih =>
    intro S x1
    show Dk _ _ _ _ _ _ _ _ ((f_X11_takes S 124).bind fun r2 => (if r2.1 = 0 then some (x1, r2.2) else (g 1 r2.2).bind fun r3 => (if x1 = 0 then if r3.1 = 0 then f_X11_either_L5 F g n r3.2 0 else f_X11_either_L5 F g n r3.2 1 else f_X11_either_L5 F g n r3.2 1)))
    refine k_aload_n (q := 0) C dX11_either_5 rfl rfl ?_
    refine k_bipush (v := 124) C dX11_either_6 rfl ?_
    refine k_cVI C ct_X11_takes my_11_takes ml_11_165 rfl ⟨by omega, Nat.le_of_ble_eq_true rfl⟩ recvM rfl (Nat.le_of_ble_eq_true rfl) dX11_either_8 ⟨Nat.le_refl _, Nat.le_refl _⟩ (fun r2 _ => ?_)
    refine k_if_eq (tgt := 36) C dX11_either_11 (by decide) (fun _ => ?_) (fun _ => ?_)
    · refine k_iload_n (q := 1) C dX11_either_36 rfl rfl ?_
      exact k_iret C rfl ⟨rfl, rfl⟩ dX11_either_37
    · refine k_aload_n (q := 0) C dX11_either_14 rfl rfl ?_
      refine k_cVI C (hg_both _) my_11_both ml_11_162 rfl ⟨Nat.le_refl _, Nat.le_of_ble_eq_true rfl⟩ recvM rfl (Nat.le_of_ble_eq_true rfl) dX11_either_15 ⟨Nat.le_refl _, Nat.le_refl _⟩ (fun r3 _ => ?_)
      refine k_istore_n (lv' := [(2, .int r3.1), (0, .ref (ad 44)), (1, .int x1)]) C dX11_either_18 rfl (Nat.le_of_ble_eq_true rfl) rfl ?_
      refine k_iload_n (q := 2) C dX11_either_19 rfl rfl ?_
      refine k_if_ne (tgt := 27) C dX11_either_20 (by decide) (fun _ => ?_) (fun _ => ?_)
      · refine k_iconst (v := 1) C dX11_either_27 rfl ?_
        refine k_goto (tgt := 32) C dX11_either_28 (by decide) ?_
        refine k_istore_n (lv' := [(1, .int 1), (2, .int r3.1), (0, .ref (ad 44))]) C dX11_either_32 rfl (Nat.le_of_ble_eq_true rfl) rfl ?_
        refine k_goto (tgt := 5) C dX11_either_33 (by decide) ?_
        refine Dk.loc [2, 0] rfl ?_
        exact ih _ _
      · refine k_iload_n (q := 0) C dX11_either_23 rfl rfl ?_
        refine k_if_eq (tgt := 31) C dX11_either_24 (by decide) (fun _ => ?_) (fun _ => ?_)
        · refine k_iconst (v := 0) C dX11_either_31 rfl ?_
          refine k_istore_n (lv' := [(1, .int 0), (2, .int r3.1), (0, .ref (ad 44))]) C dX11_either_32 rfl (Nat.le_of_ble_eq_true rfl) rfl ?_
          refine k_goto (tgt := 5) C dX11_either_33 (by decide) ?_
          refine Dk.loc [2, 0] rfl ?_
          exact ih _ _
        · refine k_iconst (v := 1) C dX11_either_27 rfl ?_
          refine k_goto (tgt := 32) C dX11_either_28 (by decide) ?_
          refine k_istore_n (lv' := [(1, .int 1), (2, .int r3.1), (0, .ref (ad 44))]) C dX11_either_32 rfl (Nat.le_of_ble_eq_true rfl) rfl ?_
          refine k_goto (tgt := 5) C dX11_either_33 (by decide) ?_
          refine Dk.loc [2, 0] rfl ?_
          exact ih _ _
set_option maxRecDepth 20000 in
theorem kw_X11_either {X : GX} {θ : TH} {ad : Nat → Nat} {d : Nat} {F : Nat} {g : Nat → St → Option (Int32 × St)} {S : St}  (C : CX (mE X θ (wdM θ ad S) 3) RX11 cX11_either (some .int) (2 + (d + 1)) 0 0) (hg_both : ∀ (S : St) (r : Int32 × St), g 1 S = some r → Ct X.2.1 θ yX11_both cX11_both 3 (some .int) (2 + d) 0 0 [.ref (ad 44)] (wdM θ ad S) (PIS (wdM θ ad) r)) : Dk (mE X θ (wdM θ ad S) 3) (mT X θ (wdM θ ad S) 3 (PIS (wdM θ ad))) 0 0 (wdM θ ad S) [(0, .ref (ad 44))] [] 0 (f_X11_either F g S) := by
  unfold f_X11_either
  refine k_aload_n (q := 0) C dX11_either_0 rfl rfl ?_
  refine k_cVI C (hg_both _) my_11_both ml_11_162 rfl ⟨Nat.le_refl _, Nat.le_of_ble_eq_true rfl⟩ recvM rfl (Nat.le_of_ble_eq_true rfl) dX11_either_1 ⟨Nat.le_refl _, Nat.le_refl _⟩ (fun r1 _ => ?_)
  refine k_istore_n (lv' := [(1, .int r1.1), (0, .ref (ad 44))]) C dX11_either_4 rfl (Nat.le_of_ble_eq_true rfl) rfl ?_
  refine Dk.loc [1, 0] rfl ?_
  exact kb_X11_either_L5 C hg_both _ _ _
theorem ct_X11_either {l : Launch} {θ : TH} {ad : Nat → Nat} {d : Nat} {F : Nat} {g : Nat → St → Option (Int32 × St)} {S : St}  (hg_both : ∀ (S : St) (r : Int32 × St), g 1 S = some r → Ct l θ yX11_both cX11_both 3 (some .int) (2 + d) 0 0 [.ref (ad 44)] (wdM θ ad S) (PIS (wdM θ ad) r)) : ∀ r, f_X11_either F g S = some r → Ct l θ yX11_either cX11_either 3 (some .int) (2 + (d + 1)) 0 0 [.ref (ad 44)] (wdM θ ad S) (PIS (wdM θ ad) r) :=
  fun r hr => Ct.of (by decide) (Nat.le_of_ble_eq_true rfl) (fun X hX C _ => by subst hX; exact kw_X11_either C hg_both r hr)
