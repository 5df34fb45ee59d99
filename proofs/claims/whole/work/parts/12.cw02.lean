set_option maxRecDepth 20000 in
theorem kw_X8_answer_1020_302_303 {X : GX} {θ : TH} {ad Y : Nat → Nat} {F : Nat} {Z : Zt} {S : St}  (C : CX (mE X θ (wdC θ ad Y Z S) 8) RX8 cX8_answer (some .int) 1 0 0) (hz : Z.2 1 = true) : Dk (mE X θ (wdC θ ad Y Z S) 8) (mT X θ (wdC θ ad Y Z S) 8 (PIS (wdC θ ad Y Z))) 0 0 (wdC θ ad Y Z S) [(0, .ref (Y 1039)), (1, .ref (ad 302)), (2, .ref (ad 303))] [] 0 (f_X8_answer F 1020 302 303 Z S) := by
  show Dk _ _ _ _ _ _ _ _ (f_X8_answer_L12 F 1020 302 303 Z F S 0)
  refine k_aload_n (q := 1) C dX8_answer_0 rfl rfl ?_
  refine k_ifnull C dX8_answer_1 ?_
  refine k_aload_n (q := 2) C dX8_answer_4 rfl rfl ?_
  refine k_ifnonnull (tgt := 10) C dX8_answer_5 (by decide) ?_
  refine k_iconst (v := 0) C dX8_answer_10 rfl ?_
  refine k_istore_n (lv' := [(3, .int 0), (0, .ref (Y 1039)), (1, .ref (ad 302)), (2, .ref (ad 303))]) C dX8_answer_11 rfl (Nat.le_of_ble_eq_true rfl) rfl ?_
  refine Dk.loc [1, 2, 3, 0] rfl ?_
  exact kb_X8_answer_L12_1020_302_303 C hz _ _ _
theorem ct_X8_answer_1020_302_303 {l : Launch} {θ : TH} {ad Y : Nat → Nat} {S : St} {F : Nat} {Z : Zt}  (hz : Z.2 1 = true) : ∀ r, f_X8_answer F 1020 302 303 Z S = some r → Ct l θ yX8_answer cX8_answer 8 (some .int) 1 0 0 [.ref (Y 1039), .ref (ad 302), .ref (ad 303)] (wdC θ ad Y Z S) (PIS (wdC θ ad Y Z) r) :=
  fun r hr => Ct.of (by decide +kernel) (Nat.le_of_ble_eq_true rfl) (fun X _ C _ => kw_X8_answer_1020_302_303 C hz r hr)
set_option maxRecDepth 20000 in
theorem kb_X8_answer_B144_1040_302_303 {X : GX} {θ : TH} {ad Y : Nat → Nat} {S0 : St} {F : Nat} {Z : Zt} {K12 : St → Int32 → Option (Int32 × St)} (C : CX (mE X θ (wdC θ ad Y Z S0) 8) RX8 cX8_answer (some .int) 1 0 0) (hz : Z.2 2 = true) (hK12 : ∀ (S : St) (x3 : Int32), Dk (mE X θ (wdC θ ad Y Z S0) 8) (mT X θ (wdC θ ad Y Z S0) 8 (PIS (wdC θ ad Y Z))) 0 0 (wdC θ ad Y Z S) [(0, .ref (Y 1059)), (1, .ref (ad 302)), (2, .ref (ad 303)), (3, .int x3)] [] 12 (K12 S x3)) (S : St) (x3 : Int32) (x6 : Int32) (t0 : Int32) : Dk (mE X θ (wdC θ ad Y Z S0) 8) (mT X θ (wdC θ ad Y Z S0) 8 (PIS (wdC θ ad Y Z))) 0 0 (wdC θ ad Y Z S) [(0, .ref (Y 1059)), (1, .ref (ad 302)), (2, .ref (ad 303)), (3, .int x3), (6, .int x6)] [.int t0] 144 (f_X8_answer_B144 F 1040 302 303 Z K12 S x3 x6 t0) := by
  show Dk _ _ _ _ _ _ _ _ (chk (inr x3 120) ((f_X8_joined (S.2.1 1040 (x3).toNatClampNeg) x6 t0).bind fun r6 => chk (inr x3 120) (K12 (sa S 303 (x3).toNatClampNeg r6) (x3 + 1))))
  refine k_istore (lv' := [(7, .int t0), (0, .ref (Y 1059)), (1, .ref (ad 302)), (2, .ref (ad 303)), (3, .int x3), (6, .int x6)]) C dX8_answer_144 (Nat.le_of_ble_eq_true rfl) rfl ?_
  refine k_aload_n (q := 3) C dX8_answer_146 rfl rfl ?_
  refine k_iload_n (q := 4) C dX8_answer_147 rfl rfl ?_
  refine k_aload_n (q := 1) C dX8_answer_148 rfl rfl ?_
  refine k_aload_n (q := 1) C dX8_answer_149 rfl rfl ?_
  refine c_get (b := 1040) (ci := 8) (kf := 0) (N := 7) C rfl ⟨rfl, rfl⟩ (LC_s2 hz (by decide)) rfl lay_8 kk_8_0 fl_8_9 rfl dX8_answer_150 ?_
  refine k_iload_n (q := 4) C dX8_answer_153 rfl rfl ?_
  refine c_iald (i := 1040) (v := S.2.1 1040 (x3).toNatClampNeg) C rfl (LC_s2 hz (by decide)) ak_1040 rfl rfl dX8_answer_154 ?_
  refine k_iload (q := 5) C dX8_answer_155 rfl ?_
  refine k_iload (q := 0) C dX8_answer_157 rfl ?_
  refine k_cVI C ct_X8_joined my_8_joined ml_8_34 rfl ⟨Nat.le_of_ble_eq_true rfl, Nat.le_of_ble_eq_true rfl⟩ (recvC (b := 1040) (ci := 8) rfl ⟨rfl, rfl⟩ (LC_s2 hz (by decide)) rfl rfl) rfl (Nat.le_of_ble_eq_true rfl) dX8_answer_159 ⟨Nat.le_refl _, Nat.le_refl _⟩ (fun r6 _ => ?_)
  refine c_iast (i := 303) C rfl am_303 ak_303 rfl dX8_answer_162 ?_
  refine k_iinc (q := 4) (v := x3 + 1) (lv' := [(3, .int (x3 + 1)), (7, .int t0), (0, .ref (Y 1059)), (1, .ref (ad 302)), (2, .ref (ad 303)), (6, .int x6)]) C dX8_answer_163 rfl rfl (Nat.le_of_ble_eq_true rfl) rfl ?_
  refine k_goto (tgt := 12) C dX8_answer_166 (by decide) ?_
  refine Dk.loc [2, 3, 4, 0] rfl ?_
  exact hK12 _ _
set_option maxRecDepth 20000 in
theorem kb_X8_answer_B143_1040_302_303 {X : GX} {θ : TH} {ad Y : Nat → Nat} {S0 : St} {F : Nat} {Z : Zt} {K12 : St → Int32 → Option (Int32 × St)} (C : CX (mE X θ (wdC θ ad Y Z S0) 8) RX8 cX8_answer (some .int) 1 0 0) (hz : Z.2 2 = true) (hK12 : ∀ (S : St) (x3 : Int32), Dk (mE X θ (wdC θ ad Y Z S0) 8) (mT X θ (wdC θ ad Y Z S0) 8 (PIS (wdC θ ad Y Z))) 0 0 (wdC θ ad Y Z S) [(0, .ref (Y 1059)), (1, .ref (ad 302)), (2, .ref (ad 303)), (3, .int x3)] [] 12 (K12 S x3)) (S : St) (x3 : Int32) (x6 : Int32) : Dk (mE X θ (wdC θ ad Y Z S0) 8) (mT X θ (wdC θ ad Y Z S0) 8 (PIS (wdC θ ad Y Z))) 0 0 (wdC θ ad Y Z S) [(0, .ref (Y 1059)), (1, .ref (ad 302)), (2, .ref (ad 303)), (3, .int x3), (6, .int x6)] [] 143 (f_X8_answer_B143 F 1040 302 303 Z K12 S x3 x6) := by
  show Dk _ _ _ _ _ _ _ _ (f_X8_answer_B144 F 1040 302 303 Z K12 S x3 x6 0)
  refine k_iconst (v := 0) C dX8_answer_143 rfl ?_
  exact kb_X8_answer_B144_1040_302_303 C hz hK12 _ _ _ _
set_option maxRecDepth 20000 in
theorem kb_X8_answer_B123_1040_302_303 {X : GX} {θ : TH} {ad Y : Nat → Nat} {S0 : St} {F : Nat} {Z : Zt} {K12 : St → Int32 → Option (Int32 × St)} (C : CX (mE X θ (wdC θ ad Y Z S0) 8) RX8 cX8_answer (some .int) 1 0 0) (hz : Z.2 2 = true) (hK12 : ∀ (S : St) (x3 : Int32), Dk (mE X θ (wdC θ ad Y Z S0) 8) (mT X θ (wdC θ ad Y Z S0) 8 (PIS (wdC θ ad Y Z))) 0 0 (wdC θ ad Y Z S) [(0, .ref (Y 1059)), (1, .ref (ad 302)), (2, .ref (ad 303)), (3, .int x3)] [] 12 (K12 S x3)) (S : St) (x3 : Int32) (x5 : Int32) (t0 : Int32) : Dk (mE X θ (wdC θ ad Y Z S0) 8) (mT X θ (wdC θ ad Y Z S0) 8 (PIS (wdC θ ad Y Z))) 0 0 (wdC θ ad Y Z S) [(0, .ref (Y 1059)), (1, .ref (ad 302)), (2, .ref (ad 303)), (3, .int x3), (5, .int x5)] [.int t0] 123 (f_X8_answer_B123 F 1040 302 303 Z K12 S x3 x5 t0) := by
  show Dk _ _ _ _ _ _ _ _ (if x5 < 0 then f_X8_answer_B143 F 1040 302 303 Z K12 S x3 t0 else if x3 ≤ x5 then f_X8_answer_B143 F 1040 302 303 Z K12 S x3 t0 else chk (inr x5 120) (f_X8_answer_B144 F 1040 302 303 Z K12 S x3 t0 (S.2.1 303 (x5).toNatClampNeg)))
  refine k_istore (lv' := [(6, .int t0), (0, .ref (Y 1059)), (1, .ref (ad 302)), (2, .ref (ad 303)), (3, .int x3), (5, .int x5)]) C dX8_answer_123 (Nat.le_of_ble_eq_true rfl) rfl ?_
  refine k_iload (q := 5) C dX8_answer_125 rfl ?_
  refine k_if_lt (tgt := 143) C dX8_answer_127 (by decide) (fun _ => ?_) (fun _ => ?_)
  · refine Dk.loc [1, 2, 3, 4, 0] rfl ?_
    exact kb_X8_answer_B143_1040_302_303 C hz hK12 _ _ _
  · refine k_iload (q := 5) C dX8_answer_130 rfl ?_
    refine k_iload_n (q := 4) C dX8_answer_132 rfl rfl ?_
    refine k_icmp_ge (tgt := 143) C dX8_answer_133 (by decide) (fun _ => ?_) (fun _ => ?_)
    · refine Dk.loc [1, 2, 3, 4, 0] rfl ?_
      exact kb_X8_answer_B143_1040_302_303 C hz hK12 _ _ _
    · refine k_aload_n (q := 3) C dX8_answer_136 rfl rfl ?_
      refine k_iload (q := 5) C dX8_answer_137 rfl ?_
      refine c_iald (i := 303) (v := S.2.1 303 (x5).toNatClampNeg) C rfl am_303 ak_303 rfl rfl dX8_answer_139 ?_
      refine k_goto (tgt := 144) C dX8_answer_140 (by decide) ?_
      refine Dk.loc [1, 2, 3, 4, 0] rfl ?_
      exact kb_X8_answer_B144_1040_302_303 C hz hK12 _ _ _ _
set_option maxRecDepth 20000 in
theorem kb_X8_answer_B122_1040_302_303 {X : GX} {θ : TH} {ad Y : Nat → Nat} {S0 : St} {F : Nat} {Z : Zt} {K12 : St → Int32 → Option (Int32 × St)} (C : CX (mE X θ (wdC θ ad Y Z S0) 8) RX8 cX8_answer (some .int) 1 0 0) (hz : Z.2 2 = true) (hK12 : ∀ (S : St) (x3 : Int32), Dk (mE X θ (wdC θ ad Y Z S0) 8) (mT X θ (wdC θ ad Y Z S0) 8 (PIS (wdC θ ad Y Z))) 0 0 (wdC θ ad Y Z S) [(0, .ref (Y 1059)), (1, .ref (ad 302)), (2, .ref (ad 303)), (3, .int x3)] [] 12 (K12 S x3)) (S : St) (x3 : Int32) (x5 : Int32) : Dk (mE X θ (wdC θ ad Y Z S0) 8) (mT X θ (wdC θ ad Y Z S0) 8 (PIS (wdC θ ad Y Z))) 0 0 (wdC θ ad Y Z S) [(0, .ref (Y 1059)), (1, .ref (ad 302)), (2, .ref (ad 303)), (3, .int x3), (5, .int x5)] [] 122 (f_X8_answer_B122 F 1040 302 303 Z K12 S x3 x5) := by
  show Dk _ _ _ _ _ _ _ _ (f_X8_answer_B123 F 1040 302 303 Z K12 S x3 x5 0)
  refine k_iconst (v := 0) C dX8_answer_122 rfl ?_
  exact kb_X8_answer_B123_1040_302_303 C hz hK12 _ _ _ _
set_option maxRecDepth 20000 in
theorem kb_X8_answer_L12_1040_302_303 {X : GX} {θ : TH} {ad Y : Nat → Nat} {S0 : St} {F : Nat} {Z : Zt} (C : CX (mE X θ (wdC θ ad Y Z S0) 8) RX8 cX8_answer (some .int) 1 0 0) (hz : Z.2 2 = true) : ∀ (n : Nat) (S : St) (x3 : Int32), Dk (mE X θ (wdC θ ad Y Z S0) 8) (mT X θ (wdC θ ad Y Z S0) 8 (PIS (wdC θ ad Y Z))) 0 0 (wdC θ ad Y Z S) [(0, .ref (Y 1059)), (1, .ref (ad 302)), (2, .ref (ad 303)), (3, .int x3)] [] 12 (f_X8_answer_L12 F 1040 302 303 Z n S x3) := by
  intro n
  induction n with
  | zero => intro S x3; exact Dk.none
  | succ n ih =>
    intro S x3
    show Dk _ _ _ _ _ _ _ _ (if (S.1 1045) ≤ x3 then (f_X8_firstThatCounts F 1040 303 Z S).bind fun r1 => some (r1, S) else if (120 : Int32) ≤ x3 then (f_X8_firstThatCounts F 1040 303 Z S).bind fun r2 => some (r2, S) else if (120 : Int32) ≤ x3 then (f_X8_firstThatCounts F 1040 303 Z S).bind fun r3 => some (r3, S) else chk (inr x3 120) (lti (S.2.1 1041 (x3).toNatClampNeg) fun y4 => chk (inr x3 120) (lti (S.2.1 1042 (x3).toNatClampNeg) fun y5 => chk (inr x3 120) ((if (S.2.1 1040 (x3).toNatClampNeg) = 48 then chk (inr x3 120) (f_X8_answer_L12 F 1040 302 303 Z n (sa S 303 (x3).toNatClampNeg y4) (x3 + 1)) else chk (inr x3 120) ((if (S.2.1 1040 (x3).toNatClampNeg) = 107 then if y4 < 0 then chk (inr x3 120) (f_X8_answer_L12 F 1040 302 303 Z n (sa S 303 (x3).toNatClampNeg 0) (x3 + 1)) else if (7 : Int32) ≤ y4 then chk (inr x3 120) (f_X8_answer_L12 F 1040 302 303 Z n (sa S 303 (x3).toNatClampNeg 0) (x3 + 1)) else chk (inr y4 7) (chk (inr x3 120) (f_X8_answer_L12 F 1040 302 303 Z n (sa S 303 (x3).toNatClampNeg (S.2.1 302 (y4).toNatClampNeg)) (x3 + 1))) else if y4 < 0 then f_X8_answer_B122 F 1040 302 303 Z (f_X8_answer_L12 F 1040 302 303 Z n) S x3 y5 else if x3 ≤ y4 then f_X8_answer_B122 F 1040 302 303 Z (f_X8_answer_L12 F 1040 302 303 Z n) S x3 y5 else chk (inr y4 120) (f_X8_answer_B123 F 1040 302 303 Z (f_X8_answer_L12 F 1040 302 303 Z n) S x3 y5 (S.2.1 303 (y4).toNatClampNeg)))))))))
    refine k_iload_n (q := 3) C dX8_answer_12 rfl rfl ?_
    refine k_aload_n (q := 0) C dX8_answer_13 rfl rfl ?_
    refine c_get (b := 1040) (ci := 8) (kf := 5) (N := 7) (v := .int (S.1 1045)) C rfl ⟨rfl, rfl⟩ (LC_s2 hz (by decide)) rfl lay_8 kk_8_5 fl_8_27 rfl dX8_answer_14 ?_
    refine k_icmp_ge (tgt := 169) C dX8_answer_17 (by decide) (fun _ => ?_) (fun _ => ?_)
    · refine k_aload_n (q := 0) C dX8_answer_169 rfl rfl ?_
      refine k_aload_n (q := 2) C dX8_answer_170 rfl rfl ?_
      refine k_cVI C (ct_X8_firstThatCounts_1040_303 hz) my_8_firstThatCounts ml_8_38 rfl ⟨Nat.le_of_ble_eq_true rfl, Nat.le_of_ble_eq_true rfl⟩ (recvC (b := 1040) (ci := 8) rfl ⟨rfl, rfl⟩ (LC_s2 hz (by decide)) rfl rfl) rfl (Nat.le_of_ble_eq_true rfl) dX8_answer_171 ⟨Nat.le_refl _, Nat.le_refl _⟩ (fun r1 _ => ?_)
      exact k_iret C rfl ⟨rfl, rfl⟩ dX8_answer_174
    · refine k_iload_n (q := 3) C dX8_answer_20 rfl rfl ?_
      refine k_bipush (v := 120) C dX8_answer_21 rfl ?_
      refine k_icmp_ge (tgt := 169) C dX8_answer_23 (by decide) (fun _ => ?_) (fun _ => ?_)
      · refine k_aload_n (q := 0) C dX8_answer_169 rfl rfl ?_
        refine k_aload_n (q := 2) C dX8_answer_170 rfl rfl ?_
        refine k_cVI C (ct_X8_firstThatCounts_1040_303 hz) my_8_firstThatCounts ml_8_38 rfl ⟨Nat.le_of_ble_eq_true rfl, Nat.le_of_ble_eq_true rfl⟩ (recvC (b := 1040) (ci := 8) rfl ⟨rfl, rfl⟩ (LC_s2 hz (by decide)) rfl rfl) rfl (Nat.le_of_ble_eq_true rfl) dX8_answer_171 ⟨Nat.le_refl _, Nat.le_refl _⟩ (fun r2 _ => ?_)
        exact k_iret C rfl ⟨rfl, rfl⟩ dX8_answer_174
      · refine k_iload_n (q := 3) C dX8_answer_26 rfl rfl ?_
        refine k_aload_n (q := 2) C dX8_answer_27 rfl rfl ?_
        refine c_alen (i := 303) (v := 120) C rfl am_303 ak_303 rfl dX8_answer_28 ?_
        refine k_icmp_ge (tgt := 169) C dX8_answer_29 (by decide) (fun _ => ?_) (fun _ => ?_)
        · refine k_aload_n (q := 0) C dX8_answer_169 rfl rfl ?_
          refine k_aload_n (q := 2) C dX8_answer_170 rfl rfl ?_
          refine k_cVI C (ct_X8_firstThatCounts_1040_303 hz) my_8_firstThatCounts ml_8_38 rfl ⟨Nat.le_of_ble_eq_true rfl, Nat.le_of_ble_eq_true rfl⟩ (recvC (b := 1040) (ci := 8) rfl ⟨rfl, rfl⟩ (LC_s2 hz (by decide)) rfl rfl) rfl (Nat.le_of_ble_eq_true rfl) dX8_answer_171 ⟨Nat.le_refl _, Nat.le_refl _⟩ (fun r3 _ => ?_)
          exact k_iret C rfl ⟨rfl, rfl⟩ dX8_answer_174
        · refine k_aload_n (q := 0) C dX8_answer_32 rfl rfl ?_
          refine c_get (b := 1040) (ci := 8) (kf := 1) (N := 7) C rfl ⟨rfl, rfl⟩ (LC_s2 hz (by decide)) rfl lay_8 kk_8_1 fl_8_15 rfl dX8_answer_33 ?_
          refine k_iload_n (q := 3) C dX8_answer_36 rfl rfl ?_
          refine c_iald (i := 1041) (v := S.2.1 1041 (x3).toNatClampNeg) C rfl (LC_s2 hz (by decide)) ak_1041 rfl rfl dX8_answer_37 ?_
          refine k_lti fun y4 => ?_
          refine k_istore (lv' := [(4, .int y4), (0, .ref (Y 1059)), (1, .ref (ad 302)), (2, .ref (ad 303)), (3, .int x3)]) C dX8_answer_38 (Nat.le_of_ble_eq_true rfl) rfl ?_
          refine k_aload_n (q := 1) C dX8_answer_40 rfl rfl ?_
          refine c_get (b := 1040) (ci := 8) (kf := 2) (N := 7) C rfl ⟨rfl, rfl⟩ (LC_s2 hz (by decide)) rfl lay_8 kk_8_2 fl_8_18 rfl dX8_answer_41 ?_
          refine k_iload_n (q := 4) C dX8_answer_44 rfl rfl ?_
          refine c_iald (i := 1042) (v := S.2.1 1042 (x3).toNatClampNeg) C rfl (LC_s2 hz (by decide)) ak_1042 rfl rfl dX8_answer_45 ?_
          refine k_lti fun y5 => ?_
          refine k_istore (lv' := [(5, .int y5), (4, .int y4), (0, .ref (Y 1059)), (1, .ref (ad 302)), (2, .ref (ad 303)), (3, .int x3)]) C dX8_answer_46 (Nat.le_of_ble_eq_true rfl) rfl ?_
          refine k_aload_n (q := 2) C dX8_answer_48 rfl rfl ?_
          refine c_get (b := 1040) (ci := 8) (kf := 0) (N := 7) C rfl ⟨rfl, rfl⟩ (LC_s2 hz (by decide)) rfl lay_8 kk_8_0 fl_8_9 rfl dX8_answer_49 ?_
          refine k_iload_n (q := 5) C dX8_answer_52 rfl rfl ?_
          refine c_iald (i := 1040) (v := S.2.1 1040 (x3).toNatClampNeg) C rfl (LC_s2 hz (by decide)) ak_1040 rfl rfl dX8_answer_53 ?_
          refine k_bipush (v := 48) C dX8_answer_54 rfl ?_
          refine k_icmp_ne (tgt := 67) C dX8_answer_56 (by decide) (fun _ => ?_) (fun _ => ?_)
          · refine k_aload_n (q := 2) C dX8_answer_67 rfl rfl ?_
            refine c_get (b := 1040) (ci := 8) (kf := 0) (N := 7) C rfl ⟨rfl, rfl⟩ (LC_s2 hz (by decide)) rfl lay_8 kk_8_0 fl_8_9 rfl dX8_answer_68 ?_
            refine k_iload_n (q := 5) C dX8_answer_71 rfl rfl ?_
            refine c_iald (i := 1040) (v := S.2.1 1040 (x3).toNatClampNeg) C rfl (LC_s2 hz (by decide)) ak_1040 rfl rfl dX8_answer_72 ?_
            refine k_bipush (v := 107) C dX8_answer_73 rfl ?_
            refine k_icmp_ne (tgt := 104) C dX8_answer_75 (by decide) (fun _ => ?_) (fun _ => ?_)
            · refine k_iload (q := 1) C dX8_answer_104 rfl ?_
              refine k_if_lt (tgt := 122) C dX8_answer_106 (by decide) (fun _ => ?_) (fun _ => ?_)
              · refine Dk.loc [2, 3, 4, 5, 0] rfl ?_
                exact kb_X8_answer_B122_1040_302_303 C hz ih _ _ _
              · refine k_iload (q := 1) C dX8_answer_109 rfl ?_
                refine k_iload_n (q := 5) C dX8_answer_111 rfl rfl ?_
                refine k_icmp_ge (tgt := 122) C dX8_answer_112 (by decide) (fun _ => ?_) (fun _ => ?_)
                · refine Dk.loc [2, 3, 4, 5, 0] rfl ?_
                  exact kb_X8_answer_B122_1040_302_303 C hz ih _ _ _
                · refine k_aload_n (q := 4) C dX8_answer_115 rfl rfl ?_
                  refine k_iload (q := 1) C dX8_answer_116 rfl ?_
                  refine c_iald (i := 303) (v := S.2.1 303 (y4).toNatClampNeg) C rfl am_303 ak_303 rfl rfl dX8_answer_118 ?_
                  refine k_goto (tgt := 123) C dX8_answer_119 (by decide) ?_
                  refine Dk.loc [2, 3, 4, 5, 0] rfl ?_
                  exact kb_X8_answer_B123_1040_302_303 C hz ih _ _ _ _
            · refine k_aload_n (q := 4) C dX8_answer_78 rfl rfl ?_
              refine k_iload_n (q := 5) C dX8_answer_79 rfl rfl ?_
              refine k_iload (q := 1) C dX8_answer_80 rfl ?_
              refine k_if_lt (tgt := 99) C dX8_answer_82 (by decide) (fun _ => ?_) (fun _ => ?_)
              · refine k_iconst (v := 0) C dX8_answer_99 rfl ?_
                refine c_iast (i := 303) C rfl am_303 ak_303 rfl dX8_answer_100 ?_
                refine k_goto (tgt := 163) C dX8_answer_101 (by decide) ?_
                refine k_iinc (q := 5) (v := x3 + 1) (lv' := [(3, .int (x3 + 1)), (5, .int y5), (4, .int y4), (0, .ref (Y 1059)), (1, .ref (ad 302)), (2, .ref (ad 303))]) C dX8_answer_163 rfl rfl (Nat.le_of_ble_eq_true rfl) rfl ?_
                refine k_goto (tgt := 12) C dX8_answer_166 (by decide) ?_
                refine Dk.loc [3, 4, 5, 0] rfl ?_
                exact ih _ _
              · refine k_iload (q := 1) C dX8_answer_85 rfl ?_
                refine k_aload_n (q := 3) C dX8_answer_87 rfl rfl ?_
                refine c_alen (i := 302) (v := 7) C rfl am_302 ak_302 rfl dX8_answer_88 ?_
                refine k_icmp_ge (tgt := 99) C dX8_answer_89 (by decide) (fun _ => ?_) (fun _ => ?_)
                · refine k_iconst (v := 0) C dX8_answer_99 rfl ?_
                  refine c_iast (i := 303) C rfl am_303 ak_303 rfl dX8_answer_100 ?_
                  refine k_goto (tgt := 163) C dX8_answer_101 (by decide) ?_
                  refine k_iinc (q := 5) (v := x3 + 1) (lv' := [(3, .int (x3 + 1)), (5, .int y5), (4, .int y4), (0, .ref (Y 1059)), (1, .ref (ad 302)), (2, .ref (ad 303))]) C dX8_answer_163 rfl rfl (Nat.le_of_ble_eq_true rfl) rfl ?_
                  refine k_goto (tgt := 12) C dX8_answer_166 (by decide) ?_
                  refine Dk.loc [3, 4, 5, 0] rfl ?_
                  exact ih _ _
                · refine k_aload_n (q := 3) C dX8_answer_92 rfl rfl ?_
                  refine k_iload (q := 1) C dX8_answer_93 rfl ?_
                  refine c_iald (i := 302) (v := S.2.1 302 (y4).toNatClampNeg) C rfl am_302 ak_302 rfl rfl dX8_answer_95 ?_
                  refine k_goto (tgt := 100) C dX8_answer_96 (by decide) ?_
                  refine c_iast (i := 303) C rfl am_303 ak_303 rfl dX8_answer_100 ?_
                  refine k_goto (tgt := 163) C dX8_answer_101 (by decide) ?_
                  refine k_iinc (q := 5) (v := x3 + 1) (lv' := [(3, .int (x3 + 1)), (5, .int y5), (4, .int y4), (0, .ref (Y 1059)), (1, .ref (ad 302)), (2, .ref (ad 303))]) C dX8_answer_163 rfl rfl (Nat.le_of_ble_eq_true rfl) rfl ?_
                  refine k_goto (tgt := 12) C dX8_answer_166 (by decide) ?_
                  refine Dk.loc [3, 4, 5, 0] rfl ?_
                  exact ih _ _
          · refine k_aload_n (q := 4) C dX8_answer_59 rfl rfl ?_
            refine k_iload_n (q := 5) C dX8_answer_60 rfl rfl ?_
            refine k_iload (q := 1) C dX8_answer_61 rfl ?_
            refine c_iast (i := 303) C rfl am_303 ak_303 rfl dX8_answer_63 ?_
            refine k_goto (tgt := 163) C dX8_answer_64 (by decide) ?_
            refine k_iinc (q := 5) (v := x3 + 1) (lv' := [(3, .int (x3 + 1)), (5, .int y5), (4, .int y4), (0, .ref (Y 1059)), (1, .ref (ad 302)), (2, .ref (ad 303))]) C dX8_answer_163 rfl rfl (Nat.le_of_ble_eq_true rfl) rfl ?_
            refine k_goto (tgt := 12) C dX8_answer_166 (by decide) ?_
            refine Dk.loc [3, 4, 5, 0] rfl ?_
            exact ih _ _
set_option maxRecDepth 20000 in
theorem kw_X8_answer_1040_302_303 {X : GX} {θ : TH} {ad Y : Nat → Nat} {F : Nat} {Z : Zt} {S : St}  (C : CX (mE X θ (wdC θ ad Y Z S) 8) RX8 cX8_answer (some .int) 1 0 0) (hz : Z.2 2 = true) : Dk (mE X θ (wdC θ ad Y Z S) 8) (mT X θ (wdC θ ad Y Z S) 8 (PIS (wdC θ ad Y Z))) 0 0 (wdC θ ad Y Z S) [(0, .ref (Y 1059)), (1, .ref (ad 302)), (2, .ref (ad 303))] [] 0 (f_X8_answer F 1040 302 303 Z S) := by
  show Dk _ _ _ _ _ _ _ _ (f_X8_answer_L12 F 1040 302 303 Z F S 0)
  refine k_aload_n (q := 1) C dX8_answer_0 rfl rfl ?_
  refine k_ifnull C dX8_answer_1 ?_
  refine k_aload_n (q := 2) C dX8_answer_4 rfl rfl ?_
  refine k_ifnonnull (tgt := 10) C dX8_answer_5 (by decide) ?_
  refine k_iconst (v := 0) C dX8_answer_10 rfl ?_
  refine k_istore_n (lv' := [(3, .int 0), (0, .ref (Y 1059)), (1, .ref (ad 302)), (2, .ref (ad 303))]) C dX8_answer_11 rfl (Nat.le_of_ble_eq_true rfl) rfl ?_
  refine Dk.loc [1, 2, 3, 0] rfl ?_
  exact kb_X8_answer_L12_1040_302_303 C hz _ _ _
theorem ct_X8_answer_1040_302_303 {l : Launch} {θ : TH} {ad Y : Nat → Nat} {S : St} {F : Nat} {Z : Zt}  (hz : Z.2 2 = true) : ∀ r, f_X8_answer F 1040 302 303 Z S = some r → Ct l θ yX8_answer cX8_answer 8 (some .int) 1 0 0 [.ref (Y 1059), .ref (ad 302), .ref (ad 303)] (wdC θ ad Y Z S) (PIS (wdC θ ad Y Z) r) :=
  fun r hr => Ct.of (by decide +kernel) (Nat.le_of_ble_eq_true rfl) (fun X _ C _ => kw_X8_answer_1040_302_303 C hz r hr)
theorem cs_X8_answer_82_83 {l : Launch} {θ : TH} {ad Y : Nat → Nat} {S : St} {F : Nat} {Z : Zt} {k : Nat} (hw : lawok Z k = true) : ∀ r, f_X8_answer F (1000 + 20 * k) 82 83 Z S = some r → Ct l θ yX8_answer cX8_answer 8 (some .int) 1 0 0 [.ref (Y (1019 + 20 * k)), .ref (ad 82), .ref (ad 83)] (wdC θ ad Y Z S) (PIS (wdC θ ad Y Z) r) := by
  obtain ⟨hk, hz⟩ := of_decide_eq_true hw
  match k, hk with
  | 0, _ => exact ct_X8_answer_1000_82_83 hz
  | 1, _ => exact ct_X8_answer_1020_82_83 hz
  | 2, _ => exact ct_X8_answer_1040_82_83 hz
theorem cs_X8_answer_302_303 {l : Launch} {θ : TH} {ad Y : Nat → Nat} {S : St} {F : Nat} {Z : Zt} {k : Nat} (hw : lawok Z k = true) : ∀ r, f_X8_answer F (1000 + 20 * k) 302 303 Z S = some r → Ct l θ yX8_answer cX8_answer 8 (some .int) 1 0 0 [.ref (Y (1019 + 20 * k)), .ref (ad 302), .ref (ad 303)] (wdC θ ad Y Z S) (PIS (wdC θ ad Y Z) r) := by
  obtain ⟨hk, hz⟩ := of_decide_eq_true hw
  match k, hk with
  | 0, _ => exact ct_X8_answer_1000_302_303 hz
  | 1, _ => exact ct_X8_answer_1020_302_303 hz
  | 2, _ => exact ct_X8_answer_1040_302_303 hz

set_option maxRecDepth 20000 in
theorem kw_J6_bitCount_0f7a4 {X : GX} {θ : TH} {ws : va_W}   {a1 : Int32} (C : CX (mE X θ (ws) 1) RJ6 cJ6_bitCount_0f7a4 (some .int) 0 0 0)  : Dk (mE X θ (ws) 1) (mT X θ (ws) 1 (PI ws)) 0 0 ws [(0, .int a1)] [] 0 (f_J6_bitCount_0f7a4 a1) := by
  show Dk _ _ _ _ _ _ _ _ (lti (a1 - ((iushr a1 1) &&& 1431655765)) fun y1 => lti ((y1 &&& 858993459) + ((iushr y1 2) &&& 858993459)) fun y2 => lti ((y2 + (iushr y2 4)) &&& 252645135) fun y3 => lti ((y3 + (iushr y3 8)) + (iushr (y3 + (iushr y3 8)) 16)) fun y4 => some (y4 &&& 63))
  refine k_iload_n (q := 0) C dJ6_bitCount_0f7a4_0 rfl rfl ?_
  refine k_iload_n (q := 0) C dJ6_bitCount_0f7a4_1 rfl rfl ?_
  refine k_iconst (v := 1) C dJ6_bitCount_0f7a4_2 rfl ?_
  refine k_iushr (v := iushr a1 1) C dJ6_bitCount_0f7a4_3 rfl ?_
  refine k_ldcw C co_J_265 dJ6_bitCount_0f7a4_4 ?_
  refine k_iand C dJ6_bitCount_0f7a4_7 ?_
  refine k_isub C dJ6_bitCount_0f7a4_8 ?_
  refine k_lti fun y1 => ?_
  refine k_istore_n (lv' := [(0, .int y1)]) C dJ6_bitCount_0f7a4_9 rfl (Nat.le_of_ble_eq_true rfl) rfl ?_
  refine k_iload_n (q := 0) C dJ6_bitCount_0f7a4_10 rfl rfl ?_
  refine k_ldcw C co_J_266 dJ6_bitCount_0f7a4_11 ?_
  refine k_iand C dJ6_bitCount_0f7a4_14 ?_
  refine k_iload_n (q := 0) C dJ6_bitCount_0f7a4_15 rfl rfl ?_
  refine k_iconst (v := 2) C dJ6_bitCount_0f7a4_16 rfl ?_
  refine k_iushr (v := iushr y1 2) C dJ6_bitCount_0f7a4_17 rfl ?_
  refine k_ldcw C co_J_266 dJ6_bitCount_0f7a4_18 ?_
  refine k_iand C dJ6_bitCount_0f7a4_21 ?_
  refine k_iadd C dJ6_bitCount_0f7a4_22 ?_
  refine k_lti fun y2 => ?_
  refine k_istore_n (lv' := [(0, .int y2)]) C dJ6_bitCount_0f7a4_23 rfl (Nat.le_of_ble_eq_true rfl) rfl ?_
  refine k_iload_n (q := 0) C dJ6_bitCount_0f7a4_24 rfl rfl ?_
  refine k_iload_n (q := 0) C dJ6_bitCount_0f7a4_25 rfl rfl ?_
  refine k_iconst (v := 4) C dJ6_bitCount_0f7a4_26 rfl ?_
  refine k_iushr (v := iushr y2 4) C dJ6_bitCount_0f7a4_27 rfl ?_
  refine k_iadd C dJ6_bitCount_0f7a4_28 ?_
  refine k_ldcw C co_J_267 dJ6_bitCount_0f7a4_29 ?_
  refine k_iand C dJ6_bitCount_0f7a4_32 ?_
  refine k_lti fun y3 => ?_
  refine k_istore_n (lv' := [(0, .int y3)]) C dJ6_bitCount_0f7a4_33 rfl (Nat.le_of_ble_eq_true rfl) rfl ?_
  refine k_iload_n (q := 0) C dJ6_bitCount_0f7a4_34 rfl rfl ?_
  refine k_iload_n (q := 0) C dJ6_bitCount_0f7a4_35 rfl rfl ?_
  refine k_bipush (v := 8) C dJ6_bitCount_0f7a4_36 rfl ?_
  refine k_iushr (v := iushr y3 8) C dJ6_bitCount_0f7a4_38 rfl ?_
  refine k_iadd C dJ6_bitCount_0f7a4_39 ?_
  refine k_istore_n (lv' := [(0, .int (y3 + (iushr y3 8)))]) C dJ6_bitCount_0f7a4_40 rfl (Nat.le_of_ble_eq_true rfl) rfl ?_
  refine k_iload_n (q := 0) C dJ6_bitCount_0f7a4_41 rfl rfl ?_
  refine k_iload_n (q := 0) C dJ6_bitCount_0f7a4_42 rfl rfl ?_
  refine k_bipush (v := 16) C dJ6_bitCount_0f7a4_43 rfl ?_
  refine k_iushr (v := iushr (y3 + (iushr y3 8)) 16) C dJ6_bitCount_0f7a4_45 rfl ?_
  refine k_iadd C dJ6_bitCount_0f7a4_46 ?_
  refine k_lti fun y4 => ?_
  refine k_istore_n (lv' := [(0, .int y4)]) C dJ6_bitCount_0f7a4_47 rfl (Nat.le_of_ble_eq_true rfl) rfl ?_
  refine k_iload_n (q := 0) C dJ6_bitCount_0f7a4_48 rfl rfl ?_
  refine k_bipush (v := 63) C dJ6_bitCount_0f7a4_49 rfl ?_
  refine k_iand C dJ6_bitCount_0f7a4_51 ?_
  exact k_iret C rfl ⟨rfl, rfl⟩ dJ6_bitCount_0f7a4_52
theorem ct_J6_bitCount_0f7a4 {l : Launch} {θ : TH} {ws : va_W}  {a1 : Int32}  : ∀ r, f_J6_bitCount_0f7a4 a1 = some r → Ct l θ yJ6_bitCount_0f7a4 cJ6_bitCount_0f7a4 1 (some .int) 0 0 0 [.int a1] (ws) (PI ws r) :=
  fun r hr => Ct.of (by decide +kernel) (Nat.le_of_ble_eq_true rfl) (fun X _ C _ => kw_J6_bitCount_0f7a4 C  r hr)
set_option maxRecDepth 20000 in
theorem kw_J9_max_7cf53 {X : GX} {θ : TH} {ws : va_W}   {a1 : Int32} {a2 : Int32} (C : CX (mE X θ (ws) 2) RJ9 cJ9_max_7cf53 (some .int) 0 0 0)  : Dk (mE X θ (ws) 2) (mT X θ (ws) 2 (PI ws)) 0 0 ws [(0, .int a1), (1, .int a2)] [] 0 (f_J9_max_7cf53 a1 a2) := by
  show Dk _ _ _ _ _ _ _ _ (if a1 < a2 then some a2 else some a1)
  refine k_iload_n (q := 0) C dJ9_max_7cf53_0 rfl rfl ?_
  refine k_iload_n (q := 1) C dJ9_max_7cf53_1 rfl rfl ?_
  refine k_icmp_lt (tgt := 9) C dJ9_max_7cf53_2 (by decide) (fun _ => ?_) (fun _ => ?_)
  · refine k_iload_n (q := 1) C dJ9_max_7cf53_9 rfl rfl ?_
    exact k_iret C rfl ⟨rfl, rfl⟩ dJ9_max_7cf53_10
  · refine k_iload_n (q := 0) C dJ9_max_7cf53_5 rfl rfl ?_
    refine k_goto (tgt := 10) C dJ9_max_7cf53_6 (by decide) ?_
    exact k_iret C rfl ⟨rfl, rfl⟩ dJ9_max_7cf53_10
theorem ct_J9_max_7cf53 {l : Launch} {θ : TH} {ws : va_W}  {a1 : Int32} {a2 : Int32}  : ∀ r, f_J9_max_7cf53 a1 a2 = some r → Ct l θ yJ9_max_7cf53 cJ9_max_7cf53 2 (some .int) 0 0 0 [.int a1, .int a2] (ws) (PI ws r) :=
  fun r hr => Ct.ofF (by decide +kernel) (Nat.le_of_ble_eq_true rfl) (fun X _ C _ => kw_J9_max_7cf53 C  r hr)
set_option maxRecDepth 20000 in
theorem kw_J9_min_7cf53 {X : GX} {θ : TH} {ws : va_W}   {a1 : Int32} {a2 : Int32} (C : CX (mE X θ (ws) 2) RJ9 cJ9_min_7cf53 (some .int) 0 0 0)  : Dk (mE X θ (ws) 2) (mT X θ (ws) 2 (PI ws)) 0 0 ws [(0, .int a1), (1, .int a2)] [] 0 (f_J9_min_7cf53 a1 a2) := by
  show Dk _ _ _ _ _ _ _ _ (if a2 < a1 then some a2 else some a1)
  refine k_iload_n (q := 0) C dJ9_min_7cf53_0 rfl rfl ?_
  refine k_iload_n (q := 1) C dJ9_min_7cf53_1 rfl rfl ?_
  refine k_icmp_gt (tgt := 9) C dJ9_min_7cf53_2 (by decide) (fun _ => ?_) (fun _ => ?_)
  · refine k_iload_n (q := 1) C dJ9_min_7cf53_9 rfl rfl ?_
    exact k_iret C rfl ⟨rfl, rfl⟩ dJ9_min_7cf53_10
  · refine k_iload_n (q := 0) C dJ9_min_7cf53_5 rfl rfl ?_
    refine k_goto (tgt := 10) C dJ9_min_7cf53_6 (by decide) ?_
    exact k_iret C rfl ⟨rfl, rfl⟩ dJ9_min_7cf53_10
theorem ct_J9_min_7cf53 {l : Launch} {θ : TH} {ws : va_W}  {a1 : Int32} {a2 : Int32}  : ∀ r, f_J9_min_7cf53 a1 a2 = some r → Ct l θ yJ9_min_7cf53 cJ9_min_7cf53 2 (some .int) 0 0 0 [.int a1, .int a2] (ws) (PI ws r) :=
  fun r hr => Ct.ofF (by decide +kernel) (Nat.le_of_ble_eq_true rfl) (fun X _ C _ => kw_J9_min_7cf53 C  r hr)
set_option maxRecDepth 20000 in
theorem kb_X4_strictest_B86_80 {X : GX} {θ : TH} {ad Y : Nat → Nat} {S0 : St} {F : Nat} {Z : Zt} {a3 : Int32} {K34 : St → Int32 → Int32 → Option (Int32 × St)} (C : CX (mE X θ (wdC θ ad Y Z S0) 8) RX4 cX4_strictest (some .int) 2 0 0) (hK34 : ∀ (S : St) (x4 : Int32) (x5 : Int32), Dk (mE X θ (wdC θ ad Y Z S0) 8) (mT X θ (wdC θ ad Y Z S0) 8 (PIS (wdC θ ad Y Z))) 0 0 (wdC θ ad Y Z S) [(0, .ref (ad 99)), (3, .int a3), (4, .int x4), (5, .int x5)] [] 34 (K34 S x4 x5)) (S : St) (x4 : Int32) (x5 : Int32) (t0 : Int32) : Dk (mE X θ (wdC θ ad Y Z S0) 8) (mT X θ (wdC θ ad Y Z S0) 8 (PIS (wdC θ ad Y Z))) 0 0 (wdC θ ad Y Z S) [(0, .ref (ad 99)), (3, .int a3), (4, .int x4), (5, .int x5)] [.int t0] 86 (f_X4_strictest_B86 F 80 Z a3 K34 S x4 x5 t0) := by
  show Dk _ _ _ _ _ _ _ _ (if (0 : Int32) ≤ t0 then (f_J9_min_7cf53 t0 9999).bind fun r5 => (f_J9_max_7cf53 x4 r5).bind fun r6 => K34 S r6 (x5 + 1) else some ((-2 : Int32), S))
  refine k_istore (lv' := [(7, .int t0), (0, .ref (ad 99)), (3, .int a3), (4, .int x4), (5, .int x5)]) C dX4_strictest_86 (Nat.le_of_ble_eq_true rfl) rfl ?_
  refine k_iload (q := 0) C dX4_strictest_88 rfl ?_
  refine k_if_ge (tgt := 96) C dX4_strictest_90 (by decide) (fun _ => ?_) (fun _ => ?_)
  · refine k_iload (q := 3) C dX4_strictest_96 rfl ?_
    refine k_iload (q := 0) C dX4_strictest_98 rfl ?_
    refine k_sipush (v := 9999) C dX4_strictest_100 rfl ?_
    refine k_cSI C ct_J9_min_7cf53 my_J9_min_7cf53 ml_4_98 rfl ⟨Nat.le_of_ble_eq_true rfl, Nat.le_of_ble_eq_true rfl⟩ rfl (Nat.le_of_ble_eq_true rfl) dX4_strictest_103 ⟨Nat.le_refl _, Nat.le_refl _⟩ (fun r5 _ => ?_)
    refine k_cSI C ct_J9_max_7cf53 my_J9_max_7cf53 ml_4_103 rfl ⟨Nat.le_of_ble_eq_true rfl, Nat.le_of_ble_eq_true rfl⟩ rfl (Nat.le_of_ble_eq_true rfl) dX4_strictest_106 ⟨Nat.le_refl _, Nat.le_refl _⟩ (fun r6 _ => ?_)
    refine k_istore (lv' := [(4, .int r6), (7, .int t0), (0, .ref (ad 99)), (3, .int a3), (5, .int x5)]) C dX4_strictest_109 (Nat.le_of_ble_eq_true rfl) rfl ?_
    refine k_iinc (q := 4) (v := x5 + 1) (lv' := [(5, .int (x5 + 1)), (4, .int r6), (7, .int t0), (0, .ref (ad 99)), (3, .int a3)]) C dX4_strictest_111 rfl rfl (Nat.le_of_ble_eq_true rfl) rfl ?_
    refine k_goto (tgt := 34) C dX4_strictest_114 (by decide) ?_
    refine Dk.loc [3, 4, 1, 0] rfl ?_
    exact hK34 _ _ _
  · refine k_bipush (v := (-2)) C dX4_strictest_93 rfl ?_
    exact k_iret C rfl ⟨rfl, rfl⟩ dX4_strictest_95
set_option maxRecDepth 20000 in
theorem kb_X4_strictest_B62_80 {X : GX} {θ : TH} {ad Y : Nat → Nat} {S0 : St} {F : Nat} {Z : Zt} {a3 : Int32} {K34 : St → Int32 → Int32 → Option (Int32 × St)} (C : CX (mE X θ (wdC θ ad Y Z S0) 8) RX4 cX4_strictest (some .int) 2 0 0) (hK34 : ∀ (S : St) (x4 : Int32) (x5 : Int32), Dk (mE X θ (wdC θ ad Y Z S0) 8) (mT X θ (wdC θ ad Y Z S0) 8 (PIS (wdC θ ad Y Z))) 0 0 (wdC θ ad Y Z S) [(0, .ref (ad 99)), (3, .int a3), (4, .int x4), (5, .int x5)] [] 34 (K34 S x4 x5)) (S : St) (x4 : Int32) (x5 : Int32) (t0 : Option Nat) : Dk (mE X θ (wdC θ ad Y Z S0) 8) (mT X θ (wdC θ ad Y Z S0) 8 (PIS (wdC θ ad Y Z))) 0 0 (wdC θ ad Y Z S) [(0, .ref (ad 99)), (3, .int a3), (4, .int x4), (5, .int x5)] [lawV Y t0] 62 (f_X4_strictest_B62 F 80 Z a3 K34 S x4 x5 t0) := by
  show Dk _ _ _ _ _ _ _ _ (optc t0 (f_X4_strictest_B86 F 80 Z a3 K34 S x4 x5 0) fun s3 => chk (lawok Z s3) ((f_X8_answer F (1000 + 20 * s3) 82 83 Z S).bind fun r4 => f_X4_strictest_B86 F 80 Z a3 K34 r4.2 x4 x5 r4.1))
  refine k_astoreQ (Y := Y) (x := t0) (lv' := [(6, lawV Y t0), (0, .ref (ad 99)), (3, .int a3), (4, .int x4), (5, .int x5)]) C dX4_strictest_62 (Nat.le_of_ble_eq_true rfl) rfl ?_
  refine k_aloadQ (Y := Y) (q := 0) (x := t0) C dX4_strictest_64 rfl ?_
  refine k_ifnonnullQ (Y := Y) (tgt := 73) C dX4_strictest_66 (by decide) (fun hq => ?_) (fun s3 hq => ?_)
  · subst hq
    refine k_iconst (v := 0) C dX4_strictest_69 rfl ?_
    refine k_goto (tgt := 86) C dX4_strictest_70 (by decide) ?_
    refine Dk.loc [1, 2, 3, 4] rfl ?_
    exact kb_X4_strictest_B86_80 C hK34 _ _ _ _
  · subst hq
    refine k_aload (q := 0) C dX4_strictest_73 rfl ?_
    refine k_aload_n (q := 1) C dX4_strictest_75 rfl rfl ?_
    refine c_get (b := 80) (ci := 4) (kf := 2) (N := 11) C rfl ⟨rfl, rfl⟩ am_99 rfl lay_4 kk_4_2 fl_4_9 rfl dX4_strictest_76 ?_
    refine k_aload_n (q := 1) C dX4_strictest_79 rfl rfl ?_
    refine c_get (b := 80) (ci := 4) (kf := 3) (N := 11) C rfl ⟨rfl, rfl⟩ am_99 rfl lay_4 kk_4_3 fl_4_15 rfl dX4_strictest_80 ?_
    refine k_chk fun hw => ?_
    refine k_cVI C (cs_X8_answer_82_83 hw) my_8_answer ml_4_92 rfl ⟨Nat.le_of_ble_eq_true rfl, Nat.le_of_ble_eq_true rfl⟩ (recvS hw) rfl (Nat.le_of_ble_eq_true rfl) dX4_strictest_83 ⟨Nat.le_refl _, Nat.le_refl _⟩ (fun r4 _ => ?_)
    refine Dk.loc [1, 2, 3, 4] rfl ?_
    exact kb_X4_strictest_B86_80 C hK34 _ _ _ _
set_option maxRecDepth 20000 in
theorem kb_X4_strictest_L34_80 {X : GX} {θ : TH} {ad Y : Nat → Nat} {S0 : St} {F : Nat} {Z : Zt} {a3 : Int32} (C : CX (mE X θ (wdC θ ad Y Z S0) 8) RX4 cX4_strictest (some .int) 2 0 0)  : ∀ (n : Nat) (S : St) (x4 : Int32) (x5 : Int32), Dk (mE X θ (wdC θ ad Y Z S0) 8) (mT X θ (wdC θ ad Y Z S0) 8 (PIS (wdC θ ad Y Z))) 0 0 (wdC θ ad Y Z S) [(0, .ref (ad 99)), (3, .int a3), (4, .int x4), (5, .int x5)] [] 34 (f_X4_strictest_L34 F 80 Z a3 n S x4 x5) := by
  intro n
  induction n with
  | zero => intro S x4 x5; exact Dk.none
  | succ n ih =>
    intro S x4 x5
    show Dk _ _ _ _ _ _ _ _ (if (3 : Int32) ≤ x5 then some (x4, S) else if ((a3 >>> (x5 &&& 31)) &&& 1) = 0 then f_X4_strictest_B62 F 80 Z a3 (f_X4_strictest_L34 F 80 Z a3 n) S x4 x5 none else (f_X7_lawOf Z S x5).bind fun r2 => f_X4_strictest_B62 F 80 Z a3 (f_X4_strictest_L34 F 80 Z a3 n) S x4 x5 r2)
    refine k_iload (q := 3) C dX4_strictest_34 rfl ?_
    refine k_iconst (v := 3) C dX4_strictest_36 rfl ?_
    refine k_icmp_ge (tgt := 117) C dX4_strictest_37 (by decide) (fun _ => ?_) (fun _ => ?_)
    · refine k_iload (q := 2) C dX4_strictest_117 rfl ?_
      exact k_iret C rfl ⟨rfl, rfl⟩ dX4_strictest_119
    · refine k_iload_n (q := 1) C dX4_strictest_40 rfl rfl ?_
      refine k_iload (q := 3) C dX4_strictest_41 rfl ?_
      refine k_ishr C dX4_strictest_43 ?_
      refine k_iconst (v := 1) C dX4_strictest_44 rfl ?_
      refine k_iand C dX4_strictest_45 ?_
      refine k_if_eq (tgt := 61) C dX4_strictest_46 (by decide) (fun _ => ?_) (fun _ => ?_)
      · refine k_null C dX4_strictest_61 ?_
        exact kb_X4_strictest_B62_80 C ih _ _ _ _
      · refine k_aload_n (q := 0) C dX4_strictest_49 rfl rfl ?_
        refine c_get (b := 80) (ci := 4) (kf := 0) (N := 11) C rfl ⟨rfl, rfl⟩ am_99 rfl lay_4 kk_4_0 fl_4_40 rfl dX4_strictest_50 ?_
        refine k_iload (q := 3) C dX4_strictest_53 rfl ?_
        refine k_cVQ C ct_X7_lawOf my_7_lawOf ml_4_88 rfl ⟨Nat.le_of_ble_eq_true rfl, Nat.le_of_ble_eq_true rfl⟩ (recvC (b := 140) (ci := 7) rfl ⟨rfl, rfl⟩ am_159 rfl rfl) rfl (Nat.le_of_ble_eq_true rfl) dX4_strictest_55 ⟨Nat.le_refl _, Nat.le_refl _⟩ (fun r2 _ => ?_)
        refine k_goto (tgt := 62) C dX4_strictest_58 (by decide) ?_
        exact kb_X4_strictest_B62_80 C ih _ _ _ _
set_option maxRecDepth 20000 in
theorem kw_X4_strictest_80 {X : GX} {θ : TH} {ad Y : Nat → Nat} {F : Nat} {Z : Zt} {S : St} {a1 : Int32} {a2 : Int32} {a3 : Int32} (C : CX (mE X θ (wdC θ ad Y Z S) 8) RX4 cX4_strictest (some .int) 2 0 0)  : Dk (mE X θ (wdC θ ad Y Z S) 8) (mT X θ (wdC θ ad Y Z S) 8 (PIS (wdC θ ad Y Z))) 0 0 (wdC θ ad Y Z S) [(0, .ref (ad 99)), (1, .int a1), (2, .int a2), (3, .int a3)] [] 0 (f_X4_strictest F 80 Z S a1 a2 a3) := by
  show Dk _ _ _ _ _ _ _ _ (chk (inr (1 : Int32) 7) (chk (inr (3 : Int32) 7) ((f_J6_bitCount_0f7a4 a3).bind fun r1 => chk (inr (6 : Int32) 7) (f_X4_strictest_L34 F 80 Z a3 F (sa (sa (sa S 82 ((1 : Int32)).toNatClampNeg a1) 82 ((3 : Int32)).toNatClampNeg (jrem a2 24)) 82 ((6 : Int32)).toNatClampNeg r1) 0 0))))
  refine k_aload_n (q := 0) C dX4_strictest_0 rfl rfl ?_
  refine c_get (b := 80) (ci := 4) (kf := 2) (N := 11) C rfl ⟨rfl, rfl⟩ am_99 rfl lay_4 kk_4_2 fl_4_9 rfl dX4_strictest_1 ?_
  refine k_iconst (v := 1) C dX4_strictest_4 rfl ?_
  refine k_iload_n (q := 1) C dX4_strictest_5 rfl rfl ?_
  refine c_iast (i := 82) C rfl am_82 ak_82 rfl dX4_strictest_6 ?_
  refine k_aload_n (q := 0) C dX4_strictest_7 rfl rfl ?_
  refine c_get (b := 80) (ci := 4) (kf := 2) (N := 11) C rfl ⟨rfl, rfl⟩ am_99 rfl lay_4 kk_4_2 fl_4_9 rfl dX4_strictest_8 ?_
  refine k_iconst (v := 3) C dX4_strictest_11 rfl ?_
  refine k_iload_n (q := 2) C dX4_strictest_12 rfl rfl ?_
  refine k_bipush (v := 24) C dX4_strictest_13 rfl ?_
  refine k_irem C dX4_strictest_15 (by decide) ?_
  refine c_iast (i := 82) C rfl am_82 ak_82 rfl dX4_strictest_16 ?_
  refine k_aload_n (q := 0) C dX4_strictest_17 rfl rfl ?_
  refine c_get (b := 80) (ci := 4) (kf := 2) (N := 11) C rfl ⟨rfl, rfl⟩ am_99 rfl lay_4 kk_4_2 fl_4_9 rfl dX4_strictest_18 ?_
  refine k_bipush (v := 6) C dX4_strictest_21 rfl ?_
  refine k_iload_n (q := 3) C dX4_strictest_23 rfl rfl ?_
  refine k_cSI C ct_J6_bitCount_0f7a4 my_J6_bitCount_0f7a4 ml_4_83 rfl ⟨Nat.le_of_ble_eq_true rfl, Nat.le_of_ble_eq_true rfl⟩ rfl (Nat.le_of_ble_eq_true rfl) dX4_strictest_24 ⟨Nat.le_refl _, Nat.le_refl _⟩ (fun r1 _ => ?_)
  refine c_iast (i := 82) C rfl am_82 ak_82 rfl dX4_strictest_27 ?_
  refine k_iconst (v := 0) C dX4_strictest_28 rfl ?_
  refine k_istore (lv' := [(4, .int 0), (0, .ref (ad 99)), (1, .int a1), (2, .int a2), (3, .int a3)]) C dX4_strictest_29 (Nat.le_of_ble_eq_true rfl) rfl ?_
  refine k_iconst (v := 0) C dX4_strictest_31 rfl ?_
  refine k_istore (lv' := [(5, .int 0), (4, .int 0), (0, .ref (ad 99)), (1, .int a1), (2, .int a2), (3, .int a3)]) C dX4_strictest_32 (Nat.le_of_ble_eq_true rfl) rfl ?_
  refine Dk.loc [2, 5, 1, 0] rfl ?_
  exact kb_X4_strictest_L34_80 C _ _ _ _
theorem ct_X4_strictest_80 {l : Launch} {θ : TH} {ad Y : Nat → Nat} {S : St} {F : Nat} {Z : Zt} {a1 : Int32} {a2 : Int32} {a3 : Int32}  : ∀ r, f_X4_strictest F 80 Z S a1 a2 a3 = some r → Ct l θ yX4_strictest cX4_strictest 8 (some .int) 2 0 0 [.ref (ad 99), .int a1, .int a2, .int a3] (wdC θ ad Y Z S) (PIS (wdC θ ad Y Z) r) :=
  fun r hr => Ct.of (by decide +kernel) (Nat.le_of_ble_eq_true rfl) (fun X _ C _ => kw_X4_strictest_80 C  r hr)
set_option maxRecDepth 20000 in
theorem kb_X4_strictest_B86_300 {X : GX} {θ : TH} {ad Y : Nat → Nat} {S0 : St} {F : Nat} {Z : Zt} {a3 : Int32} {K34 : St → Int32 → Int32 → Option (Int32 × St)} (C : CX (mE X θ (wdC θ ad Y Z S0) 8) RX4 cX4_strictest (some .int) 2 0 0) (hK34 : ∀ (S : St) (x4 : Int32) (x5 : Int32), Dk (mE X θ (wdC θ ad Y Z S0) 8) (mT X θ (wdC θ ad Y Z S0) 8 (PIS (wdC θ ad Y Z))) 0 0 (wdC θ ad Y Z S) [(0, .ref (ad 319)), (3, .int a3), (4, .int x4), (5, .int x5)] [] 34 (K34 S x4 x5)) (S : St) (x4 : Int32) (x5 : Int32) (t0 : Int32) : Dk (mE X θ (wdC θ ad Y Z S0) 8) (mT X θ (wdC θ ad Y Z S0) 8 (PIS (wdC θ ad Y Z))) 0 0 (wdC θ ad Y Z S) [(0, .ref (ad 319)), (3, .int a3), (4, .int x4), (5, .int x5)] [.int t0] 86 (f_X4_strictest_B86 F 300 Z a3 K34 S x4 x5 t0) := by
  show Dk _ _ _ _ _ _ _ _ (if (0 : Int32) ≤ t0 then (f_J9_min_7cf53 t0 9999).bind fun r5 => (f_J9_max_7cf53 x4 r5).bind fun r6 => K34 S r6 (x5 + 1) else some ((-2 : Int32), S))
  refine k_istore (lv' := [(7, .int t0), (0, .ref (ad 319)), (3, .int a3), (4, .int x4), (5, .int x5)]) C dX4_strictest_86 (Nat.le_of_ble_eq_true rfl) rfl ?_
  refine k_iload (q := 0) C dX4_strictest_88 rfl ?_
  refine k_if_ge (tgt := 96) C dX4_strictest_90 (by decide) (fun _ => ?_) (fun _ => ?_)
  · refine k_iload (q := 3) C dX4_strictest_96 rfl ?_
    refine k_iload (q := 0) C dX4_strictest_98 rfl ?_
    refine k_sipush (v := 9999) C dX4_strictest_100 rfl ?_
    refine k_cSI C ct_J9_min_7cf53 my_J9_min_7cf53 ml_4_98 rfl ⟨Nat.le_of_ble_eq_true rfl, Nat.le_of_ble_eq_true rfl⟩ rfl (Nat.le_of_ble_eq_true rfl) dX4_strictest_103 ⟨Nat.le_refl _, Nat.le_refl _⟩ (fun r5 _ => ?_)
    refine k_cSI C ct_J9_max_7cf53 my_J9_max_7cf53 ml_4_103 rfl ⟨Nat.le_of_ble_eq_true rfl, Nat.le_of_ble_eq_true rfl⟩ rfl (Nat.le_of_ble_eq_true rfl) dX4_strictest_106 ⟨Nat.le_refl _, Nat.le_refl _⟩ (fun r6 _ => ?_)
    refine k_istore (lv' := [(4, .int r6), (7, .int t0), (0, .ref (ad 319)), (3, .int a3), (5, .int x5)]) C dX4_strictest_109 (Nat.le_of_ble_eq_true rfl) rfl ?_
    refine k_iinc (q := 4) (v := x5 + 1) (lv' := [(5, .int (x5 + 1)), (4, .int r6), (7, .int t0), (0, .ref (ad 319)), (3, .int a3)]) C dX4_strictest_111 rfl rfl (Nat.le_of_ble_eq_true rfl) rfl ?_
    refine k_goto (tgt := 34) C dX4_strictest_114 (by decide) ?_
    refine Dk.loc [3, 4, 1, 0] rfl ?_
    exact hK34 _ _ _
  · refine k_bipush (v := (-2)) C dX4_strictest_93 rfl ?_
    exact k_iret C rfl ⟨rfl, rfl⟩ dX4_strictest_95
set_option maxRecDepth 20000 in
theorem kb_X4_strictest_B62_300 {X : GX} {θ : TH} {ad Y : Nat → Nat} {S0 : St} {F : Nat} {Z : Zt} {a3 : Int32} {K34 : St → Int32 → Int32 → Option (Int32 × St)} (C : CX (mE X θ (wdC θ ad Y Z S0) 8) RX4 cX4_strictest (some .int) 2 0 0) (hK34 : ∀ (S : St) (x4 : Int32) (x5 : Int32), Dk (mE X θ (wdC θ ad Y Z S0) 8) (mT X θ (wdC θ ad Y Z S0) 8 (PIS (wdC θ ad Y Z))) 0 0 (wdC θ ad Y Z S) [(0, .ref (ad 319)), (3, .int a3), (4, .int x4), (5, .int x5)] [] 34 (K34 S x4 x5)) (S : St) (x4 : Int32) (x5 : Int32) (t0 : Option Nat) : Dk (mE X θ (wdC θ ad Y Z S0) 8) (mT X θ (wdC θ ad Y Z S0) 8 (PIS (wdC θ ad Y Z))) 0 0 (wdC θ ad Y Z S) [(0, .ref (ad 319)), (3, .int a3), (4, .int x4), (5, .int x5)] [lawV Y t0] 62 (f_X4_strictest_B62 F 300 Z a3 K34 S x4 x5 t0) := by
  show Dk _ _ _ _ _ _ _ _ (optc t0 (f_X4_strictest_B86 F 300 Z a3 K34 S x4 x5 0) fun s3 => chk (lawok Z s3) ((f_X8_answer F (1000 + 20 * s3) 302 303 Z S).bind fun r4 => f_X4_strictest_B86 F 300 Z a3 K34 r4.2 x4 x5 r4.1))
  refine k_astoreQ (Y := Y) (x := t0) (lv' := [(6, lawV Y t0), (0, .ref (ad 319)), (3, .int a3), (4, .int x4), (5, .int x5)]) C dX4_strictest_62 (Nat.le_of_ble_eq_true rfl) rfl ?_
  refine k_aloadQ (Y := Y) (q := 0) (x := t0) C dX4_strictest_64 rfl ?_
  refine k_ifnonnullQ (Y := Y) (tgt := 73) C dX4_strictest_66 (by decide) (fun hq => ?_) (fun s3 hq => ?_)
  · subst hq
    refine k_iconst (v := 0) C dX4_strictest_69 rfl ?_
    refine k_goto (tgt := 86) C dX4_strictest_70 (by decide) ?_
    refine Dk.loc [1, 2, 3, 4] rfl ?_
    exact kb_X4_strictest_B86_300 C hK34 _ _ _ _
  · subst hq
    refine k_aload (q := 0) C dX4_strictest_73 rfl ?_
    refine k_aload_n (q := 1) C dX4_strictest_75 rfl rfl ?_
    refine c_get (b := 300) (ci := 4) (kf := 2) (N := 11) C rfl ⟨rfl, rfl⟩ am_319 rfl lay_4 kk_4_2 fl_4_9 rfl dX4_strictest_76 ?_
    refine k_aload_n (q := 1) C dX4_strictest_79 rfl rfl ?_
    refine c_get (b := 300) (ci := 4) (kf := 3) (N := 11) C rfl ⟨rfl, rfl⟩ am_319 rfl lay_4 kk_4_3 fl_4_15 rfl dX4_strictest_80 ?_
    refine k_chk fun hw => ?_
    refine k_cVI C (cs_X8_answer_302_303 hw) my_8_answer ml_4_92 rfl ⟨Nat.le_of_ble_eq_true rfl, Nat.le_of_ble_eq_true rfl⟩ (recvS hw) rfl (Nat.le_of_ble_eq_true rfl) dX4_strictest_83 ⟨Nat.le_refl _, Nat.le_refl _⟩ (fun r4 _ => ?_)
    refine Dk.loc [1, 2, 3, 4] rfl ?_
    exact kb_X4_strictest_B86_300 C hK34 _ _ _ _
set_option maxRecDepth 20000 in
theorem kb_X4_strictest_L34_300 {X : GX} {θ : TH} {ad Y : Nat → Nat} {S0 : St} {F : Nat} {Z : Zt} {a3 : Int32} (C : CX (mE X θ (wdC θ ad Y Z S0) 8) RX4 cX4_strictest (some .int) 2 0 0)  : ∀ (n : Nat) (S : St) (x4 : Int32) (x5 : Int32), Dk (mE X θ (wdC θ ad Y Z S0) 8) (mT X θ (wdC θ ad Y Z S0) 8 (PIS (wdC θ ad Y Z))) 0 0 (wdC θ ad Y Z S) [(0, .ref (ad 319)), (3, .int a3), (4, .int x4), (5, .int x5)] [] 34 (f_X4_strictest_L34 F 300 Z a3 n S x4 x5) := by
  intro n
  induction n with
  | zero => intro S x4 x5; exact Dk.none
  | succ n ih =>
    intro S x4 x5
    show Dk _ _ _ _ _ _ _ _ (if (3 : Int32) ≤ x5 then some (x4, S) else if ((a3 >>> (x5 &&& 31)) &&& 1) = 0 then f_X4_strictest_B62 F 300 Z a3 (f_X4_strictest_L34 F 300 Z a3 n) S x4 x5 none else (f_X7_lawOf Z S x5).bind fun r2 => f_X4_strictest_B62 F 300 Z a3 (f_X4_strictest_L34 F 300 Z a3 n) S x4 x5 r2)
    refine k_iload (q := 3) C dX4_strictest_34 rfl ?_
    refine k_iconst (v := 3) C dX4_strictest_36 rfl ?_
    refine k_icmp_ge (tgt := 117) C dX4_strictest_37 (by decide) (fun _ => ?_) (fun _ => ?_)
    · refine k_iload (q := 2) C dX4_strictest_117 rfl ?_
      exact k_iret C rfl ⟨rfl, rfl⟩ dX4_strictest_119
    · refine k_iload_n (q := 1) C dX4_strictest_40 rfl rfl ?_
      refine k_iload (q := 3) C dX4_strictest_41 rfl ?_
      refine k_ishr C dX4_strictest_43 ?_
      refine k_iconst (v := 1) C dX4_strictest_44 rfl ?_
      refine k_iand C dX4_strictest_45 ?_
      refine k_if_eq (tgt := 61) C dX4_strictest_46 (by decide) (fun _ => ?_) (fun _ => ?_)
      · refine k_null C dX4_strictest_61 ?_
        exact kb_X4_strictest_B62_300 C ih _ _ _ _
      · refine k_aload_n (q := 0) C dX4_strictest_49 rfl rfl ?_
        refine c_get (b := 300) (ci := 4) (kf := 0) (N := 11) C rfl ⟨rfl, rfl⟩ am_319 rfl lay_4 kk_4_0 fl_4_40 rfl dX4_strictest_50 ?_
        refine k_iload (q := 3) C dX4_strictest_53 rfl ?_
        refine k_cVQ C ct_X7_lawOf my_7_lawOf ml_4_88 rfl ⟨Nat.le_of_ble_eq_true rfl, Nat.le_of_ble_eq_true rfl⟩ (recvC (b := 140) (ci := 7) rfl ⟨rfl, rfl⟩ am_159 rfl rfl) rfl (Nat.le_of_ble_eq_true rfl) dX4_strictest_55 ⟨Nat.le_refl _, Nat.le_refl _⟩ (fun r2 _ => ?_)
        refine k_goto (tgt := 62) C dX4_strictest_58 (by decide) ?_
        exact kb_X4_strictest_B62_300 C ih _ _ _ _
set_option maxRecDepth 20000 in
theorem kw_X4_strictest_300 {X : GX} {θ : TH} {ad Y : Nat → Nat} {F : Nat} {Z : Zt} {S : St} {a1 : Int32} {a2 : Int32} {a3 : Int32} (C : CX (mE X θ (wdC θ ad Y Z S) 8) RX4 cX4_strictest (some .int) 2 0 0)  : Dk (mE X θ (wdC θ ad Y Z S) 8) (mT X θ (wdC θ ad Y Z S) 8 (PIS (wdC θ ad Y Z))) 0 0 (wdC θ ad Y Z S) [(0, .ref (ad 319)), (1, .int a1), (2, .int a2), (3, .int a3)] [] 0 (f_X4_strictest F 300 Z S a1 a2 a3) := by
  show Dk _ _ _ _ _ _ _ _ (chk (inr (1 : Int32) 7) (chk (inr (3 : Int32) 7) ((f_J6_bitCount_0f7a4 a3).bind fun r1 => chk (inr (6 : Int32) 7) (f_X4_strictest_L34 F 300 Z a3 F (sa (sa (sa S 302 ((1 : Int32)).toNatClampNeg a1) 302 ((3 : Int32)).toNatClampNeg (jrem a2 24)) 302 ((6 : Int32)).toNatClampNeg r1) 0 0))))
  refine k_aload_n (q := 0) C dX4_strictest_0 rfl rfl ?_
  refine c_get (b := 300) (ci := 4) (kf := 2) (N := 11) C rfl ⟨rfl, rfl⟩ am_319 rfl lay_4 kk_4_2 fl_4_9 rfl dX4_strictest_1 ?_
  refine k_iconst (v := 1) C dX4_strictest_4 rfl ?_
  refine k_iload_n (q := 1) C dX4_strictest_5 rfl rfl ?_
  refine c_iast (i := 302) C rfl am_302 ak_302 rfl dX4_strictest_6 ?_
  refine k_aload_n (q := 0) C dX4_strictest_7 rfl rfl ?_
  refine c_get (b := 300) (ci := 4) (kf := 2) (N := 11) C rfl ⟨rfl, rfl⟩ am_319 rfl lay_4 kk_4_2 fl_4_9 rfl dX4_strictest_8 ?_
  refine k_iconst (v := 3) C dX4_strictest_11 rfl ?_
  refine k_iload_n (q := 2) C dX4_strictest_12 rfl rfl ?_
  refine k_bipush (v := 24) C dX4_strictest_13 rfl ?_
  refine k_irem C dX4_strictest_15 (by decide) ?_
  refine c_iast (i := 302) C rfl am_302 ak_302 rfl dX4_strictest_16 ?_
  refine k_aload_n (q := 0) C dX4_strictest_17 rfl rfl ?_
  refine c_get (b := 300) (ci := 4) (kf := 2) (N := 11) C rfl ⟨rfl, rfl⟩ am_319 rfl lay_4 kk_4_2 fl_4_9 rfl dX4_strictest_18 ?_
  refine k_bipush (v := 6) C dX4_strictest_21 rfl ?_
  refine k_iload_n (q := 3) C dX4_strictest_23 rfl rfl ?_
  refine k_cSI C ct_J6_bitCount_0f7a4 my_J6_bitCount_0f7a4 ml_4_83 rfl ⟨Nat.le_of_ble_eq_true rfl, Nat.le_of_ble_eq_true rfl⟩ rfl (Nat.le_of_ble_eq_true rfl) dX4_strictest_24 ⟨Nat.le_refl _, Nat.le_refl _⟩ (fun r1 _ => ?_)
  refine c_iast (i := 302) C rfl am_302 ak_302 rfl dX4_strictest_27 ?_
  refine k_iconst (v := 0) C dX4_strictest_28 rfl ?_
  refine k_istore (lv' := [(4, .int 0), (0, .ref (ad 319)), (1, .int a1), (2, .int a2), (3, .int a3)]) C dX4_strictest_29 (Nat.le_of_ble_eq_true rfl) rfl ?_
  refine k_iconst (v := 0) C dX4_strictest_31 rfl ?_
  refine k_istore (lv' := [(5, .int 0), (4, .int 0), (0, .ref (ad 319)), (1, .int a1), (2, .int a2), (3, .int a3)]) C dX4_strictest_32 (Nat.le_of_ble_eq_true rfl) rfl ?_
  refine Dk.loc [2, 5, 1, 0] rfl ?_
  exact kb_X4_strictest_L34_300 C _ _ _ _
theorem ct_X4_strictest_300 {l : Launch} {θ : TH} {ad Y : Nat → Nat} {S : St} {F : Nat} {Z : Zt} {a1 : Int32} {a2 : Int32} {a3 : Int32}  : ∀ r, f_X4_strictest F 300 Z S a1 a2 a3 = some r → Ct l θ yX4_strictest cX4_strictest 8 (some .int) 2 0 0 [.ref (ad 319), .int a1, .int a2, .int a3] (wdC θ ad Y Z S) (PIS (wdC θ ad Y Z) r) :=
  fun r hr => Ct.of (by decide +kernel) (Nat.le_of_ble_eq_true rfl) (fun X _ C _ => kw_X4_strictest_300 C  r hr)
set_option maxRecDepth 20000 in
theorem kb_X4_costUnder_B70_80 {X : GX} {θ : TH} {ad Y : Nat → Nat} {S0 : St} {F : Nat} {Z : Zt} (C : CX (mE X θ (wdC θ ad Y Z S0) 5) RX4 cX4_costUnder (some .int) 3 0 0)  (S : St) (x4 : Int32) : Dk (mE X θ (wdC θ ad Y Z S0) 5) (mT X θ (wdC θ ad Y Z S0) 5 (PIS (wdC θ ad Y Z))) 0 0 (wdC θ ad Y Z S) [(0, .ref (ad 99)), (4, .int x4)] [] 70 (f_X4_costUnder_B70 F 80 Z S x4) := by
  show Dk _ _ _ _ _ _ _ _ (chk (inr x4 (lnC Z 86)) (some (((S.2.1 86 (x4).toNatClampNeg) - (S.1 87)) + (-2), S)))
  refine k_aload_n (q := 0) C dX4_costUnder_70 rfl rfl ?_
  refine c_get (b := 80) (ci := 4) (kf := 6) (N := 11) C rfl ⟨rfl, rfl⟩ am_99 rfl lay_4 kk_4_6 fl_4_24 rfl dX4_costUnder_71 ?_
  refine k_iload (q := 1) C dX4_costUnder_74 rfl ?_
  refine c_iald (i := 86) (v := S.2.1 86 (x4).toNatClampNeg) C rfl am_86 ak_86 rfl rfl dX4_costUnder_76 ?_
  refine k_aload_n (q := 0) C dX4_costUnder_77 rfl rfl ?_
  refine c_get (b := 80) (ci := 4) (kf := 7) (N := 11) (v := .int (S.1 87)) C rfl ⟨rfl, rfl⟩ am_99 rfl lay_4 kk_4_7 fl_4_27 rfl dX4_costUnder_78 ?_
  refine k_isub C dX4_costUnder_81 ?_
  refine k_bipush (v := (-2)) C dX4_costUnder_82 rfl ?_
  refine k_iadd C dX4_costUnder_84 ?_
  exact k_iret C rfl ⟨rfl, rfl⟩ dX4_costUnder_85
set_option maxRecDepth 20000 in
theorem kw_X4_costUnder_80 {X : GX} {θ : TH} {ad Y : Nat → Nat} {F : Nat} {Z : Zt} {S : St} {a1 : Int32} {a2 : Int32} {a3 : Int32} (C : CX (mE X θ (wdC θ ad Y Z S) 5) RX4 cX4_costUnder (some .int) 3 0 0)  : Dk (mE X θ (wdC θ ad Y Z S) 5) (mT X θ (wdC θ ad Y Z S) 5 (PIS (wdC θ ad Y Z))) 0 0 (wdC θ ad Y Z S) [(0, .ref (ad 99)), (1, .int a1), (2, .int a2), (3, .int a3)] [] 0 (f_X4_costUnder F 80 Z S a1 a2 a3) := by
  show Dk _ _ _ _ _ _ _ _ (lti ((((a1 * 24) + (jrem a2 24)) * 8) + a3) fun y1 => (if y1 < 0 then some ((-2 : Int32), S) else if y1 < (Int32.ofNat (lnC Z 86)) then chk (inr y1 (lnC Z 86)) ((if (S.1 87) ≤ (S.2.1 86 (y1).toNatClampNeg) then f_X4_costUnder_B70 F 80 Z S y1 else (f_X4_strictest F 80 Z S a1 a2 a3).bind fun r2 => chk (inr y1 (lnC Z 86)) (f_X4_costUnder_B70 F 80 Z (sa r2.2 86 (y1).toNatClampNeg (((S.1 87) - (-2)) + r2.1)) y1))) else some ((-2 : Int32), S)))
  refine k_iload_n (q := 1) C dX4_costUnder_0 rfl rfl ?_
  refine k_bipush (v := 24) C dX4_costUnder_1 rfl ?_
  refine k_imul C dX4_costUnder_3 ?_
  refine k_iload_n (q := 2) C dX4_costUnder_4 rfl rfl ?_
  refine k_bipush (v := 24) C dX4_costUnder_5 rfl ?_
  refine k_irem C dX4_costUnder_7 (by decide) ?_
  refine k_iadd C dX4_costUnder_8 ?_
  refine k_bipush (v := 8) C dX4_costUnder_9 rfl ?_
  refine k_imul C dX4_costUnder_11 ?_
  refine k_iload_n (q := 3) C dX4_costUnder_12 rfl rfl ?_
  refine k_iadd C dX4_costUnder_13 ?_
  refine k_lti fun y1 => ?_
  refine k_istore (lv' := [(4, .int y1), (0, .ref (ad 99)), (1, .int a1), (2, .int a2), (3, .int a3)]) C dX4_costUnder_14 (Nat.le_of_ble_eq_true rfl) rfl ?_
  refine k_iload (q := 0) C dX4_costUnder_16 rfl ?_
  refine k_if_lt (tgt := 31) C dX4_costUnder_18 (by decide) (fun _ => ?_) (fun _ => ?_)
  · refine k_bipush (v := (-2)) C dX4_costUnder_31 rfl ?_
    exact k_iret C rfl ⟨rfl, rfl⟩ dX4_costUnder_33
  · refine k_iload (q := 0) C dX4_costUnder_21 rfl ?_
    refine k_aload_n (q := 1) C dX4_costUnder_23 rfl rfl ?_
    refine c_get (b := 80) (ci := 4) (kf := 6) (N := 11) C rfl ⟨rfl, rfl⟩ am_99 rfl lay_4 kk_4_6 fl_4_24 rfl dX4_costUnder_24 ?_
    refine c_alen (i := 86) (v := Int32.ofNat (lnC Z 86)) C rfl am_86 ak_86 rfl dX4_costUnder_27 ?_
    refine k_icmp_lt (tgt := 34) C dX4_costUnder_28 (by decide) (fun _ => ?_) (fun _ => ?_)
    · refine k_aload_n (q := 1) C dX4_costUnder_34 rfl rfl ?_
      refine c_get (b := 80) (ci := 4) (kf := 6) (N := 11) C rfl ⟨rfl, rfl⟩ am_99 rfl lay_4 kk_4_6 fl_4_24 rfl dX4_costUnder_35 ?_
      refine k_iload (q := 0) C dX4_costUnder_38 rfl ?_
      refine c_iald (i := 86) (v := S.2.1 86 (y1).toNatClampNeg) C rfl am_86 ak_86 rfl rfl dX4_costUnder_40 ?_
      refine k_aload_n (q := 1) C dX4_costUnder_41 rfl rfl ?_
      refine c_get (b := 80) (ci := 4) (kf := 7) (N := 11) (v := .int (S.1 87)) C rfl ⟨rfl, rfl⟩ am_99 rfl lay_4 kk_4_7 fl_4_27 rfl dX4_costUnder_42 ?_
      refine k_icmp_ge (tgt := 70) C dX4_costUnder_45 (by decide) (fun _ => ?_) (fun _ => ?_)
      · refine Dk.loc [1, 0] rfl ?_
        exact kb_X4_costUnder_B70_80 C _ _
      · refine k_aload_n (q := 1) C dX4_costUnder_48 rfl rfl ?_
        refine c_get (b := 80) (ci := 4) (kf := 6) (N := 11) C rfl ⟨rfl, rfl⟩ am_99 rfl lay_4 kk_4_6 fl_4_24 rfl dX4_costUnder_49 ?_
        refine k_iload (q := 0) C dX4_costUnder_52 rfl ?_
        refine k_aload_n (q := 1) C dX4_costUnder_54 rfl rfl ?_
        refine c_get (b := 80) (ci := 4) (kf := 7) (N := 11) (v := .int (S.1 87)) C rfl ⟨rfl, rfl⟩ am_99 rfl lay_4 kk_4_7 fl_4_27 rfl dX4_costUnder_55 ?_
        refine k_bipush (v := (-2)) C dX4_costUnder_58 rfl ?_
        refine k_isub C dX4_costUnder_60 ?_
        refine k_aload_n (q := 1) C dX4_costUnder_61 rfl rfl ?_
        refine k_iload_n (q := 2) C dX4_costUnder_62 rfl rfl ?_
        refine k_iload_n (q := 3) C dX4_costUnder_63 rfl rfl ?_
        refine k_iload_n (q := 4) C dX4_costUnder_64 rfl rfl ?_
        refine k_cVI C ct_X4_strictest_80 my_4_strictest ml_4_80 rfl ⟨Nat.le_of_ble_eq_true rfl, Nat.le_of_ble_eq_true rfl⟩ (recvC (b := 80) (ci := 4) rfl ⟨rfl, rfl⟩ am_99 rfl rfl) rfl (Nat.le_of_ble_eq_true rfl) dX4_costUnder_65 ⟨Nat.le_refl _, Nat.le_refl _⟩ (fun r2 _ => ?_)
        refine k_iadd C dX4_costUnder_68 ?_
        refine c_iast (i := 86) C rfl am_86 ak_86 rfl dX4_costUnder_69 ?_
        refine Dk.loc [1, 0] rfl ?_
        exact kb_X4_costUnder_B70_80 C _ _
    · refine k_bipush (v := (-2)) C dX4_costUnder_31 rfl ?_
      exact k_iret C rfl ⟨rfl, rfl⟩ dX4_costUnder_33
theorem ct_X4_costUnder_80 {l : Launch} {θ : TH} {ad Y : Nat → Nat} {S : St} {F : Nat} {Z : Zt} {a1 : Int32} {a2 : Int32} {a3 : Int32}  : ∀ r, f_X4_costUnder F 80 Z S a1 a2 a3 = some r → Ct l θ yX4_costUnder cX4_costUnder 5 (some .int) 3 0 0 [.ref (ad 99), .int a1, .int a2, .int a3] (wdC θ ad Y Z S) (PIS (wdC θ ad Y Z) r) :=
  fun r hr => Ct.of (by decide +kernel) (Nat.le_of_ble_eq_true rfl) (fun X _ C _ => kw_X4_costUnder_80 C  r hr)
set_option maxRecDepth 20000 in
theorem kb_X4_costUnder_B70_300 {X : GX} {θ : TH} {ad Y : Nat → Nat} {S0 : St} {F : Nat} {Z : Zt} (C : CX (mE X θ (wdC θ ad Y Z S0) 5) RX4 cX4_costUnder (some .int) 3 0 0)  (S : St) (x4 : Int32) : Dk (mE X θ (wdC θ ad Y Z S0) 5) (mT X θ (wdC θ ad Y Z S0) 5 (PIS (wdC θ ad Y Z))) 0 0 (wdC θ ad Y Z S) [(0, .ref (ad 319)), (4, .int x4)] [] 70 (f_X4_costUnder_B70 F 300 Z S x4) := by
  show Dk _ _ _ _ _ _ _ _ (chk (inr x4 (lnC Z 306)) (some (((S.2.1 306 (x4).toNatClampNeg) - (S.1 307)) + (-2), S)))
  refine k_aload_n (q := 0) C dX4_costUnder_70 rfl rfl ?_
  refine c_get (b := 300) (ci := 4) (kf := 6) (N := 11) C rfl ⟨rfl, rfl⟩ am_319 rfl lay_4 kk_4_6 fl_4_24 rfl dX4_costUnder_71 ?_
  refine k_iload (q := 1) C dX4_costUnder_74 rfl ?_
  refine c_iald (i := 306) (v := S.2.1 306 (x4).toNatClampNeg) C rfl am_306 ak_306 rfl rfl dX4_costUnder_76 ?_
  refine k_aload_n (q := 0) C dX4_costUnder_77 rfl rfl ?_
  refine c_get (b := 300) (ci := 4) (kf := 7) (N := 11) (v := .int (S.1 307)) C rfl ⟨rfl, rfl⟩ am_319 rfl lay_4 kk_4_7 fl_4_27 rfl dX4_costUnder_78 ?_
  refine k_isub C dX4_costUnder_81 ?_
  refine k_bipush (v := (-2)) C dX4_costUnder_82 rfl ?_
  refine k_iadd C dX4_costUnder_84 ?_
  exact k_iret C rfl ⟨rfl, rfl⟩ dX4_costUnder_85
set_option maxRecDepth 20000 in
theorem kw_X4_costUnder_300 {X : GX} {θ : TH} {ad Y : Nat → Nat} {F : Nat} {Z : Zt} {S : St} {a1 : Int32} {a2 : Int32} {a3 : Int32} (C : CX (mE X θ (wdC θ ad Y Z S) 5) RX4 cX4_costUnder (some .int) 3 0 0)  : Dk (mE X θ (wdC θ ad Y Z S) 5) (mT X θ (wdC θ ad Y Z S) 5 (PIS (wdC θ ad Y Z))) 0 0 (wdC θ ad Y Z S) [(0, .ref (ad 319)), (1, .int a1), (2, .int a2), (3, .int a3)] [] 0 (f_X4_costUnder F 300 Z S a1 a2 a3) := by
  show Dk _ _ _ _ _ _ _ _ (lti ((((a1 * 24) + (jrem a2 24)) * 8) + a3) fun y1 => (if y1 < 0 then some ((-2 : Int32), S) else if y1 < (Int32.ofNat (lnC Z 306)) then chk (inr y1 (lnC Z 306)) ((if (S.1 307) ≤ (S.2.1 306 (y1).toNatClampNeg) then f_X4_costUnder_B70 F 300 Z S y1 else (f_X4_strictest F 300 Z S a1 a2 a3).bind fun r2 => chk (inr y1 (lnC Z 306)) (f_X4_costUnder_B70 F 300 Z (sa r2.2 306 (y1).toNatClampNeg (((S.1 307) - (-2)) + r2.1)) y1))) else some ((-2 : Int32), S)))
  refine k_iload_n (q := 1) C dX4_costUnder_0 rfl rfl ?_
  refine k_bipush (v := 24) C dX4_costUnder_1 rfl ?_
  refine k_imul C dX4_costUnder_3 ?_
  refine k_iload_n (q := 2) C dX4_costUnder_4 rfl rfl ?_
  refine k_bipush (v := 24) C dX4_costUnder_5 rfl ?_
  refine k_irem C dX4_costUnder_7 (by decide) ?_
  refine k_iadd C dX4_costUnder_8 ?_
  refine k_bipush (v := 8) C dX4_costUnder_9 rfl ?_
  refine k_imul C dX4_costUnder_11 ?_
  refine k_iload_n (q := 3) C dX4_costUnder_12 rfl rfl ?_
  refine k_iadd C dX4_costUnder_13 ?_
  refine k_lti fun y1 => ?_
  refine k_istore (lv' := [(4, .int y1), (0, .ref (ad 319)), (1, .int a1), (2, .int a2), (3, .int a3)]) C dX4_costUnder_14 (Nat.le_of_ble_eq_true rfl) rfl ?_
  refine k_iload (q := 0) C dX4_costUnder_16 rfl ?_
  refine k_if_lt (tgt := 31) C dX4_costUnder_18 (by decide) (fun _ => ?_) (fun _ => ?_)
  · refine k_bipush (v := (-2)) C dX4_costUnder_31 rfl ?_
    exact k_iret C rfl ⟨rfl, rfl⟩ dX4_costUnder_33
  · refine k_iload (q := 0) C dX4_costUnder_21 rfl ?_
    refine k_aload_n (q := 1) C dX4_costUnder_23 rfl rfl ?_
    refine c_get (b := 300) (ci := 4) (kf := 6) (N := 11) C rfl ⟨rfl, rfl⟩ am_319 rfl lay_4 kk_4_6 fl_4_24 rfl dX4_costUnder_24 ?_
    refine c_alen (i := 306) (v := Int32.ofNat (lnC Z 306)) C rfl am_306 ak_306 rfl dX4_costUnder_27 ?_
    refine k_icmp_lt (tgt := 34) C dX4_costUnder_28 (by decide) (fun _ => ?_) (fun _ => ?_)
    · refine k_aload_n (q := 1) C dX4_costUnder_34 rfl rfl ?_
      refine c_get (b := 300) (ci := 4) (kf := 6) (N := 11) C rfl ⟨rfl, rfl⟩ am_319 rfl lay_4 kk_4_6 fl_4_24 rfl dX4_costUnder_35 ?_
      refine k_iload (q := 0) C dX4_costUnder_38 rfl ?_
      refine c_iald (i := 306) (v := S.2.1 306 (y1).toNatClampNeg) C rfl am_306 ak_306 rfl rfl dX4_costUnder_40 ?_
      refine k_aload_n (q := 1) C dX4_costUnder_41 rfl rfl ?_
      refine c_get (b := 300) (ci := 4) (kf := 7) (N := 11) (v := .int (S.1 307)) C rfl ⟨rfl, rfl⟩ am_319 rfl lay_4 kk_4_7 fl_4_27 rfl dX4_costUnder_42 ?_
      refine k_icmp_ge (tgt := 70) C dX4_costUnder_45 (by decide) (fun _ => ?_) (fun _ => ?_)
      · refine Dk.loc [1, 0] rfl ?_
        exact kb_X4_costUnder_B70_300 C _ _
      · refine k_aload_n (q := 1) C dX4_costUnder_48 rfl rfl ?_
        refine c_get (b := 300) (ci := 4) (kf := 6) (N := 11) C rfl ⟨rfl, rfl⟩ am_319 rfl lay_4 kk_4_6 fl_4_24 rfl dX4_costUnder_49 ?_
        refine k_iload (q := 0) C dX4_costUnder_52 rfl ?_
        refine k_aload_n (q := 1) C dX4_costUnder_54 rfl rfl ?_
        refine c_get (b := 300) (ci := 4) (kf := 7) (N := 11) (v := .int (S.1 307)) C rfl ⟨rfl, rfl⟩ am_319 rfl lay_4 kk_4_7 fl_4_27 rfl dX4_costUnder_55 ?_
        refine k_bipush (v := (-2)) C dX4_costUnder_58 rfl ?_
        refine k_isub C dX4_costUnder_60 ?_
        refine k_aload_n (q := 1) C dX4_costUnder_61 rfl rfl ?_
        refine k_iload_n (q := 2) C dX4_costUnder_62 rfl rfl ?_
        refine k_iload_n (q := 3) C dX4_costUnder_63 rfl rfl ?_
        refine k_iload_n (q := 4) C dX4_costUnder_64 rfl rfl ?_
        refine k_cVI C ct_X4_strictest_300 my_4_strictest ml_4_80 rfl ⟨Nat.le_of_ble_eq_true rfl, Nat.le_of_ble_eq_true rfl⟩ (recvC (b := 300) (ci := 4) rfl ⟨rfl, rfl⟩ am_319 rfl rfl) rfl (Nat.le_of_ble_eq_true rfl) dX4_costUnder_65 ⟨Nat.le_refl _, Nat.le_refl _⟩ (fun r2 _ => ?_)
        refine k_iadd C dX4_costUnder_68 ?_
        refine c_iast (i := 306) C rfl am_306 ak_306 rfl dX4_costUnder_69 ?_
        refine Dk.loc [1, 0] rfl ?_
        exact kb_X4_costUnder_B70_300 C _ _
    · refine k_bipush (v := (-2)) C dX4_costUnder_31 rfl ?_
      exact k_iret C rfl ⟨rfl, rfl⟩ dX4_costUnder_33
theorem ct_X4_costUnder_300 {l : Launch} {θ : TH} {ad Y : Nat → Nat} {S : St} {F : Nat} {Z : Zt} {a1 : Int32} {a2 : Int32} {a3 : Int32}  : ∀ r, f_X4_costUnder F 300 Z S a1 a2 a3 = some r → Ct l θ yX4_costUnder cX4_costUnder 5 (some .int) 3 0 0 [.ref (ad 319), .int a1, .int a2, .int a3] (wdC θ ad Y Z S) (PIS (wdC θ ad Y Z) r) :=
  fun r hr => Ct.of (by decide +kernel) (Nat.le_of_ble_eq_true rfl) (fun X _ C _ => kw_X4_costUnder_300 C  r hr)
set_option maxRecDepth 20000 in
theorem kb_X4_costBegun_B87_80 {X : GX} {θ : TH} {ad Y : Nat → Nat} {S0 : St} {F : Nat} {Z : Zt} {a1 : Int32} {K45 : St → Int32 → Int32 → Int32 → Int32 → Option (Int32 × St)} (C : CX (mE X θ (wdC θ ad Y Z S0) 8) RX4 cX4_costBegun (some .int) 4 0 0) (hK45 : ∀ (S : St) (x3 : Int32) (x4 : Int32) (x5 : Int32) (x6 : Int32), Dk (mE X θ (wdC θ ad Y Z S0) 8) (mT X θ (wdC θ ad Y Z S0) 8 (PIS (wdC θ ad Y Z))) 0 0 (wdC θ ad Y Z S) [(0, .ref (ad 99)), (1, .int a1), (3, .int x3), (4, .int x4), (5, .int x5), (6, .int x6)] [] 45 (K45 S x3 x4 x5 x6)) (S : St) (x3 : Int32) (x4 : Int32) (x5 : Int32) (x6 : Int32) (x7 : Int32) : Dk (mE X θ (wdC θ ad Y Z S0) 8) (mT X θ (wdC θ ad Y Z S0) 8 (PIS (wdC θ ad Y Z))) 0 0 (wdC θ ad Y Z S) [(0, .ref (ad 99)), (1, .int a1), (3, .int x3), (4, .int x4), (5, .int x5), (6, .int x6), (7, .int x7)] [] 87 (f_X4_costBegun_B87 F 80 Z a1 K45 S x3 x4 x5 x6 x7) := by
  show Dk _ _ _ _ _ _ _ _ (if x7 < 0 then K45 S x3 (x4 + x7) x5 (x6 + 1) else if x5 < 0 then K45 S x3 (x4 + x7) x7 (x6 + 1) else if x5 ≤ x7 then K45 S x3 (x4 + x7) x5 (x6 + 1) else K45 S x3 (x4 + x7) x7 (x6 + 1))
  refine k_iload (q := 3) C dX4_costBegun_87 rfl ?_
  refine k_iload (q := 6) C dX4_costBegun_89 rfl ?_
  refine k_iadd C dX4_costBegun_91 ?_
  refine k_istore (lv' := [(4, .int (x4 + x7)), (0, .ref (ad 99)), (1, .int a1), (3, .int x3), (5, .int x5), (6, .int x6), (7, .int x7)]) C dX4_costBegun_92 (Nat.le_of_ble_eq_true rfl) rfl ?_
  refine k_iload (q := 6) C dX4_costBegun_94 rfl ?_
  refine k_if_lt (tgt := 115) C dX4_costBegun_96 (by decide) (fun _ => ?_) (fun _ => ?_)
  · refine k_iinc (q := 5) (v := x6 + 1) (lv' := [(6, .int (x6 + 1)), (4, .int (x4 + x7)), (0, .ref (ad 99)), (1, .int a1), (3, .int x3), (5, .int x5), (7, .int x7)]) C dX4_costBegun_115 rfl rfl (Nat.le_of_ble_eq_true rfl) rfl ?_
    refine k_goto (tgt := 45) C dX4_costBegun_118 (by decide) ?_
    refine Dk.loc [2, 3, 4, 1, 5, 0] rfl ?_
    exact hK45 _ _ _ _ _
  · refine k_iload (q := 4) C dX4_costBegun_99 rfl ?_
    refine k_if_lt (tgt := 111) C dX4_costBegun_101 (by decide) (fun _ => ?_) (fun _ => ?_)
    · refine k_iload (q := 6) C dX4_costBegun_111 rfl ?_
      refine k_istore (lv' := [(5, .int x7), (4, .int (x4 + x7)), (0, .ref (ad 99)), (1, .int a1), (3, .int x3), (6, .int x6), (7, .int x7)]) C dX4_costBegun_113 (Nat.le_of_ble_eq_true rfl) rfl ?_
      refine k_iinc (q := 5) (v := x6 + 1) (lv' := [(6, .int (x6 + 1)), (5, .int x7), (4, .int (x4 + x7)), (0, .ref (ad 99)), (1, .int a1), (3, .int x3), (7, .int x7)]) C dX4_costBegun_115 rfl rfl (Nat.le_of_ble_eq_true rfl) rfl ?_
      refine k_goto (tgt := 45) C dX4_costBegun_118 (by decide) ?_
      refine Dk.loc [3, 4, 5, 2, 1, 0] rfl ?_
      exact hK45 _ _ _ _ _
    · refine k_iload (q := 6) C dX4_costBegun_104 rfl ?_
      refine k_iload (q := 4) C dX4_costBegun_106 rfl ?_
      refine k_icmp_ge (tgt := 115) C dX4_costBegun_108 (by decide) (fun _ => ?_) (fun _ => ?_)
      · refine k_iinc (q := 5) (v := x6 + 1) (lv' := [(6, .int (x6 + 1)), (4, .int (x4 + x7)), (0, .ref (ad 99)), (1, .int a1), (3, .int x3), (5, .int x5), (7, .int x7)]) C dX4_costBegun_115 rfl rfl (Nat.le_of_ble_eq_true rfl) rfl ?_
        refine k_goto (tgt := 45) C dX4_costBegun_118 (by decide) ?_
        refine Dk.loc [2, 3, 4, 1, 5, 0] rfl ?_
        exact hK45 _ _ _ _ _
      · refine k_iload (q := 6) C dX4_costBegun_111 rfl ?_
        refine k_istore (lv' := [(5, .int x7), (4, .int (x4 + x7)), (0, .ref (ad 99)), (1, .int a1), (3, .int x3), (6, .int x6), (7, .int x7)]) C dX4_costBegun_113 (Nat.le_of_ble_eq_true rfl) rfl ?_
        refine k_iinc (q := 5) (v := x6 + 1) (lv' := [(6, .int (x6 + 1)), (5, .int x7), (4, .int (x4 + x7)), (0, .ref (ad 99)), (1, .int a1), (3, .int x3), (7, .int x7)]) C dX4_costBegun_115 rfl rfl (Nat.le_of_ble_eq_true rfl) rfl ?_
        refine k_goto (tgt := 45) C dX4_costBegun_118 (by decide) ?_
        refine Dk.loc [3, 4, 5, 2, 1, 0] rfl ?_
        exact hK45 _ _ _ _ _
set_option maxRecDepth 20000 in
theorem kb_X4_costBegun_L45_80 {X : GX} {θ : TH} {ad Y : Nat → Nat} {S0 : St} {F : Nat} {Z : Zt} {a1 : Int32} (C : CX (mE X θ (wdC θ ad Y Z S0) 8) RX4 cX4_costBegun (some .int) 4 0 0)  : ∀ (n : Nat) (S : St) (x3 : Int32) (x4 : Int32) (x5 : Int32) (x6 : Int32), Dk (mE X θ (wdC θ ad Y Z S0) 8) (mT X θ (wdC θ ad Y Z S0) 8 (PIS (wdC θ ad Y Z))) 0 0 (wdC θ ad Y Z S) [(0, .ref (ad 99)), (1, .int a1), (3, .int x3), (4, .int x4), (5, .int x5), (6, .int x6)] [] 45 (f_X4_costBegun_L45 F 80 Z a1 n S x3 x4 x5 x6) := by
  intro n
  induction n with
  | zero => intro S x3 x4 x5 x6; exact Dk.none
  | succ n ih =>
    intro S x3 x4 x5 x6
    show Dk _ _ _ _ _ _ _ _ (if x3 ≤ x6 then if (S.1 90) = 3 then some (x5, S) else some (x4, S) else (f_X4_upAt F 80 Z S (a1 + x6)).bind fun r1 => (f_X4_costUnder F 80 Z r1.2 x6 (a1 + x6) r1.1).bind fun r2 => (if (0 : Int32) ≤ r2.1 then f_X4_costBegun_B87 F 80 Z a1 (f_X4_costBegun_L45 F 80 Z a1 n) r2.2 x3 x4 x5 x6 r2.1 else if (r2.2.1 90) = 3 then f_X4_costBegun_B87 F 80 Z a1 (f_X4_costBegun_L45 F 80 Z a1 n) r2.2 x3 x4 x5 x6 r2.1 else some ((-2 : Int32), r2.2)))
    refine k_iload (q := 5) C dX4_costBegun_45 rfl ?_
    refine k_iload_n (q := 2) C dX4_costBegun_47 rfl rfl ?_
    refine k_icmp_ge (tgt := 121) C dX4_costBegun_48 (by decide) (fun _ => ?_) (fun _ => ?_)
    · refine k_aload_n (q := 0) C dX4_costBegun_121 rfl rfl ?_
      refine c_get (b := 80) (ci := 4) (kf := 10) (N := 11) (v := .int (S.1 90)) C rfl ⟨rfl, rfl⟩ am_99 rfl lay_4 kk_4_10 fl_4_37 rfl dX4_costBegun_122 ?_
      refine k_iconst (v := 3) C dX4_costBegun_125 rfl ?_
      refine k_icmp_ne (tgt := 134) C dX4_costBegun_126 (by decide) (fun _ => ?_) (fun _ => ?_)
      · refine k_iload (q := 3) C dX4_costBegun_134 rfl ?_
        exact k_iret C rfl ⟨rfl, rfl⟩ dX4_costBegun_136
      · refine k_iload (q := 4) C dX4_costBegun_129 rfl ?_
        refine k_goto (tgt := 136) C dX4_costBegun_131 (by decide) ?_
        exact k_iret C rfl ⟨rfl, rfl⟩ dX4_costBegun_136
    · refine k_aload_n (q := 0) C dX4_costBegun_51 rfl rfl ?_
      refine k_iload (q := 5) C dX4_costBegun_52 rfl ?_
      refine k_iload_n (q := 1) C dX4_costBegun_54 rfl rfl ?_
      refine k_iload (q := 5) C dX4_costBegun_55 rfl ?_
      refine k_iadd C dX4_costBegun_57 ?_
      refine k_aload_n (q := 0) C dX4_costBegun_58 rfl rfl ?_
      refine k_iload_n (q := 1) C dX4_costBegun_59 rfl rfl ?_
      refine k_iload (q := 5) C dX4_costBegun_60 rfl ?_
      refine k_iadd C dX4_costBegun_62 ?_
      refine k_cVI C ct_X4_upAt_80 my_4_upAt ml_4_73 rfl ⟨Nat.le_of_ble_eq_true rfl, Nat.le_of_ble_eq_true rfl⟩ (recvC (b := 80) (ci := 4) rfl ⟨rfl, rfl⟩ am_99 rfl rfl) rfl (Nat.le_of_ble_eq_true rfl) dX4_costBegun_63 ⟨Nat.le_refl _, Nat.le_refl _⟩ (fun r1 _ => ?_)
      refine k_cVI C ct_X4_costUnder_80 my_4_costUnder ml_4_76 rfl ⟨Nat.le_of_ble_eq_true rfl, Nat.le_of_ble_eq_true rfl⟩ (recvC (b := 80) (ci := 4) rfl ⟨rfl, rfl⟩ am_99 rfl rfl) rfl (Nat.le_of_ble_eq_true rfl) dX4_costBegun_66 ⟨Nat.le_refl _, Nat.le_refl _⟩ (fun r2 _ => ?_)
      refine k_istore (lv' := [(7, .int r2.1), (0, .ref (ad 99)), (1, .int a1), (3, .int x3), (4, .int x4), (5, .int x5), (6, .int x6)]) C dX4_costBegun_69 (Nat.le_of_ble_eq_true rfl) rfl ?_
      refine k_iload (q := 0) C dX4_costBegun_71 rfl ?_
      refine k_if_ge (tgt := 87) C dX4_costBegun_73 (by decide) (fun _ => ?_) (fun _ => ?_)
      · refine Dk.loc [1, 2, 3, 4, 5, 6, 0] rfl ?_
        exact kb_X4_costBegun_B87_80 C ih _ _ _ _ _ _
      · refine k_aload_n (q := 1) C dX4_costBegun_76 rfl rfl ?_
        refine c_get (b := 80) (ci := 4) (kf := 10) (N := 11) (v := .int (r2.2.1 90)) C rfl ⟨rfl, rfl⟩ am_99 rfl lay_4 kk_4_10 fl_4_37 rfl dX4_costBegun_77 ?_
        refine k_iconst (v := 3) C dX4_costBegun_80 rfl ?_
        refine k_icmp_eq (tgt := 87) C dX4_costBegun_81 (by decide) (fun _ => ?_) (fun _ => ?_)
        · refine Dk.loc [1, 2, 3, 4, 5, 6, 0] rfl ?_
          exact kb_X4_costBegun_B87_80 C ih _ _ _ _ _ _
        · refine k_bipush (v := (-2)) C dX4_costBegun_84 rfl ?_
          exact k_iret C rfl ⟨rfl, rfl⟩ dX4_costBegun_86
set_option maxRecDepth 20000 in
theorem kb_X4_costBegun_B34_80 {X : GX} {θ : TH} {ad Y : Nat → Nat} {S0 : St} {F : Nat} {Z : Zt} {a1 : Int32} (C : CX (mE X θ (wdC θ ad Y Z S0) 8) RX4 cX4_costBegun (some .int) 4 0 0)  (S : St) (x2 : Int32) (t0 : Int32) : Dk (mE X θ (wdC θ ad Y Z S0) 8) (mT X θ (wdC θ ad Y Z S0) 8 (PIS (wdC θ ad Y Z))) 0 0 (wdC θ ad Y Z S) [(0, .ref (ad 99)), (1, .int a1), (2, .int x2)] [.int t0] 34 (f_X4_costBegun_B34 F 80 Z a1 S x2 t0) := by
  show Dk _ _ _ _ _ _ _ _ (f_X4_costBegun_L45 F 80 Z a1 F S t0 0 (-2) x2)
  refine k_istore_n (lv' := [(3, .int t0), (0, .ref (ad 99)), (1, .int a1), (2, .int x2)]) C dX4_costBegun_34 rfl (Nat.le_of_ble_eq_true rfl) rfl ?_
  refine k_iconst (v := 0) C dX4_costBegun_35 rfl ?_
  refine k_istore (lv' := [(4, .int 0), (3, .int t0), (0, .ref (ad 99)), (1, .int a1), (2, .int x2)]) C dX4_costBegun_36 (Nat.le_of_ble_eq_true rfl) rfl ?_
  refine k_bipush (v := (-2)) C dX4_costBegun_38 rfl ?_
  refine k_istore (lv' := [(5, .int (-2)), (4, .int 0), (3, .int t0), (0, .ref (ad 99)), (1, .int a1), (2, .int x2)]) C dX4_costBegun_40 (Nat.le_of_ble_eq_true rfl) rfl ?_
  refine k_iload_n (q := 5) C dX4_costBegun_42 rfl rfl ?_
  refine k_istore (lv' := [(6, .int x2), (5, .int (-2)), (4, .int 0), (3, .int t0), (0, .ref (ad 99)), (1, .int a1), (2, .int x2)]) C dX4_costBegun_43 (Nat.le_of_ble_eq_true rfl) rfl ?_
  refine Dk.loc [4, 5, 3, 2, 1, 0] rfl ?_
  exact kb_X4_costBegun_L45_80 C _ _ _ _ _ _
set_option maxRecDepth 20000 in
theorem kb_X4_costBegun_B18_80 {X : GX} {θ : TH} {ad Y : Nat → Nat} {S0 : St} {F : Nat} {Z : Zt} {a1 : Int32} (C : CX (mE X θ (wdC θ ad Y Z S0) 8) RX4 cX4_costBegun (some .int) 4 0 0)  (S : St) (t0 : Int32) : Dk (mE X θ (wdC θ ad Y Z S0) 8) (mT X θ (wdC θ ad Y Z S0) 8 (PIS (wdC θ ad Y Z))) 0 0 (wdC θ ad Y Z S) [(0, .ref (ad 99)), (1, .int a1)] [.int t0] 18 (f_X4_costBegun_B18 F 80 Z a1 S t0) := by
  show Dk _ _ _ _ _ _ _ _ (if (S.1 90) = 0 then f_X4_costBegun_B34 F 80 Z a1 S t0 1 else f_X4_costBegun_B34 F 80 Z a1 S t0 (S.1 89))
  refine k_istore_n (lv' := [(2, .int t0), (0, .ref (ad 99)), (1, .int a1)]) C dX4_costBegun_18 rfl (Nat.le_of_ble_eq_true rfl) rfl ?_
  refine k_aload_n (q := 1) C dX4_costBegun_19 rfl rfl ?_
  refine c_get (b := 80) (ci := 4) (kf := 10) (N := 11) (v := .int (S.1 90)) C rfl ⟨rfl, rfl⟩ am_99 rfl lay_4 kk_4_10 fl_4_37 rfl dX4_costBegun_20 ?_
  refine k_if_ne (tgt := 30) C dX4_costBegun_23 (by decide) (fun _ => ?_) (fun _ => ?_)
  · refine k_aload_n (q := 1) C dX4_costBegun_30 rfl rfl ?_
    refine c_get (b := 80) (ci := 4) (kf := 9) (N := 11) (v := .int (S.1 89)) C rfl ⟨rfl, rfl⟩ am_99 rfl lay_4 kk_4_9 fl_4_34 rfl dX4_costBegun_31 ?_
    refine Dk.loc [1, 2, 0] rfl ?_
    exact kb_X4_costBegun_B34_80 C _ _ _
  · refine k_iconst (v := 1) C dX4_costBegun_26 rfl ?_
    refine k_goto (tgt := 34) C dX4_costBegun_27 (by decide) ?_
    refine Dk.loc [1, 2, 0] rfl ?_
    exact kb_X4_costBegun_B34_80 C _ _ _
set_option maxRecDepth 20000 in
theorem kw_X4_costBegun_80 {X : GX} {θ : TH} {ad Y : Nat → Nat} {F : Nat} {Z : Zt} {S : St} {a1 : Int32} (C : CX (mE X θ (wdC θ ad Y Z S) 8) RX4 cX4_costBegun (some .int) 4 0 0)  : Dk (mE X θ (wdC θ ad Y Z S) 8) (mT X θ (wdC θ ad Y Z S) 8 (PIS (wdC θ ad Y Z))) 0 0 (wdC θ ad Y Z S) [(0, .ref (ad 99)), (1, .int a1)] [] 0 (f_X4_costBegun F 80 Z S a1) := by
  show Dk _ _ _ _ _ _ _ _ (if (S.1 90) = 1 then f_X4_costBegun_B18 F 80 Z a1 S ((S.1 89) - 1) else f_X4_costBegun_B18 F 80 Z a1 S 0)
  refine k_aload_n (q := 0) C dX4_costBegun_0 rfl rfl ?_
  refine c_get (b := 80) (ci := 4) (kf := 10) (N := 11) (v := .int (S.1 90)) C rfl ⟨rfl, rfl⟩ am_99 rfl lay_4 kk_4_10 fl_4_37 rfl dX4_costBegun_1 ?_
  refine k_iconst (v := 1) C dX4_costBegun_4 rfl ?_
  refine k_icmp_ne (tgt := 17) C dX4_costBegun_5 (by decide) (fun _ => ?_) (fun _ => ?_)
  · refine k_iconst (v := 0) C dX4_costBegun_17 rfl ?_
    exact kb_X4_costBegun_B18_80 C _ _
  · refine k_aload_n (q := 0) C dX4_costBegun_8 rfl rfl ?_
    refine c_get (b := 80) (ci := 4) (kf := 9) (N := 11) (v := .int (S.1 89)) C rfl ⟨rfl, rfl⟩ am_99 rfl lay_4 kk_4_9 fl_4_34 rfl dX4_costBegun_9 ?_
    refine k_iconst (v := 1) C dX4_costBegun_12 rfl ?_
    refine k_isub C dX4_costBegun_13 ?_
    refine k_goto (tgt := 18) C dX4_costBegun_14 (by decide) ?_
    exact kb_X4_costBegun_B18_80 C _ _
theorem ct_X4_costBegun_80 {l : Launch} {θ : TH} {ad Y : Nat → Nat} {S : St} {F : Nat} {Z : Zt} {a1 : Int32}  : ∀ r, f_X4_costBegun F 80 Z S a1 = some r → Ct l θ yX4_costBegun cX4_costBegun 8 (some .int) 4 0 0 [.ref (ad 99), .int a1] (wdC θ ad Y Z S) (PIS (wdC θ ad Y Z) r) :=
  fun r hr => Ct.of (by decide +kernel) (Nat.le_of_ble_eq_true rfl) (fun X _ C _ => kw_X4_costBegun_80 C  r hr)
set_option maxRecDepth 20000 in
theorem kb_X4_costBegun_B87_300 {X : GX} {θ : TH} {ad Y : Nat → Nat} {S0 : St} {F : Nat} {Z : Zt} {a1 : Int32} {K45 : St → Int32 → Int32 → Int32 → Int32 → Option (Int32 × St)} (C : CX (mE X θ (wdC θ ad Y Z S0) 8) RX4 cX4_costBegun (some .int) 4 0 0) (hK45 : ∀ (S : St) (x3 : Int32) (x4 : Int32) (x5 : Int32) (x6 : Int32), Dk (mE X θ (wdC θ ad Y Z S0) 8) (mT X θ (wdC θ ad Y Z S0) 8 (PIS (wdC θ ad Y Z))) 0 0 (wdC θ ad Y Z S) [(0, .ref (ad 319)), (1, .int a1), (3, .int x3), (4, .int x4), (5, .int x5), (6, .int x6)] [] 45 (K45 S x3 x4 x5 x6)) (S : St) (x3 : Int32) (x4 : Int32) (x5 : Int32) (x6 : Int32) (x7 : Int32) : Dk (mE X θ (wdC θ ad Y Z S0) 8) (mT X θ (wdC θ ad Y Z S0) 8 (PIS (wdC θ ad Y Z))) 0 0 (wdC θ ad Y Z S) [(0, .ref (ad 319)), (1, .int a1), (3, .int x3), (4, .int x4), (5, .int x5), (6, .int x6), (7, .int x7)] [] 87 (f_X4_costBegun_B87 F 300 Z a1 K45 S x3 x4 x5 x6 x7) := by
  show Dk _ _ _ _ _ _ _ _ (if x7 < 0 then K45 S x3 (x4 + x7) x5 (x6 + 1) else if x5 < 0 then K45 S x3 (x4 + x7) x7 (x6 + 1) else if x5 ≤ x7 then K45 S x3 (x4 + x7) x5 (x6 + 1) else K45 S x3 (x4 + x7) x7 (x6 + 1))
  refine k_iload (q := 3) C dX4_costBegun_87 rfl ?_
  refine k_iload (q := 6) C dX4_costBegun_89 rfl ?_
  refine k_iadd C dX4_costBegun_91 ?_
  refine k_istore (lv' := [(4, .int (x4 + x7)), (0, .ref (ad 319)), (1, .int a1), (3, .int x3), (5, .int x5), (6, .int x6), (7, .int x7)]) C dX4_costBegun_92 (Nat.le_of_ble_eq_true rfl) rfl ?_
  refine k_iload (q := 6) C dX4_costBegun_94 rfl ?_
  refine k_if_lt (tgt := 115) C dX4_costBegun_96 (by decide) (fun _ => ?_) (fun _ => ?_)
  · refine k_iinc (q := 5) (v := x6 + 1) (lv' := [(6, .int (x6 + 1)), (4, .int (x4 + x7)), (0, .ref (ad 319)), (1, .int a1), (3, .int x3), (5, .int x5), (7, .int x7)]) C dX4_costBegun_115 rfl rfl (Nat.le_of_ble_eq_true rfl) rfl ?_
    refine k_goto (tgt := 45) C dX4_costBegun_118 (by decide) ?_
    refine Dk.loc [2, 3, 4, 1, 5, 0] rfl ?_
    exact hK45 _ _ _ _ _
  · refine k_iload (q := 4) C dX4_costBegun_99 rfl ?_
    refine k_if_lt (tgt := 111) C dX4_costBegun_101 (by decide) (fun _ => ?_) (fun _ => ?_)
    · refine k_iload (q := 6) C dX4_costBegun_111 rfl ?_
      refine k_istore (lv' := [(5, .int x7), (4, .int (x4 + x7)), (0, .ref (ad 319)), (1, .int a1), (3, .int x3), (6, .int x6), (7, .int x7)]) C dX4_costBegun_113 (Nat.le_of_ble_eq_true rfl) rfl ?_
      refine k_iinc (q := 5) (v := x6 + 1) (lv' := [(6, .int (x6 + 1)), (5, .int x7), (4, .int (x4 + x7)), (0, .ref (ad 319)), (1, .int a1), (3, .int x3), (7, .int x7)]) C dX4_costBegun_115 rfl rfl (Nat.le_of_ble_eq_true rfl) rfl ?_
      refine k_goto (tgt := 45) C dX4_costBegun_118 (by decide) ?_
      refine Dk.loc [3, 4, 5, 2, 1, 0] rfl ?_
      exact hK45 _ _ _ _ _
    · refine k_iload (q := 6) C dX4_costBegun_104 rfl ?_
      refine k_iload (q := 4) C dX4_costBegun_106 rfl ?_
      refine k_icmp_ge (tgt := 115) C dX4_costBegun_108 (by decide) (fun _ => ?_) (fun _ => ?_)
      · refine k_iinc (q := 5) (v := x6 + 1) (lv' := [(6, .int (x6 + 1)), (4, .int (x4 + x7)), (0, .ref (ad 319)), (1, .int a1), (3, .int x3), (5, .int x5), (7, .int x7)]) C dX4_costBegun_115 rfl rfl (Nat.le_of_ble_eq_true rfl) rfl ?_
        refine k_goto (tgt := 45) C dX4_costBegun_118 (by decide) ?_
        refine Dk.loc [2, 3, 4, 1, 5, 0] rfl ?_
        exact hK45 _ _ _ _ _
      · refine k_iload (q := 6) C dX4_costBegun_111 rfl ?_
        refine k_istore (lv' := [(5, .int x7), (4, .int (x4 + x7)), (0, .ref (ad 319)), (1, .int a1), (3, .int x3), (6, .int x6), (7, .int x7)]) C dX4_costBegun_113 (Nat.le_of_ble_eq_true rfl) rfl ?_
        refine k_iinc (q := 5) (v := x6 + 1) (lv' := [(6, .int (x6 + 1)), (5, .int x7), (4, .int (x4 + x7)), (0, .ref (ad 319)), (1, .int a1), (3, .int x3), (7, .int x7)]) C dX4_costBegun_115 rfl rfl (Nat.le_of_ble_eq_true rfl) rfl ?_
        refine k_goto (tgt := 45) C dX4_costBegun_118 (by decide) ?_
        refine Dk.loc [3, 4, 5, 2, 1, 0] rfl ?_
        exact hK45 _ _ _ _ _
set_option maxRecDepth 20000 in
theorem kb_X4_costBegun_L45_300 {X : GX} {θ : TH} {ad Y : Nat → Nat} {S0 : St} {F : Nat} {Z : Zt} {a1 : Int32} (C : CX (mE X θ (wdC θ ad Y Z S0) 8) RX4 cX4_costBegun (some .int) 4 0 0)  : ∀ (n : Nat) (S : St) (x3 : Int32) (x4 : Int32) (x5 : Int32) (x6 : Int32), Dk (mE X θ (wdC θ ad Y Z S0) 8) (mT X θ (wdC θ ad Y Z S0) 8 (PIS (wdC θ ad Y Z))) 0 0 (wdC θ ad Y Z S) [(0, .ref (ad 319)), (1, .int a1), (3, .int x3), (4, .int x4), (5, .int x5), (6, .int x6)] [] 45 (f_X4_costBegun_L45 F 300 Z a1 n S x3 x4 x5 x6) := by
  intro n
  induction n with
  | zero => intro S x3 x4 x5 x6; exact Dk.none
  | succ n ih =>
    intro S x3 x4 x5 x6
    show Dk _ _ _ _ _ _ _ _ (if x3 ≤ x6 then if (S.1 310) = 3 then some (x5, S) else some (x4, S) else (f_X4_upAt F 300 Z S (a1 + x6)).bind fun r1 => (f_X4_costUnder F 300 Z r1.2 x6 (a1 + x6) r1.1).bind fun r2 => (if (0 : Int32) ≤ r2.1 then f_X4_costBegun_B87 F 300 Z a1 (f_X4_costBegun_L45 F 300 Z a1 n) r2.2 x3 x4 x5 x6 r2.1 else if (r2.2.1 310) = 3 then f_X4_costBegun_B87 F 300 Z a1 (f_X4_costBegun_L45 F 300 Z a1 n) r2.2 x3 x4 x5 x6 r2.1 else some ((-2 : Int32), r2.2)))
    refine k_iload (q := 5) C dX4_costBegun_45 rfl ?_
    refine k_iload_n (q := 2) C dX4_costBegun_47 rfl rfl ?_
    refine k_icmp_ge (tgt := 121) C dX4_costBegun_48 (by decide) (fun _ => ?_) (fun _ => ?_)
    · refine k_aload_n (q := 0) C dX4_costBegun_121 rfl rfl ?_
      refine c_get (b := 300) (ci := 4) (kf := 10) (N := 11) (v := .int (S.1 310)) C rfl ⟨rfl, rfl⟩ am_319 rfl lay_4 kk_4_10 fl_4_37 rfl dX4_costBegun_122 ?_
      refine k_iconst (v := 3) C dX4_costBegun_125 rfl ?_
      refine k_icmp_ne (tgt := 134) C dX4_costBegun_126 (by decide) (fun _ => ?_) (fun _ => ?_)
      · refine k_iload (q := 3) C dX4_costBegun_134 rfl ?_
        exact k_iret C rfl ⟨rfl, rfl⟩ dX4_costBegun_136
      · refine k_iload (q := 4) C dX4_costBegun_129 rfl ?_
        refine k_goto (tgt := 136) C dX4_costBegun_131 (by decide) ?_
        exact k_iret C rfl ⟨rfl, rfl⟩ dX4_costBegun_136
    · refine k_aload_n (q := 0) C dX4_costBegun_51 rfl rfl ?_
      refine k_iload (q := 5) C dX4_costBegun_52 rfl ?_
      refine k_iload_n (q := 1) C dX4_costBegun_54 rfl rfl ?_
      refine k_iload (q := 5) C dX4_costBegun_55 rfl ?_
      refine k_iadd C dX4_costBegun_57 ?_
      refine k_aload_n (q := 0) C dX4_costBegun_58 rfl rfl ?_
      refine k_iload_n (q := 1) C dX4_costBegun_59 rfl rfl ?_
      refine k_iload (q := 5) C dX4_costBegun_60 rfl ?_
      refine k_iadd C dX4_costBegun_62 ?_
      refine k_cVI C ct_X4_upAt_300 my_4_upAt ml_4_73 rfl ⟨Nat.le_of_ble_eq_true rfl, Nat.le_of_ble_eq_true rfl⟩ (recvC (b := 300) (ci := 4) rfl ⟨rfl, rfl⟩ am_319 rfl rfl) rfl (Nat.le_of_ble_eq_true rfl) dX4_costBegun_63 ⟨Nat.le_refl _, Nat.le_refl _⟩ (fun r1 _ => ?_)
      refine k_cVI C ct_X4_costUnder_300 my_4_costUnder ml_4_76 rfl ⟨Nat.le_of_ble_eq_true rfl, Nat.le_of_ble_eq_true rfl⟩ (recvC (b := 300) (ci := 4) rfl ⟨rfl, rfl⟩ am_319 rfl rfl) rfl (Nat.le_of_ble_eq_true rfl) dX4_costBegun_66 ⟨Nat.le_refl _, Nat.le_refl _⟩ (fun r2 _ => ?_)
      refine k_istore (lv' := [(7, .int r2.1), (0, .ref (ad 319)), (1, .int a1), (3, .int x3), (4, .int x4), (5, .int x5), (6, .int x6)]) C dX4_costBegun_69 (Nat.le_of_ble_eq_true rfl) rfl ?_
      refine k_iload (q := 0) C dX4_costBegun_71 rfl ?_
      refine k_if_ge (tgt := 87) C dX4_costBegun_73 (by decide) (fun _ => ?_) (fun _ => ?_)
      · refine Dk.loc [1, 2, 3, 4, 5, 6, 0] rfl ?_
        exact kb_X4_costBegun_B87_300 C ih _ _ _ _ _ _
      · refine k_aload_n (q := 1) C dX4_costBegun_76 rfl rfl ?_
        refine c_get (b := 300) (ci := 4) (kf := 10) (N := 11) (v := .int (r2.2.1 310)) C rfl ⟨rfl, rfl⟩ am_319 rfl lay_4 kk_4_10 fl_4_37 rfl dX4_costBegun_77 ?_
        refine k_iconst (v := 3) C dX4_costBegun_80 rfl ?_
        refine k_icmp_eq (tgt := 87) C dX4_costBegun_81 (by decide) (fun _ => ?_) (fun _ => ?_)
        · refine Dk.loc [1, 2, 3, 4, 5, 6, 0] rfl ?_
          exact kb_X4_costBegun_B87_300 C ih _ _ _ _ _ _
        · refine k_bipush (v := (-2)) C dX4_costBegun_84 rfl ?_
          exact k_iret C rfl ⟨rfl, rfl⟩ dX4_costBegun_86
set_option maxRecDepth 20000 in
theorem kb_X4_costBegun_B34_300 {X : GX} {θ : TH} {ad Y : Nat → Nat} {S0 : St} {F : Nat} {Z : Zt} {a1 : Int32} (C : CX (mE X θ (wdC θ ad Y Z S0) 8) RX4 cX4_costBegun (some .int) 4 0 0)  (S : St) (x2 : Int32) (t0 : Int32) : Dk (mE X θ (wdC θ ad Y Z S0) 8) (mT X θ (wdC θ ad Y Z S0) 8 (PIS (wdC θ ad Y Z))) 0 0 (wdC θ ad Y Z S) [(0, .ref (ad 319)), (1, .int a1), (2, .int x2)] [.int t0] 34 (f_X4_costBegun_B34 F 300 Z a1 S x2 t0) := by
  show Dk _ _ _ _ _ _ _ _ (f_X4_costBegun_L45 F 300 Z a1 F S t0 0 (-2) x2)
  refine k_istore_n (lv' := [(3, .int t0), (0, .ref (ad 319)), (1, .int a1), (2, .int x2)]) C dX4_costBegun_34 rfl (Nat.le_of_ble_eq_true rfl) rfl ?_
  refine k_iconst (v := 0) C dX4_costBegun_35 rfl ?_
  refine k_istore (lv' := [(4, .int 0), (3, .int t0), (0, .ref (ad 319)), (1, .int a1), (2, .int x2)]) C dX4_costBegun_36 (Nat.le_of_ble_eq_true rfl) rfl ?_
  refine k_bipush (v := (-2)) C dX4_costBegun_38 rfl ?_
  refine k_istore (lv' := [(5, .int (-2)), (4, .int 0), (3, .int t0), (0, .ref (ad 319)), (1, .int a1), (2, .int x2)]) C dX4_costBegun_40 (Nat.le_of_ble_eq_true rfl) rfl ?_
  refine k_iload_n (q := 5) C dX4_costBegun_42 rfl rfl ?_
  refine k_istore (lv' := [(6, .int x2), (5, .int (-2)), (4, .int 0), (3, .int t0), (0, .ref (ad 319)), (1, .int a1), (2, .int x2)]) C dX4_costBegun_43 (Nat.le_of_ble_eq_true rfl) rfl ?_
  refine Dk.loc [4, 5, 3, 2, 1, 0] rfl ?_
  exact kb_X4_costBegun_L45_300 C _ _ _ _ _ _
set_option maxRecDepth 20000 in
theorem kb_X4_costBegun_B18_300 {X : GX} {θ : TH} {ad Y : Nat → Nat} {S0 : St} {F : Nat} {Z : Zt} {a1 : Int32} (C : CX (mE X θ (wdC θ ad Y Z S0) 8) RX4 cX4_costBegun (some .int) 4 0 0)  (S : St) (t0 : Int32) : Dk (mE X θ (wdC θ ad Y Z S0) 8) (mT X θ (wdC θ ad Y Z S0) 8 (PIS (wdC θ ad Y Z))) 0 0 (wdC θ ad Y Z S) [(0, .ref (ad 319)), (1, .int a1)] [.int t0] 18 (f_X4_costBegun_B18 F 300 Z a1 S t0) := by
  show Dk _ _ _ _ _ _ _ _ (if (S.1 310) = 0 then f_X4_costBegun_B34 F 300 Z a1 S t0 1 else f_X4_costBegun_B34 F 300 Z a1 S t0 (S.1 309))
  refine k_istore_n (lv' := [(2, .int t0), (0, .ref (ad 319)), (1, .int a1)]) C dX4_costBegun_18 rfl (Nat.le_of_ble_eq_true rfl) rfl ?_
  refine k_aload_n (q := 1) C dX4_costBegun_19 rfl rfl ?_
  refine c_get (b := 300) (ci := 4) (kf := 10) (N := 11) (v := .int (S.1 310)) C rfl ⟨rfl, rfl⟩ am_319 rfl lay_4 kk_4_10 fl_4_37 rfl dX4_costBegun_20 ?_
  refine k_if_ne (tgt := 30) C dX4_costBegun_23 (by decide) (fun _ => ?_) (fun _ => ?_)
  · refine k_aload_n (q := 1) C dX4_costBegun_30 rfl rfl ?_
    refine c_get (b := 300) (ci := 4) (kf := 9) (N := 11) (v := .int (S.1 309)) C rfl ⟨rfl, rfl⟩ am_319 rfl lay_4 kk_4_9 fl_4_34 rfl dX4_costBegun_31 ?_
    refine Dk.loc [1, 2, 0] rfl ?_
    exact kb_X4_costBegun_B34_300 C _ _ _
  · refine k_iconst (v := 1) C dX4_costBegun_26 rfl ?_
    refine k_goto (tgt := 34) C dX4_costBegun_27 (by decide) ?_
    refine Dk.loc [1, 2, 0] rfl ?_
    exact kb_X4_costBegun_B34_300 C _ _ _
set_option maxRecDepth 20000 in
theorem kw_X4_costBegun_300 {X : GX} {θ : TH} {ad Y : Nat → Nat} {F : Nat} {Z : Zt} {S : St} {a1 : Int32} (C : CX (mE X θ (wdC θ ad Y Z S) 8) RX4 cX4_costBegun (some .int) 4 0 0)  : Dk (mE X θ (wdC θ ad Y Z S) 8) (mT X θ (wdC θ ad Y Z S) 8 (PIS (wdC θ ad Y Z))) 0 0 (wdC θ ad Y Z S) [(0, .ref (ad 319)), (1, .int a1)] [] 0 (f_X4_costBegun F 300 Z S a1) := by
  show Dk _ _ _ _ _ _ _ _ (if (S.1 310) = 1 then f_X4_costBegun_B18 F 300 Z a1 S ((S.1 309) - 1) else f_X4_costBegun_B18 F 300 Z a1 S 0)
  refine k_aload_n (q := 0) C dX4_costBegun_0 rfl rfl ?_
  refine c_get (b := 300) (ci := 4) (kf := 10) (N := 11) (v := .int (S.1 310)) C rfl ⟨rfl, rfl⟩ am_319 rfl lay_4 kk_4_10 fl_4_37 rfl dX4_costBegun_1 ?_
  refine k_iconst (v := 1) C dX4_costBegun_4 rfl ?_
  refine k_icmp_ne (tgt := 17) C dX4_costBegun_5 (by decide) (fun _ => ?_) (fun _ => ?_)
  · refine k_iconst (v := 0) C dX4_costBegun_17 rfl ?_
    exact kb_X4_costBegun_B18_300 C _ _
  · refine k_aload_n (q := 0) C dX4_costBegun_8 rfl rfl ?_
    refine c_get (b := 300) (ci := 4) (kf := 9) (N := 11) (v := .int (S.1 309)) C rfl ⟨rfl, rfl⟩ am_319 rfl lay_4 kk_4_9 fl_4_34 rfl dX4_costBegun_9 ?_
    refine k_iconst (v := 1) C dX4_costBegun_12 rfl ?_
    refine k_isub C dX4_costBegun_13 ?_
    refine k_goto (tgt := 18) C dX4_costBegun_14 (by decide) ?_
    exact kb_X4_costBegun_B18_300 C _ _
theorem ct_X4_costBegun_300 {l : Launch} {θ : TH} {ad Y : Nat → Nat} {S : St} {F : Nat} {Z : Zt} {a1 : Int32}  : ∀ r, f_X4_costBegun F 300 Z S a1 = some r → Ct l θ yX4_costBegun cX4_costBegun 8 (some .int) 4 0 0 [.ref (ad 319), .int a1] (wdC θ ad Y Z S) (PIS (wdC θ ad Y Z) r) :=
  fun r hr => Ct.of (by decide +kernel) (Nat.le_of_ble_eq_true rfl) (fun X _ C _ => kw_X4_costBegun_300 C  r hr)
set_option maxRecDepth 20000 in
theorem kb_X2_lawfulDeeds_L5 {X : GX} {θ : TH} {ad : Nat → Nat} {Y0 : Nat → Nat} {S0 : St} {Z0 : Zt} {F : Nat} {a1 : Int32} {a2 : Int32} (C : CX (mE X θ (wdC θ ad Y0 Z0 S0) 5) RX2 cX2_lawfulDeeds (some .int) 5 (nd 80 Z0) (9216 * nd 80 Z0))  : ∀ (n : Nat) (S : St) (Z : Zt) (x3 : Int32) (x4 : Int32) (Y : Nat → Nat) (k1 n1 : Nat) (hb : BD1 k1 n1 Z (nd 80 Z0) (9216 * nd 80 Z0)), Dk (mE X θ (wdC θ ad Y0 Z0 S0) 5) (mTa X θ (wdC θ ad Y0 Z0 S0) 5 (nd 80 Z0) (9216 * nd 80 Z0) (PIA θ ad)) k1 n1 (wdC θ ad Y Z S) [(0, .ref (ad 59)), (1, .int a1), (2, .int a2), (3, .int x3), (4, .int x4)] [] 5 (f_X2_lawfulDeeds_L5 F a1 a2 n S Z x3 x4) := by
  intro n
  induction n with
  | zero => intro S Z x3 x4 Y k1 n1 hb; exact Dk.none
  | succ n ih =>
    intro S Z x3 x4 Y k1 n1 hb
    show Dk _ _ _ _ _ _ _ _ ((f_X1_size Z S).bind fun r1 => (if r1 ≤ x4 then some (x3, S, Z) else (f_X4_open F 80 S Z x4 a1).bind fun r2 => (f_X4_costBegun F 80 r2.2 r2.1 a2).bind fun r6 => (if r6.1 < 0 then f_X2_lawfulDeeds_L5 F a1 a2 n r6.2 r2.2 x3 (x4 + 1) else lti (x3 ||| (1 <<< (x4 &&& 31))) fun y7 => f_X2_lawfulDeeds_L5 F a1 a2 n r6.2 r2.2 y7 (x4 + 1))))
    refine k_iload (q := 4) C dX2_lawfulDeeds_5 rfl ?_
    refine k_aload_n (q := 0) C dX2_lawfulDeeds_7 rfl rfl ?_
    refine c_get (b := 40) (ci := 2) (kf := 1) (N := 4) C rfl ⟨rfl, rfl⟩ am_59 rfl lay_2 kk_2_1 fl_2_15 rfl dX2_lawfulDeeds_8 ?_
    refine k_cVI C ct_X1_size my_1_size ml_2_31 rfl ⟨Nat.le_of_ble_eq_true rfl, Nat.le_of_ble_eq_true rfl⟩ (recvC (b := 20) (ci := 1) rfl ⟨rfl, rfl⟩ am_39 rfl rfl) rfl (Nat.le_of_ble_eq_true rfl) dX2_lawfulDeeds_11 hb.e (fun r1 _ => ?_)
    refine k_icmp_ge (tgt := 51) C dX2_lawfulDeeds_14 (by decide) (fun _ => ?_) (fun _ => ?_)
    · refine k_iload_n (q := 3) C dX2_lawfulDeeds_51 rfl rfl ?_
      exact k_iretA hb.e C ⟨rfl, _, rfl⟩ dX2_lawfulDeeds_52
    · refine k_aload_n (q := 0) C dX2_lawfulDeeds_17 rfl rfl ?_
      refine c_get (b := 40) (ci := 2) (kf := 2) (N := 4) C rfl ⟨rfl, rfl⟩ am_59 rfl lay_2 kk_2_2 fl_2_19 rfl dX2_lawfulDeeds_18 ?_
      refine k_iload (q := 4) C dX2_lawfulDeeds_21 rfl ?_
      refine k_iload_n (q := 1) C dX2_lawfulDeeds_23 rfl rfl ?_
      refine k_cAV C ct_X4_open_80 my_4_open ml_2_37 rfl ⟨Nat.le_of_ble_eq_true rfl, Nat.le_of_ble_eq_true rfl⟩ (recvC (b := 80) (ci := 4) rfl ⟨rfl, rfl⟩ am_99 rfl rfl) rfl (Nat.le_of_ble_eq_true rfl) dX2_lawfulDeeds_24 hb (fun r2 Y3 hr4 => ?_)
      refine k_aload_n (q := 0) C dX2_lawfulDeeds_27 rfl rfl ?_
      refine c_get (b := 40) (ci := 2) (kf := 2) (N := 4) C rfl ⟨rfl, rfl⟩ am_59 rfl lay_2 kk_2_2 fl_2_19 rfl dX2_lawfulDeeds_28 ?_
      refine k_iload_n (q := 2) C dX2_lawfulDeeds_31 rfl rfl ?_
      refine k_cVI C ct_X4_costBegun_80 my_4_costBegun ml_2_41 rfl ⟨Nat.le_of_ble_eq_true rfl, Nat.le_of_ble_eq_true rfl⟩ (recvC (b := 80) (ci := 4) rfl ⟨rfl, rfl⟩ am_99 rfl rfl) rfl (Nat.le_of_ble_eq_true rfl) dX2_lawfulDeeds_32 (BD1.o hb (za_open1 hr4)).e (fun r6 _ => ?_)
      refine k_if_lt (tgt := 45) C dX2_lawfulDeeds_35 (by decide) (fun _ => ?_) (fun _ => ?_)
      · refine k_iinc (q := 4) (v := x4 + 1) (lv' := [(4, .int (x4 + 1)), (0, .ref (ad 59)), (1, .int a1), (2, .int a2), (3, .int x3)]) C dX2_lawfulDeeds_45 rfl rfl (Nat.le_of_ble_eq_true rfl) rfl ?_
        refine k_goto (tgt := 5) C dX2_lawfulDeeds_48 (by decide) ?_
        refine Dk.loc [1, 2, 3, 4, 0] rfl ?_
        exact ih _ _ _ _ _ _ _ (BD1.o hb (za_open1 hr4))
      · refine k_iload_n (q := 3) C dX2_lawfulDeeds_38 rfl rfl ?_
        refine k_iconst (v := 1) C dX2_lawfulDeeds_39 rfl ?_
        refine k_iload (q := 4) C dX2_lawfulDeeds_40 rfl ?_
        refine k_ishl C dX2_lawfulDeeds_42 ?_
        refine k_ior C dX2_lawfulDeeds_43 ?_
        refine k_lti fun y7 => ?_
        refine k_istore_n (lv' := [(3, .int y7), (0, .ref (ad 59)), (1, .int a1), (2, .int a2), (4, .int x4)]) C dX2_lawfulDeeds_44 rfl (Nat.le_of_ble_eq_true rfl) rfl ?_
        refine k_iinc (q := 4) (v := x4 + 1) (lv' := [(4, .int (x4 + 1)), (3, .int y7), (0, .ref (ad 59)), (1, .int a1), (2, .int a2)]) C dX2_lawfulDeeds_45 rfl rfl (Nat.le_of_ble_eq_true rfl) rfl ?_
        refine k_goto (tgt := 5) C dX2_lawfulDeeds_48 (by decide) ?_
        refine Dk.loc [2, 3, 4, 1, 0] rfl ?_
        exact ih _ _ _ _ _ _ _ (BD1.o hb (za_open1 hr4))
set_option maxRecDepth 20000 in
theorem kw_X2_lawfulDeeds {X : GX} {θ : TH} {ad : Nat → Nat} {Y : Nat → Nat} {F : Nat} {S : St} {Z : Zt} {a1 : Int32} {a2 : Int32} (C : CX (mE X θ (wdC θ ad Y Z S) 5) RX2 cX2_lawfulDeeds (some .int) 5 (nd 80 Z) (9216 * nd 80 Z))  : Dk (mE X θ (wdC θ ad Y Z S) 5) (mTa X θ (wdC θ ad Y Z S) 5 (nd 80 Z) (9216 * nd 80 Z) (PIA θ ad)) 0 0 (wdC θ ad Y Z S) [(0, .ref (ad 59)), (1, .int a1), (2, .int a2)] [] 0 (f_X2_lawfulDeeds F S Z a1 a2) := by
  have hb := @BD1.z Z
  show Dk _ _ _ _ _ _ _ _ (f_X2_lawfulDeeds_L5 F a1 a2 F S Z 0 0)
  refine k_iconst (v := 0) C dX2_lawfulDeeds_0 rfl ?_
  refine k_istore_n (lv' := [(3, .int 0), (0, .ref (ad 59)), (1, .int a1), (2, .int a2)]) C dX2_lawfulDeeds_1 rfl (Nat.le_of_ble_eq_true rfl) rfl ?_
  refine k_iconst (v := 0) C dX2_lawfulDeeds_2 rfl ?_
  refine k_istore (lv' := [(4, .int 0), (3, .int 0), (0, .ref (ad 59)), (1, .int a1), (2, .int a2)]) C dX2_lawfulDeeds_3 (Nat.le_of_ble_eq_true rfl) rfl ?_
  refine Dk.loc [2, 3, 4, 1, 0] rfl ?_
  exact kb_X2_lawfulDeeds_L5 C _ _ _ _ _ _ _ _ hb
theorem ct_X2_lawfulDeeds {l : Launch} {θ : TH} {ad Y : Nat → Nat} {S : St} {Z : Zt} {F : Nat} {a1 : Int32} {a2 : Int32}  : ∀ r, f_X2_lawfulDeeds F S Z a1 a2 = some r → Ct l θ yX2_lawfulDeeds cX2_lawfulDeeds 5 (some .int) 5 (nd 80 Z) (9216 * nd 80 Z) [.ref (ad 59), .int a1, .int a2] (wdC θ ad Y Z S) (PIA θ ad r) :=
  fun r hr => Ct.of (by decide +kernel) (Nat.le_of_ble_eq_true rfl) (fun X _ C _ => kw_X2_lawfulDeeds C  r hr)
set_option maxRecDepth 20000 in
theorem kb_X2_lawfulTill_L16 {X : GX} {θ : TH} {ad Y : Nat → Nat} {S0 : St} {F : Nat} {Z : Zt} {a1 : Int32} (C : CX (mE X θ (wdC θ ad Y Z S0) 3) RX2 cX2_lawfulTill (some .int) 5 0 0)  : ∀ (n : Nat) (S : St) (x2 : Int32), Dk (mE X θ (wdC θ ad Y Z S0) 3) (mT X θ (wdC θ ad Y Z S0) 3 (PIS (wdC θ ad Y Z))) 0 0 (wdC θ ad Y Z S) [(0, .ref (ad 59)), (1, .int a1), (2, .int x2)] [] 16 (f_X2_lawfulTill_L16 F Z a1 n S x2) := by
  intro n
  induction n with
  | zero => intro S x2; exact Dk.none
  | succ n ih =>
    intro S x2
    show Dk _ _ _ _ _ _ _ _ (if (2000 : Int32) < x2 then some ((-2 : Int32), S) else (f_X4_costBegun F 80 Z S (a1 + x2)).bind fun r2 => (if (0 : Int32) ≤ r2.1 then f_X2_lawfulTill_L16 F Z a1 n r2.2 (x2 + 1) else some (a1 + x2, r2.2)))
    refine k_iload_n (q := 2) C dX2_lawfulTill_16 rfl rfl ?_
    refine k_sipush (v := 2000) C dX2_lawfulTill_17 rfl ?_
    refine k_icmp_gt (tgt := 46) C dX2_lawfulTill_20 (by decide) (fun _ => ?_) (fun _ => ?_)
    · refine k_bipush (v := (-2)) C dX2_lawfulTill_46 rfl ?_
      exact k_iret C rfl ⟨rfl, rfl⟩ dX2_lawfulTill_48
    · refine k_aload_n (q := 0) C dX2_lawfulTill_23 rfl rfl ?_
      refine c_get (b := 40) (ci := 2) (kf := 2) (N := 4) C rfl ⟨rfl, rfl⟩ am_59 rfl lay_2 kk_2_2 fl_2_19 rfl dX2_lawfulTill_24 ?_
      refine k_iload_n (q := 1) C dX2_lawfulTill_27 rfl rfl ?_
      refine k_iload_n (q := 2) C dX2_lawfulTill_28 rfl rfl ?_
      refine k_iadd C dX2_lawfulTill_29 ?_
      refine k_cVI C ct_X4_costBegun_80 my_4_costBegun ml_2_41 rfl ⟨Nat.le_of_ble_eq_true rfl, Nat.le_of_ble_eq_true rfl⟩ (recvC (b := 80) (ci := 4) rfl ⟨rfl, rfl⟩ am_99 rfl rfl) rfl (Nat.le_of_ble_eq_true rfl) dX2_lawfulTill_30 ⟨Nat.le_refl _, Nat.le_refl _⟩ (fun r2 _ => ?_)
      refine k_if_ge (tgt := 40) C dX2_lawfulTill_33 (by decide) (fun _ => ?_) (fun _ => ?_)
      · refine k_iinc (q := 2) (v := x2 + 1) (lv' := [(2, .int (x2 + 1)), (0, .ref (ad 59)), (1, .int a1)]) C dX2_lawfulTill_40 rfl rfl (Nat.le_of_ble_eq_true rfl) rfl ?_
        refine k_goto (tgt := 16) C dX2_lawfulTill_43 (by decide) ?_
        refine Dk.loc [1, 2, 0] rfl ?_
        exact ih _ _
      · refine k_iload_n (q := 1) C dX2_lawfulTill_36 rfl rfl ?_
        refine k_iload_n (q := 2) C dX2_lawfulTill_37 rfl rfl ?_
        refine k_iadd C dX2_lawfulTill_38 ?_
        exact k_iret C rfl ⟨rfl, rfl⟩ dX2_lawfulTill_39
set_option maxRecDepth 20000 in
theorem kw_X2_lawfulTill {X : GX} {θ : TH} {ad Y : Nat → Nat} {F : Nat} {Z : Zt} {S : St} {a1 : Int32} (C : CX (mE X θ (wdC θ ad Y Z S) 3) RX2 cX2_lawfulTill (some .int) 5 0 0)  : Dk (mE X θ (wdC θ ad Y Z S) 3) (mT X θ (wdC θ ad Y Z S) 3 (PIS (wdC θ ad Y Z))) 0 0 (wdC θ ad Y Z S) [(0, .ref (ad 59)), (1, .int a1)] [] 0 (f_X2_lawfulTill F Z S a1) := by
  show Dk _ _ _ _ _ _ _ _ ((f_X4_costBegun F 80 Z S a1).bind fun r1 => (if (0 : Int32) ≤ r1.1 then f_X2_lawfulTill_L16 F Z a1 F r1.2 1 else some ((-5 : Int32), r1.2)))
  refine k_aload_n (q := 0) C dX2_lawfulTill_0 rfl rfl ?_
  refine c_get (b := 40) (ci := 2) (kf := 2) (N := 4) C rfl ⟨rfl, rfl⟩ am_59 rfl lay_2 kk_2_2 fl_2_19 rfl dX2_lawfulTill_1 ?_
  refine k_iload_n (q := 1) C dX2_lawfulTill_4 rfl rfl ?_
  refine k_cVI C ct_X4_costBegun_80 my_4_costBegun ml_2_41 rfl ⟨Nat.le_of_ble_eq_true rfl, Nat.le_of_ble_eq_true rfl⟩ (recvC (b := 80) (ci := 4) rfl ⟨rfl, rfl⟩ am_99 rfl rfl) rfl (Nat.le_of_ble_eq_true rfl) dX2_lawfulTill_5 ⟨Nat.le_refl _, Nat.le_refl _⟩ (fun r1 _ => ?_)
  refine k_if_ge (tgt := 14) C dX2_lawfulTill_8 (by decide) (fun _ => ?_) (fun _ => ?_)
  · refine k_iconst (v := 1) C dX2_lawfulTill_14 rfl ?_
    refine k_istore_n (lv' := [(2, .int 1), (0, .ref (ad 59)), (1, .int a1)]) C dX2_lawfulTill_15 rfl (Nat.le_of_ble_eq_true rfl) rfl ?_
    refine Dk.loc [1, 2, 0] rfl ?_
    exact kb_X2_lawfulTill_L16 C _ _ _
  · refine k_bipush (v := (-5)) C dX2_lawfulTill_11 rfl ?_
    exact k_iret C rfl ⟨rfl, rfl⟩ dX2_lawfulTill_13
theorem ct_X2_lawfulTill {l : Launch} {θ : TH} {ad Y : Nat → Nat} {S : St} {F : Nat} {Z : Zt} {a1 : Int32}  : ∀ r, f_X2_lawfulTill F Z S a1 = some r → Ct l θ yX2_lawfulTill cX2_lawfulTill 3 (some .int) 5 0 0 [.ref (ad 59), .int a1] (wdC θ ad Y Z S) (PIS (wdC θ ad Y Z) r) :=
  fun r hr => Ct.of (by decide +kernel) (Nat.le_of_ble_eq_true rfl) (fun X _ C _ => kw_X2_lawfulTill C  r hr)
set_option maxRecDepth 20000 in
theorem kb_X2_lawfulFrom_L2 {X : GX} {θ : TH} {ad Y : Nat → Nat} {S0 : St} {F : Nat} {Z : Zt} {a1 : Int32} {a2 : Int32} (C : CX (mE X θ (wdC θ ad Y Z S0) 4) RX2 cX2_lawfulFrom (some .int) 5 0 0)  : ∀ (n : Nat) (S : St) (x3 : Int32), Dk (mE X θ (wdC θ ad Y Z S0) 4) (mT X θ (wdC θ ad Y Z S0) 4 (PIS (wdC θ ad Y Z))) 0 0 (wdC θ ad Y Z S) [(0, .ref (ad 59)), (1, .int a1), (2, .int a2), (3, .int x3)] [] 2 (f_X2_lawfulFrom_L2 F Z a1 a2 n S x3) := by
  intro n
  induction n with
  | zero => intro S x3; exact Dk.none
  | succ n ih =>
    intro S x3
    show Dk _ _ _ _ _ _ _ _ (if a2 ≤ x3 then some ((-2 : Int32), S) else (f_X4_costBegun F 80 Z S (a1 + x3)).bind fun r1 => (if r1.1 < 0 then f_X2_lawfulFrom_L2 F Z a1 a2 n r1.2 (x3 + 1) else some (a1 + x3, r1.2)))
    refine k_iload_n (q := 3) C dX2_lawfulFrom_2 rfl rfl ?_
    refine k_iload_n (q := 2) C dX2_lawfulFrom_3 rfl rfl ?_
    refine k_icmp_ge (tgt := 30) C dX2_lawfulFrom_4 (by decide) (fun _ => ?_) (fun _ => ?_)
    · refine k_bipush (v := (-2)) C dX2_lawfulFrom_30 rfl ?_
      exact k_iret C rfl ⟨rfl, rfl⟩ dX2_lawfulFrom_32
    · refine k_aload_n (q := 0) C dX2_lawfulFrom_7 rfl rfl ?_
      refine c_get (b := 40) (ci := 2) (kf := 2) (N := 4) C rfl ⟨rfl, rfl⟩ am_59 rfl lay_2 kk_2_2 fl_2_19 rfl dX2_lawfulFrom_8 ?_
      refine k_iload_n (q := 1) C dX2_lawfulFrom_11 rfl rfl ?_
      refine k_iload_n (q := 3) C dX2_lawfulFrom_12 rfl rfl ?_
      refine k_iadd C dX2_lawfulFrom_13 ?_
      refine k_cVI C ct_X4_costBegun_80 my_4_costBegun ml_2_41 rfl ⟨Nat.le_of_ble_eq_true rfl, Nat.le_of_ble_eq_true rfl⟩ (recvC (b := 80) (ci := 4) rfl ⟨rfl, rfl⟩ am_99 rfl rfl) rfl (Nat.le_of_ble_eq_true rfl) dX2_lawfulFrom_14 ⟨Nat.le_refl _, Nat.le_refl _⟩ (fun r1 _ => ?_)
      refine k_if_lt (tgt := 24) C dX2_lawfulFrom_17 (by decide) (fun _ => ?_) (fun _ => ?_)
      · refine k_iinc (q := 3) (v := x3 + 1) (lv' := [(3, .int (x3 + 1)), (0, .ref (ad 59)), (1, .int a1), (2, .int a2)]) C dX2_lawfulFrom_24 rfl rfl (Nat.le_of_ble_eq_true rfl) rfl ?_
        refine k_goto (tgt := 2) C dX2_lawfulFrom_27 (by decide) ?_
        refine Dk.loc [1, 2, 3, 0] rfl ?_
        exact ih _ _
      · refine k_iload_n (q := 1) C dX2_lawfulFrom_20 rfl rfl ?_
        refine k_iload_n (q := 3) C dX2_lawfulFrom_21 rfl rfl ?_
        refine k_iadd C dX2_lawfulFrom_22 ?_
        exact k_iret C rfl ⟨rfl, rfl⟩ dX2_lawfulFrom_23
set_option maxRecDepth 20000 in
theorem kw_X2_lawfulFrom {X : GX} {θ : TH} {ad Y : Nat → Nat} {F : Nat} {Z : Zt} {S : St} {a1 : Int32} {a2 : Int32} (C : CX (mE X θ (wdC θ ad Y Z S) 4) RX2 cX2_lawfulFrom (some .int) 5 0 0)  : Dk (mE X θ (wdC θ ad Y Z S) 4) (mT X θ (wdC θ ad Y Z S) 4 (PIS (wdC θ ad Y Z))) 0 0 (wdC θ ad Y Z S) [(0, .ref (ad 59)), (1, .int a1), (2, .int a2)] [] 0 (f_X2_lawfulFrom F Z S a1 a2) := by
  show Dk _ _ _ _ _ _ _ _ (f_X2_lawfulFrom_L2 F Z a1 a2 F S 0)
  refine k_iconst (v := 0) C dX2_lawfulFrom_0 rfl ?_
  refine k_istore_n (lv' := [(3, .int 0), (0, .ref (ad 59)), (1, .int a1), (2, .int a2)]) C dX2_lawfulFrom_1 rfl (Nat.le_of_ble_eq_true rfl) rfl ?_
  refine Dk.loc [1, 2, 3, 0] rfl ?_
  exact kb_X2_lawfulFrom_L2 C _ _ _
theorem ct_X2_lawfulFrom {l : Launch} {θ : TH} {ad Y : Nat → Nat} {S : St} {F : Nat} {Z : Zt} {a1 : Int32} {a2 : Int32}  : ∀ r, f_X2_lawfulFrom F Z S a1 a2 = some r → Ct l θ yX2_lawfulFrom cX2_lawfulFrom 4 (some .int) 5 0 0 [.ref (ad 59), .int a1, .int a2] (wdC θ ad Y Z S) (PIS (wdC θ ad Y Z) r) :=
  fun r hr => Ct.of (by decide +kernel) (Nat.le_of_ble_eq_true rfl) (fun X _ C _ => kw_X2_lawfulFrom C  r hr)
set_option maxRecDepth 20000 in
theorem kb_X2_leastCosts_B45 {X : GX} {θ : TH} {ad Y : Nat → Nat} {S0 : St} {F : Nat} {Z : Zt} {a1 : Int32} {a2 : Int32} {a3 : Int32} {K9 : St → Int32 → Int32 → Int32 → Option (Int32 × St)} (C : CX (mE X θ (wdC θ ad Y Z S0) 8) RX2 cX2_leastCosts (some .int) 5 0 0) (hK9 : ∀ (S : St) (x4 : Int32) (x5 : Int32) (x6 : Int32), Dk (mE X θ (wdC θ ad Y Z S0) 8) (mT X θ (wdC θ ad Y Z S0) 8 (PIS (wdC θ ad Y Z))) 0 0 (wdC θ ad Y Z S) [(0, .ref (ad 59)), (1, .int a1), (2, .int a2), (3, .int a3), (4, .int x4), (5, .int x5), (6, .int x6)] [] 9 (K9 S x4 x5 x6)) (S : St) (x6 : Int32) (x7 : Int32) : Dk (mE X θ (wdC θ ad Y Z S0) 8) (mT X θ (wdC θ ad Y Z S0) 8 (PIS (wdC θ ad Y Z))) 0 0 (wdC θ ad Y Z S) [(0, .ref (ad 59)), (1, .int a1), (2, .int a2), (3, .int a3), (6, .int x6), (7, .int x7)] [] 45 (f_X2_leastCosts_B45 F Z a1 a2 a3 K9 S x6 x7) := by
  show Dk _ _ _ _ _ _ _ _ (K9 S (a1 + x6) x7 (x6 + 1))
  refine k_iload_n (q := 1) C dX2_leastCosts_45 rfl rfl ?_
  refine k_iload (q := 4) C dX2_leastCosts_46 rfl ?_
  refine k_iadd C dX2_leastCosts_48 ?_
  refine k_istore (lv' := [(4, .int (a1 + x6)), (0, .ref (ad 59)), (1, .int a1), (2, .int a2), (3, .int a3), (6, .int x6), (7, .int x7)]) C dX2_leastCosts_49 (Nat.le_of_ble_eq_true rfl) rfl ?_
  refine k_iload (q := 6) C dX2_leastCosts_51 rfl ?_
  refine k_istore (lv' := [(5, .int x7), (4, .int (a1 + x6)), (0, .ref (ad 59)), (1, .int a1), (2, .int a2), (3, .int a3), (6, .int x6), (7, .int x7)]) C dX2_leastCosts_53 (Nat.le_of_ble_eq_true rfl) rfl ?_
  refine k_iinc (q := 6) (v := x6 + 1) (lv' := [(6, .int (x6 + 1)), (5, .int x7), (4, .int (a1 + x6)), (0, .ref (ad 59)), (1, .int a1), (2, .int a2), (3, .int a3), (7, .int x7)]) C dX2_leastCosts_55 rfl rfl (Nat.le_of_ble_eq_true rfl) rfl ?_
  refine k_goto (tgt := 9) C dX2_leastCosts_58 (by decide) ?_
  refine Dk.loc [3, 4, 5, 6, 2, 1, 0] rfl ?_
  exact hK9 _ _ _ _
set_option maxRecDepth 20000 in
theorem kb_X2_leastCosts_L9 {X : GX} {θ : TH} {ad Y : Nat → Nat} {S0 : St} {F : Nat} {Z : Zt} {a1 : Int32} {a2 : Int32} {a3 : Int32} (C : CX (mE X θ (wdC θ ad Y Z S0) 8) RX2 cX2_leastCosts (some .int) 5 0 0)  : ∀ (n : Nat) (S : St) (x4 : Int32) (x5 : Int32) (x6 : Int32), Dk (mE X θ (wdC θ ad Y Z S0) 8) (mT X θ (wdC θ ad Y Z S0) 8 (PIS (wdC θ ad Y Z))) 0 0 (wdC θ ad Y Z S) [(0, .ref (ad 59)), (1, .int a1), (2, .int a2), (3, .int a3), (4, .int x4), (5, .int x5), (6, .int x6)] [] 9 (f_X2_leastCosts_L9 F Z a1 a2 a3 n S x4 x5 x6) := by
  intro n
  induction n with
  | zero => intro S x4 x5 x6; exact Dk.none
  | succ n ih =>
    intro S x4 x5 x6
    show Dk _ _ _ _ _ _ _ _ (if a2 ≤ x6 then if a3 = 0 then some (x4, S) else some (x5, S) else (f_X4_costBegun F 80 Z S (a1 + x6)).bind fun r1 => (if r1.1 < 0 then f_X2_leastCosts_L9 F Z a1 a2 a3 n r1.2 x4 x5 (x6 + 1) else if x5 < 0 then f_X2_leastCosts_B45 F Z a1 a2 a3 (f_X2_leastCosts_L9 F Z a1 a2 a3 n) r1.2 x6 r1.1 else if x5 ≤ r1.1 then f_X2_leastCosts_L9 F Z a1 a2 a3 n r1.2 x4 x5 (x6 + 1) else f_X2_leastCosts_B45 F Z a1 a2 a3 (f_X2_leastCosts_L9 F Z a1 a2 a3 n) r1.2 x6 r1.1))
    refine k_iload (q := 6) C dX2_leastCosts_9 rfl ?_
    refine k_iload_n (q := 2) C dX2_leastCosts_11 rfl rfl ?_
    refine k_icmp_ge (tgt := 61) C dX2_leastCosts_12 (by decide) (fun _ => ?_) (fun _ => ?_)
    · refine k_iload_n (q := 3) C dX2_leastCosts_61 rfl rfl ?_
      refine k_if_ne (tgt := 70) C dX2_leastCosts_62 (by decide) (fun _ => ?_) (fun _ => ?_)
      · refine k_iload (q := 5) C dX2_leastCosts_70 rfl ?_
        exact k_iret C rfl ⟨rfl, rfl⟩ dX2_leastCosts_72
      · refine k_iload (q := 4) C dX2_leastCosts_65 rfl ?_
        refine k_goto (tgt := 72) C dX2_leastCosts_67 (by decide) ?_
        exact k_iret C rfl ⟨rfl, rfl⟩ dX2_leastCosts_72
    · refine k_aload_n (q := 0) C dX2_leastCosts_15 rfl rfl ?_
      refine c_get (b := 40) (ci := 2) (kf := 2) (N := 4) C rfl ⟨rfl, rfl⟩ am_59 rfl lay_2 kk_2_2 fl_2_19 rfl dX2_leastCosts_16 ?_
      refine k_iload_n (q := 1) C dX2_leastCosts_19 rfl rfl ?_
      refine k_iload (q := 6) C dX2_leastCosts_20 rfl ?_
      refine k_iadd C dX2_leastCosts_22 ?_
      refine k_cVI C ct_X4_costBegun_80 my_4_costBegun ml_2_41 rfl ⟨Nat.le_of_ble_eq_true rfl, Nat.le_of_ble_eq_true rfl⟩ (recvC (b := 80) (ci := 4) rfl ⟨rfl, rfl⟩ am_99 rfl rfl) rfl (Nat.le_of_ble_eq_true rfl) dX2_leastCosts_23 ⟨Nat.le_refl _, Nat.le_refl _⟩ (fun r1 _ => ?_)
      refine k_istore (lv' := [(7, .int r1.1), (0, .ref (ad 59)), (1, .int a1), (2, .int a2), (3, .int a3), (4, .int x4), (5, .int x5), (6, .int x6)]) C dX2_leastCosts_26 (Nat.le_of_ble_eq_true rfl) rfl ?_
      refine k_iload (q := 0) C dX2_leastCosts_28 rfl ?_
      refine k_if_lt (tgt := 55) C dX2_leastCosts_30 (by decide) (fun _ => ?_) (fun _ => ?_)
      · refine k_iinc (q := 7) (v := x6 + 1) (lv' := [(6, .int (x6 + 1)), (7, .int r1.1), (0, .ref (ad 59)), (1, .int a1), (2, .int a2), (3, .int a3), (4, .int x4), (5, .int x5)]) C dX2_leastCosts_55 rfl rfl (Nat.le_of_ble_eq_true rfl) rfl ?_
        refine k_goto (tgt := 9) C dX2_leastCosts_58 (by decide) ?_
        refine Dk.loc [2, 3, 4, 5, 6, 7, 0] rfl ?_
        exact ih _ _ _ _
      · refine k_iload (q := 6) C dX2_leastCosts_33 rfl ?_
        refine k_if_lt (tgt := 45) C dX2_leastCosts_35 (by decide) (fun _ => ?_) (fun _ => ?_)
        · refine Dk.loc [1, 2, 3, 4, 7, 0] rfl ?_
          exact kb_X2_leastCosts_B45 C ih _ _ _
        · refine k_iload (q := 0) C dX2_leastCosts_38 rfl ?_
          refine k_iload (q := 6) C dX2_leastCosts_40 rfl ?_
          refine k_icmp_ge (tgt := 55) C dX2_leastCosts_42 (by decide) (fun _ => ?_) (fun _ => ?_)
          · refine k_iinc (q := 7) (v := x6 + 1) (lv' := [(6, .int (x6 + 1)), (7, .int r1.1), (0, .ref (ad 59)), (1, .int a1), (2, .int a2), (3, .int a3), (4, .int x4), (5, .int x5)]) C dX2_leastCosts_55 rfl rfl (Nat.le_of_ble_eq_true rfl) rfl ?_
            refine k_goto (tgt := 9) C dX2_leastCosts_58 (by decide) ?_
            refine Dk.loc [2, 3, 4, 5, 6, 7, 0] rfl ?_
            exact ih _ _ _ _
          · refine Dk.loc [1, 2, 3, 4, 7, 0] rfl ?_
            exact kb_X2_leastCosts_B45 C ih _ _ _
set_option maxRecDepth 20000 in
theorem kw_X2_leastCosts {X : GX} {θ : TH} {ad Y : Nat → Nat} {F : Nat} {Z : Zt} {S : St} {a1 : Int32} {a2 : Int32} {a3 : Int32} (C : CX (mE X θ (wdC θ ad Y Z S) 8) RX2 cX2_leastCosts (some .int) 5 0 0)  : Dk (mE X θ (wdC θ ad Y Z S) 8) (mT X θ (wdC θ ad Y Z S) 8 (PIS (wdC θ ad Y Z))) 0 0 (wdC θ ad Y Z S) [(0, .ref (ad 59)), (1, .int a1), (2, .int a2), (3, .int a3)] [] 0 (f_X2_leastCosts F Z S a1 a2 a3) := by
  show Dk _ _ _ _ _ _ _ _ (f_X2_leastCosts_L9 F Z a1 a2 a3 F S (-1) (-1) 0)
  refine k_iconst (v := (-1)) C dX2_leastCosts_0 rfl ?_
  refine k_istore (lv' := [(4, .int (-1)), (0, .ref (ad 59)), (1, .int a1), (2, .int a2), (3, .int a3)]) C dX2_leastCosts_1 (Nat.le_of_ble_eq_true rfl) rfl ?_
  refine k_iconst (v := (-1)) C dX2_leastCosts_3 rfl ?_
  refine k_istore (lv' := [(5, .int (-1)), (4, .int (-1)), (0, .ref (ad 59)), (1, .int a1), (2, .int a2), (3, .int a3)]) C dX2_leastCosts_4 (Nat.le_of_ble_eq_true rfl) rfl ?_
  refine k_iconst (v := 0) C dX2_leastCosts_6 rfl ?_
  refine k_istore (lv' := [(6, .int 0), (5, .int (-1)), (4, .int (-1)), (0, .ref (ad 59)), (1, .int a1), (2, .int a2), (3, .int a3)]) C dX2_leastCosts_7 (Nat.le_of_ble_eq_true rfl) rfl ?_
  refine Dk.loc [3, 4, 5, 6, 2, 1, 0] rfl ?_
  exact kb_X2_leastCosts_L9 C _ _ _ _ _
theorem ct_X2_leastCosts {l : Launch} {θ : TH} {ad Y : Nat → Nat} {S : St} {F : Nat} {Z : Zt} {a1 : Int32} {a2 : Int32} {a3 : Int32}  : ∀ r, f_X2_leastCosts F Z S a1 a2 a3 = some r → Ct l θ yX2_leastCosts cX2_leastCosts 8 (some .int) 5 0 0 [.ref (ad 59), .int a1, .int a2, .int a3] (wdC θ ad Y Z S) (PIS (wdC θ ad Y Z) r) :=
  fun r hr => Ct.of (by decide +kernel) (Nat.le_of_ble_eq_true rfl) (fun X _ C _ => kw_X2_leastCosts C  r hr)
set_option maxRecDepth 20000 in
theorem kw_X4_costOf_80 {X : GX} {θ : TH} {ad Y : Nat → Nat} {F : Nat} {Z : Zt} {S : St} {a1 : Int32} {a2 : Int32} (C : CX (mE X θ (wdC θ ad Y Z S) 3) RX4 cX4_costOf (some .int) 4 0 0)  : Dk (mE X θ (wdC θ ad Y Z S) 3) (mT X θ (wdC θ ad Y Z S) 3 (PIS (wdC θ ad Y Z))) 0 0 (wdC θ ad Y Z S) [(0, .ref (ad 99)), (1, .int a1), (2, .int a2)] [] 0 (f_X4_costOf F 80 Z S a1 a2) := by
  show Dk _ _ _ _ _ _ _ _ ((f_X4_upAt F 80 Z S a2).bind fun r1 => (f_X4_costUnder F 80 Z r1.2 a1 a2 r1.1).bind fun r2 => some (r2.1, r2.2))
  refine k_aload_n (q := 0) C dX4_costOf_0 rfl rfl ?_
  refine k_iload_n (q := 1) C dX4_costOf_1 rfl rfl ?_
  refine k_iload_n (q := 2) C dX4_costOf_2 rfl rfl ?_
  refine k_aload_n (q := 0) C dX4_costOf_3 rfl rfl ?_
  refine k_iload_n (q := 2) C dX4_costOf_4 rfl rfl ?_
  refine k_cVI C ct_X4_upAt_80 my_4_upAt ml_4_73 rfl ⟨Nat.le_of_ble_eq_true rfl, Nat.le_of_ble_eq_true rfl⟩ (recvC (b := 80) (ci := 4) rfl ⟨rfl, rfl⟩ am_99 rfl rfl) rfl (Nat.le_of_ble_eq_true rfl) dX4_costOf_5 ⟨Nat.le_refl _, Nat.le_refl _⟩ (fun r1 _ => ?_)
  refine k_cVI C ct_X4_costUnder_80 my_4_costUnder ml_4_76 rfl ⟨Nat.le_of_ble_eq_true rfl, Nat.le_of_ble_eq_true rfl⟩ (recvC (b := 80) (ci := 4) rfl ⟨rfl, rfl⟩ am_99 rfl rfl) rfl (Nat.le_of_ble_eq_true rfl) dX4_costOf_8 ⟨Nat.le_refl _, Nat.le_refl _⟩ (fun r2 _ => ?_)
  exact k_iret C rfl ⟨rfl, rfl⟩ dX4_costOf_11
theorem ct_X4_costOf_80 {l : Launch} {θ : TH} {ad Y : Nat → Nat} {S : St} {F : Nat} {Z : Zt} {a1 : Int32} {a2 : Int32}  : ∀ r, f_X4_costOf F 80 Z S a1 a2 = some r → Ct l θ yX4_costOf cX4_costOf 3 (some .int) 4 0 0 [.ref (ad 99), .int a1, .int a2] (wdC θ ad Y Z S) (PIS (wdC θ ad Y Z) r) :=
  fun r hr => Ct.of (by decide +kernel) (Nat.le_of_ble_eq_true rfl) (fun X _ C _ => kw_X4_costOf_80 C  r hr)
set_option maxRecDepth 20000 in
theorem kw_X4_costOf_300 {X : GX} {θ : TH} {ad Y : Nat → Nat} {F : Nat} {Z : Zt} {S : St} {a1 : Int32} {a2 : Int32} (C : CX (mE X θ (wdC θ ad Y Z S) 3) RX4 cX4_costOf (some .int) 4 0 0)  : Dk (mE X θ (wdC θ ad Y Z S) 3) (mT X θ (wdC θ ad Y Z S) 3 (PIS (wdC θ ad Y Z))) 0 0 (wdC θ ad Y Z S) [(0, .ref (ad 319)), (1, .int a1), (2, .int a2)] [] 0 (f_X4_costOf F 300 Z S a1 a2) := by
  show Dk _ _ _ _ _ _ _ _ ((f_X4_upAt F 300 Z S a2).bind fun r1 => (f_X4_costUnder F 300 Z r1.2 a1 a2 r1.1).bind fun r2 => some (r2.1, r2.2))
  refine k_aload_n (q := 0) C dX4_costOf_0 rfl rfl ?_
  refine k_iload_n (q := 1) C dX4_costOf_1 rfl rfl ?_
  refine k_iload_n (q := 2) C dX4_costOf_2 rfl rfl ?_
  refine k_aload_n (q := 0) C dX4_costOf_3 rfl rfl ?_
  refine k_iload_n (q := 2) C dX4_costOf_4 rfl rfl ?_
  refine k_cVI C ct_X4_upAt_300 my_4_upAt ml_4_73 rfl ⟨Nat.le_of_ble_eq_true rfl, Nat.le_of_ble_eq_true rfl⟩ (recvC (b := 300) (ci := 4) rfl ⟨rfl, rfl⟩ am_319 rfl rfl) rfl (Nat.le_of_ble_eq_true rfl) dX4_costOf_5 ⟨Nat.le_refl _, Nat.le_refl _⟩ (fun r1 _ => ?_)
  refine k_cVI C ct_X4_costUnder_300 my_4_costUnder ml_4_76 rfl ⟨Nat.le_of_ble_eq_true rfl, Nat.le_of_ble_eq_true rfl⟩ (recvC (b := 300) (ci := 4) rfl ⟨rfl, rfl⟩ am_319 rfl rfl) rfl (Nat.le_of_ble_eq_true rfl) dX4_costOf_8 ⟨Nat.le_refl _, Nat.le_refl _⟩ (fun r2 _ => ?_)
  exact k_iret C rfl ⟨rfl, rfl⟩ dX4_costOf_11
theorem ct_X4_costOf_300 {l : Launch} {θ : TH} {ad Y : Nat → Nat} {S : St} {F : Nat} {Z : Zt} {a1 : Int32} {a2 : Int32}  : ∀ r, f_X4_costOf F 300 Z S a1 a2 = some r → Ct l θ yX4_costOf cX4_costOf 3 (some .int) 4 0 0 [.ref (ad 319), .int a1, .int a2] (wdC θ ad Y Z S) (PIS (wdC θ ad Y Z) r) :=
  fun r hr => Ct.of (by decide +kernel) (Nat.le_of_ble_eq_true rfl) (fun X _ C _ => kw_X4_costOf_300 C  r hr)
set_option maxRecDepth 20000 in
theorem kb_X2_firstFor_L2 {X : GX} {θ : TH} {ad Y : Nat → Nat} {S0 : St} {F : Nat} {Z : Zt} {a1 : Int32} {a2 : Int32} (C : CX (mE X θ (wdC θ ad Y Z S0) 4) RX2 cX2_firstFor (some .int) 5 0 0)  : ∀ (n : Nat) (S : St) (x3 : Int32), Dk (mE X θ (wdC θ ad Y Z S0) 4) (mT X θ (wdC θ ad Y Z S0) 4 (PIS (wdC θ ad Y Z))) 0 0 (wdC θ ad Y Z S) [(0, .ref (ad 59)), (1, .int a1), (2, .int a2), (3, .int x3)] [] 2 (f_X2_firstFor_L2 F Z a1 a2 n S x3) := by
  intro n
  induction n with
  | zero => intro S x3; exact Dk.none
  | succ n ih =>
    intro S x3
    show Dk _ _ _ _ _ _ _ _ (if (2000 : Int32) ≤ x3 then some ((-2 : Int32), S) else (f_X4_costOf F 80 Z S a1 (a2 + x3)).bind fun r1 => (if r1.1 < 0 then f_X2_firstFor_L2 F Z a1 a2 n r1.2 (x3 + 1) else some (a2 + x3, r1.2)))
    refine k_iload_n (q := 3) C dX2_firstFor_2 rfl rfl ?_
    refine k_sipush (v := 2000) C dX2_firstFor_3 rfl ?_
    refine k_icmp_ge (tgt := 33) C dX2_firstFor_6 (by decide) (fun _ => ?_) (fun _ => ?_)
    · refine k_bipush (v := (-2)) C dX2_firstFor_33 rfl ?_
      exact k_iret C rfl ⟨rfl, rfl⟩ dX2_firstFor_35
    · refine k_aload_n (q := 0) C dX2_firstFor_9 rfl rfl ?_
      refine c_get (b := 40) (ci := 2) (kf := 2) (N := 4) C rfl ⟨rfl, rfl⟩ am_59 rfl lay_2 kk_2_2 fl_2_19 rfl dX2_firstFor_10 ?_
      refine k_iload_n (q := 1) C dX2_firstFor_13 rfl rfl ?_
      refine k_iload_n (q := 2) C dX2_firstFor_14 rfl rfl ?_
      refine k_iload_n (q := 3) C dX2_firstFor_15 rfl rfl ?_
      refine k_iadd C dX2_firstFor_16 ?_
      refine k_cVI C ct_X4_costOf_80 my_4_costOf ml_2_49 rfl ⟨Nat.le_of_ble_eq_true rfl, Nat.le_of_ble_eq_true rfl⟩ (recvC (b := 80) (ci := 4) rfl ⟨rfl, rfl⟩ am_99 rfl rfl) rfl (Nat.le_of_ble_eq_true rfl) dX2_firstFor_17 ⟨Nat.le_refl _, Nat.le_refl _⟩ (fun r1 _ => ?_)
      refine k_if_lt (tgt := 27) C dX2_firstFor_20 (by decide) (fun _ => ?_) (fun _ => ?_)
      · refine k_iinc (q := 3) (v := x3 + 1) (lv' := [(3, .int (x3 + 1)), (0, .ref (ad 59)), (1, .int a1), (2, .int a2)]) C dX2_firstFor_27 rfl rfl (Nat.le_of_ble_eq_true rfl) rfl ?_
        refine k_goto (tgt := 2) C dX2_firstFor_30 (by decide) ?_
        refine Dk.loc [1, 2, 3, 0] rfl ?_
        exact ih _ _
      · refine k_iload_n (q := 2) C dX2_firstFor_23 rfl rfl ?_
        refine k_iload_n (q := 3) C dX2_firstFor_24 rfl rfl ?_
        refine k_iadd C dX2_firstFor_25 ?_
        exact k_iret C rfl ⟨rfl, rfl⟩ dX2_firstFor_26
set_option maxRecDepth 20000 in
theorem kw_X2_firstFor {X : GX} {θ : TH} {ad Y : Nat → Nat} {F : Nat} {Z : Zt} {S : St} {a1 : Int32} {a2 : Int32} (C : CX (mE X θ (wdC θ ad Y Z S) 4) RX2 cX2_firstFor (some .int) 5 0 0)  : Dk (mE X θ (wdC θ ad Y Z S) 4) (mT X θ (wdC θ ad Y Z S) 4 (PIS (wdC θ ad Y Z))) 0 0 (wdC θ ad Y Z S) [(0, .ref (ad 59)), (1, .int a1), (2, .int a2)] [] 0 (f_X2_firstFor F Z S a1 a2) := by
  show Dk _ _ _ _ _ _ _ _ (f_X2_firstFor_L2 F Z a1 a2 F S 0)
  refine k_iconst (v := 0) C dX2_firstFor_0 rfl ?_
  refine k_istore_n (lv' := [(3, .int 0), (0, .ref (ad 59)), (1, .int a1), (2, .int a2)]) C dX2_firstFor_1 rfl (Nat.le_of_ble_eq_true rfl) rfl ?_
  refine Dk.loc [1, 2, 3, 0] rfl ?_
  exact kb_X2_firstFor_L2 C _ _ _
theorem ct_X2_firstFor {l : Launch} {θ : TH} {ad Y : Nat → Nat} {S : St} {F : Nat} {Z : Zt} {a1 : Int32} {a2 : Int32}  : ∀ r, f_X2_firstFor F Z S a1 a2 = some r → Ct l θ yX2_firstFor cX2_firstFor 4 (some .int) 5 0 0 [.ref (ad 59), .int a1, .int a2] (wdC θ ad Y Z S) (PIS (wdC θ ad Y Z) r) :=
  fun r hr => Ct.of (by decide +kernel) (Nat.le_of_ble_eq_true rfl) (fun X _ C _ => kw_X2_firstFor C  r hr)
set_option maxRecDepth 20000 in
theorem kb_X2_doneWithRests_L9 {X : GX} {θ : TH} {ad Y : Nat → Nat} {S0 : St} {F : Nat} {Z : Zt} {a1 : Int32} {a2 : Int32} {a3 : Int32} (C : CX (mE X θ (wdC θ ad Y Z S0) 8) RX2 cX2_doneWithRests (some .int) 6 0 0)  : ∀ (n : Nat) (S : St) (x4 : Int32) (x5 : Int32) (x6 : Int32), Dk (mE X θ (wdC θ ad Y Z S0) 8) (mT X θ (wdC θ ad Y Z S0) 8 (PIS (wdC θ ad Y Z))) 0 0 (wdC θ ad Y Z S) [(0, .ref (ad 59)), (1, .int a1), (2, .int a2), (3, .int a3), (4, .int x4), (5, .int x5), (6, .int x6)] [] 9 (f_X2_doneWithRests_L9 F Z a1 a2 a3 n S x4 x5 x6) := by
  intro n
  induction n with
  | zero => intro S x4 x5 x6; exact Dk.none
  | succ n ih =>
    intro S x4 x5 x6
    show Dk _ _ _ _ _ _ _ _ (if a1 ≤ x6 then if a3 = 0 then some (x4 - 1, S) else if a3 = 1 then some (x5, S) else some ((x4 - a2) - a1, S) else (f_X2_firstFor F Z S x6 x4).bind fun r1 => (if (0 : Int32) ≤ r1.1 then (f_X4_costOf F 80 Z r1.2 x6 r1.1).bind fun r2 => f_X2_doneWithRests_L9 F Z a1 a2 a3 n r2.2 (r1.1 + 1) (x5 + r2.1) (x6 + 1) else some ((-1 : Int32), r1.2)))
    refine k_iload (q := 6) C dX2_doneWithRests_9 rfl ?_
    refine k_iload_n (q := 1) C dX2_doneWithRests_11 rfl rfl ?_
    refine k_icmp_ge (tgt := 60) C dX2_doneWithRests_12 (by decide) (fun _ => ?_) (fun _ => ?_)
    · refine k_iload_n (q := 3) C dX2_doneWithRests_60 rfl rfl ?_
      refine k_case (c := 0) (fun q1 => ?_) (fun q1 => ?_)
      · refine k_lookup (off := 27) (tgt := 88) C dX2_doneWithRests_61 (by decide) (by rw [q1]; rfl) (by decide) ?_
        refine k_iload (q := 4) C dX2_doneWithRests_88 rfl ?_
        refine k_iconst (v := 1) C dX2_doneWithRests_90 rfl ?_
        refine k_isub C dX2_doneWithRests_91 ?_
        exact k_iret C rfl ⟨rfl, rfl⟩ dX2_doneWithRests_92
      refine k_case (c := 1) (fun q2 => ?_) (fun q2 => ?_)
      · refine k_lookup (off := 32) (tgt := 93) C dX2_doneWithRests_61 (by decide) (by rw [q2]; rfl) (by decide) ?_
        refine k_iload (q := 5) C dX2_doneWithRests_93 rfl ?_
        exact k_iret C rfl ⟨rfl, rfl⟩ dX2_doneWithRests_95
      refine k_lookup (off := 35) (tgt := 96) C dX2_doneWithRests_61 (by decide) (by have zq1 := i32ne q1 (z := 0) rfl; have zq2 := i32ne q2 (z := 1) rfl; simp [Op.lookupswitch.offset, Ne.symm zq1, Ne.symm zq2]) (by decide) ?_
      refine k_iload (q := 4) C dX2_doneWithRests_96 rfl ?_
      refine k_iload_n (q := 2) C dX2_doneWithRests_98 rfl rfl ?_
      refine k_isub C dX2_doneWithRests_99 ?_
      refine k_iload_n (q := 1) C dX2_doneWithRests_100 rfl rfl ?_
      refine k_isub C dX2_doneWithRests_101 ?_
      exact k_iret C rfl ⟨rfl, rfl⟩ dX2_doneWithRests_102
    · refine k_aload_n (q := 0) C dX2_doneWithRests_15 rfl rfl ?_
      refine k_iload (q := 6) C dX2_doneWithRests_16 rfl ?_
      refine k_iload (q := 4) C dX2_doneWithRests_18 rfl ?_
      refine k_cVI C ct_X2_firstFor my_2_firstFor ml_2_45 rfl ⟨Nat.le_of_ble_eq_true rfl, Nat.le_of_ble_eq_true rfl⟩ (recvC (b := 40) (ci := 2) rfl ⟨rfl, rfl⟩ am_59 rfl rfl) rfl (Nat.le_of_ble_eq_true rfl) dX2_doneWithRests_20 ⟨Nat.le_refl _, Nat.le_refl _⟩ (fun r1 _ => ?_)
      refine k_istore (lv' := [(7, .int r1.1), (0, .ref (ad 59)), (1, .int a1), (2, .int a2), (3, .int a3), (4, .int x4), (5, .int x5), (6, .int x6)]) C dX2_doneWithRests_23 (Nat.le_of_ble_eq_true rfl) rfl ?_
      refine k_iload (q := 0) C dX2_doneWithRests_25 rfl ?_
      refine k_if_ge (tgt := 32) C dX2_doneWithRests_27 (by decide) (fun _ => ?_) (fun _ => ?_)
      · refine k_iload (q := 6) C dX2_doneWithRests_32 rfl ?_
        refine k_aload_n (q := 1) C dX2_doneWithRests_34 rfl rfl ?_
        refine c_get (b := 40) (ci := 2) (kf := 2) (N := 4) C rfl ⟨rfl, rfl⟩ am_59 rfl lay_2 kk_2_2 fl_2_19 rfl dX2_doneWithRests_35 ?_
        refine k_iload (q := 7) C dX2_doneWithRests_38 rfl ?_
        refine k_iload (q := 0) C dX2_doneWithRests_40 rfl ?_
        refine k_cVI C ct_X4_costOf_80 my_4_costOf ml_2_49 rfl ⟨Nat.le_of_ble_eq_true rfl, Nat.le_of_ble_eq_true rfl⟩ (recvC (b := 80) (ci := 4) rfl ⟨rfl, rfl⟩ am_99 rfl rfl) rfl (Nat.le_of_ble_eq_true rfl) dX2_doneWithRests_42 ⟨Nat.le_refl _, Nat.le_refl _⟩ (fun r2 _ => ?_)
        refine k_iadd C dX2_doneWithRests_45 ?_
        refine k_istore (lv' := [(5, .int (x5 + r2.1)), (7, .int r1.1), (0, .ref (ad 59)), (1, .int a1), (2, .int a2), (3, .int a3), (4, .int x4), (6, .int x6)]) C dX2_doneWithRests_46 (Nat.le_of_ble_eq_true rfl) rfl ?_
        refine k_iload (q := 1) C dX2_doneWithRests_48 rfl ?_
        refine k_iconst (v := 1) C dX2_doneWithRests_50 rfl ?_
        refine k_iadd C dX2_doneWithRests_51 ?_
        refine k_istore (lv' := [(4, .int (r1.1 + 1)), (5, .int (x5 + r2.1)), (7, .int r1.1), (0, .ref (ad 59)), (1, .int a1), (2, .int a2), (3, .int a3), (6, .int x6)]) C dX2_doneWithRests_52 (Nat.le_of_ble_eq_true rfl) rfl ?_
        refine k_iinc (q := 7) (v := x6 + 1) (lv' := [(6, .int (x6 + 1)), (4, .int (r1.1 + 1)), (5, .int (x5 + r2.1)), (7, .int r1.1), (0, .ref (ad 59)), (1, .int a1), (2, .int a2), (3, .int a3)]) C dX2_doneWithRests_54 rfl rfl (Nat.le_of_ble_eq_true rfl) rfl ?_
        refine k_goto (tgt := 9) C dX2_doneWithRests_57 (by decide) ?_
        refine Dk.loc [4, 5, 6, 7, 1, 2, 0] rfl ?_
        exact ih _ _ _ _
      · refine k_iconst (v := (-1)) C dX2_doneWithRests_30 rfl ?_
        exact k_iret C rfl ⟨rfl, rfl⟩ dX2_doneWithRests_31
set_option maxRecDepth 20000 in
theorem kw_X2_doneWithRests {X : GX} {θ : TH} {ad Y : Nat → Nat} {F : Nat} {Z : Zt} {S : St} {a1 : Int32} {a2 : Int32} {a3 : Int32} (C : CX (mE X θ (wdC θ ad Y Z S) 8) RX2 cX2_doneWithRests (some .int) 6 0 0)  : Dk (mE X θ (wdC θ ad Y Z S) 8) (mT X θ (wdC θ ad Y Z S) 8 (PIS (wdC θ ad Y Z))) 0 0 (wdC θ ad Y Z S) [(0, .ref (ad 59)), (1, .int a1), (2, .int a2), (3, .int a3)] [] 0 (f_X2_doneWithRests F Z S a1 a2 a3) := by
  show Dk _ _ _ _ _ _ _ _ (f_X2_doneWithRests_L9 F Z a1 a2 a3 F S a2 0 0)
  refine k_iload_n (q := 2) C dX2_doneWithRests_0 rfl rfl ?_
  refine k_istore (lv' := [(4, .int a2), (0, .ref (ad 59)), (1, .int a1), (2, .int a2), (3, .int a3)]) C dX2_doneWithRests_1 (Nat.le_of_ble_eq_true rfl) rfl ?_
  refine k_iconst (v := 0) C dX2_doneWithRests_3 rfl ?_
  refine k_istore (lv' := [(5, .int 0), (4, .int a2), (0, .ref (ad 59)), (1, .int a1), (2, .int a2), (3, .int a3)]) C dX2_doneWithRests_4 (Nat.le_of_ble_eq_true rfl) rfl ?_
  refine k_iconst (v := 0) C dX2_doneWithRests_6 rfl ?_
  refine k_istore (lv' := [(6, .int 0), (5, .int 0), (4, .int a2), (0, .ref (ad 59)), (1, .int a1), (2, .int a2), (3, .int a3)]) C dX2_doneWithRests_7 (Nat.le_of_ble_eq_true rfl) rfl ?_
  refine Dk.loc [3, 4, 5, 6, 2, 1, 0] rfl ?_
  exact kb_X2_doneWithRests_L9 C _ _ _ _ _
theorem ct_X2_doneWithRests {l : Launch} {θ : TH} {ad Y : Nat → Nat} {S : St} {F : Nat} {Z : Zt} {a1 : Int32} {a2 : Int32} {a3 : Int32}  : ∀ r, f_X2_doneWithRests F Z S a1 a2 a3 = some r → Ct l θ yX2_doneWithRests cX2_doneWithRests 8 (some .int) 6 0 0 [.ref (ad 59), .int a1, .int a2, .int a3] (wdC θ ad Y Z S) (PIS (wdC θ ad Y Z) r) :=
  fun r hr => Ct.of (by decide +kernel) (Nat.le_of_ble_eq_true rfl) (fun X _ C _ => kw_X2_doneWithRests C  r hr)
set_option maxRecDepth 20000 in
theorem kw_X7_valleyCount {X : GX} {θ : TH} {ad Y : Nat → Nat} {Z : Zt} {S : St}  (C : CX (mE X θ (wdC θ ad Y Z S) 1) RX7 cX7_valleyCount (some .int) 0 0 0)  : Dk (mE X θ (wdC θ ad Y Z S) 1) (mT X θ (wdC θ ad Y Z S) 1 (PI (wdC θ ad Y Z S))) 0 0 (wdC θ ad Y Z S) [(0, .ref (ad 159))] [] 0 (f_X7_valleyCount Z S) := by
  show Dk _ _ _ _ _ _ _ _ (some (S.1 149))
  refine k_aload_n (q := 0) C dX7_valleyCount_0 rfl rfl ?_
  refine c_get (b := 140) (ci := 7) (kf := 9) (N := 10) (v := .int (S.1 149)) C rfl ⟨rfl, rfl⟩ am_159 rfl lay_7 kk_7_9 fl_7_43 rfl dX7_valleyCount_1 ?_
  exact k_iret C rfl ⟨rfl, rfl⟩ dX7_valleyCount_4
theorem ct_X7_valleyCount {l : Launch} {θ : TH} {ad Y : Nat → Nat} {S : St} {Z : Zt}   : ∀ r, f_X7_valleyCount Z S = some r → Ct l θ yX7_valleyCount cX7_valleyCount 1 (some .int) 0 0 0 [.ref (ad 159)] (wdC θ ad Y Z S) (PI (wdC θ ad Y Z S) r) :=
  fun r hr => Ct.of (by decide +kernel) (Nat.le_of_ble_eq_true rfl) (fun X _ C _ => kw_X7_valleyCount C  r hr)
set_option maxRecDepth 20000 in
theorem kb_X7_measureRoads_L39 {X : GX} {θ : TH} {ad Y : Nat → Nat} {S0 : St} {F : Nat} {Z : Zt} {K32 : St → Int32 → Option (St)} (C : CX (mE X θ (wdC θ ad Y Z S0) 5) RX7 cX7_measureRoads none 0 0 0) (hK32 : ∀ (S : St) (x2 : Int32), Dk (mE X θ (wdC θ ad Y Z S0) 5) (mT X θ (wdC θ ad Y Z S0) 5 (PVS (wdC θ ad Y Z))) 0 0 (wdC θ ad Y Z S) [(0, .ref (ad 159)), (2, .int x2)] [] 32 (K32 S x2)) : ∀ (n : Nat) (S : St) (x2 : Int32) (x3 : Int32), Dk (mE X θ (wdC θ ad Y Z S0) 5) (mT X θ (wdC θ ad Y Z S0) 5 (PVS (wdC θ ad Y Z))) 0 0 (wdC θ ad Y Z S) [(0, .ref (ad 159)), (2, .int x2), (3, .int x3)] [] 39 (f_X7_measureRoads_L39 F Z K32 n S x2 x3) := by
  intro n
  induction n with
  | zero => intro S x2 x3; exact Dk.none
  | succ n ih =>
    intro S x2 x3
    show Dk _ _ _ _ _ _ _ _ (if (25 : Int32) ≤ x3 then K32 S (x2 + 1) else chk (inr (x3 / 5) 5) (chk (inr x3 25) (lti ((S.2.1 147 (x3 / 5).toNatClampNeg) + (S.2.1 146 (x3).toNatClampNeg)) fun y1 => chk (inr x3 25) ((if (S.2.1 146 (x3).toNatClampNeg) ≤ 0 then f_X7_measureRoads_L39 F Z K32 n S x2 (x3 + 1) else chk (inr (jrem x3 5) 5) ((if (S.2.1 147 (jrem x3 5).toNatClampNeg) ≤ y1 then f_X7_measureRoads_L39 F Z K32 n S x2 (x3 + 1) else chk (inr (jrem x3 5) 5) (f_X7_measureRoads_L39 F Z K32 n (sa S 147 (jrem x3 5).toNatClampNeg y1) x2 (x3 + 1)))))))))
    refine k_iload_n (q := 2) C dX7_measureRoads_39 rfl rfl ?_
    refine k_bipush (v := 25) C dX7_measureRoads_40 rfl ?_
    refine k_icmp_ge (tgt := 100) C dX7_measureRoads_42 (by decide) (fun _ => ?_) (fun _ => ?_)
    · refine k_iinc (q := 1) (v := x2 + 1) (lv' := [(2, .int (x2 + 1)), (0, .ref (ad 159)), (3, .int x3)]) C dX7_measureRoads_100 rfl rfl (Nat.le_of_ble_eq_true rfl) rfl ?_
      refine k_goto (tgt := 32) C dX7_measureRoads_103 (by decide) ?_
      refine Dk.loc [1, 0] rfl ?_
      exact hK32 _ _
    · refine k_aload_n (q := 0) C dX7_measureRoads_45 rfl rfl ?_
      refine c_get (b := 140) (ci := 7) (kf := 7) (N := 10) C rfl ⟨rfl, rfl⟩ am_159 rfl lay_7 kk_7_7 fl_7_36 rfl dX7_measureRoads_46 ?_
      refine k_iload_n (q := 2) C dX7_measureRoads_49 rfl rfl ?_
      refine k_iconst (v := 5) C dX7_measureRoads_50 rfl ?_
      refine k_idiv C dX7_measureRoads_51 (by decide) ?_
      refine c_iald (i := 147) (v := S.2.1 147 (x3 / 5).toNatClampNeg) C rfl am_147 ak_147 rfl rfl dX7_measureRoads_52 ?_
      refine k_aload_n (q := 0) C dX7_measureRoads_53 rfl rfl ?_
      refine c_get (b := 140) (ci := 7) (kf := 6) (N := 10) C rfl ⟨rfl, rfl⟩ am_159 rfl lay_7 kk_7_6 fl_7_33 rfl dX7_measureRoads_54 ?_
      refine k_iload_n (q := 2) C dX7_measureRoads_57 rfl rfl ?_
      refine c_iald (i := 146) (v := S.2.1 146 (x3).toNatClampNeg) C rfl am_146 ak_146 rfl rfl dX7_measureRoads_58 ?_
      refine k_iadd C dX7_measureRoads_59 ?_
      refine k_lti fun y1 => ?_
      refine k_istore (lv' := [(4, .int y1), (0, .ref (ad 159)), (2, .int x2), (3, .int x3)]) C dX7_measureRoads_60 (Nat.le_of_ble_eq_true rfl) rfl ?_
      refine k_aload_n (q := 1) C dX7_measureRoads_62 rfl rfl ?_
      refine c_get (b := 140) (ci := 7) (kf := 6) (N := 10) C rfl ⟨rfl, rfl⟩ am_159 rfl lay_7 kk_7_6 fl_7_33 rfl dX7_measureRoads_63 ?_
      refine k_iload_n (q := 3) C dX7_measureRoads_66 rfl rfl ?_
      refine c_iald (i := 146) (v := S.2.1 146 (x3).toNatClampNeg) C rfl am_146 ak_146 rfl rfl dX7_measureRoads_67 ?_
      refine k_if_le (tgt := 94) C dX7_measureRoads_68 (by decide) (fun _ => ?_) (fun _ => ?_)
      · refine k_iinc (q := 3) (v := x3 + 1) (lv' := [(3, .int (x3 + 1)), (4, .int y1), (0, .ref (ad 159)), (2, .int x2)]) C dX7_measureRoads_94 rfl rfl (Nat.le_of_ble_eq_true rfl) rfl ?_
        refine k_goto (tgt := 39) C dX7_measureRoads_97 (by decide) ?_
        refine Dk.loc [2, 3, 0] rfl ?_
        exact ih _ _ _
      · refine k_iload (q := 0) C dX7_measureRoads_71 rfl ?_
        refine k_aload_n (q := 1) C dX7_measureRoads_73 rfl rfl ?_
        refine c_get (b := 140) (ci := 7) (kf := 7) (N := 10) C rfl ⟨rfl, rfl⟩ am_159 rfl lay_7 kk_7_7 fl_7_36 rfl dX7_measureRoads_74 ?_
        refine k_iload_n (q := 3) C dX7_measureRoads_77 rfl rfl ?_
        refine k_iconst (v := 5) C dX7_measureRoads_78 rfl ?_
        refine k_irem C dX7_measureRoads_79 (by decide) ?_
        refine c_iald (i := 147) (v := S.2.1 147 (jrem x3 5).toNatClampNeg) C rfl am_147 ak_147 rfl rfl dX7_measureRoads_80 ?_
        refine k_icmp_ge (tgt := 94) C dX7_measureRoads_81 (by decide) (fun _ => ?_) (fun _ => ?_)
        · refine k_iinc (q := 3) (v := x3 + 1) (lv' := [(3, .int (x3 + 1)), (4, .int y1), (0, .ref (ad 159)), (2, .int x2)]) C dX7_measureRoads_94 rfl rfl (Nat.le_of_ble_eq_true rfl) rfl ?_
          refine k_goto (tgt := 39) C dX7_measureRoads_97 (by decide) ?_
          refine Dk.loc [2, 3, 0] rfl ?_
          exact ih _ _ _
        · refine k_aload_n (q := 1) C dX7_measureRoads_84 rfl rfl ?_
          refine c_get (b := 140) (ci := 7) (kf := 7) (N := 10) C rfl ⟨rfl, rfl⟩ am_159 rfl lay_7 kk_7_7 fl_7_36 rfl dX7_measureRoads_85 ?_
          refine k_iload_n (q := 3) C dX7_measureRoads_88 rfl rfl ?_
          refine k_iconst (v := 5) C dX7_measureRoads_89 rfl ?_
          refine k_irem C dX7_measureRoads_90 (by decide) ?_
          refine k_iload (q := 0) C dX7_measureRoads_91 rfl ?_
          refine c_iast (i := 147) C rfl am_147 ak_147 rfl dX7_measureRoads_93 ?_
          refine k_iinc (q := 3) (v := x3 + 1) (lv' := [(3, .int (x3 + 1)), (4, .int y1), (0, .ref (ad 159)), (2, .int x2)]) C dX7_measureRoads_94 rfl rfl (Nat.le_of_ble_eq_true rfl) rfl ?_
          refine k_goto (tgt := 39) C dX7_measureRoads_97 (by decide) ?_
          refine Dk.loc [2, 3, 0] rfl ?_
          exact ih _ _ _
set_option maxRecDepth 20000 in
theorem kb_X7_measureRoads_L32 {X : GX} {θ : TH} {ad Y : Nat → Nat} {S0 : St} {F : Nat} {Z : Zt} (C : CX (mE X θ (wdC θ ad Y Z S0) 5) RX7 cX7_measureRoads none 0 0 0)  : ∀ (n : Nat) (S : St) (x2 : Int32), Dk (mE X θ (wdC θ ad Y Z S0) 5) (mT X θ (wdC θ ad Y Z S0) 5 (PVS (wdC θ ad Y Z))) 0 0 (wdC θ ad Y Z S) [(0, .ref (ad 159)), (2, .int x2)] [] 32 (f_X7_measureRoads_L32 F Z n S x2) := by
  intro n
  induction n with
  | zero => intro S x2; exact Dk.none
  | succ n ih =>
    intro S x2
    show Dk _ _ _ _ _ _ _ _ (if (5 : Int32) ≤ x2 then some S else f_X7_measureRoads_L39 F Z (f_X7_measureRoads_L32 F Z n) F S x2 0)
    refine k_iload_n (q := 1) C dX7_measureRoads_32 rfl rfl ?_
    refine k_iconst (v := 5) C dX7_measureRoads_33 rfl ?_
    refine k_icmp_ge (tgt := 106) C dX7_measureRoads_34 (by decide) (fun _ => ?_) (fun _ => ?_)
    · exact k_vret C ⟨rfl, rfl⟩ dX7_measureRoads_106
    · refine k_iconst (v := 0) C dX7_measureRoads_37 rfl ?_
      refine k_istore_n (lv' := [(3, .int 0), (0, .ref (ad 159)), (2, .int x2)]) C dX7_measureRoads_38 rfl (Nat.le_of_ble_eq_true rfl) rfl ?_
      refine Dk.loc [1, 2, 0] rfl ?_
      exact kb_X7_measureRoads_L39 C ih _ _ _ _
set_option maxRecDepth 20000 in
theorem kb_X7_measureRoads_L2 {X : GX} {θ : TH} {ad Y : Nat → Nat} {S0 : St} {F : Nat} {Z : Zt} {a1 : Int32} (C : CX (mE X θ (wdC θ ad Y Z S0) 5) RX7 cX7_measureRoads none 0 0 0)  : ∀ (n : Nat) (S : St) (x2 : Int32), Dk (mE X θ (wdC θ ad Y Z S0) 5) (mT X θ (wdC θ ad Y Z S0) 5 (PVS (wdC θ ad Y Z))) 0 0 (wdC θ ad Y Z S) [(0, .ref (ad 159)), (1, .int a1), (2, .int x2)] [] 2 (f_X7_measureRoads_L2 F Z a1 n S x2) := by
  intro n
  induction n with
  | zero => intro S x2; exact Dk.none
  | succ n ih =>
    intro S x2
    show Dk _ _ _ _ _ _ _ _ (if (5 : Int32) ≤ x2 then f_X7_measureRoads_L32 F Z F S 1 else if x2 = a1 then chk (inr x2 5) (f_X7_measureRoads_L2 F Z a1 n (sa S 147 (x2).toNatClampNeg 0) (x2 + 1)) else chk (inr x2 5) (f_X7_measureRoads_L2 F Z a1 n (sa S 147 (x2).toNatClampNeg 1000000) (x2 + 1)))
    refine k_iload_n (q := 2) C dX7_measureRoads_2 rfl rfl ?_
    refine k_iconst (v := 5) C dX7_measureRoads_3 rfl ?_
    refine k_icmp_ge (tgt := 30) C dX7_measureRoads_4 (by decide) (fun _ => ?_) (fun _ => ?_)
    · refine k_iconst (v := 1) C dX7_measureRoads_30 rfl ?_
      refine k_istore_n (lv' := [(2, .int 1), (0, .ref (ad 159)), (1, .int a1)]) C dX7_measureRoads_31 rfl (Nat.le_of_ble_eq_true rfl) rfl ?_
      refine Dk.loc [1, 0] rfl ?_
      exact kb_X7_measureRoads_L32 C _ _ _
    · refine k_aload_n (q := 0) C dX7_measureRoads_7 rfl rfl ?_
      refine c_get (b := 140) (ci := 7) (kf := 7) (N := 10) C rfl ⟨rfl, rfl⟩ am_159 rfl lay_7 kk_7_7 fl_7_36 rfl dX7_measureRoads_8 ?_
      refine k_iload_n (q := 2) C dX7_measureRoads_11 rfl rfl ?_
      refine k_iload_n (q := 2) C dX7_measureRoads_12 rfl rfl ?_
      refine k_iload_n (q := 1) C dX7_measureRoads_13 rfl rfl ?_
      refine k_icmp_ne (tgt := 21) C dX7_measureRoads_14 (by decide) (fun _ => ?_) (fun _ => ?_)
      · refine k_ldc C co_7_75 dX7_measureRoads_21 ?_
        refine c_iast (i := 147) C rfl am_147 ak_147 rfl dX7_measureRoads_23 ?_
        refine k_iinc (q := 2) (v := x2 + 1) (lv' := [(2, .int (x2 + 1)), (0, .ref (ad 159)), (1, .int a1)]) C dX7_measureRoads_24 rfl rfl (Nat.le_of_ble_eq_true rfl) rfl ?_
        refine k_goto (tgt := 2) C dX7_measureRoads_27 (by decide) ?_
        refine Dk.loc [1, 2, 0] rfl ?_
        exact ih _ _
      · refine k_iconst (v := 0) C dX7_measureRoads_17 rfl ?_
        refine k_goto (tgt := 23) C dX7_measureRoads_18 (by decide) ?_
        refine c_iast (i := 147) C rfl am_147 ak_147 rfl dX7_measureRoads_23 ?_
        refine k_iinc (q := 2) (v := x2 + 1) (lv' := [(2, .int (x2 + 1)), (0, .ref (ad 159)), (1, .int a1)]) C dX7_measureRoads_24 rfl rfl (Nat.le_of_ble_eq_true rfl) rfl ?_
        refine k_goto (tgt := 2) C dX7_measureRoads_27 (by decide) ?_
        refine Dk.loc [1, 2, 0] rfl ?_
        exact ih _ _
set_option maxRecDepth 20000 in
theorem kw_X7_measureRoads {X : GX} {θ : TH} {ad Y : Nat → Nat} {F : Nat} {Z : Zt} {S : St} {a1 : Int32} (C : CX (mE X θ (wdC θ ad Y Z S) 5) RX7 cX7_measureRoads none 0 0 0)  : Dk (mE X θ (wdC θ ad Y Z S) 5) (mT X θ (wdC θ ad Y Z S) 5 (PVS (wdC θ ad Y Z))) 0 0 (wdC θ ad Y Z S) [(0, .ref (ad 159)), (1, .int a1)] [] 0 (f_X7_measureRoads F Z S a1) := by
  show Dk _ _ _ _ _ _ _ _ (f_X7_measureRoads_L2 F Z a1 F S 0)
  refine k_iconst (v := 0) C dX7_measureRoads_0 rfl ?_
  refine k_istore_n (lv' := [(2, .int 0), (0, .ref (ad 159)), (1, .int a1)]) C dX7_measureRoads_1 rfl (Nat.le_of_ble_eq_true rfl) rfl ?_
  refine Dk.loc [1, 2, 0] rfl ?_
  exact kb_X7_measureRoads_L2 C _ _ _
theorem ct_X7_measureRoads {l : Launch} {θ : TH} {ad Y : Nat → Nat} {S : St} {F : Nat} {Z : Zt} {a1 : Int32}  : ∀ r, f_X7_measureRoads F Z S a1 = some r → Ct l θ yX7_measureRoads cX7_measureRoads 5 none 0 0 0 [.ref (ad 159), .int a1] (wdC θ ad Y Z S) (PVS (wdC θ ad Y Z) r) :=
  fun r hr => Ct.of (by decide +kernel) (Nat.le_of_ble_eq_true rfl) (fun X _ C _ => kw_X7_measureRoads C  r hr)
set_option maxRecDepth 20000 in
theorem kw_X7_roadTo {X : GX} {θ : TH} {ad Y : Nat → Nat} {Z : Zt} {S : St} {a1 : Int32} (C : CX (mE X θ (wdC θ ad Y Z S) 2) RX7 cX7_roadTo (some .int) 1 0 0)  : Dk (mE X θ (wdC θ ad Y Z S) 2) (mT X θ (wdC θ ad Y Z S) 2 (PI (wdC θ ad Y Z S))) 0 0 (wdC θ ad Y Z S) [(0, .ref (ad 159)), (1, .int a1)] [] 0 (f_X7_roadTo Z S a1) := by
  show Dk _ _ _ _ _ _ _ _ ((f_X7_hasValley Z S a1).bind fun r1 => (if r1 = 0 then some ((-2 : Int32)) else chk (inr a1 5) ((if (1000000 : Int32) ≤ (S.2.1 147 (a1).toNatClampNeg) then some ((-2 : Int32)) else chk (inr a1 5) (some (S.2.1 147 (a1).toNatClampNeg))))))
  refine k_aload_n (q := 0) C dX7_roadTo_0 rfl rfl ?_
  refine k_iload_n (q := 1) C dX7_roadTo_1 rfl rfl ?_
  refine k_cVI C ct_X7_hasValley my_7_hasValley ml_7_46 rfl ⟨Nat.le_of_ble_eq_true rfl, Nat.le_of_ble_eq_true rfl⟩ (recvC (b := 140) (ci := 7) rfl ⟨rfl, rfl⟩ am_159 rfl rfl) rfl (Nat.le_of_ble_eq_true rfl) dX7_roadTo_2 ⟨Nat.le_refl _, Nat.le_refl _⟩ (fun r1 _ => ?_)
  refine k_if_eq (tgt := 28) C dX7_roadTo_5 (by decide) (fun _ => ?_) (fun _ => ?_)
  · refine k_bipush (v := (-2)) C dX7_roadTo_28 rfl ?_
    exact k_iret C rfl ⟨rfl, rfl⟩ dX7_roadTo_30
  · refine k_aload_n (q := 0) C dX7_roadTo_8 rfl rfl ?_
    refine c_get (b := 140) (ci := 7) (kf := 7) (N := 10) C rfl ⟨rfl, rfl⟩ am_159 rfl lay_7 kk_7_7 fl_7_36 rfl dX7_roadTo_9 ?_
    refine k_iload_n (q := 1) C dX7_roadTo_12 rfl rfl ?_
    refine c_iald (i := 147) (v := S.2.1 147 (a1).toNatClampNeg) C rfl am_147 ak_147 rfl rfl dX7_roadTo_13 ?_
    refine k_ldc C co_7_75 dX7_roadTo_14 ?_
    refine k_icmp_ge (tgt := 28) C dX7_roadTo_16 (by decide) (fun _ => ?_) (fun _ => ?_)
    · refine k_bipush (v := (-2)) C dX7_roadTo_28 rfl ?_
      exact k_iret C rfl ⟨rfl, rfl⟩ dX7_roadTo_30
    · refine k_aload_n (q := 0) C dX7_roadTo_19 rfl rfl ?_
      refine c_get (b := 140) (ci := 7) (kf := 7) (N := 10) C rfl ⟨rfl, rfl⟩ am_159 rfl lay_7 kk_7_7 fl_7_36 rfl dX7_roadTo_20 ?_
      refine k_iload_n (q := 1) C dX7_roadTo_23 rfl rfl ?_
      refine c_iald (i := 147) (v := S.2.1 147 (a1).toNatClampNeg) C rfl am_147 ak_147 rfl rfl dX7_roadTo_24 ?_
      refine k_goto (tgt := 30) C dX7_roadTo_25 (by decide) ?_
      exact k_iret C rfl ⟨rfl, rfl⟩ dX7_roadTo_30
theorem ct_X7_roadTo {l : Launch} {θ : TH} {ad Y : Nat → Nat} {S : St} {Z : Zt} {a1 : Int32}  : ∀ r, f_X7_roadTo Z S a1 = some r → Ct l θ yX7_roadTo cX7_roadTo 2 (some .int) 1 0 0 [.ref (ad 159), .int a1] (wdC θ ad Y Z S) (PI (wdC θ ad Y Z S) r) :=
  fun r hr => Ct.of (by decide +kernel) (Nat.le_of_ble_eq_true rfl) (fun X _ C _ => kw_X7_roadTo C  r hr)
set_option maxRecDepth 20000 in
theorem kb_X2_soonestByWays_L19 {X : GX} {θ : TH} {ad : Nat → Nat} {Y0 : Nat → Nat} {S0 : St} {Z0 : Zt} {F : Nat} {a1 : Int32} {a3 : Int32} {a4 : Int32} (C : CX (mE X θ (wdC θ ad Y0 Z0 S0) 10) RX2 cX2_soonestByWays (some .int) 6 (nd 80 Z0) (9216 * nd 80 Z0))  : ∀ (n : Nat) (S : St) (Z : Zt) (x5 : Int32) (x6 : Int32) (x7 : Int32) (Y : Nat → Nat) (k1 n1 : Nat) (hb : BD1 k1 n1 Z (nd 80 Z0) (9216 * nd 80 Z0)), Dk (mE X θ (wdC θ ad Y0 Z0 S0) 10) (mTa X θ (wdC θ ad Y0 Z0 S0) 10 (nd 80 Z0) (9216 * nd 80 Z0) (PIA θ ad)) k1 n1 (wdC θ ad Y Z S) [(0, .ref (ad 59)), (1, .int a1), (3, .int a3), (4, .int a4), (5, .int x5), (6, .int x6), (7, .int x7)] [] 19 (f_X2_soonestByWays_L19 F a1 a3 a4 n S Z x5 x6 x7) := by
  intro n
  induction n with
  | zero => intro S Z x5 x6 x7 Y k1 n1 hb; exact Dk.none
  | succ n ih =>
    intro S Z x5 x6 x7 Y k1 n1 hb
    show Dk _ _ _ _ _ _ _ _ ((f_X7_valleyCount Z S).bind fun r2 => (if r2 ≤ x7 then if a4 = 0 then some (x5, S, Z) else if (0 : Int32) ≤ x5 then some (x6, S, Z) else some (x5, S, Z) else (f_X7_roadTo Z S x7).bind fun r3 => (if r3 < 0 then f_X2_soonestByWays_L19 F a1 a3 a4 n S Z x5 x6 (x7 + 1) else (f_X4_open F 80 S Z a1 x7).bind fun r4 => (f_J9_min_7cf53 2000 ((x6 - a3) - r3)).bind fun r8 => (f_X2_lawfulFrom F r4.2 r4.1 (a3 + r3) r8).bind fun r9 => (if r9.1 < 0 then f_X2_soonestByWays_L19 F a1 a3 a4 n r9.2 r4.2 x5 x6 (x7 + 1) else f_X2_soonestByWays_L19 F a1 a3 a4 n r9.2 r4.2 x7 r9.1 (x7 + 1)))))
    refine k_iload (q := 6) C dX2_soonestByWays_19 rfl ?_
    refine k_aload_n (q := 0) C dX2_soonestByWays_21 rfl rfl ?_
    refine c_get (b := 40) (ci := 2) (kf := 0) (N := 4) C rfl ⟨rfl, rfl⟩ am_59 rfl lay_2 kk_2_0 fl_2_9 rfl dX2_soonestByWays_22 ?_
    refine k_cVI C ct_X7_valleyCount my_7_valleyCount ml_2_61 rfl ⟨Nat.le_of_ble_eq_true rfl, Nat.le_of_ble_eq_true rfl⟩ (recvC (b := 140) (ci := 7) rfl ⟨rfl, rfl⟩ am_159 rfl rfl) rfl (Nat.le_of_ble_eq_true rfl) dX2_soonestByWays_25 hb.e (fun r2 _ => ?_)
    refine k_icmp_ge (tgt := 99) C dX2_soonestByWays_28 (by decide) (fun _ => ?_) (fun _ => ?_)
    · refine k_iload (q := 3) C dX2_soonestByWays_99 rfl ?_
      refine k_if_eq (tgt := 109) C dX2_soonestByWays_101 (by decide) (fun _ => ?_) (fun _ => ?_)
      · refine k_iload (q := 4) C dX2_soonestByWays_109 rfl ?_
        refine k_goto (tgt := 116) C dX2_soonestByWays_111 (by decide) ?_
        exact k_iretA hb.e C ⟨rfl, _, rfl⟩ dX2_soonestByWays_116
      · refine k_iload (q := 4) C dX2_soonestByWays_104 rfl ?_
        refine k_if_ge (tgt := 114) C dX2_soonestByWays_106 (by decide) (fun _ => ?_) (fun _ => ?_)
        · refine k_iload (q := 5) C dX2_soonestByWays_114 rfl ?_
          exact k_iretA hb.e C ⟨rfl, _, rfl⟩ dX2_soonestByWays_116
        · refine k_iload (q := 4) C dX2_soonestByWays_109 rfl ?_
          refine k_goto (tgt := 116) C dX2_soonestByWays_111 (by decide) ?_
          exact k_iretA hb.e C ⟨rfl, _, rfl⟩ dX2_soonestByWays_116
    · refine k_aload_n (q := 0) C dX2_soonestByWays_31 rfl rfl ?_
      refine c_get (b := 40) (ci := 2) (kf := 0) (N := 4) C rfl ⟨rfl, rfl⟩ am_59 rfl lay_2 kk_2_0 fl_2_9 rfl dX2_soonestByWays_32 ?_
      refine k_iload (q := 6) C dX2_soonestByWays_35 rfl ?_
      refine k_cVI C ct_X7_roadTo my_7_roadTo ml_2_64 rfl ⟨Nat.le_of_ble_eq_true rfl, Nat.le_of_ble_eq_true rfl⟩ (recvC (b := 140) (ci := 7) rfl ⟨rfl, rfl⟩ am_159 rfl rfl) rfl (Nat.le_of_ble_eq_true rfl) dX2_soonestByWays_37 hb.e (fun r3 _ => ?_)
      refine k_istore (lv' := [(8, .int r3), (0, .ref (ad 59)), (1, .int a1), (3, .int a3), (4, .int a4), (5, .int x5), (6, .int x6), (7, .int x7)]) C dX2_soonestByWays_40 (Nat.le_of_ble_eq_true rfl) rfl ?_
      refine k_iload (q := 0) C dX2_soonestByWays_42 rfl ?_
      refine k_if_lt (tgt := 93) C dX2_soonestByWays_44 (by decide) (fun _ => ?_) (fun _ => ?_)
      · refine k_iinc (q := 7) (v := x7 + 1) (lv' := [(7, .int (x7 + 1)), (8, .int r3), (0, .ref (ad 59)), (1, .int a1), (3, .int a3), (4, .int a4), (5, .int x5), (6, .int x6)]) C dX2_soonestByWays_93 rfl rfl (Nat.le_of_ble_eq_true rfl) rfl ?_
        refine k_goto (tgt := 19) C dX2_soonestByWays_96 (by decide) ?_
        refine Dk.loc [2, 3, 4, 5, 6, 7, 0] rfl ?_
        exact ih _ _ _ _ _ _ _ _ hb
      · refine k_aload_n (q := 1) C dX2_soonestByWays_47 rfl rfl ?_
        refine c_get (b := 40) (ci := 2) (kf := 2) (N := 4) C rfl ⟨rfl, rfl⟩ am_59 rfl lay_2 kk_2_2 fl_2_19 rfl dX2_soonestByWays_48 ?_
        refine k_iload_n (q := 2) C dX2_soonestByWays_51 rfl rfl ?_
        refine k_iload (q := 7) C dX2_soonestByWays_52 rfl ?_
        refine k_cAV C ct_X4_open_80 my_4_open ml_2_37 rfl ⟨Nat.le_of_ble_eq_true rfl, Nat.le_of_ble_eq_true rfl⟩ (recvC (b := 80) (ci := 4) rfl ⟨rfl, rfl⟩ am_99 rfl rfl) rfl (Nat.le_of_ble_eq_true rfl) dX2_soonestByWays_54 hb (fun r4 Y5 hr6 => ?_)
        refine k_aload_n (q := 1) C dX2_soonestByWays_57 rfl rfl ?_
        refine k_iload_n (q := 3) C dX2_soonestByWays_58 rfl rfl ?_
        refine k_iload (q := 0) C dX2_soonestByWays_59 rfl ?_
        refine k_iadd C dX2_soonestByWays_61 ?_
        refine k_sipush (v := 2000) C dX2_soonestByWays_62 rfl ?_
        refine k_iload (q := 6) C dX2_soonestByWays_65 rfl ?_
        refine k_iload_n (q := 3) C dX2_soonestByWays_67 rfl rfl ?_
        refine k_isub C dX2_soonestByWays_68 ?_
        refine k_iload (q := 0) C dX2_soonestByWays_69 rfl ?_
        refine k_isub C dX2_soonestByWays_71 ?_
        refine k_cSI C ct_J9_min_7cf53 my_J9_min_7cf53 ml_2_67 rfl ⟨Nat.le_of_ble_eq_true rfl, Nat.le_of_ble_eq_true rfl⟩ rfl (Nat.le_of_ble_eq_true rfl) dX2_soonestByWays_72 (BD1.o hb (za_open1 hr6)).e (fun r8 _ => ?_)
        refine k_cVI C ct_X2_lawfulFrom my_2_lawfulFrom ml_2_72 rfl ⟨Nat.le_of_ble_eq_true rfl, Nat.le_of_ble_eq_true rfl⟩ (recvC (b := 40) (ci := 2) rfl ⟨rfl, rfl⟩ am_59 rfl rfl) rfl (Nat.le_of_ble_eq_true rfl) dX2_soonestByWays_75 (BD1.o hb (za_open1 hr6)).e (fun r9 _ => ?_)
        refine k_istore (lv' := [(9, .int r9.1), (8, .int r3), (0, .ref (ad 59)), (1, .int a1), (3, .int a3), (4, .int a4), (5, .int x5), (6, .int x6), (7, .int x7)]) C dX2_soonestByWays_78 (Nat.le_of_ble_eq_true rfl) rfl ?_
        refine k_iload (q := 0) C dX2_soonestByWays_80 rfl ?_
        refine k_if_lt (tgt := 93) C dX2_soonestByWays_82 (by decide) (fun _ => ?_) (fun _ => ?_)
        · refine k_iinc (q := 8) (v := x7 + 1) (lv' := [(7, .int (x7 + 1)), (9, .int r9.1), (8, .int r3), (0, .ref (ad 59)), (1, .int a1), (3, .int a3), (4, .int a4), (5, .int x5), (6, .int x6)]) C dX2_soonestByWays_93 rfl rfl (Nat.le_of_ble_eq_true rfl) rfl ?_
          refine k_goto (tgt := 19) C dX2_soonestByWays_96 (by decide) ?_
          refine Dk.loc [3, 4, 5, 6, 7, 8, 0] rfl ?_
          exact ih _ _ _ _ _ _ _ _ (BD1.o hb (za_open1 hr6))
        · refine k_iload (q := 8) C dX2_soonestByWays_85 rfl ?_
          refine k_istore (lv' := [(5, .int x7), (9, .int r9.1), (8, .int r3), (0, .ref (ad 59)), (1, .int a1), (3, .int a3), (4, .int a4), (6, .int x6), (7, .int x7)]) C dX2_soonestByWays_87 (Nat.le_of_ble_eq_true rfl) rfl ?_
          refine k_iload (q := 1) C dX2_soonestByWays_89 rfl ?_
          refine k_istore (lv' := [(6, .int r9.1), (5, .int x7), (9, .int r9.1), (8, .int r3), (0, .ref (ad 59)), (1, .int a1), (3, .int a3), (4, .int a4), (7, .int x7)]) C dX2_soonestByWays_91 (Nat.le_of_ble_eq_true rfl) rfl ?_
          refine k_iinc (q := 8) (v := x7 + 1) (lv' := [(7, .int (x7 + 1)), (6, .int r9.1), (5, .int x7), (9, .int r9.1), (8, .int r3), (0, .ref (ad 59)), (1, .int a1), (3, .int a3), (4, .int a4)]) C dX2_soonestByWays_93 rfl rfl (Nat.le_of_ble_eq_true rfl) rfl ?_
          refine k_goto (tgt := 19) C dX2_soonestByWays_96 (by decide) ?_
          refine Dk.loc [5, 6, 7, 8, 2, 1, 0] rfl ?_
          exact ih _ _ _ _ _ _ _ _ (BD1.o hb (za_open1 hr6))
set_option maxRecDepth 20000 in
theorem kw_X2_soonestByWays {X : GX} {θ : TH} {ad : Nat → Nat} {Y : Nat → Nat} {F : Nat} {S : St} {Z : Zt} {a1 : Int32} {a2 : Int32} {a3 : Int32} {a4 : Int32} (C : CX (mE X θ (wdC θ ad Y Z S) 10) RX2 cX2_soonestByWays (some .int) 6 (nd 80 Z) (9216 * nd 80 Z))  : Dk (mE X θ (wdC θ ad Y Z S) 10) (mTa X θ (wdC θ ad Y Z S) 10 (nd 80 Z) (9216 * nd 80 Z) (PIA θ ad)) 0 0 (wdC θ ad Y Z S) [(0, .ref (ad 59)), (1, .int a1), (2, .int a2), (3, .int a3), (4, .int a4)] [] 0 (f_X2_soonestByWays F S Z a1 a2 a3 a4) := by
  have hb := @BD1.z Z
  show Dk _ _ _ _ _ _ _ _ ((f_X7_measureRoads F Z S a2).bind fun r1 => f_X2_soonestByWays_L19 F a1 a3 a4 F r1 Z (-2) 2147483647 0)
  refine k_bipush (v := (-2)) C dX2_soonestByWays_0 rfl ?_
  refine k_istore (lv' := [(5, .int (-2)), (0, .ref (ad 59)), (1, .int a1), (2, .int a2), (3, .int a3), (4, .int a4)]) C dX2_soonestByWays_2 (Nat.le_of_ble_eq_true rfl) rfl ?_
  refine k_ldc C co_2_54 dX2_soonestByWays_4 ?_
  refine k_istore (lv' := [(6, .int 2147483647), (5, .int (-2)), (0, .ref (ad 59)), (1, .int a1), (2, .int a2), (3, .int a3), (4, .int a4)]) C dX2_soonestByWays_6 (Nat.le_of_ble_eq_true rfl) rfl ?_
  refine k_aload_n (q := 2) C dX2_soonestByWays_8 rfl rfl ?_
  refine c_get (b := 40) (ci := 2) (kf := 0) (N := 4) C rfl ⟨rfl, rfl⟩ am_59 rfl lay_2 kk_2_0 fl_2_9 rfl dX2_soonestByWays_9 ?_
  refine k_iload_n (q := 4) C dX2_soonestByWays_12 rfl rfl ?_
  refine k_cVV C ct_X7_measureRoads my_7_measureRoads ml_2_55 rfl ⟨Nat.le_of_ble_eq_true rfl, Nat.le_of_ble_eq_true rfl⟩ (recvC (b := 140) (ci := 7) rfl ⟨rfl, rfl⟩ am_159 rfl rfl) rfl (Nat.le_of_ble_eq_true rfl) dX2_soonestByWays_13 hb.e (fun r1 _ => ?_)
  refine k_iconst (v := 0) C dX2_soonestByWays_16 rfl ?_
  refine k_istore (lv' := [(7, .int 0), (6, .int 2147483647), (5, .int (-2)), (0, .ref (ad 59)), (1, .int a1), (2, .int a2), (3, .int a3), (4, .int a4)]) C dX2_soonestByWays_17 (Nat.le_of_ble_eq_true rfl) rfl ?_
  refine Dk.loc [3, 4, 6, 7, 2, 1, 0] rfl ?_
  exact kb_X2_soonestByWays_L19 C _ _ _ _ _ _ _ _ _ hb
theorem ct_X2_soonestByWays {l : Launch} {θ : TH} {ad Y : Nat → Nat} {S : St} {Z : Zt} {F : Nat} {a1 : Int32} {a2 : Int32} {a3 : Int32} {a4 : Int32}  : ∀ r, f_X2_soonestByWays F S Z a1 a2 a3 a4 = some r → Ct l θ yX2_soonestByWays cX2_soonestByWays 10 (some .int) 6 (nd 80 Z) (9216 * nd 80 Z) [.ref (ad 59), .int a1, .int a2, .int a3, .int a4] (wdC θ ad Y Z S) (PIA θ ad r) :=
  fun r hr => Ct.of (by decide +kernel) (Nat.le_of_ble_eq_true rfl) (fun X _ C _ => kw_X2_soonestByWays C  r hr)
set_option maxRecDepth 20000 in
theorem kb_X2_firstHarm_L21 {X : GX} {θ : TH} {ad : Nat → Nat} {Y0 : Nat → Nat} {S0 : St} {Z0 : Zt} {F : Nat} {a4 : Int32} (C : CX (mE X θ (wdC θ ad Y0 Z0 S0) 6) RX2 cX2_firstHarm (some .int) 5 (nd 80 Z0 + nd 300 Z0) (9216 * (nd 80 Z0 + nd 300 Z0)))  : ∀ (n : Nat) (S : St) (Z : Zt) (x5 : Int32) (Y : Nat → Nat) (k1 n1 : Nat) (hb : BD2 k1 n1 Z (nd 80 Z0 + nd 300 Z0) (9216 * (nd 80 Z0 + nd 300 Z0))), Dk (mE X θ (wdC θ ad Y0 Z0 S0) 6) (mTa X θ (wdC θ ad Y0 Z0 S0) 6 (nd 80 Z0 + nd 300 Z0) (9216 * (nd 80 Z0 + nd 300 Z0)) (PIA θ ad)) k1 n1 (wdC θ ad Y Z S) [(0, .ref (ad 59)), (4, .int a4), (5, .int x5)] [] 21 (f_X2_firstHarm_L21 F a4 n S Z x5) := by
  intro n
  induction n with
  | zero => intro S Z x5 Y k1 n1 hb; exact Dk.none
  | succ n ih =>
    intro S Z x5 Y k1 n1 hb
    show Dk _ _ _ _ _ _ _ _ (if (2000 : Int32) ≤ x5 then some ((-2 : Int32), S, Z) else (f_X4_costBegun F 80 Z S (a4 + x5)).bind fun r9 => (if r9.1 < 0 then f_X2_firstHarm_L21 F a4 n r9.2 Z (x5 + 1) else (f_X4_costBegun F 300 Z r9.2 (a4 + x5)).bind fun r10 => (if (0 : Int32) ≤ r10.1 then f_X2_firstHarm_L21 F a4 n r10.2 Z (x5 + 1) else some (a4 + x5, r10.2, Z))))
    refine k_iload (q := 2) C dX2_firstHarm_21 rfl ?_
    refine k_sipush (v := 2000) C dX2_firstHarm_23 rfl ?_
    refine k_icmp_ge (tgt := 71) C dX2_firstHarm_26 (by decide) (fun _ => ?_) (fun _ => ?_)
    · refine k_bipush (v := (-2)) C dX2_firstHarm_71 rfl ?_
      exact k_iretA hb.e C ⟨rfl, _, rfl⟩ dX2_firstHarm_73
    · refine k_aload_n (q := 0) C dX2_firstHarm_29 rfl rfl ?_
      refine c_get (b := 40) (ci := 2) (kf := 2) (N := 4) C rfl ⟨rfl, rfl⟩ am_59 rfl lay_2 kk_2_2 fl_2_19 rfl dX2_firstHarm_30 ?_
      refine k_iload (q := 1) C dX2_firstHarm_33 rfl ?_
      refine k_iload (q := 2) C dX2_firstHarm_35 rfl ?_
      refine k_iadd C dX2_firstHarm_37 ?_
      refine k_cVI C ct_X4_costBegun_80 my_4_costBegun ml_2_41 rfl ⟨Nat.le_of_ble_eq_true rfl, Nat.le_of_ble_eq_true rfl⟩ (recvC (b := 80) (ci := 4) rfl ⟨rfl, rfl⟩ am_99 rfl rfl) rfl (Nat.le_of_ble_eq_true rfl) dX2_firstHarm_38 hb.e (fun r9 _ => ?_)
      refine k_if_lt (tgt := 65) C dX2_firstHarm_41 (by decide) (fun _ => ?_) (fun _ => ?_)
      · refine k_iinc (q := 2) (v := x5 + 1) (lv' := [(5, .int (x5 + 1)), (0, .ref (ad 59)), (4, .int a4)]) C dX2_firstHarm_65 rfl rfl (Nat.le_of_ble_eq_true rfl) rfl ?_
        refine k_goto (tgt := 21) C dX2_firstHarm_68 (by decide) ?_
        refine Dk.loc [1, 2, 0] rfl ?_
        exact ih _ _ _ _ _ _ hb
      · refine k_aload_n (q := 0) C dX2_firstHarm_44 rfl rfl ?_
        refine c_get (b := 40) (ci := 2) (kf := 3) (N := 4) C rfl ⟨rfl, rfl⟩ am_59 rfl lay_2 kk_2_3 fl_2_28 rfl dX2_firstHarm_45 ?_
        refine k_iload (q := 1) C dX2_firstHarm_48 rfl ?_
        refine k_iload (q := 2) C dX2_firstHarm_50 rfl ?_
        refine k_iadd C dX2_firstHarm_52 ?_
        refine k_cVI C ct_X4_costBegun_300 my_4_costBegun ml_2_41 rfl ⟨Nat.le_of_ble_eq_true rfl, Nat.le_of_ble_eq_true rfl⟩ (recvC (b := 300) (ci := 4) rfl ⟨rfl, rfl⟩ am_319 rfl rfl) rfl (Nat.le_of_ble_eq_true rfl) dX2_firstHarm_53 hb.e (fun r10 _ => ?_)
        refine k_if_ge (tgt := 65) C dX2_firstHarm_56 (by decide) (fun _ => ?_) (fun _ => ?_)
        · refine k_iinc (q := 2) (v := x5 + 1) (lv' := [(5, .int (x5 + 1)), (0, .ref (ad 59)), (4, .int a4)]) C dX2_firstHarm_65 rfl rfl (Nat.le_of_ble_eq_true rfl) rfl ?_
          refine k_goto (tgt := 21) C dX2_firstHarm_68 (by decide) ?_
          refine Dk.loc [1, 2, 0] rfl ?_
          exact ih _ _ _ _ _ _ hb
        · refine k_iload (q := 1) C dX2_firstHarm_59 rfl ?_
          refine k_iload (q := 2) C dX2_firstHarm_61 rfl ?_
          refine k_iadd C dX2_firstHarm_63 ?_
          exact k_iretA hb.e C ⟨rfl, _, rfl⟩ dX2_firstHarm_64
set_option maxRecDepth 20000 in
theorem kw_X2_firstHarm {X : GX} {θ : TH} {ad : Nat → Nat} {Y : Nat → Nat} {F : Nat} {S : St} {Z : Zt} {a1 : Int32} {a2 : Int32} {a3 : Int32} {a4 : Int32} (C : CX (mE X θ (wdC θ ad Y Z S) 6) RX2 cX2_firstHarm (some .int) 5 (nd 80 Z + nd 300 Z) (9216 * (nd 80 Z + nd 300 Z)))  : Dk (mE X θ (wdC θ ad Y Z S) 6) (mTa X θ (wdC θ ad Y Z S) 6 (nd 80 Z + nd 300 Z) (9216 * (nd 80 Z + nd 300 Z)) (PIA θ ad)) 0 0 (wdC θ ad Y Z S) [(0, .ref (ad 59)), (1, .int a1), (2, .int a2), (3, .int a3), (4, .int a4)] [] 0 (f_X2_firstHarm F S Z a1 a2 a3 a4) := by
  have hb := @BD2.z Z
  show Dk _ _ _ _ _ _ _ _ ((f_X4_open F 80 S Z a1 a3).bind fun r1 => (f_X4_open F 300 r1.1 r1.2 a2 a3).bind fun r5 => f_X2_firstHarm_L21 F a4 F r5.1 r5.2 0)
  refine k_aload_n (q := 0) C dX2_firstHarm_0 rfl rfl ?_
  refine c_get (b := 40) (ci := 2) (kf := 2) (N := 4) C rfl ⟨rfl, rfl⟩ am_59 rfl lay_2 kk_2_2 fl_2_19 rfl dX2_firstHarm_1 ?_
  refine k_iload_n (q := 1) C dX2_firstHarm_4 rfl rfl ?_
  refine k_iload_n (q := 3) C dX2_firstHarm_5 rfl rfl ?_
  refine k_cAV C ct_X4_open_80 my_4_open ml_2_37 rfl ⟨Nat.le_of_ble_eq_true rfl, Nat.le_of_ble_eq_true rfl⟩ (recvC (b := 80) (ci := 4) rfl ⟨rfl, rfl⟩ am_99 rfl rfl) rfl (Nat.le_of_ble_eq_true rfl) dX2_firstHarm_6 hb.h1 (fun r1 Y2 hr3 => ?_)
  refine k_aload_n (q := 0) C dX2_firstHarm_9 rfl rfl ?_
  refine c_get (b := 40) (ci := 2) (kf := 3) (N := 4) C rfl ⟨rfl, rfl⟩ am_59 rfl lay_2 kk_2_3 fl_2_28 rfl dX2_firstHarm_10 ?_
  refine k_iload_n (q := 2) C dX2_firstHarm_13 rfl rfl ?_
  refine k_iload_n (q := 3) C dX2_firstHarm_14 rfl rfl ?_
  refine k_cAV C ct_X4_open_300 my_4_open ml_2_37 rfl ⟨Nat.le_of_ble_eq_true rfl, Nat.le_of_ble_eq_true rfl⟩ (recvC (b := 300) (ci := 4) rfl ⟨rfl, rfl⟩ am_319 rfl rfl) rfl (Nat.le_of_ble_eq_true rfl) dX2_firstHarm_15 (hb.o1 (za_open (by decide) hr3)).h2 (fun r5 Y6 hr7 => ?_)
  refine k_iconst (v := 0) C dX2_firstHarm_18 rfl ?_
  refine k_istore (lv' := [(5, .int 0), (0, .ref (ad 59)), (1, .int a1), (2, .int a2), (3, .int a3), (4, .int a4)]) C dX2_firstHarm_19 (Nat.le_of_ble_eq_true rfl) rfl ?_
  refine Dk.loc [1, 5, 0] rfl ?_
  exact kb_X2_firstHarm_L21 C _ _ _ _ _ _ _ ((hb.o1 (za_open (by decide) hr3)).o2 (za_open (by decide) hr7))
theorem ct_X2_firstHarm {l : Launch} {θ : TH} {ad Y : Nat → Nat} {S : St} {Z : Zt} {F : Nat} {a1 : Int32} {a2 : Int32} {a3 : Int32} {a4 : Int32}  : ∀ r, f_X2_firstHarm F S Z a1 a2 a3 a4 = some r → Ct l θ yX2_firstHarm cX2_firstHarm 6 (some .int) 5 (nd 80 Z + nd 300 Z) (9216 * (nd 80 Z + nd 300 Z)) [.ref (ad 59), .int a1, .int a2, .int a3, .int a4] (wdC θ ad Y Z S) (PIA θ ad r) :=
  fun r hr => Ct.of (by decide +kernel) (Nat.le_of_ble_eq_true rfl) (fun X _ C _ => kw_X2_firstHarm C  r hr)
set_option maxRecDepth 20000 in
theorem kw_X7_roundOf {X : GX} {θ : TH} {ad Y : Nat → Nat} {Z : Zt} {S : St} {a1 : Int32} (C : CX (mE X θ (wdC θ ad Y Z S) 2) RX7 cX7_roundOf (some .int) 1 0 0)  : Dk (mE X θ (wdC θ ad Y Z S) 2) (mT X θ (wdC θ ad Y Z S) 2 (PI (wdC θ ad Y Z S))) 0 0 (wdC θ ad Y Z S) [(0, .ref (ad 159)), (1, .int a1)] [] 0 (f_X7_roundOf Z S a1) := by
  show Dk _ _ _ _ _ _ _ _ ((f_X7_hasMoon Z S a1).bind fun r1 => (if r1 = 0 then some ((0 : Int32)) else chk (inr a1 3) (some (S.2.1 140 (a1).toNatClampNeg))))
  refine k_aload_n (q := 0) C dX7_roundOf_0 rfl rfl ?_
  refine k_iload_n (q := 1) C dX7_roundOf_1 rfl rfl ?_
  refine k_cVI C ct_X7_hasMoon my_7_hasMoon ml_7_50 rfl ⟨Nat.le_of_ble_eq_true rfl, Nat.le_of_ble_eq_true rfl⟩ (recvC (b := 140) (ci := 7) rfl ⟨rfl, rfl⟩ am_159 rfl rfl) rfl (Nat.le_of_ble_eq_true rfl) dX7_roundOf_2 ⟨Nat.le_refl _, Nat.le_refl _⟩ (fun r1 _ => ?_)
  refine k_if_eq (tgt := 17) C dX7_roundOf_5 (by decide) (fun _ => ?_) (fun _ => ?_)
  · refine k_iconst (v := 0) C dX7_roundOf_17 rfl ?_
    exact k_iret C rfl ⟨rfl, rfl⟩ dX7_roundOf_18
  · refine k_aload_n (q := 0) C dX7_roundOf_8 rfl rfl ?_
    refine c_get (b := 140) (ci := 7) (kf := 0) (N := 10) C rfl ⟨rfl, rfl⟩ am_159 rfl lay_7 kk_7_0 fl_7_9 rfl dX7_roundOf_9 ?_
    refine k_iload_n (q := 1) C dX7_roundOf_12 rfl rfl ?_
    refine c_iald (i := 140) (v := S.2.1 140 (a1).toNatClampNeg) C rfl am_140 ak_140 rfl rfl dX7_roundOf_13 ?_
    refine k_goto (tgt := 18) C dX7_roundOf_14 (by decide) ?_
    exact k_iret C rfl ⟨rfl, rfl⟩ dX7_roundOf_18
theorem ct_X7_roundOf {l : Launch} {θ : TH} {ad Y : Nat → Nat} {S : St} {Z : Zt} {a1 : Int32}  : ∀ r, f_X7_roundOf Z S a1 = some r → Ct l θ yX7_roundOf cX7_roundOf 2 (some .int) 1 0 0 [.ref (ad 159), .int a1] (wdC θ ad Y Z S) (PI (wdC θ ad Y Z S) r) :=
  fun r hr => Ct.of (by decide +kernel) (Nat.le_of_ble_eq_true rfl) (fun X _ C _ => kw_X7_roundOf C  r hr)
set_option maxRecDepth 20000 in
theorem kb_X7_greatestShared_L2 {X : GX} {θ : TH} {ws : va_W} {F : Nat} (C : CX (mE X θ (ws) 5) RX7 cX7_greatestShared (some .int) 0 0 0)  : ∀ (n : Nat) (x1 : Int32) (x2 : Int32) (x3 : Int32), Dk (mE X θ (ws) 5) (mT X θ (ws) 5 (PI ws)) 0 0 ws [(1, .int x1), (2, .int x2), (3, .int x3)] [] 2 (f_X7_greatestShared_L2 F n x1 x2 x3) := by
  intro n
  induction n with
  | zero => intro x1 x2 x3; exact Dk.none
  | succ n ih =>
    intro x1 x2 x3
    show Dk _ _ _ _ _ _ _ _ (if (100 : Int32) ≤ x3 then some x1 else if x2 ≤ 0 then some x1 else chk (nz x2) (f_X7_greatestShared_L2 F n x2 (jrem x1 x2) (x3 + 1)))
    refine k_iload_n (q := 2) C dX7_greatestShared_2 rfl rfl ?_
    refine k_bipush (v := 100) C dX7_greatestShared_3 rfl ?_
    refine k_icmp_ge (tgt := 28) C dX7_greatestShared_5 (by decide) (fun _ => ?_) (fun _ => ?_)
    · refine k_iload_n (q := 0) C dX7_greatestShared_28 rfl rfl ?_
      exact k_iret C rfl ⟨rfl, rfl⟩ dX7_greatestShared_29
    · refine k_iload_n (q := 1) C dX7_greatestShared_8 rfl rfl ?_
      refine k_if_le (tgt := 28) C dX7_greatestShared_9 (by decide) (fun _ => ?_) (fun _ => ?_)
      · refine k_iload_n (q := 0) C dX7_greatestShared_28 rfl rfl ?_
        exact k_iret C rfl ⟨rfl, rfl⟩ dX7_greatestShared_29
      · refine k_iload_n (q := 0) C dX7_greatestShared_12 rfl rfl ?_
        refine k_iload_n (q := 1) C dX7_greatestShared_13 rfl rfl ?_
        refine k_iremc C dX7_greatestShared_14 ?_
        refine k_istore (lv' := [(4, .int (jrem x1 x2)), (1, .int x1), (2, .int x2), (3, .int x3)]) C dX7_greatestShared_15 (Nat.le_of_ble_eq_true rfl) rfl ?_
        refine k_iload_n (q := 2) C dX7_greatestShared_17 rfl rfl ?_
        refine k_istore_n (lv' := [(1, .int x2), (4, .int (jrem x1 x2)), (2, .int x2), (3, .int x3)]) C dX7_greatestShared_18 rfl (Nat.le_of_ble_eq_true rfl) rfl ?_
        refine k_iload (q := 1) C dX7_greatestShared_19 rfl ?_
        refine k_istore_n (lv' := [(2, .int (jrem x1 x2)), (1, .int x2), (4, .int (jrem x1 x2)), (3, .int x3)]) C dX7_greatestShared_21 rfl (Nat.le_of_ble_eq_true rfl) rfl ?_
        refine k_iinc (q := 3) (v := x3 + 1) (lv' := [(3, .int (x3 + 1)), (2, .int (jrem x1 x2)), (1, .int x2), (4, .int (jrem x1 x2))]) C dX7_greatestShared_22 rfl rfl (Nat.le_of_ble_eq_true rfl) rfl ?_
        refine k_goto (tgt := 2) C dX7_greatestShared_25 (by decide) ?_
        refine Dk.loc [2, 1, 0] rfl ?_
        exact ih _ _ _
