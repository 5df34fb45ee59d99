theorem cr_X11_all0 {l : Launch} {θ : TH} {ad : Nat → Nat} {F : Nat} : ∀ d : Nat, (∀ (S : St) (r : Int32 × St), R_X11_0 F d 0 S = some r → Ct l θ yX11_either cX11_either 3 (some .int) (2 + d) 0 0 [.ref (ad 44)] (wdM θ ad S) (PIS (wdM θ ad) r)) ∧ (∀ (S : St) (r : Int32 × St), R_X11_0 F d 1 S = some r → Ct l θ yX11_both cX11_both 3 (some .int) (2 + d) 0 0 [.ref (ad 44)] (wdM θ ad S) (PIS (wdM θ ad) r)) ∧ (∀ (S : St) (r : Int32 × St), R_X11_0 F d 2 S = some r → Ct l θ yX11_compared cX11_compared 4 (some .int) (2 + d) 0 0 [.ref (ad 44)] (wdM θ ad S) (PIS (wdM θ ad) r)) ∧ (∀ (S : St) (r : Int32 × St), R_X11_0 F d 3 S = some r → Ct l θ yX11_sums cX11_sums 4 (some .int) (2 + d) 0 0 [.ref (ad 44)] (wdM θ ad S) (PIS (wdM θ ad) r)) ∧ (∀ (S : St) (r : Int32 × St), R_X11_0 F d 4 S = some r → Ct l θ yX11_product cX11_product 4 (some .int) (2 + d) 0 0 [.ref (ad 44)] (wdM θ ad S) (PIS (wdM θ ad) r)) ∧ (∀ (S : St) (r : Int32 × St), R_X11_0 F d 5 S = some r → Ct l θ yX11_one cX11_one 5 (some .int) (2 + d) 0 0 [.ref (ad 44)] (wdM θ ad S) (PIS (wdM θ ad) r)) := by
  intro d
  induction d with
  | zero => exact ⟨fun S r h => (by simp [R_X11_0] at h), fun S r h => (by simp [R_X11_0] at h), fun S r h => (by simp [R_X11_0] at h), fun S r h => (by simp [R_X11_0] at h), fun S r h => (by simp [R_X11_0] at h), fun S r h => (by simp [R_X11_0] at h)⟩
  | succ d ih =>
    obtain ⟨i0, i1, i2, i3, i4, i5⟩ := ih
    exact ⟨fun S r h => ct_X11_either (F := F) i1 r h, fun S r h => ct_X11_both (F := F) i2 r h, fun S r h => ct_X11_compared (F := F) i3 r h, fun S r h => ct_X11_sums (F := F) i4 r h, fun S r h => ct_X11_product (F := F) i5 r h, fun S r h => ct_X11_one (F := F) i0 i5 r h⟩
theorem cr_X11_either {l : Launch} {θ : TH} {ad : Nat → Nat} {F d : Nat} {S : St} : ∀ (r : Int32 × St), R_X11_0 F d 0 S = some r → Ct l θ yX11_either cX11_either 3 (some .int) (2 + d) 0 0 [.ref (ad 44)] (wdM θ ad S) (PIS (wdM θ ad) r) := fun r h => (cr_X11_all0 (l := l) (θ := θ) (ad := ad) (F := F) d).1 S r h
theorem cr_X11_both {l : Launch} {θ : TH} {ad : Nat → Nat} {F d : Nat} {S : St} : ∀ (r : Int32 × St), R_X11_0 F d 1 S = some r → Ct l θ yX11_both cX11_both 3 (some .int) (2 + d) 0 0 [.ref (ad 44)] (wdM θ ad S) (PIS (wdM θ ad) r) := fun r h => (cr_X11_all0 (l := l) (θ := θ) (ad := ad) (F := F) d).2.1 S r h
theorem cr_X11_compared {l : Launch} {θ : TH} {ad : Nat → Nat} {F d : Nat} {S : St} : ∀ (r : Int32 × St), R_X11_0 F d 2 S = some r → Ct l θ yX11_compared cX11_compared 4 (some .int) (2 + d) 0 0 [.ref (ad 44)] (wdM θ ad S) (PIS (wdM θ ad) r) := fun r h => (cr_X11_all0 (l := l) (θ := θ) (ad := ad) (F := F) d).2.2.1 S r h
theorem cr_X11_sums {l : Launch} {θ : TH} {ad : Nat → Nat} {F d : Nat} {S : St} : ∀ (r : Int32 × St), R_X11_0 F d 3 S = some r → Ct l θ yX11_sums cX11_sums 4 (some .int) (2 + d) 0 0 [.ref (ad 44)] (wdM θ ad S) (PIS (wdM θ ad) r) := fun r h => (cr_X11_all0 (l := l) (θ := θ) (ad := ad) (F := F) d).2.2.2.1 S r h
theorem cr_X11_product {l : Launch} {θ : TH} {ad : Nat → Nat} {F d : Nat} {S : St} : ∀ (r : Int32 × St), R_X11_0 F d 4 S = some r → Ct l θ yX11_product cX11_product 4 (some .int) (2 + d) 0 0 [.ref (ad 44)] (wdM θ ad S) (PIS (wdM θ ad) r) := fun r h => (cr_X11_all0 (l := l) (θ := θ) (ad := ad) (F := F) d).2.2.2.2.1 S r h
theorem cr_X11_one {l : Launch} {θ : TH} {ad : Nat → Nat} {F d : Nat} {S : St} : ∀ (r : Int32 × St), R_X11_0 F d 5 S = some r → Ct l θ yX11_one cX11_one 5 (some .int) (2 + d) 0 0 [.ref (ad 44)] (wdM θ ad S) (PIS (wdM θ ad) r) := fun r h => (cr_X11_all0 (l := l) (θ := θ) (ad := ad) (F := F) d).2.2.2.2.2 S r h
set_option maxRecDepth 20000 in
theorem kb_X11_workOut_B74 {X : GX} {θ : TH} {ad : Nat → Nat} {S0 : St} {F : Nat} {K33 : St → Int32 → Int32 → Int32 → Option (Int32 × St)} (C : CX (mE X θ (wdM θ ad S0) 8) RX11 cX11_workOut (some .int) 63 0 0) (hK33 : ∀ (S : St) (x3 : Int32) (x4 : Int32) (x5 : Int32), Dk (mE X θ (wdM θ ad S0) 8) (mT X θ (wdM θ ad S0) 8 (PIS (wdM θ ad))) 0 0 (wdM θ ad S) [(0, .ref (ad 44)), (3, .int x3), (4, .int x4), (5, .int x5)] [] 33 (K33 S x3 x4 x5)) (S : St) (x3 : Int32) (x4 : Int32) (x6 : Int32) (x7 : Int32) : Dk (mE X θ (wdM θ ad S0) 8) (mT X θ (wdM θ ad S0) 8 (PIS (wdM θ ad))) 0 0 (wdM θ ad S) [(0, .ref (ad 44)), (3, .int x3), (4, .int x4), (6, .int x6), (7, .int x7)] [] 74 (f_X11_workOut_B74 F K33 S x3 x4 x6 x7) := by
  unfold f_X11_workOut_B74
  refine k_aload_n (q := 0) C dX11_workOut_74 rfl rfl ?_
  refine m_geti (kf := 19) (v := S.1 19) C mS_19 fl_11_155 rfl dX11_workOut_75 ?_
  refine k_if_ge (tgt := 96) C dX11_workOut_78 (by decide) (fun _ => ?_) (fun _ => ?_)
  · refine k_aload_n (q := 0) C dX11_workOut_96 rfl rfl ?_
    refine k_bipush (v := 59) C dX11_workOut_97 rfl ?_
    refine k_cVI C ct_X11_takes my_11_takes ml_11_165 rfl ⟨Nat.le_of_ble_eq_true rfl, Nat.le_of_ble_eq_true rfl⟩ recvM rfl (Nat.le_of_ble_eq_true rfl) dX11_workOut_99 ⟨Nat.le_refl _, Nat.le_refl _⟩ (fun r4 _ => ?_)
    refine k_istore (lv' := [(5, .int r4.1), (0, .ref (ad 44)), (3, .int x3), (4, .int x4), (6, .int x6), (7, .int x7)]) C dX11_workOut_102 (Nat.le_of_ble_eq_true rfl) rfl ?_
    refine k_goto (tgt := 33) C dX11_workOut_104 (by decide) ?_
    refine Dk.loc [1, 2, 3, 0] rfl ?_
    exact hK33 _ _ _ _
  · refine k_iload (q := 4) C dX11_workOut_81 rfl ?_
    refine k_if_eq (tgt := 96) C dX11_workOut_83 (by decide) (fun _ => ?_) (fun _ => ?_)
    · refine k_aload_n (q := 0) C dX11_workOut_96 rfl rfl ?_
      refine k_bipush (v := 59) C dX11_workOut_97 rfl ?_
      refine k_cVI C ct_X11_takes my_11_takes ml_11_165 rfl ⟨Nat.le_of_ble_eq_true rfl, Nat.le_of_ble_eq_true rfl⟩ recvM rfl (Nat.le_of_ble_eq_true rfl) dX11_workOut_99 ⟨Nat.le_refl _, Nat.le_refl _⟩ (fun r5 _ => ?_)
      refine k_istore (lv' := [(5, .int r5.1), (0, .ref (ad 44)), (3, .int x3), (4, .int x4), (6, .int x6), (7, .int x7)]) C dX11_workOut_102 (Nat.le_of_ble_eq_true rfl) rfl ?_
      refine k_goto (tgt := 33) C dX11_workOut_104 (by decide) ?_
      refine Dk.loc [1, 2, 3, 0] rfl ?_
      exact hK33 _ _ _ _
    · refine k_iload_n (q := 1) C dX11_workOut_86 rfl rfl ?_
      refine k_if_ne (tgt := 96) C dX11_workOut_87 (by decide) (fun _ => ?_) (fun _ => ?_)
      · refine k_aload_n (q := 0) C dX11_workOut_96 rfl rfl ?_
        refine k_bipush (v := 59) C dX11_workOut_97 rfl ?_
        refine k_cVI C ct_X11_takes my_11_takes ml_11_165 rfl ⟨Nat.le_of_ble_eq_true rfl, Nat.le_of_ble_eq_true rfl⟩ recvM rfl (Nat.le_of_ble_eq_true rfl) dX11_workOut_99 ⟨Nat.le_refl _, Nat.le_refl _⟩ (fun r6 _ => ?_)
        refine k_istore (lv' := [(5, .int r6.1), (0, .ref (ad 44)), (3, .int x3), (4, .int x4), (6, .int x6), (7, .int x7)]) C dX11_workOut_102 (Nat.le_of_ble_eq_true rfl) rfl ?_
        refine k_goto (tgt := 33) C dX11_workOut_104 (by decide) ?_
        refine Dk.loc [1, 2, 3, 0] rfl ?_
        exact hK33 _ _ _ _
      · refine k_iconst (v := 1) C dX11_workOut_90 rfl ?_
        refine k_istore_n (lv' := [(3, .int 1), (0, .ref (ad 44)), (4, .int x4), (6, .int x6), (7, .int x7)]) C dX11_workOut_91 rfl (Nat.le_of_ble_eq_true rfl) rfl ?_
        refine k_iload (q := 3) C dX11_workOut_92 rfl ?_
        refine k_istore (lv' := [(4, .int x6), (3, .int 1), (0, .ref (ad 44)), (6, .int x6), (7, .int x7)]) C dX11_workOut_94 (Nat.le_of_ble_eq_true rfl) rfl ?_
        refine k_aload_n (q := 2) C dX11_workOut_96 rfl rfl ?_
        refine k_bipush (v := 59) C dX11_workOut_97 rfl ?_
        refine k_cVI C ct_X11_takes my_11_takes ml_11_165 rfl ⟨Nat.le_of_ble_eq_true rfl, Nat.le_of_ble_eq_true rfl⟩ recvM rfl (Nat.le_of_ble_eq_true rfl) dX11_workOut_99 ⟨Nat.le_refl _, Nat.le_refl _⟩ (fun r7 _ => ?_)
        refine k_istore (lv' := [(5, .int r7.1), (4, .int x6), (3, .int 1), (0, .ref (ad 44)), (6, .int x6), (7, .int x7)]) C dX11_workOut_102 (Nat.le_of_ble_eq_true rfl) rfl ?_
        refine k_goto (tgt := 33) C dX11_workOut_104 (by decide) ?_
        refine Dk.loc [3, 2, 1, 0] rfl ?_
        exact hK33 _ _ _ _
set_option maxRecDepth 20000 in
theorem kb_X11_workOut_B66 {X : GX} {θ : TH} {ad : Nat → Nat} {S0 : St} {F : Nat} {K33 : St → Int32 → Int32 → Int32 → Option (Int32 × St)} (C : CX (mE X θ (wdM θ ad S0) 8) RX11 cX11_workOut (some .int) 63 0 0) (hK33 : ∀ (S : St) (x3 : Int32) (x4 : Int32) (x5 : Int32), Dk (mE X θ (wdM θ ad S0) 8) (mT X θ (wdM θ ad S0) 8 (PIS (wdM θ ad))) 0 0 (wdM θ ad S) [(0, .ref (ad 44)), (3, .int x3), (4, .int x4), (5, .int x5)] [] 33 (K33 S x3 x4 x5)) (S : St) (x3 : Int32) (x4 : Int32) (t0 : Int32) : Dk (mE X θ (wdM θ ad S0) 8) (mT X θ (wdM θ ad S0) 8 (PIS (wdM θ ad))) 0 0 (wdM θ ad S) [(0, .ref (ad 44)), (3, .int x3), (4, .int x4)] [.int t0] 66 (f_X11_workOut_B66 F K33 S x3 x4 t0) := by
  unfold f_X11_workOut_B66
  refine k_istore (lv' := [(7, .int t0), (0, .ref (ad 44)), (3, .int x3), (4, .int x4)]) C dX11_workOut_66 (Nat.le_of_ble_eq_true rfl) rfl ?_
  refine k_aload_n (q := 1) C dX11_workOut_68 rfl rfl ?_
  refine k_cVI C (cr_X11_either (d := 60)) my_11_either ml_11_186 rfl ⟨Nat.le_of_ble_eq_true rfl, Nat.le_of_ble_eq_true rfl⟩ recvM rfl (Nat.le_of_ble_eq_true rfl) dX11_workOut_69 ⟨Nat.le_refl _, Nat.le_refl _⟩ (fun r8 _ => ?_)
  refine k_istore (lv' := [(6, .int r8.1), (7, .int t0), (0, .ref (ad 44)), (3, .int x3), (4, .int x4)]) C dX11_workOut_72 (Nat.le_of_ble_eq_true rfl) rfl ?_
  refine Dk.loc [2, 3, 4, 0, 1] rfl ?_
  exact kb_X11_workOut_B74 C hK33 _ _ _ _ _
set_option maxRecDepth 20000 in
theorem kb_X11_workOut_L33 {X : GX} {θ : TH} {ad : Nat → Nat} {S0 : St} {F : Nat} (C : CX (mE X θ (wdM θ ad S0) 8) RX11 cX11_workOut (some .int) 63 0 0)  : ∀ (n : Nat) (S : St) (x3 : Int32) (x4 : Int32) (x5 : Int32), Dk (mE X θ (wdM θ ad S0) 8) (mT X θ (wdM θ ad S0) 8 (PIS (wdM θ ad))) 0 0 (wdM θ ad S) [(0, .ref (ad 44)), (3, .int x3), (4, .int x4), (5, .int x5)] [] 33 (f_X11_workOut_L33 F n S x3 x4 x5) := by
  intro n
  induction n with
  | zero => intro S x3 x4 x5; exact Dk.none
  | succ n ih =>
    intro S x3 x4 x5
    show Dk _ _ _ _ _ _ _ _ (if x5 = 0 then if (0 : Int32) ≤ (S.1 19) then some (x4, S) else if (S.1 18) ≤ (S.1 17) then some (x4, S) else (f_X11_wrong S).bind fun r1 => some (r1.1, r1.2) else (R_X11_0 F 60 0 S).bind fun r2 => (f_X11_takes r2.2 63).bind fun r3 => (if r3.1 = 0 then f_X11_workOut_B74 F (f_X11_workOut_L33 F n) r3.2 x3 x4 r2.1 1 else if r2.1 = 0 then f_X11_workOut_B66 F (f_X11_workOut_L33 F n) r3.2 x3 x4 0 else f_X11_workOut_B66 F (f_X11_workOut_L33 F n) r3.2 x3 x4 1))
    refine k_iload (q := 3) C dX11_workOut_33 rfl ?_
    refine k_if_eq (tgt := 107) C dX11_workOut_35 (by decide) (fun _ => ?_) (fun _ => ?_)
    · refine k_aload_n (q := 0) C dX11_workOut_107 rfl rfl ?_
      refine m_geti (kf := 19) (v := S.1 19) C mS_19 fl_11_155 rfl dX11_workOut_108 ?_
      refine k_if_ge (tgt := 130) C dX11_workOut_111 (by decide) (fun _ => ?_) (fun _ => ?_)
      · refine k_iload (q := 2) C dX11_workOut_130 rfl ?_
        exact k_iret C rfl ⟨rfl, rfl⟩ dX11_workOut_132
      · refine k_aload_n (q := 0) C dX11_workOut_114 rfl rfl ?_
        refine m_geti (kf := 17) (v := S.1 17) C mS_17 fl_11_146 rfl dX11_workOut_115 ?_
        refine k_aload_n (q := 0) C dX11_workOut_118 rfl rfl ?_
        refine m_geti (kf := 18) (v := S.1 18) C mS_18 fl_11_149 rfl dX11_workOut_119 ?_
        refine k_icmp_ge (tgt := 130) C dX11_workOut_122 (by decide) (fun _ => ?_) (fun _ => ?_)
        · refine k_iload (q := 2) C dX11_workOut_130 rfl ?_
          exact k_iret C rfl ⟨rfl, rfl⟩ dX11_workOut_132
        · refine k_aload_n (q := 0) C dX11_workOut_125 rfl rfl ?_
          refine k_cVI C ct_X11_wrong my_11_wrong ml_11_183 rfl ⟨Nat.le_of_ble_eq_true rfl, Nat.le_of_ble_eq_true rfl⟩ recvM rfl (Nat.le_of_ble_eq_true rfl) dX11_workOut_126 ⟨Nat.le_refl _, Nat.le_refl _⟩ (fun r1 _ => ?_)
          exact k_iret C rfl ⟨rfl, rfl⟩ dX11_workOut_129
    · refine k_aload_n (q := 0) C dX11_workOut_38 rfl rfl ?_
      refine k_cVI C (cr_X11_either (d := 60)) my_11_either ml_11_186 rfl ⟨Nat.le_of_ble_eq_true rfl, Nat.le_of_ble_eq_true rfl⟩ recvM rfl (Nat.le_of_ble_eq_true rfl) dX11_workOut_39 ⟨Nat.le_refl _, Nat.le_refl _⟩ (fun r2 _ => ?_)
      refine k_istore (lv' := [(6, .int r2.1), (0, .ref (ad 44)), (3, .int x3), (4, .int x4), (5, .int x5)]) C dX11_workOut_42 (Nat.le_of_ble_eq_true rfl) rfl ?_
      refine k_iconst (v := 1) C dX11_workOut_44 rfl ?_
      refine k_istore (lv' := [(7, .int 1), (6, .int r2.1), (0, .ref (ad 44)), (3, .int x3), (4, .int x4), (5, .int x5)]) C dX11_workOut_45 (Nat.le_of_ble_eq_true rfl) rfl ?_
      refine k_aload_n (q := 2) C dX11_workOut_47 rfl rfl ?_
      refine k_bipush (v := 63) C dX11_workOut_48 rfl ?_
      refine k_cVI C ct_X11_takes my_11_takes ml_11_165 rfl ⟨Nat.le_of_ble_eq_true rfl, Nat.le_of_ble_eq_true rfl⟩ recvM rfl (Nat.le_of_ble_eq_true rfl) dX11_workOut_50 ⟨Nat.le_refl _, Nat.le_refl _⟩ (fun r3 _ => ?_)
      refine k_if_eq (tgt := 74) C dX11_workOut_53 (by decide) (fun _ => ?_) (fun _ => ?_)
      · refine Dk.loc [2, 3, 4, 1, 0] rfl ?_
        exact kb_X11_workOut_B74 C ih _ _ _ _ _
      · refine k_iload (q := 1) C dX11_workOut_56 rfl ?_
        refine k_if_eq (tgt := 65) C dX11_workOut_58 (by decide) (fun _ => ?_) (fun _ => ?_)
        · refine k_iconst (v := 0) C dX11_workOut_65 rfl ?_
          refine Dk.loc [2, 3, 4] rfl ?_
          exact kb_X11_workOut_B66 C ih _ _ _ _
        · refine k_iconst (v := 1) C dX11_workOut_61 rfl ?_
          refine k_goto (tgt := 66) C dX11_workOut_62 (by decide) ?_
          refine Dk.loc [2, 3, 4] rfl ?_
          exact kb_X11_workOut_B66 C ih _ _ _ _
set_option maxRecDepth 20000 in
theorem kw_X11_workOut {X : GX} {θ : TH} {ad : Nat → Nat} {F : Nat} {S : St} {a1 : Int32} {a2 : Int32} (C : CX (mE X θ (wdM θ ad S) 8) RX11 cX11_workOut (some .int) 63 0 0)  : Dk (mE X θ (wdM θ ad S) 8) (mT X θ (wdM θ ad S) 8 (PIS (wdM θ ad))) 0 0 (wdM θ ad S) [(0, .ref (ad 44)), (1, .int a1), (2, .int a2)] [] 0 (f_X11_workOut F S a1 a2) := by
  unfold f_X11_workOut
  refine k_aload_n (q := 0) C dX11_workOut_0 rfl rfl ?_
  refine k_iload_n (q := 1) C dX11_workOut_1 rfl rfl ?_
  refine m_puti (kf := 16) C mS_16 mP_16 fl_11_152 dX11_workOut_2 ?_
  refine k_aload_n (q := 0) C dX11_workOut_5 rfl rfl ?_
  refine k_iconst (v := 0) C dX11_workOut_6 rfl ?_
  refine m_puti (kf := 17) C mS_17 mP_17 fl_11_146 dX11_workOut_7 ?_
  refine k_aload_n (q := 0) C dX11_workOut_10 rfl rfl ?_
  refine k_iload_n (q := 2) C dX11_workOut_11 rfl rfl ?_
  refine m_puti (kf := 18) C mS_18 mP_18 fl_11_149 dX11_workOut_12 ?_
  refine k_aload_n (q := 0) C dX11_workOut_15 rfl rfl ?_
  refine k_iconst (v := (-1)) C dX11_workOut_16 rfl ?_
  refine m_puti (kf := 19) C mS_19 mP_19 fl_11_155 dX11_workOut_17 ?_
  refine k_aload_n (q := 0) C dX11_workOut_20 rfl rfl ?_
  refine k_iconst (v := 0) C dX11_workOut_21 rfl ?_
  refine m_puti (kf := 20) C mS_20 mP_20 fl_11_180 dX11_workOut_22 ?_
  refine k_iconst (v := 0) C dX11_workOut_25 rfl ?_
  refine k_istore_n (lv' := [(3, .int 0), (0, .ref (ad 44)), (1, .int a1), (2, .int a2)]) C dX11_workOut_26 rfl (Nat.le_of_ble_eq_true rfl) rfl ?_
  refine k_iconst (v := 0) C dX11_workOut_27 rfl ?_
  refine k_istore (lv' := [(4, .int 0), (3, .int 0), (0, .ref (ad 44)), (1, .int a1), (2, .int a2)]) C dX11_workOut_28 (Nat.le_of_ble_eq_true rfl) rfl ?_
  refine k_iconst (v := 1) C dX11_workOut_30 rfl ?_
  refine k_istore (lv' := [(5, .int 1), (4, .int 0), (3, .int 0), (0, .ref (ad 44)), (1, .int a1), (2, .int a2)]) C dX11_workOut_31 (Nat.le_of_ble_eq_true rfl) rfl ?_
  refine Dk.loc [3, 2, 1, 0] rfl ?_
  exact kb_X11_workOut_L33 C _ _ _ _ _
theorem ct_X11_workOut {l : Launch} {θ : TH} {ad : Nat → Nat} {S : St} {F : Nat} {a1 : Int32} {a2 : Int32} : ∀ r, f_X11_workOut F S a1 a2 = some r → Ct l θ yX11_workOut cX11_workOut 8 (some .int) 63 0 0 [.ref (ad 44), .int a1, .int a2] (wdM θ ad S) (PIS (wdM θ ad) r) :=
  fun r hr => Ct.of (by decide) (Nat.le_of_ble_eq_true rfl) (fun X _ C _ => kw_X11_workOut C r hr)
set_option maxRecDepth 20000 in
theorem kb_X11_law_L48 {X : GX} {θ : TH} {ad : Nat → Nat} {S0 : St} {F : Nat} {a1 : Int32} (C : CX (mE X θ (wdM θ ad S0) 5) RX11 cX11_law (some .int) 64 0 0)  : ∀ (n : Nat) (S : St) (x3 : Int32) (x4 : Int32), Dk (mE X θ (wdM θ ad S0) 5) (mT X θ (wdM θ ad S0) 5 (PIS (wdM θ ad))) 0 0 (wdM θ ad S) [(0, .ref (ad 44)), (1, .int a1), (3, .int x3), (4, .int x4)] [] 48 (f_X11_law_L48 F a1 n S x3 x4) := by
  intro n
  induction n with
  | zero => intro S x3 x4; exact Dk.none
  | succ n ih =>
    intro S x3 x4
    show Dk _ _ _ _ _ _ _ _ (if x3 ≤ x4 then chk (inr a1 3) ((f_X11_forgets F (sa S 15 (a1).toNatClampNeg x3)).bind fun r3 => some ((1 : Int32), r3)) else chk (inr x4 120) (chk (inr ((120 * a1) + x4) 360) (f_X11_law_L48 F a1 n (sa S 14 ((120 * a1) + x4).toNatClampNeg (S.2.1 12 (x4).toNatClampNeg)) x3 (x4 + 1))))
    refine k_iload (q := 3) C dX11_law_48 rfl ?_
    refine k_iload_n (q := 2) C dX11_law_50 rfl rfl ?_
    refine k_icmp_ge (tgt := 79) C dX11_law_51 (by decide) (fun _ => ?_) (fun _ => ?_)
    · refine k_aload_n (q := 0) C dX11_law_79 rfl rfl ?_
      refine m_geta (kf := 15) C mR_15 fl_11_40 dX11_law_80 ?_
      refine k_iload_n (q := 1) C dX11_law_83 rfl rfl ?_
      refine k_iload_n (q := 2) C dX11_law_84 rfl rfl ?_
      refine m_iast C mA_15 mN_15 dX11_law_85 ?_
      refine k_aload_n (q := 0) C dX11_law_86 rfl rfl ?_
      refine k_cVV C ct_X11_forgets my_11_forgets ml_11_93 rfl ⟨Nat.le_of_ble_eq_true rfl, Nat.le_of_ble_eq_true rfl⟩ recvM rfl (Nat.le_of_ble_eq_true rfl) dX11_law_87 ⟨Nat.le_refl _, Nat.le_refl _⟩ (fun r3 _ => ?_)
      refine k_iconst (v := 1) C dX11_law_90 rfl ?_
      exact k_iret C rfl ⟨rfl, rfl⟩ dX11_law_91
    · refine k_aload_n (q := 0) C dX11_law_54 rfl rfl ?_
      refine m_geta (kf := 14) C mR_14 fl_11_37 dX11_law_55 ?_
      refine k_bipush (v := 120) C dX11_law_58 rfl ?_
      refine k_iload_n (q := 1) C dX11_law_60 rfl rfl ?_
      refine k_imul C dX11_law_61 ?_
      refine k_iload (q := 3) C dX11_law_62 rfl ?_
      refine k_iadd C dX11_law_64 ?_
      refine k_aload_n (q := 0) C dX11_law_65 rfl rfl ?_
      refine m_geta (kf := 12) C mR_12 fl_11_34 dX11_law_66 ?_
      refine k_iload (q := 3) C dX11_law_69 rfl ?_
      refine m_iald (x := S.2.1 12 (x4).toNatClampNeg) C mA_12 mN_12 rfl dX11_law_71 ?_
      refine m_iast C mA_14 mN_14 dX11_law_72 ?_
      refine k_iinc (q := 3) (v := x4 + 1) (lv' := [(4, .int (x4 + 1)), (0, .ref (ad 44)), (1, .int a1), (3, .int x3)]) C dX11_law_73 rfl rfl (Nat.le_of_ble_eq_true rfl) rfl ?_
      refine k_goto (tgt := 48) C dX11_law_76 (by decide) ?_
      refine Dk.loc [1, 2, 3, 0] rfl ?_
      exact ih _ _ _
set_option maxRecDepth 20000 in
theorem kw_X11_law {X : GX} {θ : TH} {ad : Nat → Nat} {F : Nat} {S : St} {a1 : Int32} (C : CX (mE X θ (wdM θ ad S) 5) RX11 cX11_law (some .int) 64 0 0)  : Dk (mE X θ (wdM θ ad S) 5) (mT X θ (wdM θ ad S) 5 (PIS (wdM θ ad))) 0 0 (wdM θ ad S) [(0, .ref (ad 44)), (1, .int a1)] [] 0 (f_X11_law F S a1) := by
  unfold f_X11_law
  refine k_aload_n (q := 0) C dX11_law_0 rfl rfl ?_
  refine k_iload_n (q := 1) C dX11_law_1 rfl rfl ?_
  refine k_cVI C ct_X11_isMoon my_11_isMoon ml_11_123 rfl ⟨Nat.le_of_ble_eq_true rfl, Nat.le_of_ble_eq_true rfl⟩ recvM rfl (Nat.le_of_ble_eq_true rfl) dX11_law_2 ⟨Nat.le_refl _, Nat.le_refl _⟩ (fun r1 _ => ?_)
  refine k_if_ne (tgt := 10) C dX11_law_5 (by decide) (fun _ => ?_) (fun _ => ?_)
  · refine k_aload_n (q := 0) C dX11_law_10 rfl rfl ?_
    refine k_iconst (v := (-1)) C dX11_law_11 rfl ?_
    refine k_aload_n (q := 0) C dX11_law_12 rfl rfl ?_
    refine m_geti (kf := 13) (v := S.1 13) C mS_13 fl_11_143 rfl dX11_law_13 ?_
    refine k_cVI C ct_X11_workOut my_11_workOut ml_11_193 rfl ⟨Nat.le_of_ble_eq_true rfl, Nat.le_of_ble_eq_true rfl⟩ recvM rfl (Nat.le_of_ble_eq_true rfl) dX11_law_16 ⟨Nat.le_refl _, Nat.le_refl _⟩ (fun r2 _ => ?_)
    refine k_istore_n (lv' := [(2, .int r2.1), (0, .ref (ad 44)), (1, .int a1)]) C dX11_law_19 rfl (Nat.le_of_ble_eq_true rfl) rfl ?_
    refine k_aload_n (q := 1) C dX11_law_20 rfl rfl ?_
    refine m_geti (kf := 13) (v := r2.2.1 13) C mS_13 fl_11_143 rfl dX11_law_21 ?_
    refine k_istore_n (lv' := [(3, .int (r2.2.1 13)), (2, .int r2.1), (0, .ref (ad 44)), (1, .int a1)]) C dX11_law_24 rfl (Nat.le_of_ble_eq_true rfl) rfl ?_
    refine k_aload_n (q := 2) C dX11_law_25 rfl rfl ?_
    refine k_iconst (v := 0) C dX11_law_26 rfl ?_
    refine m_puti (kf := 13) C mS_13 mP_13 fl_11_143 dX11_law_27 ?_
    refine k_aload_n (q := 2) C dX11_law_30 rfl rfl ?_
    refine m_geti (kf := 19) (v := r2.2.1 19) C mS_19 fl_11_155 rfl dX11_law_31 ?_
    refine k_if_lt (tgt := 45) C dX11_law_34 (by decide) (fun _ => ?_) (fun _ => ?_)
    · refine k_iconst (v := 0) C dX11_law_45 rfl ?_
      refine k_istore (lv' := [(4, .int 0), (3, .int (r2.2.1 13)), (2, .int r2.1), (0, .ref (ad 44)), (1, .int a1)]) C dX11_law_46 (Nat.le_of_ble_eq_true rfl) rfl ?_
      refine Dk.loc [3, 4, 1, 0] rfl ?_
      exact kb_X11_law_L48 C _ _ _ _
    · refine k_bipush (v := (-100)) C dX11_law_37 rfl ?_
      refine k_aload_n (q := 2) C dX11_law_39 rfl rfl ?_
      refine m_geti (kf := 19) (v := r2.2.1 19) C mS_19 fl_11_155 rfl dX11_law_40 ?_
      refine k_isub C dX11_law_43 ?_
      exact k_iret C rfl ⟨rfl, rfl⟩ dX11_law_44
  · refine k_iconst (v := (-1)) C dX11_law_8 rfl ?_
    exact k_iret C rfl ⟨rfl, rfl⟩ dX11_law_9
theorem ct_X11_law {l : Launch} {θ : TH} {ad : Nat → Nat} {S : St} {F : Nat} {a1 : Int32} : ∀ r, f_X11_law F S a1 = some r → Ct l θ yX11_law cX11_law 5 (some .int) 64 0 0 [.ref (ad 44), .int a1] (wdM θ ad S) (PIS (wdM θ ad) r) :=
  fun r hr => Ct.of (by decide) (Nat.le_of_ble_eq_true rfl) (fun X _ C _ => kw_X11_law C r hr)
set_option maxRecDepth 20000 in
theorem kw_X11_isDeed {X : GX} {θ : TH} {ad : Nat → Nat}  {S : St} {a1 : Int32} (C : CX (mE X θ (wdM θ ad S) 2) RX11 cX11_isDeed (some .boolean) 1 0 0)  : Dk (mE X θ (wdM θ ad S) 2) (mT X θ (wdM θ ad S) 2 (PI (wdM θ ad S))) 0 0 (wdM θ ad S) [(0, .ref (ad 44)), (1, .int a1)] [] 0 (f_X11_isDeed S a1) := by
  unfold f_X11_isDeed
  refine k_iload_n (q := 1) C dX11_isDeed_0 rfl rfl ?_
  refine k_i2l C dX11_isDeed_1 ?_
  refine k_lconst (v := 0) C dX11_isDeed_2 rfl ?_
  refine k_aload_n (q := 0) C dX11_isDeed_3 rfl rfl ?_
  refine m_geti (kf := 22) (v := S.1 22) C mS_22 fl_11_196 rfl dX11_isDeed_4 ?_
  refine k_iconst (v := 1) C dX11_isDeed_7 rfl ?_
  refine k_isub C dX11_isDeed_8 ?_
  refine k_i2l C dX11_isDeed_9 ?_
  refine k_cSI C ct_X11_within my_11_within ml_11_106 rfl ⟨Nat.le_of_ble_eq_true rfl, Nat.le_of_ble_eq_true rfl⟩ rfl (Nat.le_of_ble_eq_true rfl) dX11_isDeed_10 ⟨Nat.le_refl _, Nat.le_refl _⟩ (fun r1 _ => ?_)
  exact k_zretc C ⟨rfl, rfl⟩ dX11_isDeed_13
theorem ct_X11_isDeed {l : Launch} {θ : TH} {ad : Nat → Nat} {S : St}  {a1 : Int32} : ∀ r, f_X11_isDeed S a1 = some r → Ct l θ yX11_isDeed cX11_isDeed 2 (some .boolean) 1 0 0 [.ref (ad 44), .int a1] (wdM θ ad S) (PI (wdM θ ad S) r) :=
  fun r hr => Ct.of (by decide) (Nat.le_of_ble_eq_true rfl) (fun X _ C _ => kw_X11_isDeed C r hr)
set_option maxRecDepth 20000 in
theorem kw_X11_isOne {X : GX} {θ : TH} {ws : va_W}   {a1 : Int64} {a2 : Int64} {a3 : Int64} {a4 : Int64} (C : CX (mE X θ (ws) 8) RX11 cX11_isOne (some .boolean) 1 0 0)  : Dk (mE X θ (ws) 8) (mT X θ (ws) 8 (PI ws)) 0 0 ws [(0, .long a1), (2, .long a2), (4, .long a3), (6, .long a4)] [] 0 (f_X11_isOne a1 a2 a3 a4) := by
  unfold f_X11_isOne
  refine k_lload_n (q := 0) C dX11_isOne_0 rfl rfl ?_
  refine k_lconst (v := 0) C dX11_isOne_1 rfl ?_
  refine k_ldc2 C co_11_199 dX11_isOne_2 ?_
  refine k_cSI C ct_X11_within my_11_within ml_11_106 rfl ⟨Nat.le_of_ble_eq_true rfl, Nat.le_of_ble_eq_true rfl⟩ rfl (Nat.le_of_ble_eq_true rfl) dX11_isOne_5 ⟨Nat.le_refl _, Nat.le_refl _⟩ (fun r1 _ => ?_)
  refine k_if_eq (tgt := 50) C dX11_isOne_8 (by decide) (fun _ => ?_) (fun _ => ?_)
  · refine k_iconst (v := 0) C dX11_isOne_50 rfl ?_
    exact k_iret C rfl ⟨rfl, rfl⟩ dX11_isOne_51
  · refine k_lload_n (q := 1) C dX11_isOne_11 rfl rfl ?_
    refine k_lconst (v := 1) C dX11_isOne_12 rfl ?_
    refine k_ldc2 C co_11_201 dX11_isOne_13 ?_
    refine k_cSI C ct_X11_within my_11_within ml_11_106 rfl ⟨Nat.le_of_ble_eq_true rfl, Nat.le_of_ble_eq_true rfl⟩ rfl (Nat.le_of_ble_eq_true rfl) dX11_isOne_16 ⟨Nat.le_refl _, Nat.le_refl _⟩ (fun r2 _ => ?_)
    refine k_if_eq (tgt := 50) C dX11_isOne_19 (by decide) (fun _ => ?_) (fun _ => ?_)
    · refine k_iconst (v := 0) C dX11_isOne_50 rfl ?_
      exact k_iret C rfl ⟨rfl, rfl⟩ dX11_isOne_51
    · refine k_lload (q := 2) C dX11_isOne_22 rfl ?_
      refine k_lconst (v := 0) C dX11_isOne_24 rfl ?_
      refine k_ldc2 C co_11_199 dX11_isOne_25 ?_
      refine k_cSI C ct_X11_within my_11_within ml_11_106 rfl ⟨Nat.le_of_ble_eq_true rfl, Nat.le_of_ble_eq_true rfl⟩ rfl (Nat.le_of_ble_eq_true rfl) dX11_isOne_28 ⟨Nat.le_refl _, Nat.le_refl _⟩ (fun r3 _ => ?_)
      refine k_if_eq (tgt := 50) C dX11_isOne_31 (by decide) (fun _ => ?_) (fun _ => ?_)
      · refine k_iconst (v := 0) C dX11_isOne_50 rfl ?_
        exact k_iret C rfl ⟨rfl, rfl⟩ dX11_isOne_51
      · refine k_lload (q := 3) C dX11_isOne_34 rfl ?_
        refine k_lconst (v := 0) C dX11_isOne_36 rfl ?_
        refine k_ldc2 C co_11_203 dX11_isOne_37 ?_
        refine k_cSI C ct_X11_within my_11_within ml_11_106 rfl ⟨Nat.le_of_ble_eq_true rfl, Nat.le_of_ble_eq_true rfl⟩ rfl (Nat.le_of_ble_eq_true rfl) dX11_isOne_40 ⟨Nat.le_refl _, Nat.le_refl _⟩ (fun r4 _ => ?_)
        refine k_if_eq (tgt := 50) C dX11_isOne_43 (by decide) (fun _ => ?_) (fun _ => ?_)
        · refine k_iconst (v := 0) C dX11_isOne_50 rfl ?_
          exact k_iret C rfl ⟨rfl, rfl⟩ dX11_isOne_51
        · refine k_iconst (v := 1) C dX11_isOne_46 rfl ?_
          refine k_goto (tgt := 51) C dX11_isOne_47 (by decide) ?_
          exact k_iret C rfl ⟨rfl, rfl⟩ dX11_isOne_51
theorem ct_X11_isOne {l : Launch} {θ : TH} {ws : va_W}  {a1 : Int64} {a2 : Int64} {a3 : Int64} {a4 : Int64} : ∀ r, f_X11_isOne a1 a2 a3 a4 = some r → Ct l θ yX11_isOne cX11_isOne 8 (some .boolean) 1 0 0 [.long a1, .long a2, .long a3, .long a4] (ws) (PI ws r) :=
  fun r hr => Ct.of (by decide) (Nat.le_of_ble_eq_true rfl) (fun X _ C _ => kw_X11_isOne C r hr)
set_option maxRecDepth 20000 in
theorem kw_X11_adds {X : GX} {θ : TH} {ad : Nat → Nat}  {S : St} {a1 : Int32} {a2 : Int32} {a3 : Int32} {a4 : Int32} (C : CX (mE X θ (wdM θ ad S) 5) RX11 cX11_adds none 0 0 0)  : Dk (mE X θ (wdM θ ad S) 5) (mT X θ (wdM θ ad S) 5 (PVS (wdM θ ad))) 0 0 (wdM θ ad S) [(0, .ref (ad 44)), (1, .int a1), (2, .int a2), (3, .int a3), (4, .int a4)] [] 0 (f_X11_adds S a1 a2 a3 a4) := by
  unfold f_X11_adds
  refine k_aload_n (q := 0) C dX11_adds_0 rfl rfl ?_
  refine m_geta (kf := 23) C mR_23 fl_11_46 dX11_adds_1 ?_
  refine k_aload_n (q := 0) C dX11_adds_4 rfl rfl ?_
  refine m_geti (kf := 22) (v := S.1 22) C mS_22 fl_11_196 rfl dX11_adds_5 ?_
  refine k_iload_n (q := 1) C dX11_adds_8 rfl rfl ?_
  refine m_iast C mA_23 mN_23 dX11_adds_9 ?_
  refine k_aload_n (q := 0) C dX11_adds_10 rfl rfl ?_
  refine m_geta (kf := 0) C mR_0 fl_11_9 dX11_adds_11 ?_
  refine k_bipush (v := 6) C dX11_adds_14 rfl ?_
  refine k_aload_n (q := 0) C dX11_adds_16 rfl rfl ?_
  refine m_geti (kf := 22) (v := S.1 22) C mS_22 fl_11_196 rfl dX11_adds_17 ?_
  refine k_iadd C dX11_adds_20 ?_
  refine k_iload_n (q := 2) C dX11_adds_21 rfl rfl ?_
  refine m_iast C mA_0 mN_0 dX11_adds_22 ?_
  refine k_aload_n (q := 0) C dX11_adds_23 rfl rfl ?_
  refine m_geta (kf := 24) C mR_24 fl_11_49 dX11_adds_24 ?_
  refine k_aload_n (q := 0) C dX11_adds_27 rfl rfl ?_
  refine m_geti (kf := 22) (v := S.1 22) C mS_22 fl_11_196 rfl dX11_adds_28 ?_
  refine k_iload_n (q := 3) C dX11_adds_31 rfl rfl ?_
  refine m_iast C mA_24 mN_24 dX11_adds_32 ?_
  refine k_aload_n (q := 0) C dX11_adds_33 rfl rfl ?_
  refine m_geta (kf := 0) C mR_0 fl_11_9 dX11_adds_34 ?_
  refine k_bipush (v := 18) C dX11_adds_37 rfl ?_
  refine k_aload_n (q := 0) C dX11_adds_39 rfl rfl ?_
  refine m_geti (kf := 22) (v := S.1 22) C mS_22 fl_11_196 rfl dX11_adds_40 ?_
  refine k_iadd C dX11_adds_43 ?_
  refine k_iload (q := 4) C dX11_adds_44 rfl ?_
  refine m_iast C mA_0 mN_0 dX11_adds_46 ?_
  refine k_aload_n (q := 0) C dX11_adds_47 rfl rfl ?_
  refine k_dup C dX11_adds_48 rfl ?_
  refine m_geti (kf := 22) (v := S.1 22) C mS_22 fl_11_196 rfl dX11_adds_49 ?_
  refine k_iconst (v := 1) C dX11_adds_52 rfl ?_
  refine k_iadd C dX11_adds_53 ?_
  refine m_puti (kf := 22) C mS_22 mP_22 fl_11_196 dX11_adds_54 ?_
  exact k_vret C ⟨rfl, rfl⟩ dX11_adds_57
theorem ct_X11_adds {l : Launch} {θ : TH} {ad : Nat → Nat} {S : St}  {a1 : Int32} {a2 : Int32} {a3 : Int32} {a4 : Int32} : ∀ r, f_X11_adds S a1 a2 a3 a4 = some r → Ct l θ yX11_adds cX11_adds 5 none 0 0 0 [.ref (ad 44), .int a1, .int a2, .int a3, .int a4] (wdM θ ad S) (PVS (wdM θ ad) r) :=
  fun r hr => Ct.of (by decide) (Nat.le_of_ble_eq_true rfl) (fun X _ C _ => kw_X11_adds C r hr)
set_option maxRecDepth 20000 in
theorem kw_X11_deed {X : GX} {θ : TH} {ad : Nat → Nat}  {S : St} {a1 : Int32} {a2 : Int32} (C : CX (mE X θ (wdM θ ad S) 3) RX11 cX11_deed (some .int) 2 0 0)  : Dk (mE X θ (wdM θ ad S) 3) (mT X θ (wdM θ ad S) 3 (PIS (wdM θ ad))) 0 0 (wdM θ ad S) [(0, .ref (ad 44)), (1, .int a1), (2, .int a2)] [] 0 (f_X11_deed S a1 a2) := by
  unfold f_X11_deed
  refine k_iload_n (q := 1) C dX11_deed_0 rfl rfl ?_
  refine k_if_lt (tgt := 34) C dX11_deed_1 (by decide) (fun _ => ?_) (fun _ => ?_)
  · refine k_iconst (v := (-1)) C dX11_deed_34 rfl ?_
    exact k_iret C rfl ⟨rfl, rfl⟩ dX11_deed_35
  · refine k_iload_n (q := 2) C dX11_deed_4 rfl rfl ?_
    refine k_if_lt (tgt := 34) C dX11_deed_5 (by decide) (fun _ => ?_) (fun _ => ?_)
    · refine k_iconst (v := (-1)) C dX11_deed_34 rfl ?_
      exact k_iret C rfl ⟨rfl, rfl⟩ dX11_deed_35
    · refine k_iload_n (q := 1) C dX11_deed_8 rfl rfl ?_
      refine k_bipush (v := 100) C dX11_deed_9 rfl ?_
      refine k_idiv C dX11_deed_11 (by decide) ?_
      refine k_i2l C dX11_deed_12 ?_
      refine k_iload_n (q := 1) C dX11_deed_13 rfl rfl ?_
      refine k_bipush (v := 100) C dX11_deed_14 rfl ?_
      refine k_irem C dX11_deed_16 (by decide) ?_
      refine k_i2l C dX11_deed_17 ?_
      refine k_iload_n (q := 2) C dX11_deed_18 rfl rfl ?_
      refine k_bipush (v := 10) C dX11_deed_19 rfl ?_
      refine k_idiv C dX11_deed_21 (by decide) ?_
      refine k_i2l C dX11_deed_22 ?_
      refine k_iload_n (q := 2) C dX11_deed_23 rfl rfl ?_
      refine k_bipush (v := 10) C dX11_deed_24 rfl ?_
      refine k_irem C dX11_deed_26 (by decide) ?_
      refine k_i2l C dX11_deed_27 ?_
      refine k_cSI C ct_X11_isOne my_11_isOne ml_11_205 rfl ⟨Nat.le_of_ble_eq_true rfl, Nat.le_of_ble_eq_true rfl⟩ rfl (Nat.le_of_ble_eq_true rfl) dX11_deed_28 ⟨Nat.le_refl _, Nat.le_refl _⟩ (fun r1 _ => ?_)
      refine k_if_ne (tgt := 36) C dX11_deed_31 (by decide) (fun _ => ?_) (fun _ => ?_)
      · refine k_aload_n (q := 0) C dX11_deed_36 rfl rfl ?_
        refine m_geti (kf := 22) (v := S.1 22) C mS_22 fl_11_196 rfl dX11_deed_37 ?_
        refine k_bipush (v := 12) C dX11_deed_40 rfl ?_
        refine k_icmp_ne (tgt := 48) C dX11_deed_42 (by decide) (fun _ => ?_) (fun _ => ?_)
        · refine k_aload_n (q := 0) C dX11_deed_48 rfl rfl ?_
          refine k_iload_n (q := 1) C dX11_deed_49 rfl rfl ?_
          refine k_bipush (v := 100) C dX11_deed_50 rfl ?_
          refine k_idiv C dX11_deed_52 (by decide) ?_
          refine k_iload_n (q := 1) C dX11_deed_53 rfl rfl ?_
          refine k_bipush (v := 100) C dX11_deed_54 rfl ?_
          refine k_irem C dX11_deed_56 (by decide) ?_
          refine k_iload_n (q := 2) C dX11_deed_57 rfl rfl ?_
          refine k_bipush (v := 10) C dX11_deed_58 rfl ?_
          refine k_idiv C dX11_deed_60 (by decide) ?_
          refine k_iload_n (q := 2) C dX11_deed_61 rfl rfl ?_
          refine k_bipush (v := 10) C dX11_deed_62 rfl ?_
          refine k_irem C dX11_deed_64 (by decide) ?_
          refine k_cVV C ct_X11_adds my_11_adds ml_11_209 rfl ⟨Nat.le_of_ble_eq_true rfl, Nat.le_of_ble_eq_true rfl⟩ recvM rfl (Nat.le_of_ble_eq_true rfl) dX11_deed_65 ⟨Nat.le_refl _, Nat.le_refl _⟩ (fun r2 _ => ?_)
          refine k_aload_n (q := 0) C dX11_deed_68 rfl rfl ?_
          refine m_geti (kf := 22) (v := r2.1 22) C mS_22 fl_11_196 rfl dX11_deed_69 ?_
          refine k_iconst (v := 1) C dX11_deed_72 rfl ?_
          refine k_isub C dX11_deed_73 ?_
          exact k_iret C rfl ⟨rfl, rfl⟩ dX11_deed_74
        · refine k_bipush (v := (-3)) C dX11_deed_45 rfl ?_
          exact k_iret C rfl ⟨rfl, rfl⟩ dX11_deed_47
      · refine k_iconst (v := (-1)) C dX11_deed_34 rfl ?_
        exact k_iret C rfl ⟨rfl, rfl⟩ dX11_deed_35
theorem ct_X11_deed {l : Launch} {θ : TH} {ad : Nat → Nat} {S : St}  {a1 : Int32} {a2 : Int32} : ∀ r, f_X11_deed S a1 a2 = some r → Ct l θ yX11_deed cX11_deed 3 (some .int) 2 0 0 [.ref (ad 44), .int a1, .int a2] (wdM θ ad S) (PIS (wdM θ ad) r) :=
  fun r hr => Ct.of (by decide) (Nat.le_of_ble_eq_true rfl) (fun X _ C _ => kw_X11_deed C r hr)
set_option maxRecDepth 20000 in
theorem kw_X11_isShelf {X : GX} {θ : TH} {ws : va_W}   {a1 : Int32} (C : CX (mE X θ (ws) 1) RX11 cX11_isShelf (some .boolean) 1 0 0)  : Dk (mE X θ (ws) 1) (mT X θ (ws) 1 (PI ws)) 0 0 ws [(0, .int a1)] [] 0 (f_X11_isShelf a1) := by
  unfold f_X11_isShelf
  refine k_iload_n (q := 0) C dX11_isShelf_0 rfl rfl ?_
  refine k_i2l C dX11_isShelf_1 ?_
  refine k_lconst (v := 0) C dX11_isShelf_2 rfl ?_
  refine k_ldc2 C co_11_336 dX11_isShelf_3 ?_
  refine k_cSI C ct_X11_within my_11_within ml_11_106 rfl ⟨Nat.le_of_ble_eq_true rfl, Nat.le_of_ble_eq_true rfl⟩ rfl (Nat.le_of_ble_eq_true rfl) dX11_isShelf_6 ⟨Nat.le_refl _, Nat.le_refl _⟩ (fun r1 _ => ?_)
  exact k_zretc C ⟨rfl, rfl⟩ dX11_isShelf_9
theorem ct_X11_isShelf {l : Launch} {θ : TH} {ws : va_W}  {a1 : Int32} : ∀ r, f_X11_isShelf a1 = some r → Ct l θ yX11_isShelf cX11_isShelf 1 (some .boolean) 1 0 0 [.int a1] (ws) (PI ws r) :=
  fun r hr => Ct.of (by decide) (Nat.le_of_ble_eq_true rfl) (fun X _ C _ => kw_X11_isShelf C r hr)
set_option maxRecDepth 20000 in
theorem kb_X11_deeds_B176 {X : GX} {θ : TH} {ad : Nat → Nat} {S0 : St} {F : Nat} {a1 : Int32} {a2 : Int32} {a3 : Int32} {K69 : St → Int32 → Int32 → Option (Int32 × St)} (C : CX (mE X θ (wdM θ ad S0) 7) RX11 cX11_deeds (some .int) 2 0 0) (hK69 : ∀ (S : St) (x4 : Int32) (x5 : Int32), Dk (mE X θ (wdM θ ad S0) 7) (mT X θ (wdM θ ad S0) 7 (PIS (wdM θ ad))) 0 0 (wdM θ ad S) [(0, .ref (ad 44)), (1, .int a1), (2, .int a2), (3, .int a3), (4, .int x4), (5, .int x5)] [] 69 (K69 S x4 x5)) (S : St) (x4 : Int32) (x6 : Int32) (t0 : Int32) : Dk (mE X θ (wdM θ ad S0) 7) (mT X θ (wdM θ ad S0) 7 (PIS (wdM θ ad))) 0 0 (wdM θ ad S) [(0, .ref (ad 44)), (1, .int a1), (2, .int a2), (3, .int a3), (4, .int x4), (6, .int x6)] [.int t0] 176 (f_X11_deeds_B176 F a1 a2 a3 K69 S x4 x6 t0) := by
  unfold f_X11_deeds_B176
  refine k_istore (lv' := [(5, .int t0), (0, .ref (ad 44)), (1, .int a1), (2, .int a2), (3, .int a3), (4, .int x4), (6, .int x6)]) C dX11_deeds_176 (Nat.le_of_ble_eq_true rfl) rfl ?_
  refine k_iload (q := 0) C dX11_deeds_178 rfl ?_
  refine k_if_eq (tgt := 228) C dX11_deeds_180 (by decide) (fun _ => ?_) (fun _ => ?_)
  · refine k_goto (tgt := 69) C dX11_deeds_228 (by decide) ?_
    refine Dk.loc [1, 2, 3, 4, 5, 0] rfl ?_
    exact hK69 _ _ _
  · refine k_aload_n (q := 1) C dX11_deeds_183 rfl rfl ?_
    refine k_aload_n (q := 1) C dX11_deeds_184 rfl rfl ?_
    refine m_geta (kf := 42) C mR_42 fl_11_86 dX11_deeds_185 ?_
    refine k_iload (q := 6) C dX11_deeds_188 rfl ?_
    refine m_lald (x := S.2.2 42 (x6).toNatClampNeg) C mB_42 mN_42 rfl dX11_deeds_190 ?_
    refine k_l2i C dX11_deeds_191 ?_
    refine k_aload_n (q := 1) C dX11_deeds_192 rfl rfl ?_
    refine m_geta (kf := 42) C mR_42 fl_11_86 dX11_deeds_193 ?_
    refine k_iload (q := 6) C dX11_deeds_196 rfl ?_
    refine k_iconst (v := 1) C dX11_deeds_198 rfl ?_
    refine k_iadd C dX11_deeds_199 ?_
    refine m_lald (x := S.2.2 42 (x6 + 1).toNatClampNeg) C mB_42 mN_42 rfl dX11_deeds_200 ?_
    refine k_l2i C dX11_deeds_201 ?_
    refine k_aload_n (q := 1) C dX11_deeds_202 rfl rfl ?_
    refine m_geta (kf := 42) C mR_42 fl_11_86 dX11_deeds_203 ?_
    refine k_iload (q := 6) C dX11_deeds_206 rfl ?_
    refine k_iconst (v := 2) C dX11_deeds_208 rfl ?_
    refine k_iadd C dX11_deeds_209 ?_
    refine m_lald (x := S.2.2 42 (x6 + 2).toNatClampNeg) C mB_42 mN_42 rfl dX11_deeds_210 ?_
    refine k_l2i C dX11_deeds_211 ?_
    refine k_aload_n (q := 1) C dX11_deeds_212 rfl rfl ?_
    refine m_geta (kf := 42) C mR_42 fl_11_86 dX11_deeds_213 ?_
    refine k_iload (q := 6) C dX11_deeds_216 rfl ?_
    refine k_iconst (v := 3) C dX11_deeds_218 rfl ?_
    refine k_iadd C dX11_deeds_219 ?_
    refine m_lald (x := S.2.2 42 (x6 + 3).toNatClampNeg) C mB_42 mN_42 rfl dX11_deeds_220 ?_
    refine k_l2i C dX11_deeds_221 ?_
    refine k_cVV C ct_X11_adds my_11_adds ml_11_209 rfl ⟨Nat.le_of_ble_eq_true rfl, Nat.le_of_ble_eq_true rfl⟩ recvM rfl (Nat.le_of_ble_eq_true rfl) dX11_deeds_222 ⟨Nat.le_refl _, Nat.le_refl _⟩ (fun r5 _ => ?_)
    refine k_iinc (q := 5) (v := x4 + 1) (lv' := [(4, .int (x4 + 1)), (5, .int t0), (0, .ref (ad 44)), (1, .int a1), (2, .int a2), (3, .int a3), (6, .int x6)]) C dX11_deeds_225 rfl rfl (Nat.le_of_ble_eq_true rfl) rfl ?_
    refine k_goto (tgt := 69) C dX11_deeds_228 (by decide) ?_
    refine Dk.loc [2, 3, 4, 5, 0, 1] rfl ?_
    exact hK69 _ _ _
set_option maxRecDepth 20000 in
theorem kb_X11_deeds_B175 {X : GX} {θ : TH} {ad : Nat → Nat} {S0 : St} {F : Nat} {a1 : Int32} {a2 : Int32} {a3 : Int32} {K69 : St → Int32 → Int32 → Option (Int32 × St)} (C : CX (mE X θ (wdM θ ad S0) 7) RX11 cX11_deeds (some .int) 2 0 0) (hK69 : ∀ (S : St) (x4 : Int32) (x5 : Int32), Dk (mE X θ (wdM θ ad S0) 7) (mT X θ (wdM θ ad S0) 7 (PIS (wdM θ ad))) 0 0 (wdM θ ad S) [(0, .ref (ad 44)), (1, .int a1), (2, .int a2), (3, .int a3), (4, .int x4), (5, .int x5)] [] 69 (K69 S x4 x5)) (S : St) (x4 : Int32) (x6 : Int32) : Dk (mE X θ (wdM θ ad S0) 7) (mT X θ (wdM θ ad S0) 7 (PIS (wdM θ ad))) 0 0 (wdM θ ad S) [(0, .ref (ad 44)), (1, .int a1), (2, .int a2), (3, .int a3), (4, .int x4), (6, .int x6)] [] 175 (f_X11_deeds_B175 F a1 a2 a3 K69 S x4 x6) := by
  unfold f_X11_deeds_B175
  refine k_iconst (v := 0) C dX11_deeds_175 rfl ?_
  exact kb_X11_deeds_B176 C hK69 _ _ _ _
set_option maxRecDepth 20000 in
theorem kb_X11_deeds_B111 {X : GX} {θ : TH} {ad : Nat → Nat} {S0 : St} {F : Nat} {a1 : Int32} {a2 : Int32} {a3 : Int32} {K69 : St → Int32 → Int32 → Option (Int32 × St)} (C : CX (mE X θ (wdM θ ad S0) 7) RX11 cX11_deeds (some .int) 2 0 0) (hK69 : ∀ (S : St) (x4 : Int32) (x5 : Int32), Dk (mE X θ (wdM θ ad S0) 7) (mT X θ (wdM θ ad S0) 7 (PIS (wdM θ ad))) 0 0 (wdM θ ad S) [(0, .ref (ad 44)), (1, .int a1), (2, .int a2), (3, .int a3), (4, .int x4), (5, .int x5)] [] 69 (K69 S x4 x5)) (S : St) (x4 : Int32) (t0 : Int32) : Dk (mE X θ (wdM θ ad S0) 7) (mT X θ (wdM θ ad S0) 7 (PIS (wdM θ ad))) 0 0 (wdM θ ad S) [(0, .ref (ad 44)), (1, .int a1), (2, .int a2), (3, .int a3), (4, .int x4)] [.int t0] 111 (f_X11_deeds_B111 F a1 a2 a3 K69 S x4 t0) := by
  unfold f_X11_deeds_B111
  refine k_istore (lv' := [(5, .int t0), (0, .ref (ad 44)), (1, .int a1), (2, .int a2), (3, .int a3), (4, .int x4)]) C dX11_deeds_111 (Nat.le_of_ble_eq_true rfl) rfl ?_
  refine k_bipush (v := 60) C dX11_deeds_113 rfl ?_
  refine k_iload_n (q := 2) C dX11_deeds_115 rfl rfl ?_
  refine k_imul C dX11_deeds_116 ?_
  refine k_iload_n (q := 3) C dX11_deeds_117 rfl rfl ?_
  refine k_iadd C dX11_deeds_118 ?_
  refine k_iconst (v := 4) C dX11_deeds_119 rfl ?_
  refine k_iload (q := 5) C dX11_deeds_120 rfl ?_
  refine k_imul C dX11_deeds_122 ?_
  refine k_iadd C dX11_deeds_123 ?_
  refine k_lti fun y3 => ?_
  refine k_istore (lv' := [(6, .int y3), (5, .int t0), (0, .ref (ad 44)), (1, .int a1), (2, .int a2), (3, .int a3), (4, .int x4)]) C dX11_deeds_124 (Nat.le_of_ble_eq_true rfl) rfl ?_
  refine k_iload (q := 1) C dX11_deeds_126 rfl ?_
  refine k_if_eq (tgt := 175) C dX11_deeds_128 (by decide) (fun _ => ?_) (fun _ => ?_)
  · refine Dk.loc [2, 3, 4, 5, 6, 0] rfl ?_
    exact kb_X11_deeds_B175 C hK69 _ _ _
  · refine k_aload_n (q := 2) C dX11_deeds_131 rfl rfl ?_
    refine m_geta (kf := 42) C mR_42 fl_11_86 dX11_deeds_132 ?_
    refine k_iload (q := 0) C dX11_deeds_135 rfl ?_
    refine m_lald (x := S.2.2 42 (y3).toNatClampNeg) C mB_42 mN_42 rfl dX11_deeds_137 ?_
    refine k_aload_n (q := 2) C dX11_deeds_138 rfl rfl ?_
    refine m_geta (kf := 42) C mR_42 fl_11_86 dX11_deeds_139 ?_
    refine k_iload (q := 0) C dX11_deeds_142 rfl ?_
    refine k_iconst (v := 1) C dX11_deeds_144 rfl ?_
    refine k_iadd C dX11_deeds_145 ?_
    refine m_lald (x := S.2.2 42 (y3 + 1).toNatClampNeg) C mB_42 mN_42 rfl dX11_deeds_146 ?_
    refine k_aload_n (q := 2) C dX11_deeds_147 rfl rfl ?_
    refine m_geta (kf := 42) C mR_42 fl_11_86 dX11_deeds_148 ?_
    refine k_iload (q := 0) C dX11_deeds_151 rfl ?_
    refine k_iconst (v := 2) C dX11_deeds_153 rfl ?_
    refine k_iadd C dX11_deeds_154 ?_
    refine m_lald (x := S.2.2 42 (y3 + 2).toNatClampNeg) C mB_42 mN_42 rfl dX11_deeds_155 ?_
    refine k_aload_n (q := 2) C dX11_deeds_156 rfl rfl ?_
    refine m_geta (kf := 42) C mR_42 fl_11_86 dX11_deeds_157 ?_
    refine k_iload (q := 0) C dX11_deeds_160 rfl ?_
    refine k_iconst (v := 3) C dX11_deeds_162 rfl ?_
    refine k_iadd C dX11_deeds_163 ?_
    refine m_lald (x := S.2.2 42 (y3 + 3).toNatClampNeg) C mB_42 mN_42 rfl dX11_deeds_164 ?_
    refine k_cSI C ct_X11_isOne my_11_isOne ml_11_205 rfl ⟨Nat.le_of_ble_eq_true rfl, Nat.le_of_ble_eq_true rfl⟩ rfl (Nat.le_of_ble_eq_true rfl) dX11_deeds_165 ⟨Nat.le_refl _, Nat.le_refl _⟩ (fun r4 _ => ?_)
    refine k_if_eq (tgt := 175) C dX11_deeds_168 (by decide) (fun _ => ?_) (fun _ => ?_)
    · refine Dk.loc [2, 3, 4, 5, 6, 0] rfl ?_
      exact kb_X11_deeds_B175 C hK69 _ _ _
    · refine k_iconst (v := 1) C dX11_deeds_171 rfl ?_
      refine k_goto (tgt := 176) C dX11_deeds_172 (by decide) ?_
      refine Dk.loc [2, 3, 4, 5, 6, 0] rfl ?_
      exact kb_X11_deeds_B176 C hK69 _ _ _ _
set_option maxRecDepth 20000 in
theorem kb_X11_deeds_B110 {X : GX} {θ : TH} {ad : Nat → Nat} {S0 : St} {F : Nat} {a1 : Int32} {a2 : Int32} {a3 : Int32} {K69 : St → Int32 → Int32 → Option (Int32 × St)} (C : CX (mE X θ (wdM θ ad S0) 7) RX11 cX11_deeds (some .int) 2 0 0) (hK69 : ∀ (S : St) (x4 : Int32) (x5 : Int32), Dk (mE X θ (wdM θ ad S0) 7) (mT X θ (wdM θ ad S0) 7 (PIS (wdM θ ad))) 0 0 (wdM θ ad S) [(0, .ref (ad 44)), (1, .int a1), (2, .int a2), (3, .int a3), (4, .int x4), (5, .int x5)] [] 69 (K69 S x4 x5)) (S : St) (x4 : Int32) : Dk (mE X θ (wdM θ ad S0) 7) (mT X θ (wdM θ ad S0) 7 (PIS (wdM θ ad))) 0 0 (wdM θ ad S) [(0, .ref (ad 44)), (1, .int a1), (2, .int a2), (3, .int a3), (4, .int x4)] [] 110 (f_X11_deeds_B110 F a1 a2 a3 K69 S x4) := by
  unfold f_X11_deeds_B110
  refine k_iconst (v := 0) C dX11_deeds_110 rfl ?_
  exact kb_X11_deeds_B111 C hK69 _ _ _
set_option maxRecDepth 20000 in
theorem kb_X11_deeds_L69 {X : GX} {θ : TH} {ad : Nat → Nat} {S0 : St} {F : Nat} {a1 : Int32} {a2 : Int32} {a3 : Int32} (C : CX (mE X θ (wdM θ ad S0) 7) RX11 cX11_deeds (some .int) 2 0 0)  : ∀ (n : Nat) (S : St) (x4 : Int32) (x5 : Int32), Dk (mE X θ (wdM θ ad S0) 7) (mT X θ (wdM θ ad S0) 7 (PIS (wdM θ ad))) 0 0 (wdM θ ad S) [(0, .ref (ad 44)), (1, .int a1), (2, .int a2), (3, .int a3), (4, .int x4), (5, .int x5)] [] 69 (f_X11_deeds_L69 F a1 a2 a3 n S x4 x5) := by
  intro n
  induction n with
  | zero => intro S x4 x5; exact Dk.none
  | succ n ih =>
    intro S x4 x5
    show Dk _ _ _ _ _ _ _ _ (if x5 = 0 then some (x4, S) else if a3 ≤ x4 then some (x4, S) else chk (inr a1 6) ((if (((S.2.1 41 (a1).toNatClampNeg) - 4) - (4 * x4)) < a2 then f_X11_deeds_B110 F a1 a2 a3 (f_X11_deeds_L69 F a1 a2 a3 n) S x4 else if (12 : Int32) ≤ (S.1 22) then f_X11_deeds_B110 F a1 a2 a3 (f_X11_deeds_L69 F a1 a2 a3 n) S x4 else f_X11_deeds_B111 F a1 a2 a3 (f_X11_deeds_L69 F a1 a2 a3 n) S x4 1)))
    refine k_iload (q := 5) C dX11_deeds_69 rfl ?_
    refine k_if_eq (tgt := 231) C dX11_deeds_71 (by decide) (fun _ => ?_) (fun _ => ?_)
    · refine k_iload (q := 4) C dX11_deeds_231 rfl ?_
      exact k_iret C rfl ⟨rfl, rfl⟩ dX11_deeds_233
    · refine k_iload (q := 4) C dX11_deeds_74 rfl ?_
      refine k_iload_n (q := 3) C dX11_deeds_76 rfl rfl ?_
      refine k_icmp_ge (tgt := 231) C dX11_deeds_77 (by decide) (fun _ => ?_) (fun _ => ?_)
      · refine k_iload (q := 4) C dX11_deeds_231 rfl ?_
        exact k_iret C rfl ⟨rfl, rfl⟩ dX11_deeds_233
      · refine k_iload_n (q := 2) C dX11_deeds_80 rfl rfl ?_
        refine k_aload_n (q := 0) C dX11_deeds_81 rfl rfl ?_
        refine m_geta (kf := 41) C mR_41 fl_11_83 dX11_deeds_82 ?_
        refine k_iload_n (q := 1) C dX11_deeds_85 rfl rfl ?_
        refine m_iald (x := S.2.1 41 (a1).toNatClampNeg) C mA_41 mN_41 rfl dX11_deeds_86 ?_
        refine k_iconst (v := 4) C dX11_deeds_87 rfl ?_
        refine k_isub C dX11_deeds_88 ?_
        refine k_iconst (v := 4) C dX11_deeds_89 rfl ?_
        refine k_iload (q := 4) C dX11_deeds_90 rfl ?_
        refine k_imul C dX11_deeds_92 ?_
        refine k_isub C dX11_deeds_93 ?_
        refine k_icmp_gt (tgt := 110) C dX11_deeds_94 (by decide) (fun _ => ?_) (fun _ => ?_)
        · refine Dk.loc [0, 1, 2, 3, 4] rfl ?_
          exact kb_X11_deeds_B110 C ih _ _
        · refine k_aload_n (q := 0) C dX11_deeds_97 rfl rfl ?_
          refine m_geti (kf := 22) (v := S.1 22) C mS_22 fl_11_196 rfl dX11_deeds_98 ?_
          refine k_bipush (v := 12) C dX11_deeds_101 rfl ?_
          refine k_icmp_ge (tgt := 110) C dX11_deeds_103 (by decide) (fun _ => ?_) (fun _ => ?_)
          · refine Dk.loc [0, 1, 2, 3, 4] rfl ?_
            exact kb_X11_deeds_B110 C ih _ _
          · refine k_iconst (v := 1) C dX11_deeds_106 rfl ?_
            refine k_goto (tgt := 111) C dX11_deeds_107 (by decide) ?_
            refine Dk.loc [0, 1, 2, 3, 4] rfl ?_
            exact kb_X11_deeds_B111 C ih _ _ _
set_option maxRecDepth 20000 in
theorem kb_X11_deeds_B44 {X : GX} {θ : TH} {ad : Nat → Nat} {S0 : St} {F : Nat} {a1 : Int32} {a2 : Int32} {a3 : Int32} (C : CX (mE X θ (wdM θ ad S0) 7) RX11 cX11_deeds (some .int) 2 0 0)  (S : St) : Dk (mE X θ (wdM θ ad S0) 7) (mT X θ (wdM θ ad S0) 7 (PIS (wdM θ ad))) 0 0 (wdM θ ad S) [(0, .ref (ad 44)), (1, .int a1), (2, .int a2), (3, .int a3)] [] 44 (f_X11_deeds_B44 F a1 a2 a3 S) := by
  unfold f_X11_deeds_B44
  refine k_iconst (v := 0) C dX11_deeds_44 rfl ?_
  refine k_istore (lv' := [(4, .int 0), (0, .ref (ad 44)), (1, .int a1), (2, .int a2), (3, .int a3)]) C dX11_deeds_45 (Nat.le_of_ble_eq_true rfl) rfl ?_
  refine k_aload_n (q := 1) C dX11_deeds_47 rfl rfl ?_
  refine m_geta (kf := 40) C mR_40 fl_11_80 dX11_deeds_48 ?_
  refine k_iload_n (q := 2) C dX11_deeds_51 rfl rfl ?_
  refine m_iald (x := S.2.1 40 (a1).toNatClampNeg) C mA_40 mN_40 rfl dX11_deeds_52 ?_
  refine k_bipush (v := 50) C dX11_deeds_53 rfl ?_
  refine k_icmp_ne (tgt := 66) C dX11_deeds_55 (by decide) (fun _ => ?_) (fun _ => ?_)
  · refine k_iconst (v := 0) C dX11_deeds_66 rfl ?_
    refine k_istore (lv' := [(5, .int 0), (4, .int 0), (0, .ref (ad 44)), (1, .int a1), (2, .int a2), (3, .int a3)]) C dX11_deeds_67 (Nat.le_of_ble_eq_true rfl) rfl ?_
    refine Dk.loc [2, 3, 4, 5, 1, 0] rfl ?_
    exact kb_X11_deeds_L69 C _ _ _ _
  · refine k_iload_n (q := 3) C dX11_deeds_58 rfl rfl ?_
    refine k_if_lt (tgt := 66) C dX11_deeds_59 (by decide) (fun _ => ?_) (fun _ => ?_)
    · refine k_iconst (v := 0) C dX11_deeds_66 rfl ?_
      refine k_istore (lv' := [(5, .int 0), (4, .int 0), (0, .ref (ad 44)), (1, .int a1), (2, .int a2), (3, .int a3)]) C dX11_deeds_67 (Nat.le_of_ble_eq_true rfl) rfl ?_
      refine Dk.loc [2, 3, 4, 5, 1, 0] rfl ?_
      exact kb_X11_deeds_L69 C _ _ _ _
    · refine k_iconst (v := 1) C dX11_deeds_62 rfl ?_
      refine k_goto (tgt := 67) C dX11_deeds_63 (by decide) ?_
      refine k_istore (lv' := [(5, .int 1), (4, .int 0), (0, .ref (ad 44)), (1, .int a1), (2, .int a2), (3, .int a3)]) C dX11_deeds_67 (Nat.le_of_ble_eq_true rfl) rfl ?_
      refine Dk.loc [2, 3, 4, 5, 1, 0] rfl ?_
      exact kb_X11_deeds_L69 C _ _ _ _
set_option maxRecDepth 20000 in
theorem kw_X11_deeds {X : GX} {θ : TH} {ad : Nat → Nat} {F : Nat} {S : St} {a1 : Int32} {a2 : Int32} {a3 : Int32} (C : CX (mE X θ (wdM θ ad S) 7) RX11 cX11_deeds (some .int) 2 0 0)  : Dk (mE X θ (wdM θ ad S) 7) (mT X θ (wdM θ ad S) 7 (PIS (wdM θ ad))) 0 0 (wdM θ ad S) [(0, .ref (ad 44)), (1, .int a1), (2, .int a2), (3, .int a3)] [] 0 (f_X11_deeds F S a1 a2 a3) := by
  unfold f_X11_deeds
  refine k_iload_n (q := 1) C dX11_deeds_0 rfl rfl ?_
  refine k_cSI C ct_X11_isShelf my_11_isShelf ml_11_213 rfl ⟨Nat.le_of_ble_eq_true rfl, Nat.le_of_ble_eq_true rfl⟩ rfl (Nat.le_of_ble_eq_true rfl) dX11_deeds_1 ⟨Nat.le_refl _, Nat.le_refl _⟩ (fun r1 _ => ?_)
  refine k_if_eq (tgt := 19) C dX11_deeds_4 (by decide) (fun _ => ?_) (fun _ => ?_)
  · refine k_iconst (v := (-1)) C dX11_deeds_19 rfl ?_
    exact k_iret C rfl ⟨rfl, rfl⟩ dX11_deeds_20
  · refine k_iload_n (q := 3) C dX11_deeds_7 rfl rfl ?_
    refine k_i2l C dX11_deeds_8 ?_
    refine k_lconst (v := 1) C dX11_deeds_9 rfl ?_
    refine k_ldc2 C co_11_216 dX11_deeds_10 ?_
    refine k_cSI C ct_X11_within my_11_within ml_11_106 rfl ⟨Nat.le_of_ble_eq_true rfl, Nat.le_of_ble_eq_true rfl⟩ rfl (Nat.le_of_ble_eq_true rfl) dX11_deeds_13 ⟨Nat.le_refl _, Nat.le_refl _⟩ (fun r2 _ => ?_)
    refine k_if_ne (tgt := 21) C dX11_deeds_16 (by decide) (fun _ => ?_) (fun _ => ?_)
    · refine k_aload_n (q := 0) C dX11_deeds_21 rfl rfl ?_
      refine m_geta (kf := 40) C mR_40 fl_11_80 dX11_deeds_22 ?_
      refine k_iload_n (q := 1) C dX11_deeds_25 rfl rfl ?_
      refine m_iald (x := S.2.1 40 (a1).toNatClampNeg) C mA_40 mN_40 rfl dX11_deeds_26 ?_
      refine k_if_lt (tgt := 44) C dX11_deeds_27 (by decide) (fun _ => ?_) (fun _ => ?_)
      · exact kb_X11_deeds_B44 C _
      · refine k_aload_n (q := 0) C dX11_deeds_30 rfl rfl ?_
        refine m_geta (kf := 40) C mR_40 fl_11_80 dX11_deeds_31 ?_
        refine k_iload_n (q := 1) C dX11_deeds_34 rfl rfl ?_
        refine m_iald (x := S.2.1 40 (a1).toNatClampNeg) C mA_40 mN_40 rfl dX11_deeds_35 ?_
        refine k_bipush (v := 50) C dX11_deeds_36 rfl ?_
        refine k_icmp_eq (tgt := 44) C dX11_deeds_38 (by decide) (fun _ => ?_) (fun _ => ?_)
        · exact kb_X11_deeds_B44 C _
        · refine k_bipush (v := (-12)) C dX11_deeds_41 rfl ?_
          exact k_iret C rfl ⟨rfl, rfl⟩ dX11_deeds_43
    · refine k_iconst (v := (-1)) C dX11_deeds_19 rfl ?_
      exact k_iret C rfl ⟨rfl, rfl⟩ dX11_deeds_20
theorem ct_X11_deeds {l : Launch} {θ : TH} {ad : Nat → Nat} {S : St} {F : Nat} {a1 : Int32} {a2 : Int32} {a3 : Int32} : ∀ r, f_X11_deeds F S a1 a2 a3 = some r → Ct l θ yX11_deeds cX11_deeds 7 (some .int) 2 0 0 [.ref (ad 44), .int a1, .int a2, .int a3] (wdM θ ad S) (PIS (wdM θ ad) r) :=
  fun r hr => Ct.of (by decide) (Nat.le_of_ble_eq_true rfl) (fun X _ C _ => kw_X11_deeds C r hr)
set_option maxRecDepth 20000 in
theorem kw_X11_of {X : GX} {θ : TH} {ad : Nat → Nat}  {S : St} {a1 : Int32} {a2 : Int32} (C : CX (mE X θ (wdM θ ad S) 3) RX11 cX11_of (some .int) 2 0 0)  : Dk (mE X θ (wdM θ ad S) 3) (mT X θ (wdM θ ad S) 3 (PI (wdM θ ad S))) 0 0 (wdM θ ad S) [(0, .ref (ad 44)), (1, .int a1), (2, .int a2)] [] 0 (f_X11_of S a1 a2) := by
  unfold f_X11_of
  refine k_aload_n (q := 0) C dX11_of_0 rfl rfl ?_
  refine k_iload_n (q := 1) C dX11_of_1 rfl rfl ?_
  refine k_cVI C ct_X11_isDeed my_11_isDeed ml_11_218 rfl ⟨Nat.le_of_ble_eq_true rfl, Nat.le_of_ble_eq_true rfl⟩ recvM rfl (Nat.le_of_ble_eq_true rfl) dX11_of_2 ⟨Nat.le_refl _, Nat.le_refl _⟩ (fun r1 _ => ?_)
  refine k_if_ne (tgt := 10) C dX11_of_5 (by decide) (fun _ => ?_) (fun _ => ?_)
  · refine k_iload_n (q := 2) C dX11_of_10 rfl rfl ?_
    refine k_case (c := 0) (fun q1 => ?_) (fun q1 => ?_)
    · refine k_tableIn (off := 29) (tgt := 40) C dX11_of_11 (by rw [q1]; decide) (by rw [q1]; decide) (by rw [q1]; rfl) (by decide) ?_
      refine k_aload_n (q := 0) C dX11_of_40 rfl rfl ?_
      refine m_geta (kf := 23) C mR_23 fl_11_46 dX11_of_41 ?_
      refine k_iload_n (q := 1) C dX11_of_44 rfl rfl ?_
      refine m_iald (x := S.2.1 23 (a1).toNatClampNeg) C mA_23 mN_23 rfl dX11_of_45 ?_
      exact k_iret C rfl ⟨rfl, rfl⟩ dX11_of_46
    refine k_case (c := 1) (fun q2 => ?_) (fun q2 => ?_)
    · refine k_tableIn (off := 36) (tgt := 47) C dX11_of_11 (by rw [q2]; decide) (by rw [q2]; decide) (by rw [q2]; rfl) (by decide) ?_
      refine k_aload_n (q := 0) C dX11_of_47 rfl rfl ?_
      refine m_geta (kf := 0) C mR_0 fl_11_9 dX11_of_48 ?_
      refine k_bipush (v := 6) C dX11_of_51 rfl ?_
      refine k_iload_n (q := 1) C dX11_of_53 rfl rfl ?_
      refine k_iadd C dX11_of_54 ?_
      refine m_iald (x := S.2.1 0 (6 + a1).toNatClampNeg) C mA_0 mN_0 rfl dX11_of_55 ?_
      exact k_iret C rfl ⟨rfl, rfl⟩ dX11_of_56
    refine k_case (c := 2) (fun q3 => ?_) (fun q3 => ?_)
    · refine k_tableIn (off := 46) (tgt := 57) C dX11_of_11 (by rw [q3]; decide) (by rw [q3]; decide) (by rw [q3]; rfl) (by decide) ?_
      refine k_aload_n (q := 0) C dX11_of_57 rfl rfl ?_
      refine m_geta (kf := 24) C mR_24 fl_11_49 dX11_of_58 ?_
      refine k_iload_n (q := 1) C dX11_of_61 rfl rfl ?_
      refine m_iald (x := S.2.1 24 (a1).toNatClampNeg) C mA_24 mN_24 rfl dX11_of_62 ?_
      exact k_iret C rfl ⟨rfl, rfl⟩ dX11_of_63
    refine k_case (c := 3) (fun q4 => ?_) (fun q4 => ?_)
    · refine k_tableIn (off := 53) (tgt := 64) C dX11_of_11 (by rw [q4]; decide) (by rw [q4]; decide) (by rw [q4]; rfl) (by decide) ?_
      refine k_aload_n (q := 0) C dX11_of_64 rfl rfl ?_
      refine m_geta (kf := 0) C mR_0 fl_11_9 dX11_of_65 ?_
      refine k_bipush (v := 18) C dX11_of_68 rfl ?_
      refine k_iload_n (q := 1) C dX11_of_70 rfl rfl ?_
      refine k_iadd C dX11_of_71 ?_
      refine m_iald (x := S.2.1 0 (18 + a1).toNatClampNeg) C mA_0 mN_0 rfl dX11_of_72 ?_
      exact k_iret C rfl ⟨rfl, rfl⟩ dX11_of_73
    refine k_tableOut (tgt := 74) C dX11_of_11 (by have zq1 := i32ne q1 (z := 0) rfl; have zq2 := i32ne q2 (z := 1) rfl; have zq3 := i32ne q3 (z := 2) rfl; have zq4 := i32ne q4 (z := 3) rfl; omega) (by decide) ?_
    refine k_iconst (v := (-1)) C dX11_of_74 rfl ?_
    exact k_iret C rfl ⟨rfl, rfl⟩ dX11_of_75
  · refine k_iconst (v := (-1)) C dX11_of_8 rfl ?_
    exact k_iret C rfl ⟨rfl, rfl⟩ dX11_of_9
theorem ct_X11_of {l : Launch} {θ : TH} {ad : Nat → Nat} {S : St}  {a1 : Int32} {a2 : Int32} : ∀ r, f_X11_of S a1 a2 = some r → Ct l θ yX11_of cX11_of 3 (some .int) 2 0 0 [.ref (ad 44), .int a1, .int a2] (wdM θ ad S) (PI (wdM θ ad S) r) :=
  fun r hr => Ct.of (by decide) (Nat.le_of_ble_eq_true rfl) (fun X _ C _ => kw_X11_of C r hr)
set_option maxRecDepth 20000 in
theorem kw_X11_mend {X : GX} {θ : TH} {ad : Nat → Nat} {F : Nat} {S : St} {a1 : Int32} {a2 : Int32} {a3 : Int32} (C : CX (mE X θ (wdM θ ad S) 4) RX11 cX11_mend (some .int) 2 0 0)  : Dk (mE X θ (wdM θ ad S) 4) (mT X θ (wdM θ ad S) 4 (PIS (wdM θ ad))) 0 0 (wdM θ ad S) [(0, .ref (ad 44)), (1, .int a1), (2, .int a2), (3, .int a3)] [] 0 (f_X11_mend F S a1 a2 a3) := by
  unfold f_X11_mend
  refine k_iload_n (q := 2) C dX11_mend_0 rfl rfl ?_
  refine k_case (c := 0) (fun q1 => ?_) (fun q1 => ?_)
  · refine k_tableIn (off := 31) (tgt := 32) C dX11_mend_1 (by rw [q1]; decide) (by rw [q1]; decide) (by rw [q1]; rfl) (by decide) ?_
    refine k_aload_n (q := 0) C dX11_mend_32 rfl rfl ?_
    refine k_iload_n (q := 1) C dX11_mend_33 rfl rfl ?_
    refine k_cVI C ct_X11_isMoon my_11_isMoon ml_11_123 rfl ⟨Nat.le_of_ble_eq_true rfl, Nat.le_of_ble_eq_true rfl⟩ recvM rfl (Nat.le_of_ble_eq_true rfl) dX11_mend_34 ⟨Nat.le_refl _, Nat.le_refl _⟩ (fun r1 _ => ?_)
    refine k_if_eq (tgt := 65) C dX11_mend_37 (by decide) (fun _ => ?_) (fun _ => ?_)
    · refine k_iconst (v := (-1)) C dX11_mend_65 rfl ?_
      exact k_iret C rfl ⟨rfl, rfl⟩ dX11_mend_66
    · refine k_iload_n (q := 3) C dX11_mend_40 rfl rfl ?_
      refine k_i2l C dX11_mend_41 ?_
      refine k_lconst (v := 0) C dX11_mend_42 rfl ?_
      refine k_aload_n (q := 0) C dX11_mend_43 rfl rfl ?_
      refine m_geta (kf := 7) C mR_7 fl_11_22 dX11_mend_44 ?_
      refine k_iload_n (q := 1) C dX11_mend_47 rfl rfl ?_
      refine m_iald (x := S.2.1 7 (a1).toNatClampNeg) C mA_7 mN_7 rfl dX11_mend_48 ?_
      refine k_i2l C dX11_mend_49 ?_
      refine k_cSI C ct_X11_within my_11_within ml_11_106 rfl ⟨Nat.le_of_ble_eq_true rfl, Nat.le_of_ble_eq_true rfl⟩ rfl (Nat.le_of_ble_eq_true rfl) dX11_mend_50 ⟨Nat.le_refl _, Nat.le_refl _⟩ (fun r2 _ => ?_)
      refine k_if_eq (tgt := 65) C dX11_mend_53 (by decide) (fun _ => ?_) (fun _ => ?_)
      · refine k_iconst (v := (-1)) C dX11_mend_65 rfl ?_
        exact k_iret C rfl ⟨rfl, rfl⟩ dX11_mend_66
      · refine k_aload_n (q := 0) C dX11_mend_56 rfl rfl ?_
        refine k_iload_n (q := 1) C dX11_mend_57 rfl rfl ?_
        refine k_iload_n (q := 3) C dX11_mend_58 rfl rfl ?_
        refine k_cVI C ct_X11_becomes my_11_becomes ml_11_221 rfl ⟨Nat.le_of_ble_eq_true rfl, Nat.le_of_ble_eq_true rfl⟩ recvM rfl (Nat.le_of_ble_eq_true rfl) dX11_mend_59 ⟨Nat.le_refl _, Nat.le_refl _⟩ (fun r3 _ => ?_)
        refine k_goto (tgt := 66) C dX11_mend_62 (by decide) ?_
        exact k_iret C rfl ⟨rfl, rfl⟩ dX11_mend_66
  refine k_case (c := 1) (fun q2 => ?_) (fun q2 => ?_)
  · refine k_tableIn (off := 66) (tgt := 67) C dX11_mend_1 (by rw [q2]; decide) (by rw [q2]; decide) (by rw [q2]; rfl) (by decide) ?_
    refine k_aload_n (q := 0) C dX11_mend_67 rfl rfl ?_
    refine k_iload_n (q := 1) C dX11_mend_68 rfl rfl ?_
    refine k_cVI C ct_X11_isMoon my_11_isMoon ml_11_123 rfl ⟨Nat.le_of_ble_eq_true rfl, Nat.le_of_ble_eq_true rfl⟩ recvM rfl (Nat.le_of_ble_eq_true rfl) dX11_mend_69 ⟨Nat.le_refl _, Nat.le_refl _⟩ (fun r4 _ => ?_)
    refine k_if_eq (tgt := 104) C dX11_mend_72 (by decide) (fun _ => ?_) (fun _ => ?_)
    · refine k_iconst (v := (-1)) C dX11_mend_104 rfl ?_
      exact k_iret C rfl ⟨rfl, rfl⟩ dX11_mend_105
    · refine k_iload_n (q := 3) C dX11_mend_75 rfl rfl ?_
      refine k_i2l C dX11_mend_76 ?_
      refine k_lconst (v := 0) C dX11_mend_77 rfl ?_
      refine k_aload_n (q := 0) C dX11_mend_78 rfl rfl ?_
      refine m_geta (kf := 7) C mR_7 fl_11_22 dX11_mend_79 ?_
      refine k_iload_n (q := 1) C dX11_mend_82 rfl rfl ?_
      refine m_iald (x := S.2.1 7 (a1).toNatClampNeg) C mA_7 mN_7 rfl dX11_mend_83 ?_
      refine k_iconst (v := 1) C dX11_mend_84 rfl ?_
      refine k_isub C dX11_mend_85 ?_
      refine k_i2l C dX11_mend_86 ?_
      refine k_cSI C ct_X11_within my_11_within ml_11_106 rfl ⟨Nat.le_of_ble_eq_true rfl, Nat.le_of_ble_eq_true rfl⟩ rfl (Nat.le_of_ble_eq_true rfl) dX11_mend_87 ⟨Nat.le_refl _, Nat.le_refl _⟩ (fun r5 _ => ?_)
      refine k_if_eq (tgt := 104) C dX11_mend_90 (by decide) (fun _ => ?_) (fun _ => ?_)
      · refine k_iconst (v := (-1)) C dX11_mend_104 rfl ?_
        exact k_iret C rfl ⟨rfl, rfl⟩ dX11_mend_105
      · refine k_aload_n (q := 0) C dX11_mend_93 rfl rfl ?_
        refine k_iconst (v := 3) C dX11_mend_94 rfl ?_
        refine k_iload_n (q := 1) C dX11_mend_95 rfl rfl ?_
        refine k_iadd C dX11_mend_96 ?_
        refine k_iload_n (q := 3) C dX11_mend_97 rfl rfl ?_
        refine k_cVI C ct_X11_becomes my_11_becomes ml_11_221 rfl ⟨Nat.le_of_ble_eq_true rfl, Nat.le_of_ble_eq_true rfl⟩ recvM rfl (Nat.le_of_ble_eq_true rfl) dX11_mend_98 ⟨Nat.le_refl _, Nat.le_refl _⟩ (fun r6 _ => ?_)
        refine k_goto (tgt := 105) C dX11_mend_101 (by decide) ?_
        exact k_iret C rfl ⟨rfl, rfl⟩ dX11_mend_105
  refine k_case (c := 2) (fun q3 => ?_) (fun q3 => ?_)
  · refine k_tableIn (off := 105) (tgt := 106) C dX11_mend_1 (by rw [q3]; decide) (by rw [q3]; decide) (by rw [q3]; rfl) (by decide) ?_
    refine k_aload_n (q := 0) C dX11_mend_106 rfl rfl ?_
    refine k_iload_n (q := 1) C dX11_mend_107 rfl rfl ?_
    refine k_cVI C ct_X11_isDeed my_11_isDeed ml_11_218 rfl ⟨Nat.le_of_ble_eq_true rfl, Nat.le_of_ble_eq_true rfl⟩ recvM rfl (Nat.le_of_ble_eq_true rfl) dX11_mend_108 ⟨Nat.le_refl _, Nat.le_refl _⟩ (fun r7 _ => ?_)
    refine k_if_eq (tgt := 138) C dX11_mend_111 (by decide) (fun _ => ?_) (fun _ => ?_)
    · refine k_iconst (v := (-1)) C dX11_mend_138 rfl ?_
      exact k_iret C rfl ⟨rfl, rfl⟩ dX11_mend_139
    · refine k_iload_n (q := 3) C dX11_mend_114 rfl rfl ?_
      refine k_i2l C dX11_mend_115 ?_
      refine k_lconst (v := 1) C dX11_mend_116 rfl ?_
      refine k_ldc2 C co_11_201 dX11_mend_117 ?_
      refine k_cSI C ct_X11_within my_11_within ml_11_106 rfl ⟨Nat.le_of_ble_eq_true rfl, Nat.le_of_ble_eq_true rfl⟩ rfl (Nat.le_of_ble_eq_true rfl) dX11_mend_120 ⟨Nat.le_refl _, Nat.le_refl _⟩ (fun r8 _ => ?_)
      refine k_if_eq (tgt := 138) C dX11_mend_123 (by decide) (fun _ => ?_) (fun _ => ?_)
      · refine k_iconst (v := (-1)) C dX11_mend_138 rfl ?_
        exact k_iret C rfl ⟨rfl, rfl⟩ dX11_mend_139
      · refine k_aload_n (q := 0) C dX11_mend_126 rfl rfl ?_
        refine k_bipush (v := 6) C dX11_mend_127 rfl ?_
        refine k_iload_n (q := 1) C dX11_mend_129 rfl rfl ?_
        refine k_iadd C dX11_mend_130 ?_
        refine k_iload_n (q := 3) C dX11_mend_131 rfl rfl ?_
        refine k_cVI C ct_X11_becomes my_11_becomes ml_11_221 rfl ⟨Nat.le_of_ble_eq_true rfl, Nat.le_of_ble_eq_true rfl⟩ recvM rfl (Nat.le_of_ble_eq_true rfl) dX11_mend_132 ⟨Nat.le_refl _, Nat.le_refl _⟩ (fun r9 _ => ?_)
        refine k_goto (tgt := 139) C dX11_mend_135 (by decide) ?_
        exact k_iret C rfl ⟨rfl, rfl⟩ dX11_mend_139
  refine k_case (c := 3) (fun q4 => ?_) (fun q4 => ?_)
  · refine k_tableIn (off := 139) (tgt := 140) C dX11_mend_1 (by rw [q4]; decide) (by rw [q4]; decide) (by rw [q4]; rfl) (by decide) ?_
    refine k_aload_n (q := 0) C dX11_mend_140 rfl rfl ?_
    refine k_iload_n (q := 1) C dX11_mend_141 rfl rfl ?_
    refine k_cVI C ct_X11_isDeed my_11_isDeed ml_11_218 rfl ⟨Nat.le_of_ble_eq_true rfl, Nat.le_of_ble_eq_true rfl⟩ recvM rfl (Nat.le_of_ble_eq_true rfl) dX11_mend_142 ⟨Nat.le_refl _, Nat.le_refl _⟩ (fun r10 _ => ?_)
    refine k_if_eq (tgt := 172) C dX11_mend_145 (by decide) (fun _ => ?_) (fun _ => ?_)
    · refine k_iconst (v := (-1)) C dX11_mend_172 rfl ?_
      exact k_iret C rfl ⟨rfl, rfl⟩ dX11_mend_173
    · refine k_iload_n (q := 3) C dX11_mend_148 rfl rfl ?_
      refine k_i2l C dX11_mend_149 ?_
      refine k_lconst (v := 0) C dX11_mend_150 rfl ?_
      refine k_ldc2 C co_11_203 dX11_mend_151 ?_
      refine k_cSI C ct_X11_within my_11_within ml_11_106 rfl ⟨Nat.le_of_ble_eq_true rfl, Nat.le_of_ble_eq_true rfl⟩ rfl (Nat.le_of_ble_eq_true rfl) dX11_mend_154 ⟨Nat.le_refl _, Nat.le_refl _⟩ (fun r11 _ => ?_)
      refine k_if_eq (tgt := 172) C dX11_mend_157 (by decide) (fun _ => ?_) (fun _ => ?_)
      · refine k_iconst (v := (-1)) C dX11_mend_172 rfl ?_
        exact k_iret C rfl ⟨rfl, rfl⟩ dX11_mend_173
      · refine k_aload_n (q := 0) C dX11_mend_160 rfl rfl ?_
        refine k_bipush (v := 18) C dX11_mend_161 rfl ?_
        refine k_iload_n (q := 1) C dX11_mend_163 rfl rfl ?_
        refine k_iadd C dX11_mend_164 ?_
        refine k_iload_n (q := 3) C dX11_mend_165 rfl rfl ?_
        refine k_cVI C ct_X11_becomes my_11_becomes ml_11_221 rfl ⟨Nat.le_of_ble_eq_true rfl, Nat.le_of_ble_eq_true rfl⟩ recvM rfl (Nat.le_of_ble_eq_true rfl) dX11_mend_166 ⟨Nat.le_refl _, Nat.le_refl _⟩ (fun r12 _ => ?_)
        refine k_goto (tgt := 173) C dX11_mend_169 (by decide) ?_
        exact k_iret C rfl ⟨rfl, rfl⟩ dX11_mend_173
  refine k_tableOut (tgt := 174) C dX11_mend_1 (by have zq1 := i32ne q1 (z := 0) rfl; have zq2 := i32ne q2 (z := 1) rfl; have zq3 := i32ne q3 (z := 2) rfl; have zq4 := i32ne q4 (z := 3) rfl; omega) (by decide) ?_
  refine k_iconst (v := (-1)) C dX11_mend_174 rfl ?_
  exact k_iret C rfl ⟨rfl, rfl⟩ dX11_mend_175
theorem ct_X11_mend {l : Launch} {θ : TH} {ad : Nat → Nat} {S : St} {F : Nat} {a1 : Int32} {a2 : Int32} {a3 : Int32} : ∀ r, f_X11_mend F S a1 a2 a3 = some r → Ct l θ yX11_mend cX11_mend 4 (some .int) 2 0 0 [.ref (ad 44), .int a1, .int a2, .int a3] (wdM θ ad S) (PIS (wdM θ ad) r) :=
  fun r hr => Ct.of (by decide) (Nat.le_of_ble_eq_true rfl) (fun X _ C _ => kw_X11_mend C r hr)
set_option maxRecDepth 20000 in
theorem kb_X11_bitsOf_L4 {X : GX} {θ : TH} {ws : va_W} {F : Nat} (C : CX (mE X θ (ws) 3) RX11 cX11_bitsOf (some .int) 0 0 0)  : ∀ (n : Nat) (x1 : Int32) (x2 : Int32), Dk (mE X θ (ws) 3) (mT X θ (ws) 3 (PI ws)) 0 0 ws [(1, .int x1), (2, .int x2)] [] 4 (f_X11_bitsOf_L4 F n x1 x2) := by
  intro n
  induction n with
  | zero => intro x1 x2; exact Dk.none
  | succ n ih =>
    intro x1 x2
    show Dk _ _ _ _ _ _ _ _ (if x2 = 0 then some x1 else f_X11_bitsOf_L4 F n (x1 + 1) (x2 &&& (x2 - 1)))
    refine k_iload_n (q := 1) C dX11_bitsOf_4 rfl rfl ?_
    refine k_if_eq (tgt := 20) C dX11_bitsOf_5 (by decide) (fun _ => ?_) (fun _ => ?_)
    · refine k_iload_n (q := 0) C dX11_bitsOf_20 rfl rfl ?_
      exact k_iret C rfl ⟨rfl, rfl⟩ dX11_bitsOf_21
    · refine k_iinc (q := 0) (v := x1 + 1) (lv' := [(1, .int (x1 + 1)), (2, .int x2)]) C dX11_bitsOf_8 rfl rfl (Nat.le_of_ble_eq_true rfl) rfl ?_
      refine k_iload_n (q := 1) C dX11_bitsOf_11 rfl rfl ?_
      refine k_iload_n (q := 1) C dX11_bitsOf_12 rfl rfl ?_
      refine k_iconst (v := 1) C dX11_bitsOf_13 rfl ?_
      refine k_isub C dX11_bitsOf_14 ?_
      refine k_iand C dX11_bitsOf_15 ?_
      refine k_istore_n (lv' := [(2, .int (x2 &&& (x2 - 1))), (1, .int (x1 + 1))]) C dX11_bitsOf_16 rfl (Nat.le_of_ble_eq_true rfl) rfl ?_
      refine k_goto (tgt := 4) C dX11_bitsOf_17 (by decide) ?_
      refine Dk.loc [1, 0] rfl ?_
      exact ih _ _
set_option maxRecDepth 20000 in
theorem kw_X11_bitsOf {X : GX} {θ : TH} {ws : va_W} {F : Nat}  {a1 : Int32} (C : CX (mE X θ (ws) 3) RX11 cX11_bitsOf (some .int) 0 0 0)  : Dk (mE X θ (ws) 3) (mT X θ (ws) 3 (PI ws)) 0 0 ws [(0, .int a1)] [] 0 (f_X11_bitsOf F a1) := by
  unfold f_X11_bitsOf
  refine k_iconst (v := 0) C dX11_bitsOf_0 rfl ?_
  refine k_istore_n (lv' := [(1, .int 0), (0, .int a1)]) C dX11_bitsOf_1 rfl (Nat.le_of_ble_eq_true rfl) rfl ?_
  refine k_iload_n (q := 1) C dX11_bitsOf_2 rfl rfl ?_
  refine k_istore_n (lv' := [(2, .int a1), (1, .int 0), (0, .int a1)]) C dX11_bitsOf_3 rfl (Nat.le_of_ble_eq_true rfl) rfl ?_
  refine Dk.loc [1, 0] rfl ?_
  exact kb_X11_bitsOf_L4 C _ _ _
theorem ct_X11_bitsOf {l : Launch} {θ : TH} {ws : va_W} {F : Nat} {a1 : Int32} : ∀ r, f_X11_bitsOf F a1 = some r → Ct l θ yX11_bitsOf cX11_bitsOf 3 (some .int) 0 0 0 [.int a1] (ws) (PI ws r) :=
  fun r hr => Ct.of (by decide) (Nat.le_of_ble_eq_true rfl) (fun X _ C _ => kw_X11_bitsOf C r hr)
set_option maxRecDepth 20000 in
theorem kb_X11_worksOut_B155 {X : GX} {θ : TH} {ad : Nat → Nat} {S0 : St} {F : Nat} {a1 : Int32} {a2 : Int32} {a3 : Int32} {a4 : Int32} {a5 : Int32} {K6 : St → Int32 → Int32 → Option (Int32 × St)} (C : CX (mE X θ (wdM θ ad S0) 9) RX11 cX11_worksOut (some .int) 64 0 0) (hK6 : ∀ (S : St) (x6 : Int32) (x7 : Int32), Dk (mE X θ (wdM θ ad S0) 9) (mT X θ (wdM θ ad S0) 9 (PIS (wdM θ ad))) 0 0 (wdM θ ad S) [(0, .ref (ad 44)), (1, .int a1), (2, .int a2), (3, .int a3), (4, .int a4), (5, .int a5), (6, .int x6), (7, .int x7)] [] 6 (K6 S x6 x7)) (S : St) (x6 : Int32) (x7 : Int32) (t0 : Int32) : Dk (mE X θ (wdM θ ad S0) 9) (mT X θ (wdM θ ad S0) 9 (PIS (wdM θ ad))) 0 0 (wdM θ ad S) [(0, .ref (ad 44)), (1, .int a1), (2, .int a2), (3, .int a3), (4, .int a4), (5, .int a5), (6, .int x6), (7, .int x7)] [.int t0] 155 (f_X11_worksOut_B155 F a1 a2 a3 a4 a5 K6 S x6 x7 t0) := by
  unfold f_X11_worksOut_B155
  refine k_istore (lv' := [(8, .int t0), (0, .ref (ad 44)), (1, .int a1), (2, .int a2), (3, .int a3), (4, .int a4), (5, .int a5), (6, .int x6), (7, .int x7)]) C dX11_worksOut_155 (Nat.le_of_ble_eq_true rfl) rfl ?_
  refine k_iload (q := 0) C dX11_worksOut_157 rfl ?_
  refine k_iload (q := 7) C dX11_worksOut_159 rfl ?_
  refine k_icmp_le (tgt := 169) C dX11_worksOut_161 (by decide) (fun _ => ?_) (fun _ => ?_)
  · refine k_iload (q := 7) C dX11_worksOut_169 rfl ?_
    refine k_istore (lv' := [(6, .int x6), (8, .int t0), (0, .ref (ad 44)), (1, .int a1), (2, .int a2), (3, .int a3), (4, .int a4), (5, .int a5), (7, .int x7)]) C dX11_worksOut_171 (Nat.le_of_ble_eq_true rfl) rfl ?_
    refine k_iinc (q := 8) (v := x7 + 1) (lv' := [(7, .int (x7 + 1)), (6, .int x6), (8, .int t0), (0, .ref (ad 44)), (1, .int a1), (2, .int a2), (3, .int a3), (4, .int a4), (5, .int a5)]) C dX11_worksOut_173 rfl rfl (Nat.le_of_ble_eq_true rfl) rfl ?_
    refine k_goto (tgt := 6) C dX11_worksOut_176 (by decide) ?_
    refine Dk.loc [3, 4, 5, 6, 7, 8, 1, 0] rfl ?_
    exact hK6 _ _ _
  · refine k_iload (q := 0) C dX11_worksOut_164 rfl ?_
    refine k_goto (tgt := 171) C dX11_worksOut_166 (by decide) ?_
    refine k_istore (lv' := [(6, .int t0), (8, .int t0), (0, .ref (ad 44)), (1, .int a1), (2, .int a2), (3, .int a3), (4, .int a4), (5, .int a5), (7, .int x7)]) C dX11_worksOut_171 (Nat.le_of_ble_eq_true rfl) rfl ?_
    refine k_iinc (q := 8) (v := x7 + 1) (lv' := [(7, .int (x7 + 1)), (6, .int t0), (8, .int t0), (0, .ref (ad 44)), (1, .int a1), (2, .int a2), (3, .int a3), (4, .int a4), (5, .int a5)]) C dX11_worksOut_173 rfl rfl (Nat.le_of_ble_eq_true rfl) rfl ?_
    refine k_goto (tgt := 6) C dX11_worksOut_176 (by decide) ?_
    refine Dk.loc [3, 4, 5, 6, 7, 8, 1, 0] rfl ?_
    exact hK6 _ _ _
set_option maxRecDepth 20000 in
theorem kb_X11_worksOut_L6 {X : GX} {θ : TH} {ad : Nat → Nat} {S0 : St} {F : Nat} {a1 : Int32} {a2 : Int32} {a3 : Int32} {a4 : Int32} {a5 : Int32} (C : CX (mE X θ (wdM θ ad S0) 9) RX11 cX11_worksOut (some .int) 64 0 0)  : ∀ (n : Nat) (S : St) (x6 : Int32) (x7 : Int32), Dk (mE X θ (wdM θ ad S0) 9) (mT X θ (wdM θ ad S0) 9 (PIS (wdM θ ad))) 0 0 (wdM θ ad S) [(0, .ref (ad 44)), (1, .int a1), (2, .int a2), (3, .int a3), (4, .int a4), (5, .int a5), (6, .int x6), (7, .int x7)] [] 6 (f_X11_worksOut_L6 F a1 a2 a3 a4 a5 n S x6 x7) := by
  intro n
  induction n with
  | zero => intro S x6 x7; exact Dk.none
  | succ n ih =>
    intro S x6 x7
    show Dk _ _ _ _ _ _ _ _ (if (S.1 6) ≤ x7 then some (x6, S) else if ((a1 >>> (x7 &&& 31)) &&& 1) = 0 then f_X11_worksOut_L6 F a1 a2 a3 a4 a5 n S x6 (x7 + 1) else chk (inr x7 3) ((if (0 : Int32) ≤ (S.2.1 15 (x7).toNatClampNeg) then chk (inr a2 12) (chk (inr (0 : Int32) 7) (chk (inr (1 : Int32) 7) (chk (inr (6 + a2) 30) (chk (inr (2 : Int32) 7) (chk (inr (3 : Int32) 7) (chk (inr (4 : Int32) 7) (chk (inr a2 12) (chk (inr (5 : Int32) 7) ((f_X11_bitsOf F a1).bind fun r1 => chk (inr (6 : Int32) 7) (chk (inr x7 3) ((f_X11_workOut F (sa (sa (sa (sa (sa (sa (sa S 21 ((0 : Int32)).toNatClampNeg (S.2.1 23 (a2).toNatClampNeg)) 21 ((1 : Int32)).toNatClampNeg a4) 21 ((2 : Int32)).toNatClampNeg (S.2.1 0 (6 + a2).toNatClampNeg)) 21 ((3 : Int32)).toNatClampNeg (jrem a5 24)) 21 ((4 : Int32)).toNatClampNeg a3) 21 ((5 : Int32)).toNatClampNeg (S.2.1 24 (a2).toNatClampNeg)) 21 ((6 : Int32)).toNatClampNeg r1) (120 * x7) (S.2.1 15 (x7).toNatClampNeg)).bind fun r2 => (if (0 : Int32) ≤ r2.1 then if r2.1 ≤ 9999 then f_X11_worksOut_B155 F a1 a2 a3 a4 a5 (f_X11_worksOut_L6 F a1 a2 a3 a4 a5 n) r2.2 x6 x7 r2.1 else f_X11_worksOut_B155 F a1 a2 a3 a4 a5 (f_X11_worksOut_L6 F a1 a2 a3 a4 a5 n) r2.2 x6 x7 9999 else some ((-2 : Int32), r2.2))))))))))))) else f_X11_worksOut_L6 F a1 a2 a3 a4 a5 n S x6 (x7 + 1))))
    refine k_iload (q := 7) C dX11_worksOut_6 rfl ?_
    refine k_aload_n (q := 0) C dX11_worksOut_8 rfl rfl ?_
    refine m_geti (kf := 6) (v := S.1 6) C mS_6 fl_11_103 rfl dX11_worksOut_9 ?_
    refine k_icmp_ge (tgt := 179) C dX11_worksOut_12 (by decide) (fun _ => ?_) (fun _ => ?_)
    · refine k_iload (q := 6) C dX11_worksOut_179 rfl ?_
      exact k_iret C rfl ⟨rfl, rfl⟩ dX11_worksOut_181
    · refine k_iload_n (q := 1) C dX11_worksOut_15 rfl rfl ?_
      refine k_iload (q := 7) C dX11_worksOut_16 rfl ?_
      refine k_ishr C dX11_worksOut_18 ?_
      refine k_iconst (v := 1) C dX11_worksOut_19 rfl ?_
      refine k_iand C dX11_worksOut_20 ?_
      refine k_if_eq (tgt := 173) C dX11_worksOut_21 (by decide) (fun _ => ?_) (fun _ => ?_)
      · refine k_iinc (q := 7) (v := x7 + 1) (lv' := [(7, .int (x7 + 1)), (0, .ref (ad 44)), (1, .int a1), (2, .int a2), (3, .int a3), (4, .int a4), (5, .int a5), (6, .int x6)]) C dX11_worksOut_173 rfl rfl (Nat.le_of_ble_eq_true rfl) rfl ?_
        refine k_goto (tgt := 6) C dX11_worksOut_176 (by decide) ?_
        refine Dk.loc [1, 2, 3, 4, 5, 6, 7, 0] rfl ?_
        exact ih _ _ _
      · refine k_aload_n (q := 0) C dX11_worksOut_24 rfl rfl ?_
        refine m_geta (kf := 15) C mR_15 fl_11_40 dX11_worksOut_25 ?_
        refine k_iload (q := 7) C dX11_worksOut_28 rfl ?_
        refine m_iald (x := S.2.1 15 (x7).toNatClampNeg) C mA_15 mN_15 rfl dX11_worksOut_30 ?_
        refine k_if_ge (tgt := 37) C dX11_worksOut_31 (by decide) (fun _ => ?_) (fun _ => ?_)
        · refine k_aload_n (q := 0) C dX11_worksOut_37 rfl rfl ?_
          refine m_geta (kf := 21) C mR_21 fl_11_43 dX11_worksOut_38 ?_
          refine k_iconst (v := 0) C dX11_worksOut_41 rfl ?_
          refine k_aload_n (q := 0) C dX11_worksOut_42 rfl rfl ?_
          refine m_geta (kf := 23) C mR_23 fl_11_46 dX11_worksOut_43 ?_
          refine k_iload_n (q := 2) C dX11_worksOut_46 rfl rfl ?_
          refine m_iald (x := S.2.1 23 (a2).toNatClampNeg) C mA_23 mN_23 rfl dX11_worksOut_47 ?_
          refine m_iast C mA_21 mN_21 dX11_worksOut_48 ?_
          refine k_aload_n (q := 0) C dX11_worksOut_49 rfl rfl ?_
          refine m_geta (kf := 21) C mR_21 fl_11_43 dX11_worksOut_50 ?_
          refine k_iconst (v := 1) C dX11_worksOut_53 rfl ?_
          refine k_iload (q := 4) C dX11_worksOut_54 rfl ?_
          refine m_iast C mA_21 mN_21 dX11_worksOut_56 ?_
          refine k_aload_n (q := 0) C dX11_worksOut_57 rfl rfl ?_
          refine m_geta (kf := 21) C mR_21 fl_11_43 dX11_worksOut_58 ?_
          refine k_iconst (v := 2) C dX11_worksOut_61 rfl ?_
          refine k_aload_n (q := 0) C dX11_worksOut_62 rfl rfl ?_
          refine m_geta (kf := 0) C mR_0 fl_11_9 dX11_worksOut_63 ?_
          refine k_bipush (v := 6) C dX11_worksOut_66 rfl ?_
          refine k_iload_n (q := 2) C dX11_worksOut_68 rfl rfl ?_
          refine k_iadd C dX11_worksOut_69 ?_
          refine m_iald (x := S.2.1 0 (6 + a2).toNatClampNeg) C mA_0 mN_0 rfl dX11_worksOut_70 ?_
          refine m_iast C mA_21 mN_21 dX11_worksOut_71 ?_
          refine k_aload_n (q := 0) C dX11_worksOut_72 rfl rfl ?_
          refine m_geta (kf := 21) C mR_21 fl_11_43 dX11_worksOut_73 ?_
          refine k_iconst (v := 3) C dX11_worksOut_76 rfl ?_
          refine k_iload (q := 5) C dX11_worksOut_77 rfl ?_
          refine k_bipush (v := 24) C dX11_worksOut_79 rfl ?_
          refine k_irem C dX11_worksOut_81 (by decide) ?_
          refine m_iast C mA_21 mN_21 dX11_worksOut_82 ?_
          refine k_aload_n (q := 0) C dX11_worksOut_83 rfl rfl ?_
          refine m_geta (kf := 21) C mR_21 fl_11_43 dX11_worksOut_84 ?_
          refine k_iconst (v := 4) C dX11_worksOut_87 rfl ?_
          refine k_iload_n (q := 3) C dX11_worksOut_88 rfl rfl ?_
          refine m_iast C mA_21 mN_21 dX11_worksOut_89 ?_
          refine k_aload_n (q := 0) C dX11_worksOut_90 rfl rfl ?_
          refine m_geta (kf := 21) C mR_21 fl_11_43 dX11_worksOut_91 ?_
          refine k_iconst (v := 5) C dX11_worksOut_94 rfl ?_
          refine k_aload_n (q := 0) C dX11_worksOut_95 rfl rfl ?_
          refine m_geta (kf := 24) C mR_24 fl_11_49 dX11_worksOut_96 ?_
          refine k_iload_n (q := 2) C dX11_worksOut_99 rfl rfl ?_
          refine m_iald (x := S.2.1 24 (a2).toNatClampNeg) C mA_24 mN_24 rfl dX11_worksOut_100 ?_
          refine m_iast C mA_21 mN_21 dX11_worksOut_101 ?_
          refine k_aload_n (q := 0) C dX11_worksOut_102 rfl rfl ?_
          refine m_geta (kf := 21) C mR_21 fl_11_43 dX11_worksOut_103 ?_
          refine k_bipush (v := 6) C dX11_worksOut_106 rfl ?_
          refine k_iload_n (q := 1) C dX11_worksOut_108 rfl rfl ?_
          refine k_cSI C ct_X11_bitsOf my_11_bitsOf ml_11_231 rfl ⟨Nat.le_of_ble_eq_true rfl, Nat.le_of_ble_eq_true rfl⟩ rfl (Nat.le_of_ble_eq_true rfl) dX11_worksOut_109 ⟨Nat.le_refl _, Nat.le_refl _⟩ (fun r1 _ => ?_)
          refine m_iast C mA_21 mN_21 dX11_worksOut_112 ?_
          refine k_aload_n (q := 0) C dX11_worksOut_113 rfl rfl ?_
          refine k_bipush (v := 120) C dX11_worksOut_114 rfl ?_
          refine k_iload (q := 7) C dX11_worksOut_116 rfl ?_
          refine k_imul C dX11_worksOut_118 ?_
          refine k_aload_n (q := 0) C dX11_worksOut_119 rfl rfl ?_
          refine m_geta (kf := 15) C mR_15 fl_11_40 dX11_worksOut_120 ?_
          refine k_iload (q := 7) C dX11_worksOut_123 rfl ?_
          refine m_iald (x := S.2.1 15 (x7).toNatClampNeg) C mA_15 mN_15 rfl dX11_worksOut_125 ?_
          refine k_cVI C ct_X11_workOut my_11_workOut ml_11_193 rfl ⟨Nat.le_of_ble_eq_true rfl, Nat.le_of_ble_eq_true rfl⟩ recvM rfl (Nat.le_of_ble_eq_true rfl) dX11_worksOut_126 ⟨Nat.le_refl _, Nat.le_refl _⟩ (fun r2 _ => ?_)
          refine k_istore (lv' := [(8, .int r2.1), (0, .ref (ad 44)), (1, .int a1), (2, .int a2), (3, .int a3), (4, .int a4), (5, .int a5), (6, .int x6), (7, .int x7)]) C dX11_worksOut_129 (Nat.le_of_ble_eq_true rfl) rfl ?_
          refine k_iload (q := 0) C dX11_worksOut_131 rfl ?_
          refine k_if_ge (tgt := 139) C dX11_worksOut_133 (by decide) (fun _ => ?_) (fun _ => ?_)
          · refine k_iload (q := 0) C dX11_worksOut_139 rfl ?_
            refine k_sipush (v := 9999) C dX11_worksOut_141 rfl ?_
            refine k_icmp_le (tgt := 153) C dX11_worksOut_144 (by decide) (fun _ => ?_) (fun _ => ?_)
            · refine k_iload (q := 0) C dX11_worksOut_153 rfl ?_
              refine Dk.loc [1, 2, 3, 4, 5, 6, 7, 8] rfl ?_
              exact kb_X11_worksOut_B155 C ih _ _ _ _
            · refine k_sipush (v := 9999) C dX11_worksOut_147 rfl ?_
              refine k_goto (tgt := 155) C dX11_worksOut_150 (by decide) ?_
              refine Dk.loc [1, 2, 3, 4, 5, 6, 7, 8] rfl ?_
              exact kb_X11_worksOut_B155 C ih _ _ _ _
          · refine k_bipush (v := (-2)) C dX11_worksOut_136 rfl ?_
            exact k_iret C rfl ⟨rfl, rfl⟩ dX11_worksOut_138
        · refine k_goto (tgt := 173) C dX11_worksOut_34 (by decide) ?_
          refine k_iinc (q := 7) (v := x7 + 1) (lv' := [(7, .int (x7 + 1)), (0, .ref (ad 44)), (1, .int a1), (2, .int a2), (3, .int a3), (4, .int a4), (5, .int a5), (6, .int x6)]) C dX11_worksOut_173 rfl rfl (Nat.le_of_ble_eq_true rfl) rfl ?_
          refine k_goto (tgt := 6) C dX11_worksOut_176 (by decide) ?_
          refine Dk.loc [1, 2, 3, 4, 5, 6, 7, 0] rfl ?_
          exact ih _ _ _
set_option maxRecDepth 20000 in
theorem kw_X11_worksOut {X : GX} {θ : TH} {ad : Nat → Nat} {F : Nat} {S : St} {a1 : Int32} {a2 : Int32} {a3 : Int32} {a4 : Int32} {a5 : Int32} (C : CX (mE X θ (wdM θ ad S) 9) RX11 cX11_worksOut (some .int) 64 0 0)  : Dk (mE X θ (wdM θ ad S) 9) (mT X θ (wdM θ ad S) 9 (PIS (wdM θ ad))) 0 0 (wdM θ ad S) [(0, .ref (ad 44)), (1, .int a1), (2, .int a2), (3, .int a3), (4, .int a4), (5, .int a5)] [] 0 (f_X11_worksOut F S a1 a2 a3 a4 a5) := by
  unfold f_X11_worksOut
  refine k_iconst (v := 0) C dX11_worksOut_0 rfl ?_
  refine k_istore (lv' := [(6, .int 0), (0, .ref (ad 44)), (1, .int a1), (2, .int a2), (3, .int a3), (4, .int a4), (5, .int a5)]) C dX11_worksOut_1 (Nat.le_of_ble_eq_true rfl) rfl ?_
  refine k_iconst (v := 0) C dX11_worksOut_3 rfl ?_
  refine k_istore (lv' := [(7, .int 0), (6, .int 0), (0, .ref (ad 44)), (1, .int a1), (2, .int a2), (3, .int a3), (4, .int a4), (5, .int a5)]) C dX11_worksOut_4 (Nat.le_of_ble_eq_true rfl) rfl ?_
  refine Dk.loc [2, 3, 4, 5, 6, 7, 1, 0] rfl ?_
  exact kb_X11_worksOut_L6 C _ _ _ _
theorem ct_X11_worksOut {l : Launch} {θ : TH} {ad : Nat → Nat} {S : St} {F : Nat} {a1 : Int32} {a2 : Int32} {a3 : Int32} {a4 : Int32} {a5 : Int32} : ∀ r, f_X11_worksOut F S a1 a2 a3 a4 a5 = some r → Ct l θ yX11_worksOut cX11_worksOut 9 (some .int) 64 0 0 [.ref (ad 44), .int a1, .int a2, .int a3, .int a4, .int a5] (wdM θ ad S) (PIS (wdM θ ad) r) :=
  fun r hr => Ct.of (by decide) (Nat.le_of_ble_eq_true rfl) (fun X _ C _ => kw_X11_worksOut C r hr)
set_option maxRecDepth 20000 in
theorem kb_X11_costBy_B46 {X : GX} {θ : TH} {ad : Nat → Nat} {S0 : St} {F : Nat} {a1 : Int32} {a2 : Int32} {a3 : Int32} {a4 : Int32} {a5 : Int32} (C : CX (mE X θ (wdM θ ad S0) 7) RX11 cX11_costBy (some .int) 65 0 0)  (S : St) : Dk (mE X θ (wdM θ ad S0) 7) (mT X θ (wdM θ ad S0) 7 (PIS (wdM θ ad))) 0 0 (wdM θ ad S) [(0, .ref (ad 44)), (1, .int a1), (2, .int a2), (3, .int a3), (4, .int a4), (5, .int a5)] [] 46 (f_X11_costBy_B46 F a1 a2 a3 a4 a5 S) := by
  unfold f_X11_costBy_B46
  refine k_sipush (v := 9216) C dX11_costBy_46 rfl ?_
  refine k_iload_n (q := 2) C dX11_costBy_49 rfl rfl ?_
  refine k_imul C dX11_costBy_50 ?_
  refine k_bipush (v := 48) C dX11_costBy_51 rfl ?_
  refine k_iload_n (q := 1) C dX11_costBy_53 rfl rfl ?_
  refine k_imul C dX11_costBy_54 ?_
  refine k_iload (q := 4) C dX11_costBy_55 rfl ?_
  refine k_iadd C dX11_costBy_57 ?_
  refine k_bipush (v := 24) C dX11_costBy_58 rfl ?_
  refine k_imul C dX11_costBy_60 ?_
  refine k_iadd C dX11_costBy_61 ?_
  refine k_iload (q := 5) C dX11_costBy_62 rfl ?_
  refine k_bipush (v := 24) C dX11_costBy_64 rfl ?_
  refine k_irem C dX11_costBy_66 (by decide) ?_
  refine k_iadd C dX11_costBy_67 ?_
  refine k_lti fun y1 => ?_
  refine k_istore (lv' := [(6, .int y1), (0, .ref (ad 44)), (1, .int a1), (2, .int a2), (3, .int a3), (4, .int a4), (5, .int a5)]) C dX11_costBy_68 (Nat.le_of_ble_eq_true rfl) rfl ?_
  refine k_aload_n (q := 1) C dX11_costBy_70 rfl rfl ?_
  refine m_geta (kf := 26) C mR_26 fl_11_56 dX11_costBy_71 ?_
  refine k_iload (q := 0) C dX11_costBy_74 rfl ?_
  refine m_iald (x := S.2.1 26 (y1).toNatClampNeg) C mA_26 mN_26 rfl dX11_costBy_76 ?_
  refine k_aload_n (q := 1) C dX11_costBy_77 rfl rfl ?_
  refine m_geta (kf := 27) C mR_27 fl_11_59 dX11_costBy_78 ?_
  refine k_iload_n (q := 3) C dX11_costBy_81 rfl rfl ?_
  refine m_iald (x := S.2.1 27 (a2).toNatClampNeg) C mA_27 mN_27 rfl dX11_costBy_82 ?_
  refine k_icmp_eq (tgt := 117) C dX11_costBy_83 (by decide) (fun _ => ?_) (fun _ => ?_)
  · refine k_aload_n (q := 1) C dX11_costBy_117 rfl rfl ?_
    refine m_geta (kf := 25) C mR_25 fl_11_53 dX11_costBy_118 ?_
    refine k_iload (q := 0) C dX11_costBy_121 rfl ?_
    refine m_iald (x := S.2.1 25 (y1).toNatClampNeg) C mA_25 mN_25 rfl dX11_costBy_123 ?_
    exact k_iret C rfl ⟨rfl, rfl⟩ dX11_costBy_124
  · refine k_aload_n (q := 1) C dX11_costBy_86 rfl rfl ?_
    refine m_geta (kf := 26) C mR_26 fl_11_56 dX11_costBy_87 ?_
    refine k_iload (q := 0) C dX11_costBy_90 rfl ?_
    refine k_aload_n (q := 1) C dX11_costBy_92 rfl rfl ?_
    refine m_geta (kf := 27) C mR_27 fl_11_59 dX11_costBy_93 ?_
    refine k_iload_n (q := 3) C dX11_costBy_96 rfl rfl ?_
    refine m_iald (x := S.2.1 27 (a2).toNatClampNeg) C mA_27 mN_27 rfl dX11_costBy_97 ?_
    refine m_iast C mA_26 mN_26 dX11_costBy_98 ?_
    refine k_aload_n (q := 1) C dX11_costBy_99 rfl rfl ?_
    refine m_geta (kf := 25) C mR_25 fl_11_53 dX11_costBy_100 ?_
    refine k_iload (q := 0) C dX11_costBy_103 rfl ?_
    refine k_aload_n (q := 1) C dX11_costBy_105 rfl rfl ?_
    refine k_iload_n (q := 2) C dX11_costBy_106 rfl rfl ?_
    refine k_iload_n (q := 3) C dX11_costBy_107 rfl rfl ?_
    refine k_iload_n (q := 4) C dX11_costBy_108 rfl rfl ?_
    refine k_iload (q := 5) C dX11_costBy_109 rfl ?_
    refine k_iload (q := 6) C dX11_costBy_111 rfl ?_
    refine k_cVI C ct_X11_worksOut my_11_worksOut ml_11_227 rfl ⟨Nat.le_of_ble_eq_true rfl, Nat.le_of_ble_eq_true rfl⟩ recvM rfl (Nat.le_of_ble_eq_true rfl) dX11_costBy_113 ⟨Nat.le_refl _, Nat.le_refl _⟩ (fun r2 _ => ?_)
    refine m_iast C mA_25 mN_25 dX11_costBy_116 ?_
    refine k_aload_n (q := 1) C dX11_costBy_117 rfl rfl ?_
    refine m_geta (kf := 25) C mR_25 fl_11_53 dX11_costBy_118 ?_
    refine k_iload (q := 0) C dX11_costBy_121 rfl ?_
    refine m_iald (x := (sa r2.2 25 (y1).toNatClampNeg r2.1).2.1 25 (y1).toNatClampNeg) C mA_25 mN_25 rfl dX11_costBy_123 ?_
    exact k_iret C rfl ⟨rfl, rfl⟩ dX11_costBy_124
set_option maxRecDepth 20000 in
theorem kb_X11_costBy_B19 {X : GX} {θ : TH} {ad : Nat → Nat} {S0 : St} {F : Nat} {a1 : Int32} {a2 : Int32} {a3 : Int32} {a4 : Int32} {a5 : Int32} (C : CX (mE X θ (wdM θ ad S0) 7) RX11 cX11_costBy (some .int) 65 0 0)  (S : St) : Dk (mE X θ (wdM θ ad S0) 7) (mT X θ (wdM θ ad S0) 7 (PIS (wdM θ ad))) 0 0 (wdM θ ad S) [(0, .ref (ad 44)), (1, .int a1), (2, .int a2), (3, .int a3), (4, .int a4), (5, .int a5)] [] 19 (f_X11_costBy_B19 F a1 a2 a3 a4 a5 S) := by
  unfold f_X11_costBy_B19
  refine k_aload_n (q := 0) C dX11_costBy_19 rfl rfl ?_
  refine k_dup C dX11_costBy_20 rfl ?_
  refine m_geti (kf := 29) (v := S.1 29) C mS_29 fl_11_224 rfl dX11_costBy_21 ?_
  refine k_iconst (v := 1) C dX11_costBy_24 rfl ?_
  refine k_iadd C dX11_costBy_25 ?_
  refine m_puti (kf := 29) C mS_29 mP_29 fl_11_224 dX11_costBy_26 ?_
  refine k_aload_n (q := 0) C dX11_costBy_29 rfl rfl ?_
  refine m_geta (kf := 27) C mR_27 fl_11_59 dX11_costBy_30 ?_
  refine k_iload_n (q := 2) C dX11_costBy_33 rfl rfl ?_
  refine k_aload_n (q := 0) C dX11_costBy_34 rfl rfl ?_
  refine m_geti (kf := 29) (v := (S.1 29) + 1) C mS_29 fl_11_224 rfl dX11_costBy_35 ?_
  refine m_iast C mA_27 mN_27 dX11_costBy_38 ?_
  refine k_aload_n (q := 0) C dX11_costBy_39 rfl rfl ?_
  refine m_geta (kf := 28) C mR_28 fl_11_62 dX11_costBy_40 ?_
  refine k_iload_n (q := 2) C dX11_costBy_43 rfl rfl ?_
  refine k_iload_n (q := 3) C dX11_costBy_44 rfl rfl ?_
  refine m_iast C mA_28 mN_28 dX11_costBy_45 ?_
  exact kb_X11_costBy_B46 C _
set_option maxRecDepth 20000 in
theorem kw_X11_costBy {X : GX} {θ : TH} {ad : Nat → Nat} {F : Nat} {S : St} {a1 : Int32} {a2 : Int32} {a3 : Int32} {a4 : Int32} {a5 : Int32} (C : CX (mE X θ (wdM θ ad S) 7) RX11 cX11_costBy (some .int) 65 0 0)  : Dk (mE X θ (wdM θ ad S) 7) (mT X θ (wdM θ ad S) 7 (PIS (wdM θ ad))) 0 0 (wdM θ ad S) [(0, .ref (ad 44)), (1, .int a1), (2, .int a2), (3, .int a3), (4, .int a4), (5, .int a5)] [] 0 (f_X11_costBy F S a1 a2 a3 a4 a5) := by
  unfold f_X11_costBy
  refine k_aload_n (q := 0) C dX11_costBy_0 rfl rfl ?_
  refine m_geta (kf := 27) C mR_27 fl_11_59 dX11_costBy_1 ?_
  refine k_iload_n (q := 2) C dX11_costBy_4 rfl rfl ?_
  refine m_iald (x := S.2.1 27 (a2).toNatClampNeg) C mA_27 mN_27 rfl dX11_costBy_5 ?_
  refine k_if_eq (tgt := 19) C dX11_costBy_6 (by decide) (fun _ => ?_) (fun _ => ?_)
  · exact kb_X11_costBy_B19 C _
  · refine k_aload_n (q := 0) C dX11_costBy_9 rfl rfl ?_
    refine m_geta (kf := 28) C mR_28 fl_11_62 dX11_costBy_10 ?_
    refine k_iload_n (q := 2) C dX11_costBy_13 rfl rfl ?_
    refine m_iald (x := S.2.1 28 (a2).toNatClampNeg) C mA_28 mN_28 rfl dX11_costBy_14 ?_
    refine k_iload_n (q := 3) C dX11_costBy_15 rfl rfl ?_
    refine k_icmp_eq (tgt := 46) C dX11_costBy_16 (by decide) (fun _ => ?_) (fun _ => ?_)
    · exact kb_X11_costBy_B46 C _
    · exact kb_X11_costBy_B19 C _
theorem ct_X11_costBy {l : Launch} {θ : TH} {ad : Nat → Nat} {S : St} {F : Nat} {a1 : Int32} {a2 : Int32} {a3 : Int32} {a4 : Int32} {a5 : Int32} : ∀ r, f_X11_costBy F S a1 a2 a3 a4 a5 = some r → Ct l θ yX11_costBy cX11_costBy 7 (some .int) 65 0 0 [.ref (ad 44), .int a1, .int a2, .int a3, .int a4, .int a5] (wdM θ ad S) (PIS (wdM θ ad) r) :=
  fun r hr => Ct.of (by decide) (Nat.le_of_ble_eq_true rfl) (fun X _ C _ => kw_X11_costBy C r hr)
set_option maxRecDepth 20000 in
theorem kw_X11_costOf {X : GX} {θ : TH} {ad : Nat → Nat} {F : Nat} {S : St} {a1 : Int32} {a2 : Int32} {a3 : Int32} {a4 : Int32} (C : CX (mE X θ (wdM θ ad S) 5) RX11 cX11_costOf (some .int) 66 0 0)  : Dk (mE X θ (wdM θ ad S) 5) (mT X θ (wdM θ ad S) 5 (PIS (wdM θ ad))) 0 0 (wdM θ ad S) [(0, .ref (ad 44)), (1, .int a1), (2, .int a2), (3, .int a3), (4, .int a4)] [] 0 (f_X11_costOf F S a1 a2 a3 a4) := by
  unfold f_X11_costOf
  refine k_aload_n (q := 0) C dX11_costOf_0 rfl rfl ?_
  refine k_aload_n (q := 0) C dX11_costOf_1 rfl rfl ?_
  refine k_iload_n (q := 2) C dX11_costOf_2 rfl rfl ?_
  refine k_iload (q := 4) C dX11_costOf_3 rfl ?_
  refine k_cVI C ct_X11_stateOf my_11_stateOf ml_11_137 rfl ⟨Nat.le_of_ble_eq_true rfl, Nat.le_of_ble_eq_true rfl⟩ recvM rfl (Nat.le_of_ble_eq_true rfl) dX11_costOf_5 ⟨Nat.le_refl _, Nat.le_refl _⟩ (fun r1 _ => ?_)
  refine k_iload_n (q := 1) C dX11_costOf_8 rfl rfl ?_
  refine k_iload_n (q := 2) C dX11_costOf_9 rfl rfl ?_
  refine k_iload_n (q := 3) C dX11_costOf_10 rfl rfl ?_
  refine k_iload (q := 4) C dX11_costOf_11 rfl ?_
  refine k_cVI C ct_X11_costBy my_11_costBy ml_11_234 rfl ⟨Nat.le_of_ble_eq_true rfl, Nat.le_of_ble_eq_true rfl⟩ recvM rfl (Nat.le_of_ble_eq_true rfl) dX11_costOf_13 ⟨Nat.le_refl _, Nat.le_refl _⟩ (fun r2 _ => ?_)
  exact k_iret C rfl ⟨rfl, rfl⟩ dX11_costOf_16
theorem ct_X11_costOf {l : Launch} {θ : TH} {ad : Nat → Nat} {S : St} {F : Nat} {a1 : Int32} {a2 : Int32} {a3 : Int32} {a4 : Int32} : ∀ r, f_X11_costOf F S a1 a2 a3 a4 = some r → Ct l θ yX11_costOf cX11_costOf 5 (some .int) 66 0 0 [.ref (ad 44), .int a1, .int a2, .int a3, .int a4] (wdM θ ad S) (PIS (wdM θ ad) r) :=
  fun r hr => Ct.of (by decide) (Nat.le_of_ble_eq_true rfl) (fun X _ C _ => kw_X11_costOf C r hr)
set_option maxRecDepth 20000 in
theorem kw_X11_isDv {X : GX} {θ : TH} {ad : Nat → Nat}  {S : St} {a1 : Int32} (C : CX (mE X θ (wdM θ ad S) 2) RX11 cX11_isDv (some .boolean) 2 0 0)  : Dk (mE X θ (wdM θ ad S) 2) (mT X θ (wdM θ ad S) 2 (PI (wdM θ ad S))) 0 0 (wdM θ ad S) [(0, .ref (ad 44)), (1, .int a1)] [] 0 (f_X11_isDv S a1) := by
  unfold f_X11_isDv
  refine k_iload_n (q := 1) C dX11_isDv_0 rfl rfl ?_
  refine k_if_lt (tgt := 30) C dX11_isDv_1 (by decide) (fun _ => ?_) (fun _ => ?_)
  · refine k_iconst (v := 0) C dX11_isDv_30 rfl ?_
    exact k_iret C rfl ⟨rfl, rfl⟩ dX11_isDv_31
  · refine k_aload_n (q := 0) C dX11_isDv_4 rfl rfl ?_
    refine k_iload_n (q := 1) C dX11_isDv_5 rfl rfl ?_
    refine k_bipush (v := 10) C dX11_isDv_6 rfl ?_
    refine k_idiv C dX11_isDv_8 (by decide) ?_
    refine k_cVI C ct_X11_isDeed my_11_isDeed ml_11_218 rfl ⟨Nat.le_of_ble_eq_true rfl, Nat.le_of_ble_eq_true rfl⟩ recvM rfl (Nat.le_of_ble_eq_true rfl) dX11_isDv_9 ⟨Nat.le_refl _, Nat.le_refl _⟩ (fun r1 _ => ?_)
    refine k_if_eq (tgt := 30) C dX11_isDv_12 (by decide) (fun _ => ?_) (fun _ => ?_)
    · refine k_iconst (v := 0) C dX11_isDv_30 rfl ?_
      exact k_iret C rfl ⟨rfl, rfl⟩ dX11_isDv_31
    · refine k_aload_n (q := 0) C dX11_isDv_15 rfl rfl ?_
      refine k_iload_n (q := 1) C dX11_isDv_16 rfl rfl ?_
      refine k_bipush (v := 10) C dX11_isDv_17 rfl ?_
      refine k_irem C dX11_isDv_19 (by decide) ?_
      refine k_cVI C ct_X11_isValley my_11_isValley ml_11_119 rfl ⟨Nat.le_of_ble_eq_true rfl, Nat.le_of_ble_eq_true rfl⟩ recvM rfl (Nat.le_of_ble_eq_true rfl) dX11_isDv_20 ⟨Nat.le_refl _, Nat.le_refl _⟩ (fun r2 _ => ?_)
      refine k_if_eq (tgt := 30) C dX11_isDv_23 (by decide) (fun _ => ?_) (fun _ => ?_)
      · refine k_iconst (v := 0) C dX11_isDv_30 rfl ?_
        exact k_iret C rfl ⟨rfl, rfl⟩ dX11_isDv_31
      · refine k_iconst (v := 1) C dX11_isDv_26 rfl ?_
        refine k_goto (tgt := 31) C dX11_isDv_27 (by decide) ?_
        exact k_iret C rfl ⟨rfl, rfl⟩ dX11_isDv_31
theorem ct_X11_isDv {l : Launch} {θ : TH} {ad : Nat → Nat} {S : St}  {a1 : Int32} : ∀ r, f_X11_isDv S a1 = some r → Ct l θ yX11_isDv cX11_isDv 2 (some .boolean) 2 0 0 [.ref (ad 44), .int a1] (wdM θ ad S) (PI (wdM θ ad S) r) :=
  fun r hr => Ct.of (by decide) (Nat.le_of_ble_eq_true rfl) (fun X _ C _ => kw_X11_isDv C r hr)
set_option maxRecDepth 20000 in
theorem kw_X11_costs {X : GX} {θ : TH} {ad : Nat → Nat} {F : Nat} {S : St} {a1 : Int32} {a2 : Int32} {a3 : Int32} (C : CX (mE X θ (wdM θ ad S) 4) RX11 cX11_costs (some .int) 67 0 0)  : Dk (mE X θ (wdM θ ad S) 4) (mT X θ (wdM θ ad S) 4 (PIS (wdM θ ad))) 0 0 (wdM θ ad S) [(0, .ref (ad 44)), (1, .int a1), (2, .int a2), (3, .int a3)] [] 0 (f_X11_costs F S a1 a2 a3) := by
  unfold f_X11_costs
  refine k_aload_n (q := 0) C dX11_costs_0 rfl rfl ?_
  refine k_iload_n (q := 1) C dX11_costs_1 rfl rfl ?_
  refine k_cVI C ct_X11_isDv my_11_isDv ml_11_237 rfl ⟨Nat.le_of_ble_eq_true rfl, Nat.le_of_ble_eq_true rfl⟩ recvM rfl (Nat.le_of_ble_eq_true rfl) dX11_costs_2 ⟨Nat.le_refl _, Nat.le_refl _⟩ (fun r1 _ => ?_)
  refine k_if_eq (tgt := 39) C dX11_costs_5 (by decide) (fun _ => ?_) (fun _ => ?_)
  · refine k_ldc C co_11_240 dX11_costs_39 ?_
    exact k_iret C rfl ⟨rfl, rfl⟩ dX11_costs_41
  · refine k_iload_n (q := 2) C dX11_costs_8 rfl rfl ?_
    refine k_i2l C dX11_costs_9 ?_
    refine k_lconst (v := 0) C dX11_costs_10 rfl ?_
    refine k_aload_n (q := 0) C dX11_costs_11 rfl rfl ?_
    refine m_geta (kf := 0) C mR_0 fl_11_9 dX11_costs_12 ?_
    refine k_bipush (v := 6) C dX11_costs_15 rfl ?_
    refine k_iload_n (q := 1) C dX11_costs_17 rfl rfl ?_
    refine k_bipush (v := 10) C dX11_costs_18 rfl ?_
    refine k_idiv C dX11_costs_20 (by decide) ?_
    refine k_iadd C dX11_costs_21 ?_
    refine m_iald (x := S.2.1 0 (6 + (a1 / 10)).toNatClampNeg) C mA_0 mN_0 rfl dX11_costs_22 ?_
    refine k_iconst (v := 1) C dX11_costs_23 rfl ?_
    refine k_isub C dX11_costs_24 ?_
    refine k_i2l C dX11_costs_25 ?_
    refine k_cSI C ct_X11_within my_11_within ml_11_106 rfl ⟨Nat.le_of_ble_eq_true rfl, Nat.le_of_ble_eq_true rfl⟩ rfl (Nat.le_of_ble_eq_true rfl) dX11_costs_26 ⟨Nat.le_refl _, Nat.le_refl _⟩ (fun r2 _ => ?_)
    refine k_if_eq (tgt := 39) C dX11_costs_29 (by decide) (fun _ => ?_) (fun _ => ?_)
    · refine k_ldc C co_11_240 dX11_costs_39 ?_
      exact k_iret C rfl ⟨rfl, rfl⟩ dX11_costs_41
    · refine k_iload_n (q := 3) C dX11_costs_32 rfl rfl ?_
      refine k_cSI C ct_X11_isHour my_11_isHour ml_11_134 rfl ⟨Nat.le_of_ble_eq_true rfl, Nat.le_of_ble_eq_true rfl⟩ rfl (Nat.le_of_ble_eq_true rfl) dX11_costs_33 ⟨Nat.le_refl _, Nat.le_refl _⟩ (fun r3 _ => ?_)
      refine k_if_ne (tgt := 42) C dX11_costs_36 (by decide) (fun _ => ?_) (fun _ => ?_)
      · refine k_aload_n (q := 0) C dX11_costs_42 rfl rfl ?_
        refine k_iload_n (q := 1) C dX11_costs_43 rfl rfl ?_
        refine k_bipush (v := 10) C dX11_costs_44 rfl ?_
        refine k_idiv C dX11_costs_46 (by decide) ?_
        refine k_iload_n (q := 1) C dX11_costs_47 rfl rfl ?_
        refine k_bipush (v := 10) C dX11_costs_48 rfl ?_
        refine k_irem C dX11_costs_50 (by decide) ?_
        refine k_iload_n (q := 2) C dX11_costs_51 rfl rfl ?_
        refine k_iload_n (q := 3) C dX11_costs_52 rfl rfl ?_
        refine k_cVI C ct_X11_costOf my_11_costOf ml_11_241 rfl ⟨Nat.le_of_ble_eq_true rfl, Nat.le_of_ble_eq_true rfl⟩ recvM rfl (Nat.le_of_ble_eq_true rfl) dX11_costs_53 ⟨Nat.le_refl _, Nat.le_refl _⟩ (fun r4 _ => ?_)
        exact k_iret C rfl ⟨rfl, rfl⟩ dX11_costs_56
      · refine k_ldc C co_11_240 dX11_costs_39 ?_
        exact k_iret C rfl ⟨rfl, rfl⟩ dX11_costs_41
theorem ct_X11_costs {l : Launch} {θ : TH} {ad : Nat → Nat} {S : St} {F : Nat} {a1 : Int32} {a2 : Int32} {a3 : Int32} : ∀ r, f_X11_costs F S a1 a2 a3 = some r → Ct l θ yX11_costs cX11_costs 4 (some .int) 67 0 0 [.ref (ad 44), .int a1, .int a2, .int a3] (wdM θ ad S) (PIS (wdM θ ad) r) :=
  fun r hr => Ct.of (by decide) (Nat.le_of_ble_eq_true rfl) (fun X _ C _ => kw_X11_costs C r hr)
set_option maxRecDepth 20000 in
theorem kb_X11_allOf_L6 {X : GX} {θ : TH} {ad : Nat → Nat} {S0 : St} {F : Nat} {a1 : Int32} {a2 : Int32} {a3 : Int32} (C : CX (mE X θ (wdM θ ad S0) 7) RX11 cX11_allOf (some .int) 67 0 0)  : ∀ (n : Nat) (S : St) (x4 : Int32) (x5 : Int32), Dk (mE X θ (wdM θ ad S0) 7) (mT X θ (wdM θ ad S0) 7 (PIS (wdM θ ad))) 0 0 (wdM θ ad S) [(0, .ref (ad 44)), (1, .int a1), (2, .int a2), (3, .int a3), (4, .int x4), (5, .int x5)] [] 6 (f_X11_allOf_L6 F a1 a2 a3 n S x4 x5) := by
  intro n
  induction n with
  | zero => intro S x4 x5; exact Dk.none
  | succ n ih =>
    intro S x4 x5
    show Dk _ _ _ _ _ _ _ _ (chk (inr (6 + a1) 30) ((if (S.2.1 0 (6 + a1).toNatClampNeg) ≤ x5 then some (x4, S) else (f_X11_costOf F S a1 a2 x5 (a3 + x5)).bind fun r1 => (if (0 : Int32) ≤ r1.1 then f_X11_allOf_L6 F a1 a2 a3 n r1.2 (x4 + r1.1) (x5 + 1) else some ((-2 : Int32), r1.2)))))
    refine k_iload (q := 5) C dX11_allOf_6 rfl ?_
    refine k_aload_n (q := 0) C dX11_allOf_8 rfl rfl ?_
    refine m_geta (kf := 0) C mR_0 fl_11_9 dX11_allOf_9 ?_
    refine k_bipush (v := 6) C dX11_allOf_12 rfl ?_
    refine k_iload_n (q := 1) C dX11_allOf_14 rfl rfl ?_
    refine k_iadd C dX11_allOf_15 ?_
    refine m_iald (x := S.2.1 0 (6 + a1).toNatClampNeg) C mA_0 mN_0 rfl dX11_allOf_16 ?_
    refine k_icmp_ge (tgt := 55) C dX11_allOf_17 (by decide) (fun _ => ?_) (fun _ => ?_)
    · refine k_iload (q := 4) C dX11_allOf_55 rfl ?_
      exact k_iret C rfl ⟨rfl, rfl⟩ dX11_allOf_57
    · refine k_aload_n (q := 0) C dX11_allOf_20 rfl rfl ?_
      refine k_iload_n (q := 1) C dX11_allOf_21 rfl rfl ?_
      refine k_iload_n (q := 2) C dX11_allOf_22 rfl rfl ?_
      refine k_iload (q := 5) C dX11_allOf_23 rfl ?_
      refine k_iload_n (q := 3) C dX11_allOf_25 rfl rfl ?_
      refine k_iload (q := 5) C dX11_allOf_26 rfl ?_
      refine k_iadd C dX11_allOf_28 ?_
      refine k_cVI C ct_X11_costOf my_11_costOf ml_11_241 rfl ⟨Nat.le_of_ble_eq_true rfl, Nat.le_of_ble_eq_true rfl⟩ recvM rfl (Nat.le_of_ble_eq_true rfl) dX11_allOf_29 ⟨Nat.le_refl _, Nat.le_refl _⟩ (fun r1 _ => ?_)
      refine k_istore (lv' := [(6, .int r1.1), (0, .ref (ad 44)), (1, .int a1), (2, .int a2), (3, .int a3), (4, .int x4), (5, .int x5)]) C dX11_allOf_32 (Nat.le_of_ble_eq_true rfl) rfl ?_
      refine k_iload (q := 0) C dX11_allOf_34 rfl ?_
      refine k_if_ge (tgt := 42) C dX11_allOf_36 (by decide) (fun _ => ?_) (fun _ => ?_)
      · refine k_iload (q := 5) C dX11_allOf_42 rfl ?_
        refine k_iload (q := 0) C dX11_allOf_44 rfl ?_
        refine k_iadd C dX11_allOf_46 ?_
        refine k_istore (lv' := [(4, .int (x4 + r1.1)), (6, .int r1.1), (0, .ref (ad 44)), (1, .int a1), (2, .int a2), (3, .int a3), (5, .int x5)]) C dX11_allOf_47 (Nat.le_of_ble_eq_true rfl) rfl ?_
        refine k_iinc (q := 6) (v := x5 + 1) (lv' := [(5, .int (x5 + 1)), (4, .int (x4 + r1.1)), (6, .int r1.1), (0, .ref (ad 44)), (1, .int a1), (2, .int a2), (3, .int a3)]) C dX11_allOf_49 rfl rfl (Nat.le_of_ble_eq_true rfl) rfl ?_
        refine k_goto (tgt := 6) C dX11_allOf_52 (by decide) ?_
        refine Dk.loc [3, 4, 5, 6, 1, 0] rfl ?_
        exact ih _ _ _
      · refine k_bipush (v := (-2)) C dX11_allOf_39 rfl ?_
        exact k_iret C rfl ⟨rfl, rfl⟩ dX11_allOf_41
set_option maxRecDepth 20000 in
theorem kw_X11_allOf {X : GX} {θ : TH} {ad : Nat → Nat} {F : Nat} {S : St} {a1 : Int32} {a2 : Int32} {a3 : Int32} (C : CX (mE X θ (wdM θ ad S) 7) RX11 cX11_allOf (some .int) 67 0 0)  : Dk (mE X θ (wdM θ ad S) 7) (mT X θ (wdM θ ad S) 7 (PIS (wdM θ ad))) 0 0 (wdM θ ad S) [(0, .ref (ad 44)), (1, .int a1), (2, .int a2), (3, .int a3)] [] 0 (f_X11_allOf F S a1 a2 a3) := by
  unfold f_X11_allOf
  refine k_iconst (v := 0) C dX11_allOf_0 rfl ?_
  refine k_istore (lv' := [(4, .int 0), (0, .ref (ad 44)), (1, .int a1), (2, .int a2), (3, .int a3)]) C dX11_allOf_1 (Nat.le_of_ble_eq_true rfl) rfl ?_
  refine k_iconst (v := 0) C dX11_allOf_3 rfl ?_
  refine k_istore (lv' := [(5, .int 0), (4, .int 0), (0, .ref (ad 44)), (1, .int a1), (2, .int a2), (3, .int a3)]) C dX11_allOf_4 (Nat.le_of_ble_eq_true rfl) rfl ?_
  refine Dk.loc [2, 3, 4, 5, 1, 0] rfl ?_
  exact kb_X11_allOf_L6 C _ _ _ _
theorem ct_X11_allOf {l : Launch} {θ : TH} {ad : Nat → Nat} {S : St} {F : Nat} {a1 : Int32} {a2 : Int32} {a3 : Int32} : ∀ r, f_X11_allOf F S a1 a2 a3 = some r → Ct l θ yX11_allOf cX11_allOf 7 (some .int) 67 0 0 [.ref (ad 44), .int a1, .int a2, .int a3] (wdM θ ad S) (PIS (wdM θ ad) r) :=
  fun r hr => Ct.of (by decide) (Nat.le_of_ble_eq_true rfl) (fun X _ C _ => kw_X11_allOf C r hr)
set_option maxRecDepth 20000 in
theorem kb_X11_mildestOf_L7 {X : GX} {θ : TH} {ad : Nat → Nat} {S0 : St} {F : Nat} {a1 : Int32} {a2 : Int32} {a3 : Int32} (C : CX (mE X θ (wdM θ ad S0) 7) RX11 cX11_mildestOf (some .int) 67 0 0)  : ∀ (n : Nat) (S : St) (x4 : Int32) (x5 : Int32), Dk (mE X θ (wdM θ ad S0) 7) (mT X θ (wdM θ ad S0) 7 (PIS (wdM θ ad))) 0 0 (wdM θ ad S) [(0, .ref (ad 44)), (1, .int a1), (2, .int a2), (3, .int a3), (4, .int x4), (5, .int x5)] [] 7 (f_X11_mildestOf_L7 F a1 a2 a3 n S x4 x5) := by
  intro n
  induction n with
  | zero => intro S x4 x5; exact Dk.none
  | succ n ih =>
    intro S x4 x5
    show Dk _ _ _ _ _ _ _ _ (chk (inr (6 + a1) 30) ((if (S.2.1 0 (6 + a1).toNatClampNeg) ≤ x5 then some (x4, S) else (f_X11_costOf F S a1 a2 x5 (a3 + x5)).bind fun r1 => (if r1.1 < 0 then f_X11_mildestOf_L7 F a1 a2 a3 n r1.2 x4 (x5 + 1) else if x4 < 0 then f_X11_mildestOf_L7 F a1 a2 a3 n r1.2 r1.1 (x5 + 1) else if x4 ≤ r1.1 then f_X11_mildestOf_L7 F a1 a2 a3 n r1.2 x4 (x5 + 1) else f_X11_mildestOf_L7 F a1 a2 a3 n r1.2 r1.1 (x5 + 1)))))
    refine k_iload (q := 5) C dX11_mildestOf_7 rfl ?_
    refine k_aload_n (q := 0) C dX11_mildestOf_9 rfl rfl ?_
    refine m_geta (kf := 0) C mR_0 fl_11_9 dX11_mildestOf_10 ?_
    refine k_bipush (v := 6) C dX11_mildestOf_13 rfl ?_
    refine k_iload_n (q := 1) C dX11_mildestOf_15 rfl rfl ?_
    refine k_iadd C dX11_mildestOf_16 ?_
    refine m_iald (x := S.2.1 0 (6 + a1).toNatClampNeg) C mA_0 mN_0 rfl dX11_mildestOf_17 ?_
    refine k_icmp_ge (tgt := 67) C dX11_mildestOf_18 (by decide) (fun _ => ?_) (fun _ => ?_)
    · refine k_iload (q := 4) C dX11_mildestOf_67 rfl ?_
      exact k_iret C rfl ⟨rfl, rfl⟩ dX11_mildestOf_69
    · refine k_aload_n (q := 0) C dX11_mildestOf_21 rfl rfl ?_
      refine k_iload_n (q := 1) C dX11_mildestOf_22 rfl rfl ?_
      refine k_iload_n (q := 2) C dX11_mildestOf_23 rfl rfl ?_
      refine k_iload (q := 5) C dX11_mildestOf_24 rfl ?_
      refine k_iload_n (q := 3) C dX11_mildestOf_26 rfl rfl ?_
      refine k_iload (q := 5) C dX11_mildestOf_27 rfl ?_
      refine k_iadd C dX11_mildestOf_29 ?_
      refine k_cVI C ct_X11_costOf my_11_costOf ml_11_241 rfl ⟨Nat.le_of_ble_eq_true rfl, Nat.le_of_ble_eq_true rfl⟩ recvM rfl (Nat.le_of_ble_eq_true rfl) dX11_mildestOf_30 ⟨Nat.le_refl _, Nat.le_refl _⟩ (fun r1 _ => ?_)
      refine k_istore (lv' := [(6, .int r1.1), (0, .ref (ad 44)), (1, .int a1), (2, .int a2), (3, .int a3), (4, .int x4), (5, .int x5)]) C dX11_mildestOf_33 (Nat.le_of_ble_eq_true rfl) rfl ?_
      refine k_iload (q := 0) C dX11_mildestOf_35 rfl ?_
      refine k_if_lt (tgt := 57) C dX11_mildestOf_37 (by decide) (fun _ => ?_) (fun _ => ?_)
      · refine k_iload (q := 5) C dX11_mildestOf_57 rfl ?_
        refine k_istore (lv' := [(4, .int x4), (6, .int r1.1), (0, .ref (ad 44)), (1, .int a1), (2, .int a2), (3, .int a3), (5, .int x5)]) C dX11_mildestOf_59 (Nat.le_of_ble_eq_true rfl) rfl ?_
        refine k_iinc (q := 6) (v := x5 + 1) (lv' := [(5, .int (x5 + 1)), (4, .int x4), (6, .int r1.1), (0, .ref (ad 44)), (1, .int a1), (2, .int a2), (3, .int a3)]) C dX11_mildestOf_61 rfl rfl (Nat.le_of_ble_eq_true rfl) rfl ?_
        refine k_goto (tgt := 7) C dX11_mildestOf_64 (by decide) ?_
        refine Dk.loc [3, 4, 5, 6, 1, 0] rfl ?_
        exact ih _ _ _
      · refine k_iload (q := 5) C dX11_mildestOf_40 rfl ?_
        refine k_if_lt (tgt := 52) C dX11_mildestOf_42 (by decide) (fun _ => ?_) (fun _ => ?_)
        · refine k_iload (q := 0) C dX11_mildestOf_52 rfl ?_
          refine k_goto (tgt := 59) C dX11_mildestOf_54 (by decide) ?_
          refine k_istore (lv' := [(4, .int r1.1), (6, .int r1.1), (0, .ref (ad 44)), (1, .int a1), (2, .int a2), (3, .int a3), (5, .int x5)]) C dX11_mildestOf_59 (Nat.le_of_ble_eq_true rfl) rfl ?_
          refine k_iinc (q := 6) (v := x5 + 1) (lv' := [(5, .int (x5 + 1)), (4, .int r1.1), (6, .int r1.1), (0, .ref (ad 44)), (1, .int a1), (2, .int a2), (3, .int a3)]) C dX11_mildestOf_61 rfl rfl (Nat.le_of_ble_eq_true rfl) rfl ?_
          refine k_goto (tgt := 7) C dX11_mildestOf_64 (by decide) ?_
          refine Dk.loc [3, 4, 5, 6, 1, 0] rfl ?_
          exact ih _ _ _
        · refine k_iload (q := 0) C dX11_mildestOf_45 rfl ?_
          refine k_iload (q := 5) C dX11_mildestOf_47 rfl ?_
          refine k_icmp_ge (tgt := 57) C dX11_mildestOf_49 (by decide) (fun _ => ?_) (fun _ => ?_)
          · refine k_iload (q := 5) C dX11_mildestOf_57 rfl ?_
            refine k_istore (lv' := [(4, .int x4), (6, .int r1.1), (0, .ref (ad 44)), (1, .int a1), (2, .int a2), (3, .int a3), (5, .int x5)]) C dX11_mildestOf_59 (Nat.le_of_ble_eq_true rfl) rfl ?_
            refine k_iinc (q := 6) (v := x5 + 1) (lv' := [(5, .int (x5 + 1)), (4, .int x4), (6, .int r1.1), (0, .ref (ad 44)), (1, .int a1), (2, .int a2), (3, .int a3)]) C dX11_mildestOf_61 rfl rfl (Nat.le_of_ble_eq_true rfl) rfl ?_
            refine k_goto (tgt := 7) C dX11_mildestOf_64 (by decide) ?_
            refine Dk.loc [3, 4, 5, 6, 1, 0] rfl ?_
            exact ih _ _ _
          · refine k_iload (q := 0) C dX11_mildestOf_52 rfl ?_
            refine k_goto (tgt := 59) C dX11_mildestOf_54 (by decide) ?_
            refine k_istore (lv' := [(4, .int r1.1), (6, .int r1.1), (0, .ref (ad 44)), (1, .int a1), (2, .int a2), (3, .int a3), (5, .int x5)]) C dX11_mildestOf_59 (Nat.le_of_ble_eq_true rfl) rfl ?_
            refine k_iinc (q := 6) (v := x5 + 1) (lv' := [(5, .int (x5 + 1)), (4, .int r1.1), (6, .int r1.1), (0, .ref (ad 44)), (1, .int a1), (2, .int a2), (3, .int a3)]) C dX11_mildestOf_61 rfl rfl (Nat.le_of_ble_eq_true rfl) rfl ?_
            refine k_goto (tgt := 7) C dX11_mildestOf_64 (by decide) ?_
            refine Dk.loc [3, 4, 5, 6, 1, 0] rfl ?_
            exact ih _ _ _
set_option maxRecDepth 20000 in
theorem kw_X11_mildestOf {X : GX} {θ : TH} {ad : Nat → Nat} {F : Nat} {S : St} {a1 : Int32} {a2 : Int32} {a3 : Int32} (C : CX (mE X θ (wdM θ ad S) 7) RX11 cX11_mildestOf (some .int) 67 0 0)  : Dk (mE X θ (wdM θ ad S) 7) (mT X θ (wdM θ ad S) 7 (PIS (wdM θ ad))) 0 0 (wdM θ ad S) [(0, .ref (ad 44)), (1, .int a1), (2, .int a2), (3, .int a3)] [] 0 (f_X11_mildestOf F S a1 a2 a3) := by
  unfold f_X11_mildestOf
  refine k_bipush (v := (-2)) C dX11_mildestOf_0 rfl ?_
  refine k_istore (lv' := [(4, .int (-2)), (0, .ref (ad 44)), (1, .int a1), (2, .int a2), (3, .int a3)]) C dX11_mildestOf_2 (Nat.le_of_ble_eq_true rfl) rfl ?_
  refine k_iconst (v := 0) C dX11_mildestOf_4 rfl ?_
  refine k_istore (lv' := [(5, .int 0), (4, .int (-2)), (0, .ref (ad 44)), (1, .int a1), (2, .int a2), (3, .int a3)]) C dX11_mildestOf_5 (Nat.le_of_ble_eq_true rfl) rfl ?_
  refine Dk.loc [2, 3, 4, 5, 1, 0] rfl ?_
  exact kb_X11_mildestOf_L7 C _ _ _ _
theorem ct_X11_mildestOf {l : Launch} {θ : TH} {ad : Nat → Nat} {S : St} {F : Nat} {a1 : Int32} {a2 : Int32} {a3 : Int32} : ∀ r, f_X11_mildestOf F S a1 a2 a3 = some r → Ct l θ yX11_mildestOf cX11_mildestOf 7 (some .int) 67 0 0 [.ref (ad 44), .int a1, .int a2, .int a3] (wdM θ ad S) (PIS (wdM θ ad) r) :=
  fun r hr => Ct.of (by decide) (Nat.le_of_ble_eq_true rfl) (fun X _ C _ => kw_X11_mildestOf C r hr)
set_option maxRecDepth 20000 in
theorem kw_X11_mayOf {X : GX} {θ : TH} {ad : Nat → Nat} {F : Nat} {S : St} {a1 : Int32} {a2 : Int32} {a3 : Int32} (C : CX (mE X θ (wdM θ ad S) 5) RX11 cX11_mayOf (some .int) 68 0 0)  : Dk (mE X θ (wdM θ ad S) 5) (mT X θ (wdM θ ad S) 5 (PIS (wdM θ ad))) 0 0 (wdM θ ad S) [(0, .ref (ad 44)), (1, .int a1), (2, .int a2), (3, .int a3)] [] 0 (f_X11_mayOf F S a1 a2 a3) := by
  unfold f_X11_mayOf
  refine k_aload_n (q := 0) C dX11_mayOf_0 rfl rfl ?_
  refine m_geta (kf := 0) C mR_0 fl_11_9 dX11_mayOf_1 ?_
  refine k_bipush (v := 6) C dX11_mayOf_4 rfl ?_
  refine k_iload_n (q := 1) C dX11_mayOf_6 rfl rfl ?_
  refine k_iadd C dX11_mayOf_7 ?_
  refine m_iald (x := S.2.1 0 (6 + a1).toNatClampNeg) C mA_0 mN_0 rfl dX11_mayOf_8 ?_
  refine k_iconst (v := 1) C dX11_mayOf_9 rfl ?_
  refine k_isub C dX11_mayOf_10 ?_
  refine k_lti fun y1 => ?_
  refine k_istore (lv' := [(4, .int y1), (0, .ref (ad 44)), (1, .int a1), (2, .int a2), (3, .int a3)]) C dX11_mayOf_11 (Nat.le_of_ble_eq_true rfl) rfl ?_
  refine k_aload_n (q := 1) C dX11_mayOf_13 rfl rfl ?_
  refine m_geta (kf := 0) C mR_0 fl_11_9 dX11_mayOf_14 ?_
  refine k_bipush (v := 18) C dX11_mayOf_17 rfl ?_
  refine k_iload_n (q := 2) C dX11_mayOf_19 rfl rfl ?_
  refine k_iadd C dX11_mayOf_20 ?_
  refine m_iald (x := S.2.1 0 (18 + a1).toNatClampNeg) C mA_0 mN_0 rfl dX11_mayOf_21 ?_
  refine k_case (c := 0) (fun q1 => ?_) (fun q1 => ?_)
  · refine k_tableIn (off := 26) (tgt := 48) C dX11_mayOf_22 (by rw [q1]; decide) (by rw [q1]; decide) (by rw [q1]; rfl) (by decide) ?_
    refine k_aload_n (q := 1) C dX11_mayOf_48 rfl rfl ?_
    refine k_iload_n (q := 2) C dX11_mayOf_49 rfl rfl ?_
    refine k_iload_n (q := 3) C dX11_mayOf_50 rfl rfl ?_
    refine k_iconst (v := 0) C dX11_mayOf_51 rfl ?_
    refine k_iload_n (q := 4) C dX11_mayOf_52 rfl rfl ?_
    refine k_cVI C ct_X11_costOf my_11_costOf ml_11_241 rfl ⟨Nat.le_of_ble_eq_true rfl, Nat.le_of_ble_eq_true rfl⟩ recvM rfl (Nat.le_of_ble_eq_true rfl) dX11_mayOf_53 ⟨Nat.le_refl _, Nat.le_refl _⟩ (fun r2 _ => ?_)
    exact k_iret C rfl ⟨rfl, rfl⟩ dX11_mayOf_56
  refine k_case (c := 1) (fun q2 => ?_) (fun q2 => ?_)
  · refine k_tableIn (off := 35) (tgt := 57) C dX11_mayOf_22 (by rw [q2]; decide) (by rw [q2]; decide) (by rw [q2]; rfl) (by decide) ?_
    refine k_aload_n (q := 1) C dX11_mayOf_57 rfl rfl ?_
    refine k_iload_n (q := 2) C dX11_mayOf_58 rfl rfl ?_
    refine k_iload_n (q := 3) C dX11_mayOf_59 rfl rfl ?_
    refine k_iload (q := 0) C dX11_mayOf_60 rfl ?_
    refine k_iload_n (q := 4) C dX11_mayOf_62 rfl rfl ?_
    refine k_iload (q := 0) C dX11_mayOf_63 rfl ?_
    refine k_iadd C dX11_mayOf_65 ?_
    refine k_cVI C ct_X11_costOf my_11_costOf ml_11_241 rfl ⟨Nat.le_of_ble_eq_true rfl, Nat.le_of_ble_eq_true rfl⟩ recvM rfl (Nat.le_of_ble_eq_true rfl) dX11_mayOf_66 ⟨Nat.le_refl _, Nat.le_refl _⟩ (fun r3 _ => ?_)
    exact k_iret C rfl ⟨rfl, rfl⟩ dX11_mayOf_69
  refine k_case (c := 2) (fun q3 => ?_) (fun q3 => ?_)
  · refine k_tableIn (off := 48) (tgt := 70) C dX11_mayOf_22 (by rw [q3]; decide) (by rw [q3]; decide) (by rw [q3]; rfl) (by decide) ?_
    refine k_aload_n (q := 1) C dX11_mayOf_70 rfl rfl ?_
    refine k_iload_n (q := 2) C dX11_mayOf_71 rfl rfl ?_
    refine k_iload_n (q := 3) C dX11_mayOf_72 rfl rfl ?_
    refine k_iload_n (q := 4) C dX11_mayOf_73 rfl rfl ?_
    refine k_cVI C ct_X11_allOf my_11_allOf ml_11_245 rfl ⟨Nat.le_of_ble_eq_true rfl, Nat.le_of_ble_eq_true rfl⟩ recvM rfl (Nat.le_of_ble_eq_true rfl) dX11_mayOf_74 ⟨Nat.le_refl _, Nat.le_refl _⟩ (fun r4 _ => ?_)
    exact k_iret C rfl ⟨rfl, rfl⟩ dX11_mayOf_77
  refine k_tableOut (tgt := 78) C dX11_mayOf_22 (by have zq1 := i32ne q1 (z := 0) rfl; have zq2 := i32ne q2 (z := 1) rfl; have zq3 := i32ne q3 (z := 2) rfl; omega) (by decide) ?_
  refine k_aload_n (q := 1) C dX11_mayOf_78 rfl rfl ?_
  refine k_iload_n (q := 2) C dX11_mayOf_79 rfl rfl ?_
  refine k_iload_n (q := 3) C dX11_mayOf_80 rfl rfl ?_
  refine k_iload_n (q := 4) C dX11_mayOf_81 rfl rfl ?_
  refine k_cVI C ct_X11_mildestOf my_11_mildestOf ml_11_249 rfl ⟨Nat.le_of_ble_eq_true rfl, Nat.le_of_ble_eq_true rfl⟩ recvM rfl (Nat.le_of_ble_eq_true rfl) dX11_mayOf_82 ⟨Nat.le_refl _, Nat.le_refl _⟩ (fun r5 _ => ?_)
  exact k_iret C rfl ⟨rfl, rfl⟩ dX11_mayOf_85
theorem ct_X11_mayOf {l : Launch} {θ : TH} {ad : Nat → Nat} {S : St} {F : Nat} {a1 : Int32} {a2 : Int32} {a3 : Int32} : ∀ r, f_X11_mayOf F S a1 a2 a3 = some r → Ct l θ yX11_mayOf cX11_mayOf 5 (some .int) 68 0 0 [.ref (ad 44), .int a1, .int a2, .int a3] (wdM θ ad S) (PIS (wdM θ ad) r) :=
  fun r hr => Ct.of (by decide) (Nat.le_of_ble_eq_true rfl) (fun X _ C _ => kw_X11_mayOf C r hr)
set_option maxRecDepth 20000 in
theorem kw_X11_may {X : GX} {θ : TH} {ad : Nat → Nat} {F : Nat} {S : St} {a1 : Int32} {a2 : Int32} (C : CX (mE X θ (wdM θ ad S) 3) RX11 cX11_may (some .int) 69 0 0)  : Dk (mE X θ (wdM θ ad S) 3) (mT X θ (wdM θ ad S) 3 (PIS (wdM θ ad))) 0 0 (wdM θ ad S) [(0, .ref (ad 44)), (1, .int a1), (2, .int a2)] [] 0 (f_X11_may F S a1 a2) := by
  unfold f_X11_may
  refine k_aload_n (q := 0) C dX11_may_0 rfl rfl ?_
  refine k_iload_n (q := 1) C dX11_may_1 rfl rfl ?_
  refine k_cVI C ct_X11_isDv my_11_isDv ml_11_237 rfl ⟨Nat.le_of_ble_eq_true rfl, Nat.le_of_ble_eq_true rfl⟩ recvM rfl (Nat.le_of_ble_eq_true rfl) dX11_may_2 ⟨Nat.le_refl _, Nat.le_refl _⟩ (fun r1 _ => ?_)
  refine k_if_eq (tgt := 31) C dX11_may_5 (by decide) (fun _ => ?_) (fun _ => ?_)
  · refine k_ldc C co_11_240 dX11_may_31 ?_
    exact k_iret C rfl ⟨rfl, rfl⟩ dX11_may_33
  · refine k_iload_n (q := 2) C dX11_may_8 rfl rfl ?_
    refine k_cSI C ct_X11_isHour my_11_isHour ml_11_134 rfl ⟨Nat.le_of_ble_eq_true rfl, Nat.le_of_ble_eq_true rfl⟩ rfl (Nat.le_of_ble_eq_true rfl) dX11_may_9 ⟨Nat.le_refl _, Nat.le_refl _⟩ (fun r2 _ => ?_)
    refine k_if_eq (tgt := 31) C dX11_may_12 (by decide) (fun _ => ?_) (fun _ => ?_)
    · refine k_ldc C co_11_240 dX11_may_31 ?_
      exact k_iret C rfl ⟨rfl, rfl⟩ dX11_may_33
    · refine k_aload_n (q := 0) C dX11_may_15 rfl rfl ?_
      refine k_iload_n (q := 1) C dX11_may_16 rfl rfl ?_
      refine k_bipush (v := 10) C dX11_may_17 rfl ?_
      refine k_idiv C dX11_may_19 (by decide) ?_
      refine k_iload_n (q := 1) C dX11_may_20 rfl rfl ?_
      refine k_bipush (v := 10) C dX11_may_21 rfl ?_
      refine k_irem C dX11_may_23 (by decide) ?_
      refine k_iload_n (q := 2) C dX11_may_24 rfl rfl ?_
      refine k_cVI C ct_X11_mayOf my_11_mayOf ml_11_252 rfl ⟨Nat.le_of_ble_eq_true rfl, Nat.le_of_ble_eq_true rfl⟩ recvM rfl (Nat.le_of_ble_eq_true rfl) dX11_may_25 ⟨Nat.le_refl _, Nat.le_refl _⟩ (fun r3 _ => ?_)
      refine k_goto (tgt := 33) C dX11_may_28 (by decide) ?_
      exact k_iret C rfl ⟨rfl, rfl⟩ dX11_may_33
theorem ct_X11_may {l : Launch} {θ : TH} {ad : Nat → Nat} {S : St} {F : Nat} {a1 : Int32} {a2 : Int32} : ∀ r, f_X11_may F S a1 a2 = some r → Ct l θ yX11_may cX11_may 3 (some .int) 69 0 0 [.ref (ad 44), .int a1, .int a2] (wdM θ ad S) (PIS (wdM θ ad) r) :=
  fun r hr => Ct.of (by decide) (Nat.le_of_ble_eq_true rfl) (fun X _ C _ => kw_X11_may C r hr)
set_option maxRecDepth 20000 in
theorem kb_X11_now_L22 {X : GX} {θ : TH} {ad : Nat → Nat} {S0 : St} {F : Nat} {a1 : Int32} {a2 : Int32} (C : CX (mE X θ (wdM θ ad S0) 5) RX11 cX11_now (some .int) 69 0 0)  : ∀ (n : Nat) (S : St) (x3 : Int32) (x4 : Int32), Dk (mE X θ (wdM θ ad S0) 5) (mT X θ (wdM θ ad S0) 5 (PIS (wdM θ ad))) 0 0 (wdM θ ad S) [(0, .ref (ad 44)), (1, .int a1), (2, .int a2), (3, .int x3), (4, .int x4)] [] 22 (f_X11_now_L22 F a1 a2 n S x3 x4) := by
  intro n
  induction n with
  | zero => intro S x3 x4; exact Dk.none
  | succ n ih =>
    intro S x3 x4
    show Dk _ _ _ _ _ _ _ _ (if (S.1 22) ≤ x4 then some (x3, S) else (f_X11_mayOf F S x4 a1 a2).bind fun r3 => (if r3.1 < 0 then f_X11_now_L22 F a1 a2 n r3.2 (x3 ||| 0) (x4 + 1) else lti (x3 ||| (1 <<< (x4 &&& 31))) fun y4 => f_X11_now_L22 F a1 a2 n r3.2 y4 (x4 + 1)))
    refine k_iload (q := 4) C dX11_now_22 rfl ?_
    refine k_aload_n (q := 0) C dX11_now_24 rfl rfl ?_
    refine m_geti (kf := 22) (v := S.1 22) C mS_22 fl_11_196 rfl dX11_now_25 ?_
    refine k_icmp_ge (tgt := 59) C dX11_now_28 (by decide) (fun _ => ?_) (fun _ => ?_)
    · refine k_iload_n (q := 3) C dX11_now_59 rfl rfl ?_
      exact k_iret C rfl ⟨rfl, rfl⟩ dX11_now_60
    · refine k_iload_n (q := 3) C dX11_now_31 rfl rfl ?_
      refine k_aload_n (q := 0) C dX11_now_32 rfl rfl ?_
      refine k_iload (q := 4) C dX11_now_33 rfl ?_
      refine k_iload_n (q := 1) C dX11_now_35 rfl rfl ?_
      refine k_iload_n (q := 2) C dX11_now_36 rfl rfl ?_
      refine k_cVI C ct_X11_mayOf my_11_mayOf ml_11_252 rfl ⟨Nat.le_of_ble_eq_true rfl, Nat.le_of_ble_eq_true rfl⟩ recvM rfl (Nat.le_of_ble_eq_true rfl) dX11_now_37 ⟨Nat.le_refl _, Nat.le_refl _⟩ (fun r3 _ => ?_)
      refine k_if_lt (tgt := 50) C dX11_now_40 (by decide) (fun _ => ?_) (fun _ => ?_)
      · refine k_iconst (v := 0) C dX11_now_50 rfl ?_
        refine k_ior C dX11_now_51 ?_
        refine k_istore_n (lv' := [(3, .int (x3 ||| 0)), (0, .ref (ad 44)), (1, .int a1), (2, .int a2), (4, .int x4)]) C dX11_now_52 rfl (Nat.le_of_ble_eq_true rfl) rfl ?_
        refine k_iinc (q := 4) (v := x4 + 1) (lv' := [(4, .int (x4 + 1)), (3, .int (x3 ||| 0)), (0, .ref (ad 44)), (1, .int a1), (2, .int a2)]) C dX11_now_53 rfl rfl (Nat.le_of_ble_eq_true rfl) rfl ?_
        refine k_goto (tgt := 22) C dX11_now_56 (by decide) ?_
        refine Dk.loc [2, 3, 4, 1, 0] rfl ?_
        exact ih _ _ _
      · refine k_iconst (v := 1) C dX11_now_43 rfl ?_
        refine k_iload (q := 4) C dX11_now_44 rfl ?_
        refine k_ishl C dX11_now_46 ?_
        refine k_goto (tgt := 51) C dX11_now_47 (by decide) ?_
        refine k_ior C dX11_now_51 ?_
        refine k_lti fun y4 => ?_
        refine k_istore_n (lv' := [(3, .int y4), (0, .ref (ad 44)), (1, .int a1), (2, .int a2), (4, .int x4)]) C dX11_now_52 rfl (Nat.le_of_ble_eq_true rfl) rfl ?_
        refine k_iinc (q := 4) (v := x4 + 1) (lv' := [(4, .int (x4 + 1)), (3, .int y4), (0, .ref (ad 44)), (1, .int a1), (2, .int a2)]) C dX11_now_53 rfl rfl (Nat.le_of_ble_eq_true rfl) rfl ?_
        refine k_goto (tgt := 22) C dX11_now_56 (by decide) ?_
        refine Dk.loc [2, 3, 4, 1, 0] rfl ?_
        exact ih _ _ _
set_option maxRecDepth 20000 in
theorem kw_X11_now {X : GX} {θ : TH} {ad : Nat → Nat} {F : Nat} {S : St} {a1 : Int32} {a2 : Int32} (C : CX (mE X θ (wdM θ ad S) 5) RX11 cX11_now (some .int) 69 0 0)  : Dk (mE X θ (wdM θ ad S) 5) (mT X θ (wdM θ ad S) 5 (PIS (wdM θ ad))) 0 0 (wdM θ ad S) [(0, .ref (ad 44)), (1, .int a1), (2, .int a2)] [] 0 (f_X11_now F S a1 a2) := by
  unfold f_X11_now
  refine k_aload_n (q := 0) C dX11_now_0 rfl rfl ?_
  refine k_iload_n (q := 1) C dX11_now_1 rfl rfl ?_
  refine k_cVI C ct_X11_isValley my_11_isValley ml_11_119 rfl ⟨Nat.le_of_ble_eq_true rfl, Nat.le_of_ble_eq_true rfl⟩ recvM rfl (Nat.le_of_ble_eq_true rfl) dX11_now_2 ⟨Nat.le_refl _, Nat.le_refl _⟩ (fun r1 _ => ?_)
  refine k_if_eq (tgt := 15) C dX11_now_5 (by decide) (fun _ => ?_) (fun _ => ?_)
  · refine k_iconst (v := (-1)) C dX11_now_15 rfl ?_
    exact k_iret C rfl ⟨rfl, rfl⟩ dX11_now_16
  · refine k_iload_n (q := 2) C dX11_now_8 rfl rfl ?_
    refine k_cSI C ct_X11_isHour my_11_isHour ml_11_134 rfl ⟨Nat.le_of_ble_eq_true rfl, Nat.le_of_ble_eq_true rfl⟩ rfl (Nat.le_of_ble_eq_true rfl) dX11_now_9 ⟨Nat.le_refl _, Nat.le_refl _⟩ (fun r2 _ => ?_)
    refine k_if_ne (tgt := 17) C dX11_now_12 (by decide) (fun _ => ?_) (fun _ => ?_)
    · refine k_iconst (v := 0) C dX11_now_17 rfl ?_
      refine k_istore_n (lv' := [(3, .int 0), (0, .ref (ad 44)), (1, .int a1), (2, .int a2)]) C dX11_now_18 rfl (Nat.le_of_ble_eq_true rfl) rfl ?_
      refine k_iconst (v := 0) C dX11_now_19 rfl ?_
      refine k_istore (lv' := [(4, .int 0), (3, .int 0), (0, .ref (ad 44)), (1, .int a1), (2, .int a2)]) C dX11_now_20 (Nat.le_of_ble_eq_true rfl) rfl ?_
      refine Dk.loc [2, 3, 4, 1, 0] rfl ?_
      exact kb_X11_now_L22 C _ _ _ _
    · refine k_iconst (v := (-1)) C dX11_now_15 rfl ?_
      exact k_iret C rfl ⟨rfl, rfl⟩ dX11_now_16
theorem ct_X11_now {l : Launch} {θ : TH} {ad : Nat → Nat} {S : St} {F : Nat} {a1 : Int32} {a2 : Int32} : ∀ r, f_X11_now F S a1 a2 = some r → Ct l θ yX11_now cX11_now 5 (some .int) 69 0 0 [.ref (ad 44), .int a1, .int a2] (wdM θ ad S) (PIS (wdM θ ad) r) :=
  fun r hr => Ct.of (by decide) (Nat.le_of_ble_eq_true rfl) (fun X _ C _ => kw_X11_now C r hr)
set_option maxRecDepth 20000 in
theorem kb_X11_fromOf_L3 {X : GX} {θ : TH} {ad : Nat → Nat} {S0 : St} {F : Nat} {a1 : Int32} {a2 : Int32} {a3 : Int32} (C : CX (mE X θ (wdM θ ad S0) 5) RX11 cX11_fromOf (some .int) 69 0 0)  : ∀ (n : Nat) (S : St) (x4 : Int32), Dk (mE X θ (wdM θ ad S0) 5) (mT X θ (wdM θ ad S0) 5 (PIS (wdM θ ad))) 0 0 (wdM θ ad S) [(0, .ref (ad 44)), (1, .int a1), (2, .int a2), (3, .int a3), (4, .int x4)] [] 3 (f_X11_fromOf_L3 F a1 a2 a3 n S x4) := by
  intro n
  induction n with
  | zero => intro S x4; exact Dk.none
  | succ n ih =>
    intro S x4
    show Dk _ _ _ _ _ _ _ _ (if (a3 + 2000) ≤ x4 then some ((-2 : Int32), S) else (f_X11_mayOf F S a1 a2 x4).bind fun r1 => (if r1.1 < 0 then f_X11_fromOf_L3 F a1 a2 a3 n r1.2 (x4 + 1) else some (x4, r1.2)))
    refine k_iload (q := 4) C dX11_fromOf_3 rfl ?_
    refine k_iload_n (q := 3) C dX11_fromOf_5 rfl rfl ?_
    refine k_sipush (v := 2000) C dX11_fromOf_6 rfl ?_
    refine k_iadd C dX11_fromOf_9 ?_
    refine k_icmp_ge (tgt := 33) C dX11_fromOf_10 (by decide) (fun _ => ?_) (fun _ => ?_)
    · refine k_bipush (v := (-2)) C dX11_fromOf_33 rfl ?_
      exact k_iret C rfl ⟨rfl, rfl⟩ dX11_fromOf_35
    · refine k_aload_n (q := 0) C dX11_fromOf_13 rfl rfl ?_
      refine k_iload_n (q := 1) C dX11_fromOf_14 rfl rfl ?_
      refine k_iload_n (q := 2) C dX11_fromOf_15 rfl rfl ?_
      refine k_iload (q := 4) C dX11_fromOf_16 rfl ?_
      refine k_cVI C ct_X11_mayOf my_11_mayOf ml_11_252 rfl ⟨Nat.le_of_ble_eq_true rfl, Nat.le_of_ble_eq_true rfl⟩ recvM rfl (Nat.le_of_ble_eq_true rfl) dX11_fromOf_18 ⟨Nat.le_refl _, Nat.le_refl _⟩ (fun r1 _ => ?_)
      refine k_if_lt (tgt := 27) C dX11_fromOf_21 (by decide) (fun _ => ?_) (fun _ => ?_)
      · refine k_iinc (q := 4) (v := x4 + 1) (lv' := [(4, .int (x4 + 1)), (0, .ref (ad 44)), (1, .int a1), (2, .int a2), (3, .int a3)]) C dX11_fromOf_27 rfl rfl (Nat.le_of_ble_eq_true rfl) rfl ?_
        refine k_goto (tgt := 3) C dX11_fromOf_30 (by decide) ?_
        refine Dk.loc [1, 2, 3, 4, 0] rfl ?_
        exact ih _ _
      · refine k_iload (q := 4) C dX11_fromOf_24 rfl ?_
        exact k_iret C rfl ⟨rfl, rfl⟩ dX11_fromOf_26
set_option maxRecDepth 20000 in
theorem kw_X11_fromOf {X : GX} {θ : TH} {ad : Nat → Nat} {F : Nat} {S : St} {a1 : Int32} {a2 : Int32} {a3 : Int32} (C : CX (mE X θ (wdM θ ad S) 5) RX11 cX11_fromOf (some .int) 69 0 0)  : Dk (mE X θ (wdM θ ad S) 5) (mT X θ (wdM θ ad S) 5 (PIS (wdM θ ad))) 0 0 (wdM θ ad S) [(0, .ref (ad 44)), (1, .int a1), (2, .int a2), (3, .int a3)] [] 0 (f_X11_fromOf F S a1 a2 a3) := by
  unfold f_X11_fromOf
  refine k_iload_n (q := 3) C dX11_fromOf_0 rfl rfl ?_
  refine k_istore (lv' := [(4, .int a3), (0, .ref (ad 44)), (1, .int a1), (2, .int a2), (3, .int a3)]) C dX11_fromOf_1 (Nat.le_of_ble_eq_true rfl) rfl ?_
  refine Dk.loc [1, 2, 3, 4, 0] rfl ?_
  exact kb_X11_fromOf_L3 C _ _ _
theorem ct_X11_fromOf {l : Launch} {θ : TH} {ad : Nat → Nat} {S : St} {F : Nat} {a1 : Int32} {a2 : Int32} {a3 : Int32} : ∀ r, f_X11_fromOf F S a1 a2 a3 = some r → Ct l θ yX11_fromOf cX11_fromOf 5 (some .int) 69 0 0 [.ref (ad 44), .int a1, .int a2, .int a3] (wdM θ ad S) (PIS (wdM θ ad) r) :=
  fun r hr => Ct.of (by decide) (Nat.le_of_ble_eq_true rfl) (fun X _ C _ => kw_X11_fromOf C r hr)
set_option maxRecDepth 20000 in
theorem kb_X11_tillOf_L18 {X : GX} {θ : TH} {ad : Nat → Nat} {S0 : St} {F : Nat} {a1 : Int32} {a2 : Int32} {a3 : Int32} (C : CX (mE X θ (wdM θ ad S0) 5) RX11 cX11_tillOf (some .int) 69 0 0)  : ∀ (n : Nat) (S : St) (x4 : Int32), Dk (mE X θ (wdM θ ad S0) 5) (mT X θ (wdM θ ad S0) 5 (PIS (wdM θ ad))) 0 0 (wdM θ ad S) [(0, .ref (ad 44)), (1, .int a1), (2, .int a2), (3, .int a3), (4, .int x4)] [] 18 (f_X11_tillOf_L18 F a1 a2 a3 n S x4) := by
  intro n
  induction n with
  | zero => intro S x4; exact Dk.none
  | succ n ih =>
    intro S x4
    show Dk _ _ _ _ _ _ _ _ (if (a3 + 2000) < x4 then some ((-2 : Int32), S) else (f_X11_mayOf F S a1 a2 x4).bind fun r2 => (if (0 : Int32) ≤ r2.1 then f_X11_tillOf_L18 F a1 a2 a3 n r2.2 (x4 + 1) else some (x4, r2.2)))
    refine k_iload (q := 4) C dX11_tillOf_18 rfl ?_
    refine k_iload_n (q := 3) C dX11_tillOf_20 rfl rfl ?_
    refine k_sipush (v := 2000) C dX11_tillOf_21 rfl ?_
    refine k_iadd C dX11_tillOf_24 ?_
    refine k_icmp_gt (tgt := 48) C dX11_tillOf_25 (by decide) (fun _ => ?_) (fun _ => ?_)
    · refine k_bipush (v := (-2)) C dX11_tillOf_48 rfl ?_
      exact k_iret C rfl ⟨rfl, rfl⟩ dX11_tillOf_50
    · refine k_aload_n (q := 0) C dX11_tillOf_28 rfl rfl ?_
      refine k_iload_n (q := 1) C dX11_tillOf_29 rfl rfl ?_
      refine k_iload_n (q := 2) C dX11_tillOf_30 rfl rfl ?_
      refine k_iload (q := 4) C dX11_tillOf_31 rfl ?_
      refine k_cVI C ct_X11_mayOf my_11_mayOf ml_11_252 rfl ⟨Nat.le_of_ble_eq_true rfl, Nat.le_of_ble_eq_true rfl⟩ recvM rfl (Nat.le_of_ble_eq_true rfl) dX11_tillOf_33 ⟨Nat.le_refl _, Nat.le_refl _⟩ (fun r2 _ => ?_)
      refine k_if_ge (tgt := 42) C dX11_tillOf_36 (by decide) (fun _ => ?_) (fun _ => ?_)
      · refine k_iinc (q := 4) (v := x4 + 1) (lv' := [(4, .int (x4 + 1)), (0, .ref (ad 44)), (1, .int a1), (2, .int a2), (3, .int a3)]) C dX11_tillOf_42 rfl rfl (Nat.le_of_ble_eq_true rfl) rfl ?_
        refine k_goto (tgt := 18) C dX11_tillOf_45 (by decide) ?_
        refine Dk.loc [1, 2, 3, 4, 0] rfl ?_
        exact ih _ _
      · refine k_iload (q := 4) C dX11_tillOf_39 rfl ?_
        exact k_iret C rfl ⟨rfl, rfl⟩ dX11_tillOf_41
set_option maxRecDepth 20000 in
theorem kw_X11_tillOf {X : GX} {θ : TH} {ad : Nat → Nat} {F : Nat} {S : St} {a1 : Int32} {a2 : Int32} {a3 : Int32} (C : CX (mE X θ (wdM θ ad S) 5) RX11 cX11_tillOf (some .int) 69 0 0)  : Dk (mE X θ (wdM θ ad S) 5) (mT X θ (wdM θ ad S) 5 (PIS (wdM θ ad))) 0 0 (wdM θ ad S) [(0, .ref (ad 44)), (1, .int a1), (2, .int a2), (3, .int a3)] [] 0 (f_X11_tillOf F S a1 a2 a3) := by
  unfold f_X11_tillOf
  refine k_aload_n (q := 0) C dX11_tillOf_0 rfl rfl ?_
  refine k_iload_n (q := 1) C dX11_tillOf_1 rfl rfl ?_
  refine k_iload_n (q := 2) C dX11_tillOf_2 rfl rfl ?_
  refine k_iload_n (q := 3) C dX11_tillOf_3 rfl rfl ?_
  refine k_cVI C ct_X11_mayOf my_11_mayOf ml_11_252 rfl ⟨Nat.le_of_ble_eq_true rfl, Nat.le_of_ble_eq_true rfl⟩ recvM rfl (Nat.le_of_ble_eq_true rfl) dX11_tillOf_4 ⟨Nat.le_refl _, Nat.le_refl _⟩ (fun r1 _ => ?_)
  refine k_if_ge (tgt := 13) C dX11_tillOf_7 (by decide) (fun _ => ?_) (fun _ => ?_)
  · refine k_iload_n (q := 3) C dX11_tillOf_13 rfl rfl ?_
    refine k_iconst (v := 1) C dX11_tillOf_14 rfl ?_
    refine k_iadd C dX11_tillOf_15 ?_
    refine k_istore (lv' := [(4, .int (a3 + 1)), (0, .ref (ad 44)), (1, .int a1), (2, .int a2), (3, .int a3)]) C dX11_tillOf_16 (Nat.le_of_ble_eq_true rfl) rfl ?_
    refine Dk.loc [1, 2, 3, 4, 0] rfl ?_
    exact kb_X11_tillOf_L18 C _ _ _
  · refine k_bipush (v := (-5)) C dX11_tillOf_10 rfl ?_
    exact k_iret C rfl ⟨rfl, rfl⟩ dX11_tillOf_12
theorem ct_X11_tillOf {l : Launch} {θ : TH} {ad : Nat → Nat} {S : St} {F : Nat} {a1 : Int32} {a2 : Int32} {a3 : Int32} : ∀ r, f_X11_tillOf F S a1 a2 a3 = some r → Ct l θ yX11_tillOf cX11_tillOf 5 (some .int) 69 0 0 [.ref (ad 44), .int a1, .int a2, .int a3] (wdM θ ad S) (PIS (wdM θ ad) r) :=
  fun r hr => Ct.of (by decide) (Nat.le_of_ble_eq_true rfl) (fun X _ C _ => kw_X11_tillOf C r hr)
set_option maxRecDepth 20000 in
theorem kw_X11_when {X : GX} {θ : TH} {ad : Nat → Nat} {F : Nat} {S : St} {a1 : Int32} {a2 : Int32} {a3 : Int32} (C : CX (mE X θ (wdM θ ad S) 4) RX11 cX11_when (some .int) 70 0 0)  : Dk (mE X θ (wdM θ ad S) 4) (mT X θ (wdM θ ad S) 4 (PIS (wdM θ ad))) 0 0 (wdM θ ad S) [(0, .ref (ad 44)), (1, .int a1), (2, .int a2), (3, .int a3)] [] 0 (f_X11_when F S a1 a2 a3) := by
  unfold f_X11_when
  refine k_aload_n (q := 0) C dX11_when_0 rfl rfl ?_
  refine k_iload_n (q := 1) C dX11_when_1 rfl rfl ?_
  refine k_cVI C ct_X11_isDv my_11_isDv ml_11_237 rfl ⟨Nat.le_of_ble_eq_true rfl, Nat.le_of_ble_eq_true rfl⟩ recvM rfl (Nat.le_of_ble_eq_true rfl) dX11_when_2 ⟨Nat.le_refl _, Nat.le_refl _⟩ (fun r1 _ => ?_)
  refine k_if_eq (tgt := 25) C dX11_when_5 (by decide) (fun _ => ?_) (fun _ => ?_)
  · refine k_iconst (v := (-1)) C dX11_when_25 rfl ?_
    exact k_iret C rfl ⟨rfl, rfl⟩ dX11_when_26
  · refine k_iload_n (q := 2) C dX11_when_8 rfl rfl ?_
    refine k_cSI C ct_X11_isHour my_11_isHour ml_11_134 rfl ⟨Nat.le_of_ble_eq_true rfl, Nat.le_of_ble_eq_true rfl⟩ rfl (Nat.le_of_ble_eq_true rfl) dX11_when_9 ⟨Nat.le_refl _, Nat.le_refl _⟩ (fun r2 _ => ?_)
    refine k_if_eq (tgt := 25) C dX11_when_12 (by decide) (fun _ => ?_) (fun _ => ?_)
    · refine k_iconst (v := (-1)) C dX11_when_25 rfl ?_
      exact k_iret C rfl ⟨rfl, rfl⟩ dX11_when_26
    · refine k_iload_n (q := 3) C dX11_when_15 rfl rfl ?_
      refine k_i2l C dX11_when_16 ?_
      refine k_lconst (v := 0) C dX11_when_17 rfl ?_
      refine k_lconst (v := 1) C dX11_when_18 rfl ?_
      refine k_cSI C ct_X11_within my_11_within ml_11_106 rfl ⟨Nat.le_of_ble_eq_true rfl, Nat.le_of_ble_eq_true rfl⟩ rfl (Nat.le_of_ble_eq_true rfl) dX11_when_19 ⟨Nat.le_refl _, Nat.le_refl _⟩ (fun r3 _ => ?_)
      refine k_if_ne (tgt := 27) C dX11_when_22 (by decide) (fun _ => ?_) (fun _ => ?_)
      · refine k_iload_n (q := 3) C dX11_when_27 rfl rfl ?_
        refine k_if_ne (tgt := 47) C dX11_when_28 (by decide) (fun _ => ?_) (fun _ => ?_)
        · refine k_aload_n (q := 0) C dX11_when_47 rfl rfl ?_
          refine k_iload_n (q := 1) C dX11_when_48 rfl rfl ?_
          refine k_bipush (v := 10) C dX11_when_49 rfl ?_
          refine k_idiv C dX11_when_51 (by decide) ?_
          refine k_iload_n (q := 1) C dX11_when_52 rfl rfl ?_
          refine k_bipush (v := 10) C dX11_when_53 rfl ?_
          refine k_irem C dX11_when_55 (by decide) ?_
          refine k_iload_n (q := 2) C dX11_when_56 rfl rfl ?_
          refine k_cVI C ct_X11_fromOf my_11_fromOf ml_11_258 rfl ⟨Nat.le_of_ble_eq_true rfl, Nat.le_of_ble_eq_true rfl⟩ recvM rfl (Nat.le_of_ble_eq_true rfl) dX11_when_57 ⟨Nat.le_refl _, Nat.le_refl _⟩ (fun r4 _ => ?_)
          exact k_iret C rfl ⟨rfl, rfl⟩ dX11_when_60
        · refine k_aload_n (q := 0) C dX11_when_31 rfl rfl ?_
          refine k_iload_n (q := 1) C dX11_when_32 rfl rfl ?_
          refine k_bipush (v := 10) C dX11_when_33 rfl ?_
          refine k_idiv C dX11_when_35 (by decide) ?_
          refine k_iload_n (q := 1) C dX11_when_36 rfl rfl ?_
          refine k_bipush (v := 10) C dX11_when_37 rfl ?_
          refine k_irem C dX11_when_39 (by decide) ?_
          refine k_iload_n (q := 2) C dX11_when_40 rfl rfl ?_
          refine k_cVI C ct_X11_tillOf my_11_tillOf ml_11_255 rfl ⟨Nat.le_of_ble_eq_true rfl, Nat.le_of_ble_eq_true rfl⟩ recvM rfl (Nat.le_of_ble_eq_true rfl) dX11_when_41 ⟨Nat.le_refl _, Nat.le_refl _⟩ (fun r5 _ => ?_)
          refine k_goto (tgt := 60) C dX11_when_44 (by decide) ?_
          exact k_iret C rfl ⟨rfl, rfl⟩ dX11_when_60
      · refine k_iconst (v := (-1)) C dX11_when_25 rfl ?_
        exact k_iret C rfl ⟨rfl, rfl⟩ dX11_when_26
theorem ct_X11_when {l : Launch} {θ : TH} {ad : Nat → Nat} {S : St} {F : Nat} {a1 : Int32} {a2 : Int32} {a3 : Int32} : ∀ r, f_X11_when F S a1 a2 a3 = some r → Ct l θ yX11_when cX11_when 4 (some .int) 70 0 0 [.ref (ad 44), .int a1, .int a2, .int a3] (wdM θ ad S) (PIS (wdM θ ad) r) :=
  fun r hr => Ct.of (by decide) (Nat.le_of_ble_eq_true rfl) (fun X _ C _ => kw_X11_when C r hr)
set_option maxRecDepth 20000 in
theorem kb_X11_cheapest_L50 {X : GX} {θ : TH} {ad : Nat → Nat} {S0 : St} {F : Nat} {a1 : Int32} {a2 : Int32} {a3 : Int32} {a4 : Int32} (C : CX (mE X θ (wdM θ ad S0) 9) RX11 cX11_cheapest (some .int) 69 0 0)  : ∀ (n : Nat) (S : St) (x5 : Int32) (x6 : Int32) (x7 : Int32), Dk (mE X θ (wdM θ ad S0) 9) (mT X θ (wdM θ ad S0) 9 (PIS (wdM θ ad))) 0 0 (wdM θ ad S) [(0, .ref (ad 44)), (1, .int a1), (2, .int a2), (3, .int a3), (4, .int a4), (5, .int x5), (6, .int x6), (7, .int x7)] [] 50 (f_X11_cheapest_L50 F a1 a2 a3 a4 n S x5 x6 x7) := by
  intro n
  induction n with
  | zero => intro S x5 x6 x7; exact Dk.none
  | succ n ih =>
    intro S x5 x6 x7
    show Dk _ _ _ _ _ _ _ _ (if (a2 + a3) ≤ x7 then if a4 = 0 then some (x5, S) else some (x6, S) else (f_X11_mayOf F S (a1 / 10) (jrem a1 10) x7).bind fun r5 => (if r5.1 < 0 then f_X11_cheapest_L50 F a1 a2 a3 a4 n r5.2 x5 x6 (x7 + 1) else if x5 < 0 then f_X11_cheapest_L50 F a1 a2 a3 a4 n r5.2 x7 r5.1 (x7 + 1) else if x6 ≤ r5.1 then f_X11_cheapest_L50 F a1 a2 a3 a4 n r5.2 x5 x6 (x7 + 1) else f_X11_cheapest_L50 F a1 a2 a3 a4 n r5.2 x7 r5.1 (x7 + 1)))
    refine k_iload (q := 7) C dX11_cheapest_50 rfl ?_
    refine k_iload_n (q := 2) C dX11_cheapest_52 rfl rfl ?_
    refine k_iload_n (q := 3) C dX11_cheapest_53 rfl rfl ?_
    refine k_iadd C dX11_cheapest_54 ?_
    refine k_icmp_ge (tgt := 105) C dX11_cheapest_55 (by decide) (fun _ => ?_) (fun _ => ?_)
    · refine k_iload (q := 4) C dX11_cheapest_105 rfl ?_
      refine k_if_ne (tgt := 115) C dX11_cheapest_107 (by decide) (fun _ => ?_) (fun _ => ?_)
      · refine k_iload (q := 6) C dX11_cheapest_115 rfl ?_
        exact k_iret C rfl ⟨rfl, rfl⟩ dX11_cheapest_117
      · refine k_iload (q := 5) C dX11_cheapest_110 rfl ?_
        refine k_goto (tgt := 117) C dX11_cheapest_112 (by decide) ?_
        exact k_iret C rfl ⟨rfl, rfl⟩ dX11_cheapest_117
    · refine k_aload_n (q := 0) C dX11_cheapest_58 rfl rfl ?_
      refine k_iload_n (q := 1) C dX11_cheapest_59 rfl rfl ?_
      refine k_bipush (v := 10) C dX11_cheapest_60 rfl ?_
      refine k_idiv C dX11_cheapest_62 (by decide) ?_
      refine k_iload_n (q := 1) C dX11_cheapest_63 rfl rfl ?_
      refine k_bipush (v := 10) C dX11_cheapest_64 rfl ?_
      refine k_irem C dX11_cheapest_66 (by decide) ?_
      refine k_iload (q := 7) C dX11_cheapest_67 rfl ?_
      refine k_cVI C ct_X11_mayOf my_11_mayOf ml_11_252 rfl ⟨Nat.le_of_ble_eq_true rfl, Nat.le_of_ble_eq_true rfl⟩ recvM rfl (Nat.le_of_ble_eq_true rfl) dX11_cheapest_69 ⟨Nat.le_refl _, Nat.le_refl _⟩ (fun r5 _ => ?_)
      refine k_istore (lv' := [(8, .int r5.1), (0, .ref (ad 44)), (1, .int a1), (2, .int a2), (3, .int a3), (4, .int a4), (5, .int x5), (6, .int x6), (7, .int x7)]) C dX11_cheapest_72 (Nat.le_of_ble_eq_true rfl) rfl ?_
      refine k_iload (q := 0) C dX11_cheapest_74 rfl ?_
      refine k_if_lt (tgt := 99) C dX11_cheapest_76 (by decide) (fun _ => ?_) (fun _ => ?_)
      · refine k_iinc (q := 8) (v := x7 + 1) (lv' := [(7, .int (x7 + 1)), (8, .int r5.1), (0, .ref (ad 44)), (1, .int a1), (2, .int a2), (3, .int a3), (4, .int a4), (5, .int x5), (6, .int x6)]) C dX11_cheapest_99 rfl rfl (Nat.le_of_ble_eq_true rfl) rfl ?_
        refine k_goto (tgt := 50) C dX11_cheapest_102 (by decide) ?_
        refine Dk.loc [2, 3, 4, 5, 6, 7, 8, 0] rfl ?_
        exact ih _ _ _ _
      · refine k_iload (q := 6) C dX11_cheapest_79 rfl ?_
        refine k_if_lt (tgt := 91) C dX11_cheapest_81 (by decide) (fun _ => ?_) (fun _ => ?_)
        · refine k_iload (q := 8) C dX11_cheapest_91 rfl ?_
          refine k_istore (lv' := [(5, .int x7), (8, .int r5.1), (0, .ref (ad 44)), (1, .int a1), (2, .int a2), (3, .int a3), (4, .int a4), (6, .int x6), (7, .int x7)]) C dX11_cheapest_93 (Nat.le_of_ble_eq_true rfl) rfl ?_
          refine k_iload (q := 1) C dX11_cheapest_95 rfl ?_
          refine k_istore (lv' := [(6, .int r5.1), (5, .int x7), (8, .int r5.1), (0, .ref (ad 44)), (1, .int a1), (2, .int a2), (3, .int a3), (4, .int a4), (7, .int x7)]) C dX11_cheapest_97 (Nat.le_of_ble_eq_true rfl) rfl ?_
          refine k_iinc (q := 8) (v := x7 + 1) (lv' := [(7, .int (x7 + 1)), (6, .int r5.1), (5, .int x7), (8, .int r5.1), (0, .ref (ad 44)), (1, .int a1), (2, .int a2), (3, .int a3), (4, .int a4)]) C dX11_cheapest_99 rfl rfl (Nat.le_of_ble_eq_true rfl) rfl ?_
          refine k_goto (tgt := 50) C dX11_cheapest_102 (by decide) ?_
          refine Dk.loc [4, 5, 6, 7, 8, 2, 1, 0] rfl ?_
          exact ih _ _ _ _
        · refine k_iload (q := 0) C dX11_cheapest_84 rfl ?_
          refine k_iload (q := 7) C dX11_cheapest_86 rfl ?_
          refine k_icmp_ge (tgt := 99) C dX11_cheapest_88 (by decide) (fun _ => ?_) (fun _ => ?_)
          · refine k_iinc (q := 8) (v := x7 + 1) (lv' := [(7, .int (x7 + 1)), (8, .int r5.1), (0, .ref (ad 44)), (1, .int a1), (2, .int a2), (3, .int a3), (4, .int a4), (5, .int x5), (6, .int x6)]) C dX11_cheapest_99 rfl rfl (Nat.le_of_ble_eq_true rfl) rfl ?_
            refine k_goto (tgt := 50) C dX11_cheapest_102 (by decide) ?_
            refine Dk.loc [2, 3, 4, 5, 6, 7, 8, 0] rfl ?_
            exact ih _ _ _ _
          · refine k_iload (q := 8) C dX11_cheapest_91 rfl ?_
            refine k_istore (lv' := [(5, .int x7), (8, .int r5.1), (0, .ref (ad 44)), (1, .int a1), (2, .int a2), (3, .int a3), (4, .int a4), (6, .int x6), (7, .int x7)]) C dX11_cheapest_93 (Nat.le_of_ble_eq_true rfl) rfl ?_
            refine k_iload (q := 1) C dX11_cheapest_95 rfl ?_
            refine k_istore (lv' := [(6, .int r5.1), (5, .int x7), (8, .int r5.1), (0, .ref (ad 44)), (1, .int a1), (2, .int a2), (3, .int a3), (4, .int a4), (7, .int x7)]) C dX11_cheapest_97 (Nat.le_of_ble_eq_true rfl) rfl ?_
            refine k_iinc (q := 8) (v := x7 + 1) (lv' := [(7, .int (x7 + 1)), (6, .int r5.1), (5, .int x7), (8, .int r5.1), (0, .ref (ad 44)), (1, .int a1), (2, .int a2), (3, .int a3), (4, .int a4)]) C dX11_cheapest_99 rfl rfl (Nat.le_of_ble_eq_true rfl) rfl ?_
            refine k_goto (tgt := 50) C dX11_cheapest_102 (by decide) ?_
            refine Dk.loc [4, 5, 6, 7, 8, 2, 1, 0] rfl ?_
            exact ih _ _ _ _
