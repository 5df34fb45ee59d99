set_option maxRecDepth 20000 in
theorem kw_X11_year {X : GX} {θ : TH} {ad : Nat → Nat} {F : Nat} {S : St} {a1 : Int32} {a2 : Int32} {a3 : Int32} {a4 : Int32} (C : CX (mE X θ (wdM θ ad S) 9) RX11 cX11_year (some .int) 70 0 0)  : Dk (mE X θ (wdM θ ad S) 9) (mT X θ (wdM θ ad S) 9 (PIS (wdM θ ad))) 0 0 (wdM θ ad S) [(0, .ref (ad 44)), (1, .int a1), (2, .int a2), (3, .int a3), (4, .int a4)] [] 0 (f_X11_year F S a1 a2 a3 a4) := by
  unfold f_X11_year
  refine k_iload_n (q := 1) C dX11_year_0 rfl rfl ?_
  refine k_iconst (v := (-1)) C dX11_year_1 rfl ?_
  refine k_icmp_eq (tgt := 13) C dX11_year_2 (by decide) (fun _ => ?_) (fun _ => ?_)
  · exact kb_X11_year_B13 C _
  · refine k_aload_n (q := 0) C dX11_year_5 rfl rfl ?_
    refine k_iload_n (q := 1) C dX11_year_6 rfl rfl ?_
    refine k_cVI C ct_X11_isDeed my_11_isDeed ml_11_218 rfl ⟨Nat.le_of_ble_eq_true rfl, Nat.le_of_ble_eq_true rfl⟩ recvM rfl (Nat.le_of_ble_eq_true rfl) dX11_year_7 ⟨Nat.le_refl _, Nat.le_refl _⟩ (fun r1 _ => ?_)
    refine k_if_eq (tgt := 41) C dX11_year_10 (by decide) (fun _ => ?_) (fun _ => ?_)
    · refine k_iconst (v := (-1)) C dX11_year_41 rfl ?_
      exact k_iret C rfl ⟨rfl, rfl⟩ dX11_year_42
    · exact kb_X11_year_B13 C _
theorem ct_X11_year {l : Launch} {θ : TH} {ad : Nat → Nat} {S : St} {F : Nat} {a1 : Int32} {a2 : Int32} {a3 : Int32} {a4 : Int32} : ∀ r, f_X11_year F S a1 a2 a3 a4 = some r → Ct l θ yX11_year cX11_year 9 (some .int) 70 0 0 [.ref (ad 44), .int a1, .int a2, .int a3, .int a4] (wdM θ ad S) (PIS (wdM θ ad) r) :=
  fun r hr => Ct.of (by decide) (Nat.le_of_ble_eq_true rfl) (fun X _ C _ => kw_X11_year C r hr)
set_option maxRecDepth 20000 in
theorem kw_X11_isBody {X : GX} {θ : TH} {ad : Nat → Nat}  {S : St} {a1 : Int32} (C : CX (mE X θ (wdM θ ad S) 2) RX11 cX11_isBody (some .boolean) 1 0 0)  : Dk (mE X θ (wdM θ ad S) 2) (mT X θ (wdM θ ad S) 2 (PI (wdM θ ad S))) 0 0 (wdM θ ad S) [(0, .ref (ad 44)), (1, .int a1)] [] 0 (f_X11_isBody S a1) := by
  unfold f_X11_isBody
  refine k_iload_n (q := 1) C dX11_isBody_0 rfl rfl ?_
  refine k_i2l C dX11_isBody_1 ?_
  refine k_lconst (v := 0) C dX11_isBody_2 rfl ?_
  refine k_aload_n (q := 0) C dX11_isBody_3 rfl rfl ?_
  refine m_geti (kf := 34) (v := S.1 34) C mS_34 fl_11_304 rfl dX11_isBody_4 ?_
  refine k_iconst (v := 1) C dX11_isBody_7 rfl ?_
  refine k_isub C dX11_isBody_8 ?_
  refine k_i2l C dX11_isBody_9 ?_
  refine k_cSI C ct_X11_within my_11_within ml_11_106 rfl ⟨Nat.le_of_ble_eq_true rfl, Nat.le_of_ble_eq_true rfl⟩ rfl (Nat.le_of_ble_eq_true rfl) dX11_isBody_10 ⟨Nat.le_refl _, Nat.le_refl _⟩ (fun r1 _ => ?_)
  exact k_zretc C ⟨rfl, rfl⟩ dX11_isBody_13
theorem ct_X11_isBody {l : Launch} {θ : TH} {ad : Nat → Nat} {S : St}  {a1 : Int32} : ∀ r, f_X11_isBody S a1 = some r → Ct l θ yX11_isBody cX11_isBody 2 (some .boolean) 1 0 0 [.ref (ad 44), .int a1] (wdM θ ad S) (PI (wdM θ ad S) r) :=
  fun r hr => Ct.of (by decide) (Nat.le_of_ble_eq_true rfl) (fun X _ C _ => kw_X11_isBody C r hr)
set_option maxRecDepth 20000 in
theorem kw_X11_kindOf {X : GX} {θ : TH} {ad : Nat → Nat}  {S : St} {a1 : Int32} (C : CX (mE X θ (wdM θ ad S) 2) RX11 cX11_kindOf (some .int) 0 0 0)  : Dk (mE X θ (wdM θ ad S) 2) (mT X θ (wdM θ ad S) 2 (PI (wdM θ ad S))) 0 0 (wdM θ ad S) [(0, .ref (ad 44)), (1, .int a1)] [] 0 (f_X11_kindOf S a1) := by
  unfold f_X11_kindOf
  refine k_aload_n (q := 0) C dX11_kindOf_0 rfl rfl ?_
  refine m_geta (kf := 35) C mR_35 fl_11_74 dX11_kindOf_1 ?_
  refine k_iload_n (q := 1) C dX11_kindOf_4 rfl rfl ?_
  refine m_iald (x := S.2.1 35 (a1).toNatClampNeg) C mA_35 mN_35 rfl dX11_kindOf_5 ?_
  exact k_iret C rfl ⟨rfl, rfl⟩ dX11_kindOf_6
theorem ct_X11_kindOf {l : Launch} {θ : TH} {ad : Nat → Nat} {S : St}  {a1 : Int32} : ∀ r, f_X11_kindOf S a1 = some r → Ct l θ yX11_kindOf cX11_kindOf 2 (some .int) 0 0 0 [.ref (ad 44), .int a1] (wdM θ ad S) (PI (wdM θ ad S) r) :=
  fun r hr => Ct.of (by decide) (Nat.le_of_ble_eq_true rfl) (fun X _ C _ => kw_X11_kindOf C r hr)
set_option maxRecDepth 20000 in
theorem kw_X11_body {X : GX} {θ : TH} {ad : Nat → Nat}  {S : St} {a1 : Int32} (C : CX (mE X θ (wdM θ ad S) 2) RX11 cX11_body (some .int) 1 0 0)  : Dk (mE X θ (wdM θ ad S) 2) (mT X θ (wdM θ ad S) 2 (PIS (wdM θ ad))) 0 0 (wdM θ ad S) [(0, .ref (ad 44)), (1, .int a1)] [] 0 (f_X11_body S a1) := by
  unfold f_X11_body
  refine k_iload_n (q := 1) C dX11_body_0 rfl rfl ?_
  refine k_i2l C dX11_body_1 ?_
  refine k_lconst (v := 0) C dX11_body_2 rfl ?_
  refine k_ldc2 C co_11_307 dX11_body_3 ?_
  refine k_cSI C ct_X11_within my_11_within ml_11_106 rfl ⟨Nat.le_of_ble_eq_true rfl, Nat.le_of_ble_eq_true rfl⟩ rfl (Nat.le_of_ble_eq_true rfl) dX11_body_6 ⟨Nat.le_refl _, Nat.le_refl _⟩ (fun r1 _ => ?_)
  refine k_if_ne (tgt := 14) C dX11_body_9 (by decide) (fun _ => ?_) (fun _ => ?_)
  · refine k_aload_n (q := 0) C dX11_body_14 rfl rfl ?_
    refine m_geti (kf := 34) (v := S.1 34) C mS_34 fl_11_304 rfl dX11_body_15 ?_
    refine k_bipush (v := 50) C dX11_body_18 rfl ?_
    refine k_icmp_ne (tgt := 26) C dX11_body_20 (by decide) (fun _ => ?_) (fun _ => ?_)
    · refine k_aload_n (q := 0) C dX11_body_26 rfl rfl ?_
      refine m_geta (kf := 35) C mR_35 fl_11_74 dX11_body_27 ?_
      refine k_aload_n (q := 0) C dX11_body_30 rfl rfl ?_
      refine m_geti (kf := 34) (v := S.1 34) C mS_34 fl_11_304 rfl dX11_body_31 ?_
      refine k_iload_n (q := 1) C dX11_body_34 rfl rfl ?_
      refine m_iast C mA_35 mN_35 dX11_body_35 ?_
      refine k_aload_n (q := 0) C dX11_body_36 rfl rfl ?_
      refine k_dup C dX11_body_37 rfl ?_
      refine m_geti (kf := 34) (v := S.1 34) C mS_34 fl_11_304 rfl dX11_body_38 ?_
      refine k_iconst (v := 1) C dX11_body_41 rfl ?_
      refine k_iadd C dX11_body_42 ?_
      refine m_puti (kf := 34) C mS_34 mP_34 fl_11_304 dX11_body_43 ?_
      refine k_aload_n (q := 0) C dX11_body_46 rfl rfl ?_
      refine m_geti (kf := 34) (v := (S.1 34) + 1) C mS_34 fl_11_304 rfl dX11_body_47 ?_
      refine k_iconst (v := 1) C dX11_body_50 rfl ?_
      refine k_isub C dX11_body_51 ?_
      exact k_iret C rfl ⟨rfl, rfl⟩ dX11_body_52
    · refine k_bipush (v := (-3)) C dX11_body_23 rfl ?_
      exact k_iret C rfl ⟨rfl, rfl⟩ dX11_body_25
  · refine k_iconst (v := (-1)) C dX11_body_12 rfl ?_
    exact k_iret C rfl ⟨rfl, rfl⟩ dX11_body_13
theorem ct_X11_body {l : Launch} {θ : TH} {ad : Nat → Nat} {S : St}  {a1 : Int32} : ∀ r, f_X11_body S a1 = some r → Ct l θ yX11_body cX11_body 2 (some .int) 1 0 0 [.ref (ad 44), .int a1] (wdM θ ad S) (PIS (wdM θ ad) r) :=
  fun r hr => Ct.of (by decide) (Nat.le_of_ble_eq_true rfl) (fun X _ C _ => kw_X11_body C r hr)
set_option maxRecDepth 20000 in
theorem kw_X11_above {X : GX} {θ : TH} {ws : va_W}   {a1 : Int32} (C : CX (mE X θ (ws) 1) RX11 cX11_above (some .int) 0 0 0)  : Dk (mE X θ (ws) 1) (mT X θ (ws) 1 (PI ws)) 0 0 ws [(0, .int a1)] [] 0 (f_X11_above a1) := by
  unfold f_X11_above
  refine k_iload_n (q := 0) C dX11_above_0 rfl rfl ?_
  refine k_iconst (v := 3) C dX11_above_1 rfl ?_
  refine k_icmp_eq (tgt := 10) C dX11_above_2 (by decide) (fun _ => ?_) (fun _ => ?_)
  · refine k_iconst (v := 2) C dX11_above_10 rfl ?_
    refine k_goto (tgt := 34) C dX11_above_11 (by decide) ?_
    exact k_iret C rfl ⟨rfl, rfl⟩ dX11_above_34
  · refine k_iload_n (q := 0) C dX11_above_5 rfl rfl ?_
    refine k_iconst (v := 4) C dX11_above_6 rfl ?_
    refine k_icmp_ne (tgt := 14) C dX11_above_7 (by decide) (fun _ => ?_) (fun _ => ?_)
    · refine k_iload_n (q := 0) C dX11_above_14 rfl rfl ?_
      refine k_iconst (v := 5) C dX11_above_15 rfl ?_
      refine k_icmp_ne (tgt := 23) C dX11_above_16 (by decide) (fun _ => ?_) (fun _ => ?_)
      · refine k_iload_n (q := 0) C dX11_above_23 rfl rfl ?_
        refine k_bipush (v := 7) C dX11_above_24 rfl ?_
        refine k_icmp_ne (tgt := 33) C dX11_above_26 (by decide) (fun _ => ?_) (fun _ => ?_)
        · refine k_iconst (v := 0) C dX11_above_33 rfl ?_
          exact k_iret C rfl ⟨rfl, rfl⟩ dX11_above_34
        · refine k_iconst (v := 3) C dX11_above_29 rfl ?_
          refine k_goto (tgt := 34) C dX11_above_30 (by decide) ?_
          exact k_iret C rfl ⟨rfl, rfl⟩ dX11_above_34
      · refine k_iconst (v := 1) C dX11_above_19 rfl ?_
        refine k_goto (tgt := 34) C dX11_above_20 (by decide) ?_
        exact k_iret C rfl ⟨rfl, rfl⟩ dX11_above_34
    · refine k_iconst (v := 2) C dX11_above_10 rfl ?_
      refine k_goto (tgt := 34) C dX11_above_11 (by decide) ?_
      exact k_iret C rfl ⟨rfl, rfl⟩ dX11_above_34
theorem ct_X11_above {l : Launch} {θ : TH} {ws : va_W}  {a1 : Int32} : ∀ r, f_X11_above a1 = some r → Ct l θ yX11_above cX11_above 1 (some .int) 0 0 0 [.int a1] (ws) (PI ws r) :=
  fun r hr => Ct.of (by decide) (Nat.le_of_ble_eq_true rfl) (fun X _ C _ => kw_X11_above C r hr)
set_option maxRecDepth 20000 in
theorem kb_X11_begins_B19 {X : GX} {θ : TH} {ad : Nat → Nat} {S0 : St}  (C : CX (mE X θ (wdM θ ad S0) 2) RX11 cX11_begins none 0 0 0)  (S : St) : Dk (mE X θ (wdM θ ad S0) 2) (mT X θ (wdM θ ad S0) 2 (PVS (wdM θ ad))) 0 0 (wdM θ ad S) [(0, .ref (ad 44))] [] 19 (f_X11_begins_B19 S) := by
  unfold f_X11_begins_B19
  refine k_aload_n (q := 0) C dX11_begins_19 rfl rfl ?_
  refine k_dup C dX11_begins_20 rfl ?_
  refine m_geti (kf := 37) (v := S.1 37) C mS_37 fl_11_309 rfl dX11_begins_21 ?_
  refine k_iconst (v := 1) C dX11_begins_24 rfl ?_
  refine k_iadd C dX11_begins_25 ?_
  refine m_puti (kf := 37) C mS_37 mP_37 fl_11_309 dX11_begins_26 ?_
  exact k_vret C ⟨rfl, rfl⟩ dX11_begins_29
set_option maxRecDepth 20000 in
theorem kw_X11_begins {X : GX} {θ : TH} {ad : Nat → Nat}  {S : St} {a1 : Int32} (C : CX (mE X θ (wdM θ ad S) 2) RX11 cX11_begins none 0 0 0)  : Dk (mE X θ (wdM θ ad S) 2) (mT X θ (wdM θ ad S) 2 (PVS (wdM θ ad))) 0 0 (wdM θ ad S) [(0, .ref (ad 44)), (1, .int a1)] [] 0 (f_X11_begins S a1) := by
  unfold f_X11_begins
  refine k_aload_n (q := 0) C dX11_begins_0 rfl rfl ?_
  refine m_geti (kf := 37) (v := S.1 37) C mS_37 fl_11_309 rfl dX11_begins_1 ?_
  refine k_bipush (v := 24) C dX11_begins_4 rfl ?_
  refine k_icmp_ge (tgt := 19) C dX11_begins_6 (by decide) (fun _ => ?_) (fun _ => ?_)
  · refine Dk.loc [0] rfl ?_
    exact kb_X11_begins_B19 C _
  · refine k_aload_n (q := 0) C dX11_begins_9 rfl rfl ?_
    refine m_geta (kf := 36) C mR_36 fl_11_77 dX11_begins_10 ?_
    refine k_aload_n (q := 0) C dX11_begins_13 rfl rfl ?_
    refine m_geti (kf := 37) (v := S.1 37) C mS_37 fl_11_309 rfl dX11_begins_14 ?_
    refine k_iload_n (q := 1) C dX11_begins_17 rfl rfl ?_
    refine m_iast C mA_36 mN_36 dX11_begins_18 ?_
    refine Dk.loc [0] rfl ?_
    exact kb_X11_begins_B19 C _
theorem ct_X11_begins {l : Launch} {θ : TH} {ad : Nat → Nat} {S : St}  {a1 : Int32} : ∀ r, f_X11_begins S a1 = some r → Ct l θ yX11_begins cX11_begins 2 none 0 0 0 [.ref (ad 44), .int a1] (wdM θ ad S) (PVS (wdM θ ad) r) :=
  fun r hr => Ct.of (by decide) (Nat.le_of_ble_eq_true rfl) (fun X _ C _ => kw_X11_begins C r hr)
set_option maxRecDepth 20000 in
theorem kb_X11_beginsAs_B10 {X : GX} {θ : TH} {ad : Nat → Nat} {S0 : St} {d : Nat} {F : Nat} {g : Nat → St → Int32 → Int32 → Option (Int32 × St)} {a2 : Int32} (C : CX (mE X θ (wdM θ ad S0) 3) RX11 cX11_beginsAs (some .int) (1 + (d + 1)) 0 0) (hg_beginsAs : ∀ (S : St) (a1 a2 : Int32) (r : Int32 × St), g 0 S a1 a2 = some r → Ct X.2.1 θ yX11_beginsAs cX11_beginsAs 3 (some .int) (1 + d) 0 0 [.ref (ad 44), .int a1, .int a2] (wdM θ ad S) (PIS (wdM θ ad) r)) (S : St) : Dk (mE X θ (wdM θ ad S0) 3) (mT X θ (wdM θ ad S0) 3 (PIS (wdM θ ad))) 0 0 (wdM θ ad S) [(0, .ref (ad 44)), (2, .int a2)] [] 10 (f_X11_beginsAs_B10 F g a2 S) := by
  unfold f_X11_beginsAs_B10
  refine k_aload_n (q := 0) C dX11_beginsAs_10 rfl rfl ?_
  refine k_bipush (v := 20) C dX11_beginsAs_11 rfl ?_
  refine k_cVV C ct_X11_begins my_11_begins ml_11_312 rfl ⟨by omega, Nat.le_of_ble_eq_true rfl⟩ recvM rfl (Nat.le_of_ble_eq_true rfl) dX11_beginsAs_13 ⟨Nat.le_refl _, Nat.le_refl _⟩ (fun r4 _ => ?_)
  refine k_aload_n (q := 0) C dX11_beginsAs_16 rfl rfl ?_
  refine k_iconst (v := 0) C dX11_beginsAs_17 rfl ?_
  refine k_iload_n (q := 1) C dX11_beginsAs_18 rfl rfl ?_
  refine k_cVI C (hg_beginsAs _ _ _) my_11_beginsAs ml_11_315 rfl ⟨Nat.le_refl _, Nat.le_of_ble_eq_true rfl⟩ recvM rfl (Nat.le_of_ble_eq_true rfl) dX11_beginsAs_19 ⟨Nat.le_refl _, Nat.le_refl _⟩ (fun r5 _ => ?_)
  refine k_iconst (v := 3) C dX11_beginsAs_22 rfl ?_
  refine k_iadd C dX11_beginsAs_23 ?_
  exact k_iret C rfl ⟨rfl, rfl⟩ dX11_beginsAs_24
set_option maxRecDepth 20000 in
theorem kw_X11_beginsAs {X : GX} {θ : TH} {ad : Nat → Nat} {d : Nat} {F : Nat} {g : Nat → St → Int32 → Int32 → Option (Int32 × St)} {S : St} {a1 : Int32} {a2 : Int32} (C : CX (mE X θ (wdM θ ad S) 3) RX11 cX11_beginsAs (some .int) (1 + (d + 1)) 0 0) (hg_beginsAs : ∀ (S : St) (a1 a2 : Int32) (r : Int32 × St), g 0 S a1 a2 = some r → Ct X.2.1 θ yX11_beginsAs cX11_beginsAs 3 (some .int) (1 + d) 0 0 [.ref (ad 44), .int a1, .int a2] (wdM θ ad S) (PIS (wdM θ ad) r)) : Dk (mE X θ (wdM θ ad S) 3) (mT X θ (wdM θ ad S) 3 (PIS (wdM θ ad))) 0 0 (wdM θ ad S) [(0, .ref (ad 44)), (1, .int a1), (2, .int a2)] [] 0 (f_X11_beginsAs F g S a1 a2) := by
  unfold f_X11_beginsAs
  refine k_iload_n (q := 1) C dX11_beginsAs_0 rfl rfl ?_
  refine k_iconst (v := 1) C dX11_beginsAs_1 rfl ?_
  refine k_icmp_eq (tgt := 10) C dX11_beginsAs_2 (by decide) (fun _ => ?_) (fun _ => ?_)
  · refine Dk.loc [0, 2] rfl ?_
    exact kb_X11_beginsAs_B10 C hg_beginsAs _
  · refine k_iload_n (q := 1) C dX11_beginsAs_5 rfl rfl ?_
    refine k_iconst (v := 5) C dX11_beginsAs_6 rfl ?_
    refine k_icmp_ne (tgt := 25) C dX11_beginsAs_7 (by decide) (fun _ => ?_) (fun _ => ?_)
    · refine k_iload_n (q := 1) C dX11_beginsAs_25 rfl rfl ?_
      refine k_bipush (v := 6) C dX11_beginsAs_26 rfl ?_
      refine k_icmp_ne (tgt := 46) C dX11_beginsAs_28 (by decide) (fun _ => ?_) (fun _ => ?_)
      · refine k_aload_n (q := 0) C dX11_beginsAs_46 rfl rfl ?_
        refine k_iconst (v := 1) C dX11_beginsAs_47 rfl ?_
        refine k_cVV C ct_X11_begins my_11_begins ml_11_312 rfl ⟨by omega, Nat.le_of_ble_eq_true rfl⟩ recvM rfl (Nat.le_of_ble_eq_true rfl) dX11_beginsAs_48 ⟨Nat.le_refl _, Nat.le_refl _⟩ (fun r1 _ => ?_)
        refine k_iload_n (q := 2) C dX11_beginsAs_51 rfl rfl ?_
        refine k_aload_n (q := 0) C dX11_beginsAs_52 rfl rfl ?_
        refine m_geti (kf := 39) (v := r1.1 39) C mS_39 fl_11_318 rfl dX11_beginsAs_53 ?_
        refine k_iadd C dX11_beginsAs_56 ?_
        exact k_iret C rfl ⟨rfl, rfl⟩ dX11_beginsAs_57
      · refine k_aload_n (q := 0) C dX11_beginsAs_31 rfl rfl ?_
        refine k_bipush (v := 70) C dX11_beginsAs_32 rfl ?_
        refine k_cVV C ct_X11_begins my_11_begins ml_11_312 rfl ⟨by omega, Nat.le_of_ble_eq_true rfl⟩ recvM rfl (Nat.le_of_ble_eq_true rfl) dX11_beginsAs_34 ⟨Nat.le_refl _, Nat.le_refl _⟩ (fun r2 _ => ?_)
        refine k_aload_n (q := 0) C dX11_beginsAs_37 rfl rfl ?_
        refine k_iconst (v := 0) C dX11_beginsAs_38 rfl ?_
        refine k_iload_n (q := 2) C dX11_beginsAs_39 rfl rfl ?_
        refine k_cVI C (hg_beginsAs _ _ _) my_11_beginsAs ml_11_315 rfl ⟨Nat.le_refl _, Nat.le_of_ble_eq_true rfl⟩ recvM rfl (Nat.le_of_ble_eq_true rfl) dX11_beginsAs_40 ⟨Nat.le_refl _, Nat.le_refl _⟩ (fun r3 _ => ?_)
        refine k_iconst (v := 2) C dX11_beginsAs_43 rfl ?_
        refine k_imul C dX11_beginsAs_44 ?_
        exact k_iret C rfl ⟨rfl, rfl⟩ dX11_beginsAs_45
    · refine Dk.loc [0, 2] rfl ?_
      exact kb_X11_beginsAs_B10 C hg_beginsAs _
theorem ct_X11_beginsAs {l : Launch} {θ : TH} {ad : Nat → Nat} {d : Nat} {F : Nat} {g : Nat → St → Int32 → Int32 → Option (Int32 × St)} {S : St} {a1 : Int32} {a2 : Int32} (hg_beginsAs : ∀ (S : St) (a1 a2 : Int32) (r : Int32 × St), g 0 S a1 a2 = some r → Ct l θ yX11_beginsAs cX11_beginsAs 3 (some .int) (1 + d) 0 0 [.ref (ad 44), .int a1, .int a2] (wdM θ ad S) (PIS (wdM θ ad) r)) : ∀ r, f_X11_beginsAs F g S a1 a2 = some r → Ct l θ yX11_beginsAs cX11_beginsAs 3 (some .int) (1 + (d + 1)) 0 0 [.ref (ad 44), .int a1, .int a2] (wdM θ ad S) (PIS (wdM θ ad) r) :=
  fun r hr => Ct.of (by decide) (Nat.le_of_ble_eq_true rfl) (fun X hX C _ => by subst hX; exact kw_X11_beginsAs C hg_beginsAs r hr)
set_option maxRecDepth 20000 in
theorem kb_X11_endsAs_B11 {X : GX} {θ : TH} {ad : Nat → Nat} {S0 : St} {d : Nat} {F : Nat} {g : Nat → St → Int32 → Int32 → Option (Int32 × St)} {a2 : Int32} (C : CX (mE X θ (wdM θ ad S0) 4) RX11 cX11_endsAs (some .int) (1 + (d + 1)) 0 0) (hg_endsAs : ∀ (S : St) (a1 a2 : Int32) (r : Int32 × St), g 1 S a1 a2 = some r → Ct X.2.1 θ yX11_endsAs cX11_endsAs 4 (some .int) (1 + d) 0 0 [.ref (ad 44), .int a1, .int a2] (wdM θ ad S) (PIS (wdM θ ad) r)) (hg_beginsAs : ∀ (S : St) (a1 a2 : Int32) (r : Int32 × St), g 0 S a1 a2 = some r → Ct X.2.1 θ yX11_beginsAs cX11_beginsAs 3 (some .int) (1 + d) 0 0 [.ref (ad 44), .int a1, .int a2] (wdM θ ad S) (PIS (wdM θ ad) r)) (S : St) : Dk (mE X θ (wdM θ ad S0) 4) (mT X θ (wdM θ ad S0) 4 (PIS (wdM θ ad))) 0 0 (wdM θ ad S) [(0, .ref (ad 44)), (2, .int a2)] [] 11 (f_X11_endsAs_B11 F g a2 S) := by
  unfold f_X11_endsAs_B11
  refine k_aload_n (q := 0) C dX11_endsAs_11 rfl rfl ?_
  refine k_bipush (v := 40) C dX11_endsAs_12 rfl ?_
  refine k_cVV C ct_X11_begins my_11_begins ml_11_312 rfl ⟨by omega, Nat.le_of_ble_eq_true rfl⟩ recvM rfl (Nat.le_of_ble_eq_true rfl) dX11_endsAs_14 ⟨Nat.le_refl _, Nat.le_refl _⟩ (fun r5 _ => ?_)
  refine k_aload_n (q := 0) C dX11_endsAs_17 rfl rfl ?_
  refine k_iconst (v := 2) C dX11_endsAs_18 rfl ?_
  refine k_iload_n (q := 1) C dX11_endsAs_19 rfl rfl ?_
  refine k_cVI C (hg_endsAs _ _ _) my_11_endsAs ml_11_327 rfl ⟨Nat.le_refl _, Nat.le_of_ble_eq_true rfl⟩ recvM rfl (Nat.le_of_ble_eq_true rfl) dX11_endsAs_20 ⟨Nat.le_refl _, Nat.le_refl _⟩ (fun r6 _ => ?_)
  refine k_iconst (v := 3) C dX11_endsAs_23 rfl ?_
  refine k_imul C dX11_endsAs_24 ?_
  exact k_iret C rfl ⟨rfl, rfl⟩ dX11_endsAs_25
set_option maxRecDepth 20000 in
theorem kw_X11_endsAs {X : GX} {θ : TH} {ad : Nat → Nat} {d : Nat} {F : Nat} {g : Nat → St → Int32 → Int32 → Option (Int32 × St)} {S : St} {a1 : Int32} {a2 : Int32} (C : CX (mE X θ (wdM θ ad S) 4) RX11 cX11_endsAs (some .int) (1 + (d + 1)) 0 0) (hg_endsAs : ∀ (S : St) (a1 a2 : Int32) (r : Int32 × St), g 1 S a1 a2 = some r → Ct X.2.1 θ yX11_endsAs cX11_endsAs 4 (some .int) (1 + d) 0 0 [.ref (ad 44), .int a1, .int a2] (wdM θ ad S) (PIS (wdM θ ad) r)) (hg_beginsAs : ∀ (S : St) (a1 a2 : Int32) (r : Int32 × St), g 0 S a1 a2 = some r → Ct X.2.1 θ yX11_beginsAs cX11_beginsAs 3 (some .int) (1 + d) 0 0 [.ref (ad 44), .int a1, .int a2] (wdM θ ad S) (PIS (wdM θ ad) r)) : Dk (mE X θ (wdM θ ad S) 4) (mT X θ (wdM θ ad S) 4 (PIS (wdM θ ad))) 0 0 (wdM θ ad S) [(0, .ref (ad 44)), (1, .int a1), (2, .int a2)] [] 0 (f_X11_endsAs F g S a1 a2) := by
  unfold f_X11_endsAs
  refine k_iload_n (q := 1) C dX11_endsAs_0 rfl rfl ?_
  refine k_iconst (v := 3) C dX11_endsAs_1 rfl ?_
  refine k_icmp_eq (tgt := 11) C dX11_endsAs_2 (by decide) (fun _ => ?_) (fun _ => ?_)
  · refine Dk.loc [0, 2] rfl ?_
    exact kb_X11_endsAs_B11 C hg_endsAs hg_beginsAs _
  · refine k_iload_n (q := 1) C dX11_endsAs_5 rfl rfl ?_
    refine k_bipush (v := 7) C dX11_endsAs_6 rfl ?_
    refine k_icmp_ne (tgt := 26) C dX11_endsAs_8 (by decide) (fun _ => ?_) (fun _ => ?_)
    · refine k_iload_n (q := 1) C dX11_endsAs_26 rfl rfl ?_
      refine k_iconst (v := 4) C dX11_endsAs_27 rfl ?_
      refine k_icmp_ne (tgt := 56) C dX11_endsAs_28 (by decide) (fun _ => ?_) (fun _ => ?_)
      · refine k_aload_n (q := 0) C dX11_endsAs_56 rfl rfl ?_
        refine k_bipush (v := 11) C dX11_endsAs_57 rfl ?_
        refine k_cVV C ct_X11_begins my_11_begins ml_11_312 rfl ⟨by omega, Nat.le_of_ble_eq_true rfl⟩ recvM rfl (Nat.le_of_ble_eq_true rfl) dX11_endsAs_59 ⟨Nat.le_refl _, Nat.le_refl _⟩ (fun r1 _ => ?_)
        refine k_iload_n (q := 2) C dX11_endsAs_62 rfl rfl ?_
        refine k_aload_n (q := 0) C dX11_endsAs_63 rfl rfl ?_
        refine m_geti (kf := 39) (v := r1.1 39) C mS_39 fl_11_318 rfl dX11_endsAs_64 ?_
        refine k_ixor C dX11_endsAs_67 ?_
        exact k_iret C rfl ⟨rfl, rfl⟩ dX11_endsAs_68
      · refine k_aload_n (q := 0) C dX11_endsAs_31 rfl rfl ?_
        refine k_bipush (v := 50) C dX11_endsAs_32 rfl ?_
        refine k_cVV C ct_X11_begins my_11_begins ml_11_312 rfl ⟨by omega, Nat.le_of_ble_eq_true rfl⟩ recvM rfl (Nat.le_of_ble_eq_true rfl) dX11_endsAs_34 ⟨Nat.le_refl _, Nat.le_refl _⟩ (fun r2 _ => ?_)
        refine k_aload_n (q := 0) C dX11_endsAs_37 rfl rfl ?_
        refine k_iconst (v := 2) C dX11_endsAs_38 rfl ?_
        refine k_iload_n (q := 2) C dX11_endsAs_39 rfl rfl ?_
        refine k_cVI C (hg_endsAs _ _ _) my_11_endsAs ml_11_327 rfl ⟨Nat.le_refl _, Nat.le_of_ble_eq_true rfl⟩ recvM rfl (Nat.le_of_ble_eq_true rfl) dX11_endsAs_40 ⟨Nat.le_refl _, Nat.le_refl _⟩ (fun r3 _ => ?_)
        refine k_istore_n (lv' := [(3, .int r3.1), (0, .ref (ad 44)), (1, .int a1), (2, .int a2)]) C dX11_endsAs_43 rfl (Nat.le_of_ble_eq_true rfl) rfl ?_
        refine k_iload_n (q := 0) C dX11_endsAs_44 rfl rfl ?_
        refine k_aload_n (q := 1) C dX11_endsAs_45 rfl rfl ?_
        refine k_aload_n (q := 1) C dX11_endsAs_46 rfl rfl ?_
        refine m_geti (kf := 38) (v := r3.2.1 38) C mS_38 fl_11_324 rfl dX11_endsAs_47 ?_
        refine k_iconst (v := 2) C dX11_endsAs_50 rfl ?_
        refine k_cVI C (hg_beginsAs _ _ _) my_11_beginsAs ml_11_315 rfl ⟨Nat.le_refl _, Nat.le_of_ble_eq_true rfl⟩ recvM rfl (Nat.le_of_ble_eq_true rfl) dX11_endsAs_51 ⟨Nat.le_refl _, Nat.le_refl _⟩ (fun r4 _ => ?_)
        refine k_isub C dX11_endsAs_54 ?_
        exact k_iret C rfl ⟨rfl, rfl⟩ dX11_endsAs_55
    · refine Dk.loc [0, 2] rfl ?_
      exact kb_X11_endsAs_B11 C hg_endsAs hg_beginsAs _
theorem ct_X11_endsAs {l : Launch} {θ : TH} {ad : Nat → Nat} {d : Nat} {F : Nat} {g : Nat → St → Int32 → Int32 → Option (Int32 × St)} {S : St} {a1 : Int32} {a2 : Int32} (hg_endsAs : ∀ (S : St) (a1 a2 : Int32) (r : Int32 × St), g 1 S a1 a2 = some r → Ct l θ yX11_endsAs cX11_endsAs 4 (some .int) (1 + d) 0 0 [.ref (ad 44), .int a1, .int a2] (wdM θ ad S) (PIS (wdM θ ad) r)) (hg_beginsAs : ∀ (S : St) (a1 a2 : Int32) (r : Int32 × St), g 0 S a1 a2 = some r → Ct l θ yX11_beginsAs cX11_beginsAs 3 (some .int) (1 + d) 0 0 [.ref (ad 44), .int a1, .int a2] (wdM θ ad S) (PIS (wdM θ ad) r)) : ∀ r, f_X11_endsAs F g S a1 a2 = some r → Ct l θ yX11_endsAs cX11_endsAs 4 (some .int) (1 + (d + 1)) 0 0 [.ref (ad 44), .int a1, .int a2] (wdM θ ad S) (PIS (wdM θ ad) r) :=
  fun r hr => Ct.of (by decide) (Nat.le_of_ble_eq_true rfl) (fun X hX C _ => by subst hX; exact kw_X11_endsAs C hg_endsAs hg_beginsAs r hr)
set_option maxRecDepth 20000 in
theorem kb_X11_lastsAs_B61 {X : GX} {θ : TH} {ad : Nat → Nat} {S0 : St} {d : Nat} {F : Nat} {g : Nat → St → Int32 → Int32 → Option (Int32 × St)} {a2 : Int32} (C : CX (mE X θ (wdM θ ad S0) 4) RX11 cX11_lastsAs (some .int) (1 + (d + 1)) 0 0) (hg_lastsAs : ∀ (S : St) (a1 a2 : Int32) (r : Int32 × St), g 2 S a1 a2 = some r → Ct X.2.1 θ yX11_lastsAs cX11_lastsAs 4 (some .int) (1 + d) 0 0 [.ref (ad 44), .int a1, .int a2] (wdM θ ad S) (PIS (wdM θ ad) r)) (hg_endsAs : ∀ (S : St) (a1 a2 : Int32) (r : Int32 × St), g 1 S a1 a2 = some r → Ct X.2.1 θ yX11_endsAs cX11_endsAs 4 (some .int) (1 + d) 0 0 [.ref (ad 44), .int a1, .int a2] (wdM θ ad S) (PIS (wdM θ ad) r)) (hg_beginsAs : ∀ (S : St) (a1 a2 : Int32) (r : Int32 × St), g 0 S a1 a2 = some r → Ct X.2.1 θ yX11_beginsAs cX11_beginsAs 3 (some .int) (1 + d) 0 0 [.ref (ad 44), .int a1, .int a2] (wdM θ ad S) (PIS (wdM θ ad) r)) (S : St) : Dk (mE X θ (wdM θ ad S0) 4) (mT X θ (wdM θ ad S0) 4 (PIS (wdM θ ad))) 0 0 (wdM θ ad S) [(0, .ref (ad 44)), (2, .int a2)] [] 61 (f_X11_lastsAs_B61 F g a2 S) := by
  unfold f_X11_lastsAs_B61
  refine k_aload_n (q := 0) C dX11_lastsAs_61 rfl rfl ?_
  refine k_bipush (v := 30) C dX11_lastsAs_62 rfl ?_
  refine k_cVV C ct_X11_begins my_11_begins ml_11_312 rfl ⟨by omega, Nat.le_of_ble_eq_true rfl⟩ recvM rfl (Nat.le_of_ble_eq_true rfl) dX11_lastsAs_64 ⟨Nat.le_refl _, Nat.le_refl _⟩ (fun r8 _ => ?_)
  refine k_aload_n (q := 0) C dX11_lastsAs_67 rfl rfl ?_
  refine k_iconst (v := 0) C dX11_lastsAs_68 rfl ?_
  refine k_iload_n (q := 1) C dX11_lastsAs_69 rfl rfl ?_
  refine k_cVI C (hg_lastsAs _ _ _) my_11_lastsAs ml_11_321 rfl ⟨Nat.le_refl _, Nat.le_of_ble_eq_true rfl⟩ recvM rfl (Nat.le_of_ble_eq_true rfl) dX11_lastsAs_70 ⟨Nat.le_refl _, Nat.le_refl _⟩ (fun r9 _ => ?_)
  refine k_ineg C dX11_lastsAs_73 ?_
  exact k_iret C rfl ⟨rfl, rfl⟩ dX11_lastsAs_74
set_option maxRecDepth 20000 in
theorem kw_X11_lastsAs {X : GX} {θ : TH} {ad : Nat → Nat} {d : Nat} {F : Nat} {g : Nat → St → Int32 → Int32 → Option (Int32 × St)} {S : St} {a1 : Int32} {a2 : Int32} (C : CX (mE X θ (wdM θ ad S) 4) RX11 cX11_lastsAs (some .int) (1 + (d + 1)) 0 0) (hg_lastsAs : ∀ (S : St) (a1 a2 : Int32) (r : Int32 × St), g 2 S a1 a2 = some r → Ct X.2.1 θ yX11_lastsAs cX11_lastsAs 4 (some .int) (1 + d) 0 0 [.ref (ad 44), .int a1, .int a2] (wdM θ ad S) (PIS (wdM θ ad) r)) (hg_endsAs : ∀ (S : St) (a1 a2 : Int32) (r : Int32 × St), g 1 S a1 a2 = some r → Ct X.2.1 θ yX11_endsAs cX11_endsAs 4 (some .int) (1 + d) 0 0 [.ref (ad 44), .int a1, .int a2] (wdM θ ad S) (PIS (wdM θ ad) r)) (hg_beginsAs : ∀ (S : St) (a1 a2 : Int32) (r : Int32 × St), g 0 S a1 a2 = some r → Ct X.2.1 θ yX11_beginsAs cX11_beginsAs 3 (some .int) (1 + d) 0 0 [.ref (ad 44), .int a1, .int a2] (wdM θ ad S) (PIS (wdM θ ad) r)) : Dk (mE X θ (wdM θ ad S) 4) (mT X θ (wdM θ ad S) 4 (PIS (wdM θ ad))) 0 0 (wdM θ ad S) [(0, .ref (ad 44)), (1, .int a1), (2, .int a2)] [] 0 (f_X11_lastsAs F g S a1 a2) := by
  unfold f_X11_lastsAs
  refine k_iload_n (q := 1) C dX11_lastsAs_0 rfl rfl ?_
  refine k_bipush (v := 7) C dX11_lastsAs_1 rfl ?_
  refine k_icmp_ne (tgt := 31) C dX11_lastsAs_3 (by decide) (fun _ => ?_) (fun _ => ?_)
  · refine k_iload_n (q := 1) C dX11_lastsAs_31 rfl rfl ?_
    refine k_iconst (v := 3) C dX11_lastsAs_32 rfl ?_
    refine k_icmp_ne (tgt := 51) C dX11_lastsAs_33 (by decide) (fun _ => ?_) (fun _ => ?_)
    · refine k_iload_n (q := 1) C dX11_lastsAs_51 rfl rfl ?_
      refine k_iconst (v := 2) C dX11_lastsAs_52 rfl ?_
      refine k_icmp_eq (tgt := 61) C dX11_lastsAs_53 (by decide) (fun _ => ?_) (fun _ => ?_)
      · refine Dk.loc [0, 2] rfl ?_
        exact kb_X11_lastsAs_B61 C hg_lastsAs hg_endsAs hg_beginsAs _
      · refine k_iload_n (q := 1) C dX11_lastsAs_56 rfl rfl ?_
        refine k_iconst (v := 4) C dX11_lastsAs_57 rfl ?_
        refine k_icmp_ne (tgt := 75) C dX11_lastsAs_58 (by decide) (fun _ => ?_) (fun _ => ?_)
        · refine k_aload_n (q := 0) C dX11_lastsAs_75 rfl rfl ?_
          refine k_bipush (v := 10) C dX11_lastsAs_76 rfl ?_
          refine k_cVV C ct_X11_begins my_11_begins ml_11_312 rfl ⟨by omega, Nat.le_of_ble_eq_true rfl⟩ recvM rfl (Nat.le_of_ble_eq_true rfl) dX11_lastsAs_78 ⟨Nat.le_refl _, Nat.le_refl _⟩ (fun r1 _ => ?_)
          refine k_aload_n (q := 0) C dX11_lastsAs_81 rfl rfl ?_
          refine k_aload_n (q := 0) C dX11_lastsAs_82 rfl rfl ?_
          refine m_geti (kf := 38) (v := r1.1 38) C mS_38 fl_11_324 rfl dX11_lastsAs_83 ?_
          refine k_iload_n (q := 2) C dX11_lastsAs_86 rfl rfl ?_
          refine k_cVI C (hg_beginsAs _ _ _) my_11_beginsAs ml_11_315 rfl ⟨Nat.le_refl _, Nat.le_of_ble_eq_true rfl⟩ recvM rfl (Nat.le_of_ble_eq_true rfl) dX11_lastsAs_87 ⟨Nat.le_refl _, Nat.le_refl _⟩ (fun r2 _ => ?_)
          refine k_iconst (v := 2) C dX11_lastsAs_90 rfl ?_
          refine k_imul C dX11_lastsAs_91 ?_
          exact k_iret C rfl ⟨rfl, rfl⟩ dX11_lastsAs_92
        · refine Dk.loc [0, 2] rfl ?_
          exact kb_X11_lastsAs_B61 C hg_lastsAs hg_endsAs hg_beginsAs _
    · refine k_aload_n (q := 0) C dX11_lastsAs_36 rfl rfl ?_
      refine k_bipush (v := 41) C dX11_lastsAs_37 rfl ?_
      refine k_cVV C ct_X11_begins my_11_begins ml_11_312 rfl ⟨by omega, Nat.le_of_ble_eq_true rfl⟩ recvM rfl (Nat.le_of_ble_eq_true rfl) dX11_lastsAs_39 ⟨Nat.le_refl _, Nat.le_refl _⟩ (fun r3 _ => ?_)
      refine k_aload_n (q := 0) C dX11_lastsAs_42 rfl rfl ?_
      refine k_iconst (v := 2) C dX11_lastsAs_43 rfl ?_
      refine k_iload_n (q := 2) C dX11_lastsAs_44 rfl rfl ?_
      refine k_iconst (v := 1) C dX11_lastsAs_45 rfl ?_
      refine k_iadd C dX11_lastsAs_46 ?_
      refine k_cVI C (hg_lastsAs _ _ _) my_11_lastsAs ml_11_321 rfl ⟨Nat.le_refl _, Nat.le_of_ble_eq_true rfl⟩ recvM rfl (Nat.le_of_ble_eq_true rfl) dX11_lastsAs_47 ⟨Nat.le_refl _, Nat.le_refl _⟩ (fun r4 _ => ?_)
      exact k_iret C rfl ⟨rfl, rfl⟩ dX11_lastsAs_50
  · refine k_aload_n (q := 0) C dX11_lastsAs_6 rfl rfl ?_
    refine k_bipush (v := 80) C dX11_lastsAs_7 rfl ?_
    refine k_cVV C ct_X11_begins my_11_begins ml_11_312 rfl ⟨by omega, Nat.le_of_ble_eq_true rfl⟩ recvM rfl (Nat.le_of_ble_eq_true rfl) dX11_lastsAs_9 ⟨Nat.le_refl _, Nat.le_refl _⟩ (fun r5 _ => ?_)
    refine k_aload_n (q := 0) C dX11_lastsAs_12 rfl rfl ?_
    refine k_iconst (v := 3) C dX11_lastsAs_13 rfl ?_
    refine k_iload_n (q := 2) C dX11_lastsAs_14 rfl rfl ?_
    refine k_cVI C (hg_lastsAs _ _ _) my_11_lastsAs ml_11_321 rfl ⟨Nat.le_refl _, Nat.le_of_ble_eq_true rfl⟩ recvM rfl (Nat.le_of_ble_eq_true rfl) dX11_lastsAs_15 ⟨Nat.le_refl _, Nat.le_refl _⟩ (fun r6 _ => ?_)
    refine k_istore_n (lv' := [(3, .int r6.1), (0, .ref (ad 44)), (1, .int a1), (2, .int a2)]) C dX11_lastsAs_18 rfl (Nat.le_of_ble_eq_true rfl) rfl ?_
    refine k_iload_n (q := 0) C dX11_lastsAs_19 rfl rfl ?_
    refine k_aload_n (q := 1) C dX11_lastsAs_20 rfl rfl ?_
    refine k_aload_n (q := 1) C dX11_lastsAs_21 rfl rfl ?_
    refine m_geti (kf := 38) (v := r6.2.1 38) C mS_38 fl_11_324 rfl dX11_lastsAs_22 ?_
    refine k_iconst (v := 2) C dX11_lastsAs_25 rfl ?_
    refine k_cVI C (hg_endsAs _ _ _) my_11_endsAs ml_11_327 rfl ⟨Nat.le_refl _, Nat.le_of_ble_eq_true rfl⟩ recvM rfl (Nat.le_of_ble_eq_true rfl) dX11_lastsAs_26 ⟨Nat.le_refl _, Nat.le_refl _⟩ (fun r7 _ => ?_)
    refine k_iadd C dX11_lastsAs_29 ?_
    exact k_iret C rfl ⟨rfl, rfl⟩ dX11_lastsAs_30
theorem ct_X11_lastsAs {l : Launch} {θ : TH} {ad : Nat → Nat} {d : Nat} {F : Nat} {g : Nat → St → Int32 → Int32 → Option (Int32 × St)} {S : St} {a1 : Int32} {a2 : Int32} (hg_lastsAs : ∀ (S : St) (a1 a2 : Int32) (r : Int32 × St), g 2 S a1 a2 = some r → Ct l θ yX11_lastsAs cX11_lastsAs 4 (some .int) (1 + d) 0 0 [.ref (ad 44), .int a1, .int a2] (wdM θ ad S) (PIS (wdM θ ad) r)) (hg_endsAs : ∀ (S : St) (a1 a2 : Int32) (r : Int32 × St), g 1 S a1 a2 = some r → Ct l θ yX11_endsAs cX11_endsAs 4 (some .int) (1 + d) 0 0 [.ref (ad 44), .int a1, .int a2] (wdM θ ad S) (PIS (wdM θ ad) r)) (hg_beginsAs : ∀ (S : St) (a1 a2 : Int32) (r : Int32 × St), g 0 S a1 a2 = some r → Ct l θ yX11_beginsAs cX11_beginsAs 3 (some .int) (1 + d) 0 0 [.ref (ad 44), .int a1, .int a2] (wdM θ ad S) (PIS (wdM θ ad) r)) : ∀ r, f_X11_lastsAs F g S a1 a2 = some r → Ct l θ yX11_lastsAs cX11_lastsAs 4 (some .int) (1 + (d + 1)) 0 0 [.ref (ad 44), .int a1, .int a2] (wdM θ ad S) (PIS (wdM θ ad) r) :=
  fun r hr => Ct.of (by decide) (Nat.le_of_ble_eq_true rfl) (fun X hX C _ => by subst hX; exact kw_X11_lastsAs C hg_lastsAs hg_endsAs hg_beginsAs r hr)
set_option maxRecDepth 20000 in
theorem kw_X11_tellsAs {X : GX} {θ : TH} {ad : Nat → Nat} {d : Nat} {F : Nat} {g : Nat → St → Int32 → Int32 → Option (Int32 × St)} {S : St} {a1 : Int32} {a2 : Int32} (C : CX (mE X θ (wdM θ ad S) 4) RX11 cX11_tellsAs (some .int) (1 + (d + 1)) 0 0) (hg_tellsAs : ∀ (S : St) (a1 a2 : Int32) (r : Int32 × St), g 3 S a1 a2 = some r → Ct X.2.1 θ yX11_tellsAs cX11_tellsAs 4 (some .int) (1 + d) 0 0 [.ref (ad 44), .int a1, .int a2] (wdM θ ad S) (PIS (wdM θ ad) r)) (hg_lastsAs : ∀ (S : St) (a1 a2 : Int32) (r : Int32 × St), g 2 S a1 a2 = some r → Ct X.2.1 θ yX11_lastsAs cX11_lastsAs 4 (some .int) (1 + d) 0 0 [.ref (ad 44), .int a1, .int a2] (wdM θ ad S) (PIS (wdM θ ad) r)) (hg_endsAs : ∀ (S : St) (a1 a2 : Int32) (r : Int32 × St), g 1 S a1 a2 = some r → Ct X.2.1 θ yX11_endsAs cX11_endsAs 4 (some .int) (1 + d) 0 0 [.ref (ad 44), .int a1, .int a2] (wdM θ ad S) (PIS (wdM θ ad) r)) : Dk (mE X θ (wdM θ ad S) 4) (mT X θ (wdM θ ad S) 4 (PIS (wdM θ ad))) 0 0 (wdM θ ad S) [(0, .ref (ad 44)), (1, .int a1), (2, .int a2)] [] 0 (f_X11_tellsAs F g S a1 a2) := by
  unfold f_X11_tellsAs
  refine k_iload_n (q := 1) C dX11_tellsAs_0 rfl rfl ?_
  refine k_iconst (v := 5) C dX11_tellsAs_1 rfl ?_
  refine k_icmp_ne (tgt := 20) C dX11_tellsAs_2 (by decide) (fun _ => ?_) (fun _ => ?_)
  · refine k_iload_n (q := 1) C dX11_tellsAs_20 rfl rfl ?_
    refine k_bipush (v := 7) C dX11_tellsAs_21 rfl ?_
    refine k_icmp_ne (tgt := 41) C dX11_tellsAs_23 (by decide) (fun _ => ?_) (fun _ => ?_)
    · refine k_aload_n (q := 0) C dX11_tellsAs_41 rfl rfl ?_
      refine k_iconst (v := 2) C dX11_tellsAs_42 rfl ?_
      refine k_cVV C ct_X11_begins my_11_begins ml_11_312 rfl ⟨by omega, Nat.le_of_ble_eq_true rfl⟩ recvM rfl (Nat.le_of_ble_eq_true rfl) dX11_tellsAs_43 ⟨Nat.le_refl _, Nat.le_refl _⟩ (fun r1 _ => ?_)
      refine k_aload_n (q := 0) C dX11_tellsAs_46 rfl rfl ?_
      refine k_aload_n (q := 0) C dX11_tellsAs_47 rfl rfl ?_
      refine m_geti (kf := 38) (v := r1.1 38) C mS_38 fl_11_324 rfl dX11_tellsAs_48 ?_
      refine k_iload_n (q := 2) C dX11_tellsAs_51 rfl rfl ?_
      refine k_cVI C (hg_lastsAs _ _ _) my_11_lastsAs ml_11_321 rfl ⟨Nat.le_refl _, Nat.le_of_ble_eq_true rfl⟩ recvM rfl (Nat.le_of_ble_eq_true rfl) dX11_tellsAs_52 ⟨Nat.le_refl _, Nat.le_refl _⟩ (fun r2 _ => ?_)
      refine k_istore_n (lv' := [(3, .int r2.1), (0, .ref (ad 44)), (1, .int a1), (2, .int a2)]) C dX11_tellsAs_55 rfl (Nat.le_of_ble_eq_true rfl) rfl ?_
      refine k_iload_n (q := 0) C dX11_tellsAs_56 rfl rfl ?_
      refine k_aload_n (q := 1) C dX11_tellsAs_57 rfl rfl ?_
      refine k_aload_n (q := 1) C dX11_tellsAs_58 rfl rfl ?_
      refine m_geti (kf := 38) (v := r2.2.1 38) C mS_38 fl_11_324 rfl dX11_tellsAs_59 ?_
      refine k_iconst (v := 1) C dX11_tellsAs_62 rfl ?_
      refine k_cVI C (hg_endsAs _ _ _) my_11_endsAs ml_11_327 rfl ⟨Nat.le_refl _, Nat.le_of_ble_eq_true rfl⟩ recvM rfl (Nat.le_of_ble_eq_true rfl) dX11_tellsAs_63 ⟨Nat.le_refl _, Nat.le_refl _⟩ (fun r3 _ => ?_)
      refine k_isub C dX11_tellsAs_66 ?_
      exact k_iret C rfl ⟨rfl, rfl⟩ dX11_tellsAs_67
    · refine k_aload_n (q := 0) C dX11_tellsAs_26 rfl rfl ?_
      refine k_bipush (v := 81) C dX11_tellsAs_27 rfl ?_
      refine k_cVV C ct_X11_begins my_11_begins ml_11_312 rfl ⟨by omega, Nat.le_of_ble_eq_true rfl⟩ recvM rfl (Nat.le_of_ble_eq_true rfl) dX11_tellsAs_29 ⟨Nat.le_refl _, Nat.le_refl _⟩ (fun r4 _ => ?_)
      refine k_aload_n (q := 0) C dX11_tellsAs_32 rfl rfl ?_
      refine k_iconst (v := 3) C dX11_tellsAs_33 rfl ?_
      refine k_iload_n (q := 2) C dX11_tellsAs_34 rfl rfl ?_
      refine k_cVI C (hg_tellsAs _ _ _) my_11_tellsAs ml_11_330 rfl ⟨Nat.le_refl _, Nat.le_of_ble_eq_true rfl⟩ recvM rfl (Nat.le_of_ble_eq_true rfl) dX11_tellsAs_35 ⟨Nat.le_refl _, Nat.le_refl _⟩ (fun r5 _ => ?_)
      refine k_iconst (v := 1) C dX11_tellsAs_38 rfl ?_
      refine k_isub C dX11_tellsAs_39 ?_
      exact k_iret C rfl ⟨rfl, rfl⟩ dX11_tellsAs_40
  · refine k_aload_n (q := 0) C dX11_tellsAs_5 rfl rfl ?_
    refine k_bipush (v := 60) C dX11_tellsAs_6 rfl ?_
    refine k_cVV C ct_X11_begins my_11_begins ml_11_312 rfl ⟨by omega, Nat.le_of_ble_eq_true rfl⟩ recvM rfl (Nat.le_of_ble_eq_true rfl) dX11_tellsAs_8 ⟨Nat.le_refl _, Nat.le_refl _⟩ (fun r6 _ => ?_)
    refine k_aload_n (q := 0) C dX11_tellsAs_11 rfl rfl ?_
    refine k_iconst (v := 1) C dX11_tellsAs_12 rfl ?_
    refine k_iload_n (q := 2) C dX11_tellsAs_13 rfl rfl ?_
    refine k_cVI C (hg_tellsAs _ _ _) my_11_tellsAs ml_11_330 rfl ⟨Nat.le_refl _, Nat.le_of_ble_eq_true rfl⟩ recvM rfl (Nat.le_of_ble_eq_true rfl) dX11_tellsAs_14 ⟨Nat.le_refl _, Nat.le_refl _⟩ (fun r7 _ => ?_)
    refine k_iconst (v := 5) C dX11_tellsAs_17 rfl ?_
    refine k_ixor C dX11_tellsAs_18 ?_
    exact k_iret C rfl ⟨rfl, rfl⟩ dX11_tellsAs_19
theorem ct_X11_tellsAs {l : Launch} {θ : TH} {ad : Nat → Nat} {d : Nat} {F : Nat} {g : Nat → St → Int32 → Int32 → Option (Int32 × St)} {S : St} {a1 : Int32} {a2 : Int32} (hg_tellsAs : ∀ (S : St) (a1 a2 : Int32) (r : Int32 × St), g 3 S a1 a2 = some r → Ct l θ yX11_tellsAs cX11_tellsAs 4 (some .int) (1 + d) 0 0 [.ref (ad 44), .int a1, .int a2] (wdM θ ad S) (PIS (wdM θ ad) r)) (hg_lastsAs : ∀ (S : St) (a1 a2 : Int32) (r : Int32 × St), g 2 S a1 a2 = some r → Ct l θ yX11_lastsAs cX11_lastsAs 4 (some .int) (1 + d) 0 0 [.ref (ad 44), .int a1, .int a2] (wdM θ ad S) (PIS (wdM θ ad) r)) (hg_endsAs : ∀ (S : St) (a1 a2 : Int32) (r : Int32 × St), g 1 S a1 a2 = some r → Ct l θ yX11_endsAs cX11_endsAs 4 (some .int) (1 + d) 0 0 [.ref (ad 44), .int a1, .int a2] (wdM θ ad S) (PIS (wdM θ ad) r)) : ∀ r, f_X11_tellsAs F g S a1 a2 = some r → Ct l θ yX11_tellsAs cX11_tellsAs 4 (some .int) (1 + (d + 1)) 0 0 [.ref (ad 44), .int a1, .int a2] (wdM θ ad S) (PIS (wdM θ ad) r) :=
  fun r hr => Ct.of (by decide) (Nat.le_of_ble_eq_true rfl) (fun X hX C _ => by subst hX; exact kw_X11_tellsAs C hg_tellsAs hg_lastsAs hg_endsAs r hr)
theorem cr_X11_all1 {l : Launch} {θ : TH} {ad : Nat → Nat} {F : Nat} : ∀ d : Nat, (∀ (S : St) (a1 a2 : Int32) (r : Int32 × St), R_X11_1 F d 0 S a1 a2 = some r → Ct l θ yX11_beginsAs cX11_beginsAs 3 (some .int) (1 + d) 0 0 [.ref (ad 44), .int a1, .int a2] (wdM θ ad S) (PIS (wdM θ ad) r)) ∧ (∀ (S : St) (a1 a2 : Int32) (r : Int32 × St), R_X11_1 F d 1 S a1 a2 = some r → Ct l θ yX11_endsAs cX11_endsAs 4 (some .int) (1 + d) 0 0 [.ref (ad 44), .int a1, .int a2] (wdM θ ad S) (PIS (wdM θ ad) r)) ∧ (∀ (S : St) (a1 a2 : Int32) (r : Int32 × St), R_X11_1 F d 2 S a1 a2 = some r → Ct l θ yX11_lastsAs cX11_lastsAs 4 (some .int) (1 + d) 0 0 [.ref (ad 44), .int a1, .int a2] (wdM θ ad S) (PIS (wdM θ ad) r)) ∧ (∀ (S : St) (a1 a2 : Int32) (r : Int32 × St), R_X11_1 F d 3 S a1 a2 = some r → Ct l θ yX11_tellsAs cX11_tellsAs 4 (some .int) (1 + d) 0 0 [.ref (ad 44), .int a1, .int a2] (wdM θ ad S) (PIS (wdM θ ad) r)) := by
  intro d
  induction d with
  | zero => exact ⟨fun S _ _ r h => (by simp [R_X11_1] at h), fun S _ _ r h => (by simp [R_X11_1] at h), fun S _ _ r h => (by simp [R_X11_1] at h), fun S _ _ r h => (by simp [R_X11_1] at h)⟩
  | succ d ih =>
    obtain ⟨i0, i1, i2, i3⟩ := ih
    exact ⟨fun S _ _ r h => ct_X11_beginsAs (F := F) i0 r h, fun S _ _ r h => ct_X11_endsAs (F := F) i1 i0 r h, fun S _ _ r h => ct_X11_lastsAs (F := F) i2 i1 i0 r h, fun S _ _ r h => ct_X11_tellsAs (F := F) i3 i2 i1 r h⟩
theorem cr_X11_beginsAs {l : Launch} {θ : TH} {ad : Nat → Nat} {F d : Nat} {S : St} {a1 : Int32} {a2 : Int32} : ∀ (r : Int32 × St), R_X11_1 F d 0 S a1 a2 = some r → Ct l θ yX11_beginsAs cX11_beginsAs 3 (some .int) (1 + d) 0 0 [.ref (ad 44), .int a1, .int a2] (wdM θ ad S) (PIS (wdM θ ad) r) := fun r h => (cr_X11_all1 (l := l) (θ := θ) (ad := ad) (F := F) d).1 S a1 a2 r h
theorem cr_X11_endsAs {l : Launch} {θ : TH} {ad : Nat → Nat} {F d : Nat} {S : St} {a1 : Int32} {a2 : Int32} : ∀ (r : Int32 × St), R_X11_1 F d 1 S a1 a2 = some r → Ct l θ yX11_endsAs cX11_endsAs 4 (some .int) (1 + d) 0 0 [.ref (ad 44), .int a1, .int a2] (wdM θ ad S) (PIS (wdM θ ad) r) := fun r h => (cr_X11_all1 (l := l) (θ := θ) (ad := ad) (F := F) d).2.1 S a1 a2 r h
theorem cr_X11_lastsAs {l : Launch} {θ : TH} {ad : Nat → Nat} {F d : Nat} {S : St} {a1 : Int32} {a2 : Int32} : ∀ (r : Int32 × St), R_X11_1 F d 2 S a1 a2 = some r → Ct l θ yX11_lastsAs cX11_lastsAs 4 (some .int) (1 + d) 0 0 [.ref (ad 44), .int a1, .int a2] (wdM θ ad S) (PIS (wdM θ ad) r) := fun r h => (cr_X11_all1 (l := l) (θ := θ) (ad := ad) (F := F) d).2.2.1 S a1 a2 r h
theorem cr_X11_tellsAs {l : Launch} {θ : TH} {ad : Nat → Nat} {F d : Nat} {S : St} {a1 : Int32} {a2 : Int32} : ∀ (r : Int32 × St), R_X11_1 F d 3 S a1 a2 = some r → Ct l θ yX11_tellsAs cX11_tellsAs 4 (some .int) (1 + d) 0 0 [.ref (ad 44), .int a1, .int a2] (wdM θ ad S) (PIS (wdM θ ad) r) := fun r h => (cr_X11_all1 (l := l) (θ := θ) (ad := ad) (F := F) d).2.2.2 S a1 a2 r h
set_option maxRecDepth 20000 in
theorem kw_X11_act {X : GX} {θ : TH} {ad : Nat → Nat} {F : Nat} {S : St} {a1 : Int32} {a2 : Int32} {a3 : Int32} (C : CX (mE X θ (wdM θ ad S) 4) RX11 cX11_act (some .int) 14 0 0)  : Dk (mE X θ (wdM θ ad S) 4) (mT X θ (wdM θ ad S) 4 (PIS (wdM θ ad))) 0 0 (wdM θ ad S) [(0, .ref (ad 44)), (1, .int a1), (2, .int a2), (3, .int a3)] [] 0 (f_X11_act F S a1 a2 a3) := by
  unfold f_X11_act
  refine k_aload_n (q := 0) C dX11_act_0 rfl rfl ?_
  refine k_iconst (v := 0) C dX11_act_1 rfl ?_
  refine m_puti (kf := 37) C mS_37 mP_37 fl_11_309 dX11_act_2 ?_
  refine k_aload_n (q := 0) C dX11_act_5 rfl rfl ?_
  refine k_iload_n (q := 1) C dX11_act_6 rfl rfl ?_
  refine k_cVI C ct_X11_isBody my_11_isBody ml_11_333 rfl ⟨Nat.le_of_ble_eq_true rfl, Nat.le_of_ble_eq_true rfl⟩ recvM rfl (Nat.le_of_ble_eq_true rfl) dX11_act_7 ⟨Nat.le_refl _, Nat.le_refl _⟩ (fun r1 _ => ?_)
  refine k_if_ne (tgt := 15) C dX11_act_10 (by decide) (fun _ => ?_) (fun _ => ?_)
  · refine k_aload_n (q := 0) C dX11_act_15 rfl rfl ?_
    refine k_aload_n (q := 0) C dX11_act_16 rfl rfl ?_
    refine m_geta (kf := 35) C mR_35 fl_11_74 dX11_act_17 ?_
    refine k_iload_n (q := 1) C dX11_act_20 rfl rfl ?_
    refine m_iald (x := S.2.1 35 (a1).toNatClampNeg) C mA_35 mN_35 rfl dX11_act_21 ?_
    refine m_puti (kf := 38) C mS_38 mP_38 fl_11_324 dX11_act_22 ?_
    refine k_aload_n (q := 0) C dX11_act_25 rfl rfl ?_
    refine k_iload_n (q := 1) C dX11_act_26 rfl rfl ?_
    refine m_puti (kf := 39) C mS_39 mP_39 fl_11_318 dX11_act_27 ?_
    refine k_iload_n (q := 2) C dX11_act_30 rfl rfl ?_
    refine k_case (c := 0) (fun q1 => ?_) (fun q1 => ?_)
    · refine k_tableIn (off := 29) (tgt := 60) C dX11_act_31 (by rw [q1]; decide) (by rw [q1]; decide) (by rw [q1]; rfl) (by decide) ?_
      refine k_aload_n (q := 0) C dX11_act_60 rfl rfl ?_
      refine k_aload_n (q := 0) C dX11_act_61 rfl rfl ?_
      refine m_geti (kf := 38) (v := S.2.1 35 (a1).toNatClampNeg) C mS_38 fl_11_324 rfl dX11_act_62 ?_
      refine k_iload_n (q := 3) C dX11_act_65 rfl rfl ?_
      refine k_cVI C (cr_X11_beginsAs (d := 12)) my_11_beginsAs ml_11_315 rfl ⟨Nat.le_of_ble_eq_true rfl, Nat.le_of_ble_eq_true rfl⟩ recvM rfl (Nat.le_of_ble_eq_true rfl) dX11_act_66 ⟨Nat.le_refl _, Nat.le_refl _⟩ (fun r2 _ => ?_)
      exact k_iret C rfl ⟨rfl, rfl⟩ dX11_act_69
    refine k_case (c := 1) (fun q2 => ?_) (fun q2 => ?_)
    · refine k_tableIn (off := 39) (tgt := 70) C dX11_act_31 (by rw [q2]; decide) (by rw [q2]; decide) (by rw [q2]; rfl) (by decide) ?_
      refine k_aload_n (q := 0) C dX11_act_70 rfl rfl ?_
      refine k_aload_n (q := 0) C dX11_act_71 rfl rfl ?_
      refine m_geti (kf := 38) (v := S.2.1 35 (a1).toNatClampNeg) C mS_38 fl_11_324 rfl dX11_act_72 ?_
      refine k_iload_n (q := 3) C dX11_act_75 rfl rfl ?_
      refine k_cVI C (cr_X11_lastsAs (d := 12)) my_11_lastsAs ml_11_321 rfl ⟨Nat.le_of_ble_eq_true rfl, Nat.le_of_ble_eq_true rfl⟩ recvM rfl (Nat.le_of_ble_eq_true rfl) dX11_act_76 ⟨Nat.le_refl _, Nat.le_refl _⟩ (fun r3 _ => ?_)
      exact k_iret C rfl ⟨rfl, rfl⟩ dX11_act_79
    refine k_case (c := 2) (fun q3 => ?_) (fun q3 => ?_)
    · refine k_tableIn (off := 49) (tgt := 80) C dX11_act_31 (by rw [q3]; decide) (by rw [q3]; decide) (by rw [q3]; rfl) (by decide) ?_
      refine k_aload_n (q := 0) C dX11_act_80 rfl rfl ?_
      refine k_aload_n (q := 0) C dX11_act_81 rfl rfl ?_
      refine m_geti (kf := 38) (v := S.2.1 35 (a1).toNatClampNeg) C mS_38 fl_11_324 rfl dX11_act_82 ?_
      refine k_iload_n (q := 3) C dX11_act_85 rfl rfl ?_
      refine k_cVI C (cr_X11_endsAs (d := 12)) my_11_endsAs ml_11_327 rfl ⟨Nat.le_of_ble_eq_true rfl, Nat.le_of_ble_eq_true rfl⟩ recvM rfl (Nat.le_of_ble_eq_true rfl) dX11_act_86 ⟨Nat.le_refl _, Nat.le_refl _⟩ (fun r4 _ => ?_)
      exact k_iret C rfl ⟨rfl, rfl⟩ dX11_act_89
    refine k_case (c := 3) (fun q4 => ?_) (fun q4 => ?_)
    · refine k_tableIn (off := 59) (tgt := 90) C dX11_act_31 (by rw [q4]; decide) (by rw [q4]; decide) (by rw [q4]; rfl) (by decide) ?_
      refine k_aload_n (q := 0) C dX11_act_90 rfl rfl ?_
      refine k_aload_n (q := 0) C dX11_act_91 rfl rfl ?_
      refine m_geti (kf := 38) (v := S.2.1 35 (a1).toNatClampNeg) C mS_38 fl_11_324 rfl dX11_act_92 ?_
      refine k_iload_n (q := 3) C dX11_act_95 rfl rfl ?_
      refine k_cVI C (cr_X11_tellsAs (d := 12)) my_11_tellsAs ml_11_330 rfl ⟨Nat.le_of_ble_eq_true rfl, Nat.le_of_ble_eq_true rfl⟩ recvM rfl (Nat.le_of_ble_eq_true rfl) dX11_act_96 ⟨Nat.le_refl _, Nat.le_refl _⟩ (fun r5 _ => ?_)
      exact k_iret C rfl ⟨rfl, rfl⟩ dX11_act_99
    refine k_tableOut (tgt := 100) C dX11_act_31 (by have zq1 := i32ne q1 (z := 0) rfl; have zq2 := i32ne q2 (z := 1) rfl; have zq3 := i32ne q3 (z := 2) rfl; have zq4 := i32ne q4 (z := 3) rfl; omega) (by decide) ?_
    refine k_iconst (v := 0) C dX11_act_100 rfl ?_
    exact k_iret C rfl ⟨rfl, rfl⟩ dX11_act_101
  · refine k_iconst (v := 0) C dX11_act_13 rfl ?_
    exact k_iret C rfl ⟨rfl, rfl⟩ dX11_act_14
theorem ct_X11_act {l : Launch} {θ : TH} {ad : Nat → Nat} {S : St} {F : Nat} {a1 : Int32} {a2 : Int32} {a3 : Int32} : ∀ r, f_X11_act F S a1 a2 a3 = some r → Ct l θ yX11_act cX11_act 4 (some .int) 14 0 0 [.ref (ad 44), .int a1, .int a2, .int a3] (wdM θ ad S) (PIS (wdM θ ad) r) :=
  fun r hr => Ct.of (by decide) (Nat.le_of_ble_eq_true rfl) (fun X _ C _ => kw_X11_act C r hr)
set_option maxRecDepth 20000 in
theorem kw_X11_trace {X : GX} {θ : TH} {ad : Nat → Nat}  {S : St} {a1 : Int32} (C : CX (mE X θ (wdM θ ad S) 2) RX11 cX11_trace (some .int) 0 0 0)  : Dk (mE X θ (wdM θ ad S) 2) (mT X θ (wdM θ ad S) 2 (PI (wdM θ ad S))) 0 0 (wdM θ ad S) [(0, .ref (ad 44)), (1, .int a1)] [] 0 (f_X11_trace S a1) := by
  unfold f_X11_trace
  refine k_iload_n (q := 1) C dX11_trace_0 rfl rfl ?_
  refine k_if_lt (tgt := 27) C dX11_trace_1 (by decide) (fun _ => ?_) (fun _ => ?_)
  · refine k_iconst (v := (-1)) C dX11_trace_27 rfl ?_
    exact k_iret C rfl ⟨rfl, rfl⟩ dX11_trace_28
  · refine k_iload_n (q := 1) C dX11_trace_4 rfl rfl ?_
    refine k_aload_n (q := 0) C dX11_trace_5 rfl rfl ?_
    refine m_geti (kf := 37) (v := S.1 37) C mS_37 fl_11_309 rfl dX11_trace_6 ?_
    refine k_icmp_ge (tgt := 27) C dX11_trace_9 (by decide) (fun _ => ?_) (fun _ => ?_)
    · refine k_iconst (v := (-1)) C dX11_trace_27 rfl ?_
      exact k_iret C rfl ⟨rfl, rfl⟩ dX11_trace_28
    · refine k_iload_n (q := 1) C dX11_trace_12 rfl rfl ?_
      refine k_bipush (v := 24) C dX11_trace_13 rfl ?_
      refine k_icmp_ge (tgt := 27) C dX11_trace_15 (by decide) (fun _ => ?_) (fun _ => ?_)
      · refine k_iconst (v := (-1)) C dX11_trace_27 rfl ?_
        exact k_iret C rfl ⟨rfl, rfl⟩ dX11_trace_28
      · refine k_aload_n (q := 0) C dX11_trace_18 rfl rfl ?_
        refine m_geta (kf := 36) C mR_36 fl_11_77 dX11_trace_19 ?_
        refine k_iload_n (q := 1) C dX11_trace_22 rfl rfl ?_
        refine m_iald (x := S.2.1 36 (a1).toNatClampNeg) C mA_36 mN_36 rfl dX11_trace_23 ?_
        refine k_goto (tgt := 28) C dX11_trace_24 (by decide) ?_
        exact k_iret C rfl ⟨rfl, rfl⟩ dX11_trace_28
theorem ct_X11_trace {l : Launch} {θ : TH} {ad : Nat → Nat} {S : St}  {a1 : Int32} : ∀ r, f_X11_trace S a1 = some r → Ct l θ yX11_trace cX11_trace 2 (some .int) 0 0 0 [.ref (ad 44), .int a1] (wdM θ ad S) (PI (wdM θ ad S) r) :=
  fun r hr => Ct.of (by decide) (Nat.le_of_ble_eq_true rfl) (fun X _ C _ => kw_X11_trace C r hr)
set_option maxRecDepth 20000 in
theorem kb_X11_keep_B22 {X : GX} {θ : TH} {ad : Nat → Nat} {S0 : St} {a1 : Int32} {a2 : Int32} (C : CX (mE X θ (wdM θ ad S0) 3) RX11 cX11_keep (some .int) 2 0 0)  (S : St) : Dk (mE X θ (wdM θ ad S0) 3) (mT X θ (wdM θ ad S0) 3 (PIS (wdM θ ad))) 0 0 (wdM θ ad S) [(0, .ref (ad 44)), (1, .int a1), (2, .int a2)] [] 22 (f_X11_keep_B22 a1 a2 S) := by
  unfold f_X11_keep_B22
  refine k_aload_n (q := 0) C dX11_keep_22 rfl rfl ?_
  refine m_geta (kf := 40) C mR_40 fl_11_80 dX11_keep_23 ?_
  refine k_iload_n (q := 1) C dX11_keep_26 rfl rfl ?_
  refine k_iload_n (q := 2) C dX11_keep_27 rfl rfl ?_
  refine m_iast C mA_40 mN_40 dX11_keep_28 ?_
  refine k_aload_n (q := 0) C dX11_keep_29 rfl rfl ?_
  refine m_geta (kf := 41) C mR_41 fl_11_83 dX11_keep_30 ?_
  refine k_iload_n (q := 1) C dX11_keep_33 rfl rfl ?_
  refine k_iconst (v := 0) C dX11_keep_34 rfl ?_
  refine m_iast C mA_41 mN_41 dX11_keep_35 ?_
  refine k_iconst (v := 1) C dX11_keep_36 rfl ?_
  exact k_iret C rfl ⟨rfl, rfl⟩ dX11_keep_37
set_option maxRecDepth 20000 in
theorem kw_X11_keep {X : GX} {θ : TH} {ad : Nat → Nat}  {S : St} {a1 : Int32} {a2 : Int32} (C : CX (mE X θ (wdM θ ad S) 3) RX11 cX11_keep (some .int) 2 0 0)  : Dk (mE X θ (wdM θ ad S) 3) (mT X θ (wdM θ ad S) 3 (PIS (wdM θ ad))) 0 0 (wdM θ ad S) [(0, .ref (ad 44)), (1, .int a1), (2, .int a2)] [] 0 (f_X11_keep S a1 a2) := by
  unfold f_X11_keep
  refine k_iload_n (q := 1) C dX11_keep_0 rfl rfl ?_
  refine k_cSI C ct_X11_isShelf my_11_isShelf ml_11_213 rfl ⟨Nat.le_of_ble_eq_true rfl, Nat.le_of_ble_eq_true rfl⟩ rfl (Nat.le_of_ble_eq_true rfl) dX11_keep_1 ⟨Nat.le_refl _, Nat.le_refl _⟩ (fun r1 _ => ?_)
  refine k_if_eq (tgt := 20) C dX11_keep_4 (by decide) (fun _ => ?_) (fun _ => ?_)
  · refine k_iconst (v := (-1)) C dX11_keep_20 rfl ?_
    exact k_iret C rfl ⟨rfl, rfl⟩ dX11_keep_21
  · refine k_iload_n (q := 2) C dX11_keep_7 rfl rfl ?_
    refine k_iconst (v := (-1)) C dX11_keep_8 rfl ?_
    refine k_icmp_eq (tgt := 22) C dX11_keep_9 (by decide) (fun _ => ?_) (fun _ => ?_)
    · exact kb_X11_keep_B22 C _
    · refine k_aload_n (q := 0) C dX11_keep_12 rfl rfl ?_
      refine k_iload_n (q := 2) C dX11_keep_13 rfl rfl ?_
      refine k_cVI C ct_X11_isBody my_11_isBody ml_11_333 rfl ⟨Nat.le_of_ble_eq_true rfl, Nat.le_of_ble_eq_true rfl⟩ recvM rfl (Nat.le_of_ble_eq_true rfl) dX11_keep_14 ⟨Nat.le_refl _, Nat.le_refl _⟩ (fun r2 _ => ?_)
      refine k_if_ne (tgt := 22) C dX11_keep_17 (by decide) (fun _ => ?_) (fun _ => ?_)
      · exact kb_X11_keep_B22 C _
      · refine k_iconst (v := (-1)) C dX11_keep_20 rfl ?_
        exact k_iret C rfl ⟨rfl, rfl⟩ dX11_keep_21
theorem ct_X11_keep {l : Launch} {θ : TH} {ad : Nat → Nat} {S : St}  {a1 : Int32} {a2 : Int32} : ∀ r, f_X11_keep S a1 a2 = some r → Ct l θ yX11_keep cX11_keep 3 (some .int) 2 0 0 [.ref (ad 44), .int a1, .int a2] (wdM θ ad S) (PIS (wdM θ ad) r) :=
  fun r hr => Ct.of (by decide) (Nat.le_of_ble_eq_true rfl) (fun X _ C _ => kw_X11_keep C r hr)
set_option maxRecDepth 20000 in
theorem kb_X11_row_L57 {X : GX} {θ : TH} {ad : Nat → Nat} {S0 : St} {F : Nat} {a1 : Int32} (C : CX (mE X θ (wdM θ ad S0) 5) RX11 cX11_row (some .int) 2 0 0)  : ∀ (n : Nat) (S : St) (x4 : Int32), Dk (mE X θ (wdM θ ad S0) 5) (mT X θ (wdM θ ad S0) 5 (PIS (wdM θ ad))) 0 0 (wdM θ ad S) [(0, .ref (ad 44)), (1, .int a1), (4, .int x4)] [] 57 (f_X11_row_L57 F a1 n S x4) := by
  intro n
  induction n with
  | zero => intro S x4; exact Dk.none
  | succ n ih =>
    intro S x4
    show Dk _ _ _ _ _ _ _ _ (if ((60 * a1) + 60) ≤ x4 then some ((1 : Int32), S) else chk (inr x4 360) (f_X11_row_L57 F a1 n (sl S 42 (x4).toNatClampNeg 0) (x4 + 1)))
    refine k_iload (q := 2) C dX11_row_57 rfl ?_
    refine k_bipush (v := 60) C dX11_row_59 rfl ?_
    refine k_iload_n (q := 1) C dX11_row_61 rfl rfl ?_
    refine k_imul C dX11_row_62 ?_
    refine k_bipush (v := 60) C dX11_row_63 rfl ?_
    refine k_iadd C dX11_row_65 ?_
    refine k_icmp_ge (tgt := 83) C dX11_row_66 (by decide) (fun _ => ?_) (fun _ => ?_)
    · refine k_iconst (v := 1) C dX11_row_83 rfl ?_
      exact k_iret C rfl ⟨rfl, rfl⟩ dX11_row_84
    · refine k_aload_n (q := 0) C dX11_row_69 rfl rfl ?_
      refine m_geta (kf := 42) C mR_42 fl_11_86 dX11_row_70 ?_
      refine k_iload (q := 2) C dX11_row_73 rfl ?_
      refine k_lconst (v := 0) C dX11_row_75 rfl ?_
      refine m_last C mB_42 mN_42 dX11_row_76 ?_
      refine k_iinc (q := 2) (v := x4 + 1) (lv' := [(4, .int (x4 + 1)), (0, .ref (ad 44)), (1, .int a1)]) C dX11_row_77 rfl rfl (Nat.le_of_ble_eq_true rfl) rfl ?_
      refine k_goto (tgt := 57) C dX11_row_80 (by decide) ?_
      refine Dk.loc [1, 2, 0] rfl ?_
      exact ih _ _
set_option maxRecDepth 20000 in
theorem kw_X11_row {X : GX} {θ : TH} {ad : Nat → Nat} {F : Nat} {S : St} {a1 : Int32} {a2 : Int32} {a3 : Int32} (C : CX (mE X θ (wdM θ ad S) 5) RX11 cX11_row (some .int) 2 0 0)  : Dk (mE X θ (wdM θ ad S) 5) (mT X θ (wdM θ ad S) 5 (PIS (wdM θ ad))) 0 0 (wdM θ ad S) [(0, .ref (ad 44)), (1, .int a1), (2, .int a2), (3, .int a3)] [] 0 (f_X11_row F S a1 a2 a3) := by
  unfold f_X11_row
  refine k_iload_n (q := 1) C dX11_row_0 rfl rfl ?_
  refine k_cSI C ct_X11_isShelf my_11_isShelf ml_11_213 rfl ⟨Nat.le_of_ble_eq_true rfl, Nat.le_of_ble_eq_true rfl⟩ rfl (Nat.le_of_ble_eq_true rfl) dX11_row_1 ⟨Nat.le_refl _, Nat.le_refl _⟩ (fun r1 _ => ?_)
  refine k_if_eq (tgt := 25) C dX11_row_4 (by decide) (fun _ => ?_) (fun _ => ?_)
  · refine k_iconst (v := (-1)) C dX11_row_25 rfl ?_
    exact k_iret C rfl ⟨rfl, rfl⟩ dX11_row_26
  · refine k_iload_n (q := 2) C dX11_row_7 rfl rfl ?_
    refine k_i2l C dX11_row_8 ?_
    refine k_lconst (v := 0) C dX11_row_9 rfl ?_
    refine k_ldc2 C co_11_338 dX11_row_10 ?_
    refine k_cSI C ct_X11_within my_11_within ml_11_106 rfl ⟨Nat.le_of_ble_eq_true rfl, Nat.le_of_ble_eq_true rfl⟩ rfl (Nat.le_of_ble_eq_true rfl) dX11_row_13 ⟨Nat.le_refl _, Nat.le_refl _⟩ (fun r2 _ => ?_)
    refine k_if_eq (tgt := 25) C dX11_row_16 (by decide) (fun _ => ?_) (fun _ => ?_)
    · refine k_iconst (v := (-1)) C dX11_row_25 rfl ?_
      exact k_iret C rfl ⟨rfl, rfl⟩ dX11_row_26
    · refine k_iload_n (q := 3) C dX11_row_19 rfl rfl ?_
      refine k_bipush (v := 60) C dX11_row_20 rfl ?_
      refine k_icmp_le (tgt := 27) C dX11_row_22 (by decide) (fun _ => ?_) (fun _ => ?_)
      · refine k_iload_n (q := 3) C dX11_row_27 rfl rfl ?_
        refine k_if_ge (tgt := 34) C dX11_row_28 (by decide) (fun _ => ?_) (fun _ => ?_)
        · refine k_aload_n (q := 0) C dX11_row_34 rfl rfl ?_
          refine m_geta (kf := 40) C mR_40 fl_11_80 dX11_row_35 ?_
          refine k_iload_n (q := 1) C dX11_row_38 rfl rfl ?_
          refine k_bipush (v := 50) C dX11_row_39 rfl ?_
          refine k_iload_n (q := 2) C dX11_row_41 rfl rfl ?_
          refine k_iadd C dX11_row_42 ?_
          refine m_iast C mA_40 mN_40 dX11_row_43 ?_
          refine k_aload_n (q := 0) C dX11_row_44 rfl rfl ?_
          refine m_geta (kf := 41) C mR_41 fl_11_83 dX11_row_45 ?_
          refine k_iload_n (q := 1) C dX11_row_48 rfl rfl ?_
          refine k_iload_n (q := 3) C dX11_row_49 rfl rfl ?_
          refine m_iast C mA_41 mN_41 dX11_row_50 ?_
          refine k_bipush (v := 60) C dX11_row_51 rfl ?_
          refine k_iload_n (q := 1) C dX11_row_53 rfl rfl ?_
          refine k_imul C dX11_row_54 ?_
          refine k_istore (lv' := [(4, .int (60 * a1)), (0, .ref (ad 44)), (1, .int a1), (2, .int a2), (3, .int a3)]) C dX11_row_55 (Nat.le_of_ble_eq_true rfl) rfl ?_
          refine Dk.loc [1, 2, 0] rfl ?_
          exact kb_X11_row_L57 C _ _ _
        · refine k_bipush (v := (-14)) C dX11_row_31 rfl ?_
          exact k_iret C rfl ⟨rfl, rfl⟩ dX11_row_33
      · refine k_iconst (v := (-1)) C dX11_row_25 rfl ?_
        exact k_iret C rfl ⟨rfl, rfl⟩ dX11_row_26
theorem ct_X11_row {l : Launch} {θ : TH} {ad : Nat → Nat} {S : St} {F : Nat} {a1 : Int32} {a2 : Int32} {a3 : Int32} : ∀ r, f_X11_row F S a1 a2 a3 = some r → Ct l θ yX11_row cX11_row 5 (some .int) 2 0 0 [.ref (ad 44), .int a1, .int a2, .int a3] (wdM θ ad S) (PIS (wdM θ ad) r) :=
  fun r hr => Ct.of (by decide) (Nat.le_of_ble_eq_true rfl) (fun X _ C _ => kw_X11_row C r hr)
set_option maxRecDepth 20000 in
theorem kw_X11_refusal {X : GX} {θ : TH} {ad : Nat → Nat}  {S : St} {a1 : Int32} {a2 : Int32} (C : CX (mE X θ (wdM θ ad S) 3) RX11 cX11_refusal (some .int) 2 0 0)  : Dk (mE X θ (wdM θ ad S) 3) (mT X θ (wdM θ ad S) 3 (PI (wdM θ ad S))) 0 0 (wdM θ ad S) [(0, .ref (ad 44)), (1, .int a1), (2, .int a2)] [] 0 (f_X11_refusal S a1 a2) := by
  unfold f_X11_refusal
  refine k_iload_n (q := 1) C dX11_refusal_0 rfl rfl ?_
  refine k_cSI C ct_X11_isShelf my_11_isShelf ml_11_213 rfl ⟨Nat.le_of_ble_eq_true rfl, Nat.le_of_ble_eq_true rfl⟩ rfl (Nat.le_of_ble_eq_true rfl) dX11_refusal_1 ⟨Nat.le_refl _, Nat.le_refl _⟩ (fun r1 _ => ?_)
  refine k_if_ne (tgt := 9) C dX11_refusal_4 (by decide) (fun _ => ?_) (fun _ => ?_)
  · refine k_aload_n (q := 0) C dX11_refusal_9 rfl rfl ?_
    refine m_geta (kf := 40) C mR_40 fl_11_80 dX11_refusal_10 ?_
    refine k_iload_n (q := 1) C dX11_refusal_13 rfl rfl ?_
    refine m_iald (x := S.2.1 40 (a1).toNatClampNeg) C mA_40 mN_40 rfl dX11_refusal_14 ?_
    refine k_if_ge (tgt := 21) C dX11_refusal_15 (by decide) (fun _ => ?_) (fun _ => ?_)
    · refine k_aload_n (q := 0) C dX11_refusal_21 rfl rfl ?_
      refine m_geta (kf := 40) C mR_40 fl_11_80 dX11_refusal_22 ?_
      refine k_iload_n (q := 1) C dX11_refusal_25 rfl rfl ?_
      refine m_iald (x := S.2.1 40 (a1).toNatClampNeg) C mA_40 mN_40 rfl dX11_refusal_26 ?_
      refine k_bipush (v := 50) C dX11_refusal_27 rfl ?_
      refine k_icmp_ge (tgt := 35) C dX11_refusal_29 (by decide) (fun _ => ?_) (fun _ => ?_)
      · refine k_iload_n (q := 2) C dX11_refusal_35 rfl rfl ?_
        refine k_if_lt (tgt := 53) C dX11_refusal_36 (by decide) (fun _ => ?_) (fun _ => ?_)
        · refine k_bipush (v := (-13)) C dX11_refusal_53 rfl ?_
          exact k_iret C rfl ⟨rfl, rfl⟩ dX11_refusal_55
        · refine k_iload_n (q := 2) C dX11_refusal_39 rfl rfl ?_
          refine k_aload_n (q := 0) C dX11_refusal_40 rfl rfl ?_
          refine m_geta (kf := 41) C mR_41 fl_11_83 dX11_refusal_41 ?_
          refine k_iload_n (q := 1) C dX11_refusal_44 rfl rfl ?_
          refine m_iald (x := S.2.1 41 (a1).toNatClampNeg) C mA_41 mN_41 rfl dX11_refusal_45 ?_
          refine k_icmp_ge (tgt := 53) C dX11_refusal_46 (by decide) (fun _ => ?_) (fun _ => ?_)
          · refine k_bipush (v := (-13)) C dX11_refusal_53 rfl ?_
            exact k_iret C rfl ⟨rfl, rfl⟩ dX11_refusal_55
          · refine k_iconst (v := 0) C dX11_refusal_49 rfl ?_
            refine k_goto (tgt := 55) C dX11_refusal_50 (by decide) ?_
            exact k_iret C rfl ⟨rfl, rfl⟩ dX11_refusal_55
      · refine k_bipush (v := (-12)) C dX11_refusal_32 rfl ?_
        exact k_iret C rfl ⟨rfl, rfl⟩ dX11_refusal_34
    · refine k_bipush (v := (-11)) C dX11_refusal_18 rfl ?_
      exact k_iret C rfl ⟨rfl, rfl⟩ dX11_refusal_20
  · refine k_iconst (v := (-1)) C dX11_refusal_7 rfl ?_
    exact k_iret C rfl ⟨rfl, rfl⟩ dX11_refusal_8
theorem ct_X11_refusal {l : Launch} {θ : TH} {ad : Nat → Nat} {S : St}  {a1 : Int32} {a2 : Int32} : ∀ r, f_X11_refusal S a1 a2 = some r → Ct l θ yX11_refusal cX11_refusal 3 (some .int) 2 0 0 [.ref (ad 44), .int a1, .int a2] (wdM θ ad S) (PI (wdM θ ad S) r) :=
  fun r hr => Ct.of (by decide) (Nat.le_of_ble_eq_true rfl) (fun X _ C _ => kw_X11_refusal C r hr)
set_option maxRecDepth 20000 in
theorem kw_X11_asSort {X : GX} {θ : TH} {ws : va_W}   {a1 : Int32} {a2 : Int64} (C : CX (mE X θ (ws) 3) RX11 cX11_asSort (some .long) 0 0 0)  : Dk (mE X θ (ws) 3) (mT X θ (ws) 3 (PL ws)) 0 0 ws [(0, .int a1), (1, .long a2)] [] 0 (f_X11_asSort a1 a2) := by
  unfold f_X11_asSort
  refine k_iload_n (q := 0) C dX11_asSort_0 rfl rfl ?_
  refine k_if_ne (tgt := 11) C dX11_asSort_1 (by decide) (fun _ => ?_) (fun _ => ?_)
  · refine k_iload_n (q := 0) C dX11_asSort_11 rfl rfl ?_
    refine k_iconst (v := 1) C dX11_asSort_12 rfl ?_
    refine k_icmp_ne (tgt := 23) C dX11_asSort_13 (by decide) (fun _ => ?_) (fun _ => ?_)
    · refine k_iload_n (q := 0) C dX11_asSort_23 rfl rfl ?_
      refine k_iconst (v := 2) C dX11_asSort_24 rfl ?_
      refine k_icmp_ne (tgt := 34) C dX11_asSort_25 (by decide) (fun _ => ?_) (fun _ => ?_)
      · refine k_iload_n (q := 0) C dX11_asSort_34 rfl rfl ?_
        refine k_iconst (v := 4) C dX11_asSort_35 rfl ?_
        refine k_icmp_ne (tgt := 53) C dX11_asSort_36 (by decide) (fun _ => ?_) (fun _ => ?_)
        · refine k_lload_n (q := 1) C dX11_asSort_53 rfl rfl ?_
          exact k_lret C ⟨rfl, rfl⟩ dX11_asSort_54
        · refine k_lload_n (q := 1) C dX11_asSort_39 rfl rfl ?_
          refine k_lconst (v := 0) C dX11_asSort_40 rfl ?_
          refine k_lcmp C dX11_asSort_41 ?_
          refine k_if_eq (tgt := 49) C dX11_asSort_42 (by decide) (fun _ => ?_) (fun _ => ?_)
          · refine k_lconst (v := 0) C dX11_asSort_49 rfl ?_
            refine k_goto (tgt := 54) C dX11_asSort_50 (by decide) ?_
            exact k_lret C ⟨rfl, rfl⟩ dX11_asSort_54
          · refine k_lconst (v := 1) C dX11_asSort_45 rfl ?_
            refine k_goto (tgt := 54) C dX11_asSort_46 (by decide) ?_
            exact k_lret C ⟨rfl, rfl⟩ dX11_asSort_54
      · refine k_lload_n (q := 1) C dX11_asSort_28 rfl rfl ?_
        refine k_l2i C dX11_asSort_29 ?_
        refine k_i2l C dX11_asSort_30 ?_
        refine k_goto (tgt := 54) C dX11_asSort_31 (by decide) ?_
        exact k_lret C ⟨rfl, rfl⟩ dX11_asSort_54
    · refine k_lload_n (q := 1) C dX11_asSort_16 rfl rfl ?_
      refine k_l2i C dX11_asSort_17 ?_
      refine k_i2s C dX11_asSort_18 ?_
      refine k_i2l C dX11_asSort_19 ?_
      refine k_goto (tgt := 54) C dX11_asSort_20 (by decide) ?_
      exact k_lret C ⟨rfl, rfl⟩ dX11_asSort_54
  · refine k_lload_n (q := 1) C dX11_asSort_4 rfl rfl ?_
    refine k_l2i C dX11_asSort_5 ?_
    refine k_i2b C dX11_asSort_6 ?_
    refine k_i2l C dX11_asSort_7 ?_
    refine k_goto (tgt := 54) C dX11_asSort_8 (by decide) ?_
    exact k_lret C ⟨rfl, rfl⟩ dX11_asSort_54
theorem ct_X11_asSort {l : Launch} {θ : TH} {ws : va_W}  {a1 : Int32} {a2 : Int64} : ∀ r, f_X11_asSort a1 a2 = some r → Ct l θ yX11_asSort cX11_asSort 3 (some .long) 0 0 0 [.int a1, .long a2] (ws) (PL ws r) :=
  fun r hr => Ct.of (by decide) (Nat.le_of_ble_eq_true rfl) (fun X _ C _ => kw_X11_asSort C r hr)
set_option maxRecDepth 20000 in
theorem kw_X11_put {X : GX} {θ : TH} {ad : Nat → Nat}  {S : St} {a1 : Int32} {a2 : Int32} {a3 : Int64} (C : CX (mE X θ (wdM θ ad S) 6) RX11 cX11_put (some .int) 3 0 0)  : Dk (mE X θ (wdM θ ad S) 6) (mT X θ (wdM θ ad S) 6 (PIS (wdM θ ad))) 0 0 (wdM θ ad S) [(0, .ref (ad 44)), (1, .int a1), (2, .int a2), (3, .long a3)] [] 0 (f_X11_put S a1 a2 a3) := by
  unfold f_X11_put
  refine k_aload_n (q := 0) C dX11_put_0 rfl rfl ?_
  refine k_iload_n (q := 1) C dX11_put_1 rfl rfl ?_
  refine k_iload_n (q := 2) C dX11_put_2 rfl rfl ?_
  refine k_cVI C ct_X11_refusal my_11_refusal ml_11_340 rfl ⟨Nat.le_of_ble_eq_true rfl, Nat.le_of_ble_eq_true rfl⟩ recvM rfl (Nat.le_of_ble_eq_true rfl) dX11_put_3 ⟨Nat.le_refl _, Nat.le_refl _⟩ (fun r1 _ => ?_)
  refine k_istore (lv' := [(5, .int r1), (0, .ref (ad 44)), (1, .int a1), (2, .int a2), (3, .long a3)]) C dX11_put_6 (Nat.le_of_ble_eq_true rfl) rfl ?_
  refine k_iload (q := 0) C dX11_put_8 rfl ?_
  refine k_if_ne (tgt := 37) C dX11_put_10 (by decide) (fun _ => ?_) (fun _ => ?_)
  · refine k_iload (q := 0) C dX11_put_37 rfl ?_
    refine k_if_ne (tgt := 46) C dX11_put_39 (by decide) (fun _ => ?_) (fun _ => ?_)
    · refine k_iload (q := 0) C dX11_put_46 rfl ?_
      exact k_iret C rfl ⟨rfl, rfl⟩ dX11_put_48
    · refine k_iconst (v := 1) C dX11_put_42 rfl ?_
      refine k_goto (tgt := 48) C dX11_put_43 (by decide) ?_
      exact k_iret C rfl ⟨rfl, rfl⟩ dX11_put_48
  · refine k_aload_n (q := 1) C dX11_put_13 rfl rfl ?_
    refine m_geta (kf := 42) C mR_42 fl_11_86 dX11_put_14 ?_
    refine k_bipush (v := 60) C dX11_put_17 rfl ?_
    refine k_iload_n (q := 2) C dX11_put_19 rfl rfl ?_
    refine k_imul C dX11_put_20 ?_
    refine k_iload_n (q := 3) C dX11_put_21 rfl rfl ?_
    refine k_iadd C dX11_put_22 ?_
    refine k_aload_n (q := 1) C dX11_put_23 rfl rfl ?_
    refine m_geta (kf := 40) C mR_40 fl_11_80 dX11_put_24 ?_
    refine k_iload_n (q := 2) C dX11_put_27 rfl rfl ?_
    refine m_iald (x := S.2.1 40 (a1).toNatClampNeg) C mA_40 mN_40 rfl dX11_put_28 ?_
    refine k_bipush (v := 50) C dX11_put_29 rfl ?_
    refine k_isub C dX11_put_31 ?_
    refine k_lload_n (q := 4) C dX11_put_32 rfl rfl ?_
    refine k_cSL C ct_X11_asSort my_11_asSort ml_11_343 rfl ⟨Nat.le_of_ble_eq_true rfl, Nat.le_of_ble_eq_true rfl⟩ rfl (Nat.le_of_ble_eq_true rfl) dX11_put_33 ⟨Nat.le_refl _, Nat.le_refl _⟩ (fun r2 _ => ?_)
    refine m_last C mB_42 mN_42 dX11_put_36 ?_
    refine k_iload (q := 0) C dX11_put_37 rfl ?_
    refine k_if_ne (tgt := 46) C dX11_put_39 (by decide) (fun _ => ?_) (fun _ => ?_)
    · refine k_iload (q := 0) C dX11_put_46 rfl ?_
      exact k_iret C rfl ⟨rfl, rfl⟩ dX11_put_48
    · refine k_iconst (v := 1) C dX11_put_42 rfl ?_
      refine k_goto (tgt := 48) C dX11_put_43 (by decide) ?_
      exact k_iret C rfl ⟨rfl, rfl⟩ dX11_put_48
theorem ct_X11_put {l : Launch} {θ : TH} {ad : Nat → Nat} {S : St}  {a1 : Int32} {a2 : Int32} {a3 : Int64} : ∀ r, f_X11_put S a1 a2 a3 = some r → Ct l θ yX11_put cX11_put 6 (some .int) 3 0 0 [.ref (ad 44), .int a1, .int a2, .long a3] (wdM θ ad S) (PIS (wdM θ ad) r) :=
  fun r hr => Ct.of (by decide) (Nat.le_of_ble_eq_true rfl) (fun X _ C _ => kw_X11_put C r hr)
set_option maxRecDepth 20000 in
theorem kw_X11_element {X : GX} {θ : TH} {ad : Nat → Nat}  {S : St} {a1 : Int32} {a2 : Int32} (C : CX (mE X θ (wdM θ ad S) 3) RX11 cX11_element (some .long) 3 0 0)  : Dk (mE X θ (wdM θ ad S) 3) (mT X θ (wdM θ ad S) 3 (PL (wdM θ ad S))) 0 0 (wdM θ ad S) [(0, .ref (ad 44)), (1, .int a1), (2, .int a2)] [] 0 (f_X11_element S a1 a2) := by
  unfold f_X11_element
  refine k_aload_n (q := 0) C dX11_element_0 rfl rfl ?_
  refine k_iload_n (q := 1) C dX11_element_1 rfl rfl ?_
  refine k_iload_n (q := 2) C dX11_element_2 rfl rfl ?_
  refine k_cVI C ct_X11_refusal my_11_refusal ml_11_340 rfl ⟨Nat.le_of_ble_eq_true rfl, Nat.le_of_ble_eq_true rfl⟩ recvM rfl (Nat.le_of_ble_eq_true rfl) dX11_element_3 ⟨Nat.le_refl _, Nat.le_refl _⟩ (fun r1 _ => ?_)
  refine k_if_eq (tgt := 15) C dX11_element_6 (by decide) (fun _ => ?_) (fun _ => ?_)
  · refine k_aload_n (q := 0) C dX11_element_15 rfl rfl ?_
    refine m_geta (kf := 42) C mR_42 fl_11_86 dX11_element_16 ?_
    refine k_bipush (v := 60) C dX11_element_19 rfl ?_
    refine k_iload_n (q := 1) C dX11_element_21 rfl rfl ?_
    refine k_imul C dX11_element_22 ?_
    refine k_iload_n (q := 2) C dX11_element_23 rfl rfl ?_
    refine k_iadd C dX11_element_24 ?_
    refine m_lald (x := S.2.2 42 ((60 * a1) + a2).toNatClampNeg) C mB_42 mN_42 rfl dX11_element_25 ?_
    exact k_lret C ⟨rfl, rfl⟩ dX11_element_26
  · refine k_ldc2 C co_11_349 dX11_element_9 ?_
    refine k_goto (tgt := 26) C dX11_element_12 (by decide) ?_
    exact k_lret C ⟨rfl, rfl⟩ dX11_element_26
theorem ct_X11_element {l : Launch} {θ : TH} {ad : Nat → Nat} {S : St}  {a1 : Int32} {a2 : Int32} : ∀ r, f_X11_element S a1 a2 = some r → Ct l θ yX11_element cX11_element 3 (some .long) 3 0 0 [.ref (ad 44), .int a1, .int a2] (wdM θ ad S) (PL (wdM θ ad S) r) :=
  fun r hr => Ct.of (by decide) (Nat.le_of_ble_eq_true rfl) (fun X _ C _ => kw_X11_element C r hr)
set_option maxRecDepth 20000 in
theorem kb_X11_shift_L150 {X : GX} {θ : TH} {ad : Nat → Nat} {S0 : St} {F : Nat} {a3 : Int32} {a4 : Int32} {a5 : Int32} (C : CX (mE X θ (wdM θ ad S0) 7) RX11 cX11_shift (some .int) 2 0 0)  : ∀ (n : Nat) (S : St) (x6 : Int32), Dk (mE X θ (wdM θ ad S0) 7) (mT X θ (wdM θ ad S0) 7 (PIS (wdM θ ad))) 0 0 (wdM θ ad S) [(0, .ref (ad 44)), (3, .int a3), (4, .int a4), (5, .int a5), (6, .int x6)] [] 150 (f_X11_shift_L150 F a3 a4 a5 n S x6) := by
  intro n
  induction n with
  | zero => intro S x6; exact Dk.none
  | succ n ih =>
    intro S x6
    show Dk _ _ _ _ _ _ _ _ (if a5 ≤ x6 then some (a5, S) else chk (inr x6 60) (chk (inr (((60 * a3) + a4) + x6) 360) (f_X11_shift_L150 F a3 a4 a5 n (sl S 42 (((60 * a3) + a4) + x6).toNatClampNeg (S.2.2 43 (x6).toNatClampNeg)) (x6 + 1))))
    refine k_iload (q := 4) C dX11_shift_150 rfl ?_
    refine k_iload (q := 3) C dX11_shift_152 rfl ?_
    refine k_icmp_ge (tgt := 185) C dX11_shift_154 (by decide) (fun _ => ?_) (fun _ => ?_)
    · refine k_iload (q := 3) C dX11_shift_185 rfl ?_
      exact k_iret C rfl ⟨rfl, rfl⟩ dX11_shift_187
    · refine k_aload_n (q := 0) C dX11_shift_157 rfl rfl ?_
      refine m_geta (kf := 42) C mR_42 fl_11_86 dX11_shift_158 ?_
      refine k_bipush (v := 60) C dX11_shift_161 rfl ?_
      refine k_iload_n (q := 1) C dX11_shift_163 rfl rfl ?_
      refine k_imul C dX11_shift_164 ?_
      refine k_iload (q := 2) C dX11_shift_165 rfl ?_
      refine k_iadd C dX11_shift_167 ?_
      refine k_iload (q := 4) C dX11_shift_168 rfl ?_
      refine k_iadd C dX11_shift_170 ?_
      refine k_aload_n (q := 0) C dX11_shift_171 rfl rfl ?_
      refine m_geta (kf := 43) C mR_43 fl_11_90 dX11_shift_172 ?_
      refine k_iload (q := 4) C dX11_shift_175 rfl ?_
      refine m_lald (x := S.2.2 43 (x6).toNatClampNeg) C mB_43 mN_43 rfl dX11_shift_177 ?_
      refine m_last C mB_42 mN_42 dX11_shift_178 ?_
      refine k_iinc (q := 4) (v := x6 + 1) (lv' := [(6, .int (x6 + 1)), (0, .ref (ad 44)), (3, .int a3), (4, .int a4), (5, .int a5)]) C dX11_shift_179 rfl rfl (Nat.le_of_ble_eq_true rfl) rfl ?_
      refine k_goto (tgt := 150) C dX11_shift_182 (by decide) ?_
      refine Dk.loc [1, 2, 3, 4, 0] rfl ?_
      exact ih _ _
set_option maxRecDepth 20000 in
theorem kb_X11_shift_L113 {X : GX} {θ : TH} {ad : Nat → Nat} {S0 : St} {F : Nat} {a1 : Int32} {a2 : Int32} {a3 : Int32} {a4 : Int32} {a5 : Int32} (C : CX (mE X θ (wdM θ ad S0) 7) RX11 cX11_shift (some .int) 2 0 0)  : ∀ (n : Nat) (S : St) (x6 : Int32), Dk (mE X θ (wdM θ ad S0) 7) (mT X θ (wdM θ ad S0) 7 (PIS (wdM θ ad))) 0 0 (wdM θ ad S) [(0, .ref (ad 44)), (1, .int a1), (2, .int a2), (3, .int a3), (4, .int a4), (5, .int a5), (6, .int x6)] [] 113 (f_X11_shift_L113 F a1 a2 a3 a4 a5 n S x6) := by
  intro n
  induction n with
  | zero => intro S x6; exact Dk.none
  | succ n ih =>
    intro S x6
    show Dk _ _ _ _ _ _ _ _ (if a5 ≤ x6 then f_X11_shift_L150 F a3 a4 a5 F S 0 else chk (inr (((60 * a1) + a2) + x6) 360) (chk (inr x6 60) (f_X11_shift_L113 F a1 a2 a3 a4 a5 n (sl S 43 (x6).toNatClampNeg (S.2.2 42 (((60 * a1) + a2) + x6).toNatClampNeg)) (x6 + 1))))
    refine k_iload (q := 6) C dX11_shift_113 rfl ?_
    refine k_iload (q := 5) C dX11_shift_115 rfl ?_
    refine k_icmp_ge (tgt := 147) C dX11_shift_117 (by decide) (fun _ => ?_) (fun _ => ?_)
    · refine k_iconst (v := 0) C dX11_shift_147 rfl ?_
      refine k_istore (lv' := [(6, .int 0), (0, .ref (ad 44)), (1, .int a1), (2, .int a2), (3, .int a3), (4, .int a4), (5, .int a5)]) C dX11_shift_148 (Nat.le_of_ble_eq_true rfl) rfl ?_
      refine Dk.loc [1, 4, 5, 6, 0] rfl ?_
      exact kb_X11_shift_L150 C _ _ _
    · refine k_aload_n (q := 0) C dX11_shift_120 rfl rfl ?_
      refine m_geta (kf := 43) C mR_43 fl_11_90 dX11_shift_121 ?_
      refine k_iload (q := 6) C dX11_shift_124 rfl ?_
      refine k_aload_n (q := 0) C dX11_shift_126 rfl rfl ?_
      refine m_geta (kf := 42) C mR_42 fl_11_86 dX11_shift_127 ?_
      refine k_bipush (v := 60) C dX11_shift_130 rfl ?_
      refine k_iload_n (q := 1) C dX11_shift_132 rfl rfl ?_
      refine k_imul C dX11_shift_133 ?_
      refine k_iload_n (q := 2) C dX11_shift_134 rfl rfl ?_
      refine k_iadd C dX11_shift_135 ?_
      refine k_iload (q := 6) C dX11_shift_136 rfl ?_
      refine k_iadd C dX11_shift_138 ?_
      refine m_lald (x := S.2.2 42 (((60 * a1) + a2) + x6).toNatClampNeg) C mB_42 mN_42 rfl dX11_shift_139 ?_
      refine m_last C mB_43 mN_43 dX11_shift_140 ?_
      refine k_iinc (q := 6) (v := x6 + 1) (lv' := [(6, .int (x6 + 1)), (0, .ref (ad 44)), (1, .int a1), (2, .int a2), (3, .int a3), (4, .int a4), (5, .int a5)]) C dX11_shift_141 rfl rfl (Nat.le_of_ble_eq_true rfl) rfl ?_
      refine k_goto (tgt := 113) C dX11_shift_144 (by decide) ?_
      refine Dk.loc [1, 2, 3, 4, 5, 6, 0] rfl ?_
      exact ih _ _
set_option maxRecDepth 20000 in
theorem kw_X11_shift {X : GX} {θ : TH} {ad : Nat → Nat} {F : Nat} {S : St} {a1 : Int32} {a2 : Int32} {a3 : Int32} {a4 : Int32} {a5 : Int32} (C : CX (mE X θ (wdM θ ad S) 7) RX11 cX11_shift (some .int) 2 0 0)  : Dk (mE X θ (wdM θ ad S) 7) (mT X θ (wdM θ ad S) 7 (PIS (wdM θ ad))) 0 0 (wdM θ ad S) [(0, .ref (ad 44)), (1, .int a1), (2, .int a2), (3, .int a3), (4, .int a4), (5, .int a5)] [] 0 (f_X11_shift F S a1 a2 a3 a4 a5) := by
  unfold f_X11_shift
  refine k_iload_n (q := 1) C dX11_shift_0 rfl rfl ?_
  refine k_cSI C ct_X11_isShelf my_11_isShelf ml_11_213 rfl ⟨Nat.le_of_ble_eq_true rfl, Nat.le_of_ble_eq_true rfl⟩ rfl (Nat.le_of_ble_eq_true rfl) dX11_shift_1 ⟨Nat.le_refl _, Nat.le_refl _⟩ (fun r1 _ => ?_)
  refine k_if_eq (tgt := 14) C dX11_shift_4 (by decide) (fun _ => ?_) (fun _ => ?_)
  · refine k_iconst (v := (-1)) C dX11_shift_14 rfl ?_
    exact k_iret C rfl ⟨rfl, rfl⟩ dX11_shift_15
  · refine k_iload_n (q := 3) C dX11_shift_7 rfl rfl ?_
    refine k_cSI C ct_X11_isShelf my_11_isShelf ml_11_213 rfl ⟨Nat.le_of_ble_eq_true rfl, Nat.le_of_ble_eq_true rfl⟩ rfl (Nat.le_of_ble_eq_true rfl) dX11_shift_8 ⟨Nat.le_refl _, Nat.le_refl _⟩ (fun r2 _ => ?_)
    refine k_if_ne (tgt := 16) C dX11_shift_11 (by decide) (fun _ => ?_) (fun _ => ?_)
    · refine k_aload_n (q := 0) C dX11_shift_16 rfl rfl ?_
      refine m_geta (kf := 40) C mR_40 fl_11_80 dX11_shift_17 ?_
      refine k_iload_n (q := 1) C dX11_shift_20 rfl rfl ?_
      refine m_iald (x := S.2.1 40 (a1).toNatClampNeg) C mA_40 mN_40 rfl dX11_shift_21 ?_
      refine k_if_lt (tgt := 34) C dX11_shift_22 (by decide) (fun _ => ?_) (fun _ => ?_)
      · refine k_bipush (v := (-11)) C dX11_shift_34 rfl ?_
        exact k_iret C rfl ⟨rfl, rfl⟩ dX11_shift_36
      · refine k_aload_n (q := 0) C dX11_shift_25 rfl rfl ?_
        refine m_geta (kf := 40) C mR_40 fl_11_80 dX11_shift_26 ?_
        refine k_iload_n (q := 3) C dX11_shift_29 rfl rfl ?_
        refine m_iald (x := S.2.1 40 (a3).toNatClampNeg) C mA_40 mN_40 rfl dX11_shift_30 ?_
        refine k_if_ge (tgt := 37) C dX11_shift_31 (by decide) (fun _ => ?_) (fun _ => ?_)
        · refine k_aload_n (q := 0) C dX11_shift_37 rfl rfl ?_
          refine m_geta (kf := 40) C mR_40 fl_11_80 dX11_shift_38 ?_
          refine k_iload_n (q := 1) C dX11_shift_41 rfl rfl ?_
          refine m_iald (x := S.2.1 40 (a1).toNatClampNeg) C mA_40 mN_40 rfl dX11_shift_42 ?_
          refine k_bipush (v := 50) C dX11_shift_43 rfl ?_
          refine k_icmp_lt (tgt := 63) C dX11_shift_45 (by decide) (fun _ => ?_) (fun _ => ?_)
          · refine k_bipush (v := (-12)) C dX11_shift_63 rfl ?_
            exact k_iret C rfl ⟨rfl, rfl⟩ dX11_shift_65
          · refine k_aload_n (q := 0) C dX11_shift_48 rfl rfl ?_
            refine m_geta (kf := 40) C mR_40 fl_11_80 dX11_shift_49 ?_
            refine k_iload_n (q := 1) C dX11_shift_52 rfl rfl ?_
            refine m_iald (x := S.2.1 40 (a1).toNatClampNeg) C mA_40 mN_40 rfl dX11_shift_53 ?_
            refine k_aload_n (q := 0) C dX11_shift_54 rfl rfl ?_
            refine m_geta (kf := 40) C mR_40 fl_11_80 dX11_shift_55 ?_
            refine k_iload_n (q := 3) C dX11_shift_58 rfl rfl ?_
            refine m_iald (x := S.2.1 40 (a3).toNatClampNeg) C mA_40 mN_40 rfl dX11_shift_59 ?_
            refine k_icmp_eq (tgt := 66) C dX11_shift_60 (by decide) (fun _ => ?_) (fun _ => ?_)
            · refine k_iload (q := 5) C dX11_shift_66 rfl ?_
              refine k_if_lt (tgt := 107) C dX11_shift_68 (by decide) (fun _ => ?_) (fun _ => ?_)
              · refine k_bipush (v := (-13)) C dX11_shift_107 rfl ?_
                exact k_iret C rfl ⟨rfl, rfl⟩ dX11_shift_109
              · refine k_iload_n (q := 2) C dX11_shift_71 rfl rfl ?_
                refine k_if_lt (tgt := 107) C dX11_shift_72 (by decide) (fun _ => ?_) (fun _ => ?_)
                · refine k_bipush (v := (-13)) C dX11_shift_107 rfl ?_
                  exact k_iret C rfl ⟨rfl, rfl⟩ dX11_shift_109
                · refine k_iload (q := 4) C dX11_shift_75 rfl ?_
                  refine k_if_lt (tgt := 107) C dX11_shift_77 (by decide) (fun _ => ?_) (fun _ => ?_)
                  · refine k_bipush (v := (-13)) C dX11_shift_107 rfl ?_
                    exact k_iret C rfl ⟨rfl, rfl⟩ dX11_shift_109
                  · refine k_iload_n (q := 2) C dX11_shift_80 rfl rfl ?_
                    refine k_aload_n (q := 0) C dX11_shift_81 rfl rfl ?_
                    refine m_geta (kf := 41) C mR_41 fl_11_83 dX11_shift_82 ?_
                    refine k_iload_n (q := 1) C dX11_shift_85 rfl rfl ?_
                    refine m_iald (x := S.2.1 41 (a1).toNatClampNeg) C mA_41 mN_41 rfl dX11_shift_86 ?_
                    refine k_iload (q := 5) C dX11_shift_87 rfl ?_
                    refine k_isub C dX11_shift_89 ?_
                    refine k_icmp_gt (tgt := 107) C dX11_shift_90 (by decide) (fun _ => ?_) (fun _ => ?_)
                    · refine k_bipush (v := (-13)) C dX11_shift_107 rfl ?_
                      exact k_iret C rfl ⟨rfl, rfl⟩ dX11_shift_109
                    · refine k_iload (q := 4) C dX11_shift_93 rfl ?_
                      refine k_aload_n (q := 0) C dX11_shift_95 rfl rfl ?_
                      refine m_geta (kf := 41) C mR_41 fl_11_83 dX11_shift_96 ?_
                      refine k_iload_n (q := 3) C dX11_shift_99 rfl rfl ?_
                      refine m_iald (x := S.2.1 41 (a3).toNatClampNeg) C mA_41 mN_41 rfl dX11_shift_100 ?_
                      refine k_iload (q := 5) C dX11_shift_101 rfl ?_
                      refine k_isub C dX11_shift_103 ?_
                      refine k_icmp_le (tgt := 110) C dX11_shift_104 (by decide) (fun _ => ?_) (fun _ => ?_)
                      · refine k_iconst (v := 0) C dX11_shift_110 rfl ?_
                        refine k_istore (lv' := [(6, .int 0), (0, .ref (ad 44)), (1, .int a1), (2, .int a2), (3, .int a3), (4, .int a4), (5, .int a5)]) C dX11_shift_111 (Nat.le_of_ble_eq_true rfl) rfl ?_
                        refine Dk.loc [1, 2, 3, 4, 5, 6, 0] rfl ?_
                        exact kb_X11_shift_L113 C _ _ _
                      · refine k_bipush (v := (-13)) C dX11_shift_107 rfl ?_
                        exact k_iret C rfl ⟨rfl, rfl⟩ dX11_shift_109
            · refine k_bipush (v := (-12)) C dX11_shift_63 rfl ?_
              exact k_iret C rfl ⟨rfl, rfl⟩ dX11_shift_65
        · refine k_bipush (v := (-11)) C dX11_shift_34 rfl ?_
          exact k_iret C rfl ⟨rfl, rfl⟩ dX11_shift_36
    · refine k_iconst (v := (-1)) C dX11_shift_14 rfl ?_
      exact k_iret C rfl ⟨rfl, rfl⟩ dX11_shift_15
theorem ct_X11_shift {l : Launch} {θ : TH} {ad : Nat → Nat} {S : St} {F : Nat} {a1 : Int32} {a2 : Int32} {a3 : Int32} {a4 : Int32} {a5 : Int32} : ∀ r, f_X11_shift F S a1 a2 a3 a4 a5 = some r → Ct l θ yX11_shift cX11_shift 7 (some .int) 2 0 0 [.ref (ad 44), .int a1, .int a2, .int a3, .int a4, .int a5] (wdM θ ad S) (PIS (wdM θ ad) r) :=
  fun r hr => Ct.of (by decide) (Nat.le_of_ble_eq_true rfl) (fun X _ C _ => kw_X11_shift C r hr)
set_option maxRecDepth 20000 in
theorem kb_X11_taken_B75 {X : GX} {θ : TH} {ad : Nat → Nat} {F : Nat} {S : St} {a1 : Int32} {a2 : Int32} (C : CX (mE X θ (wdM θ ad S) 4) RX11 cX11_taken (some .int) 2 0 0)  (x3 : Int32) : Dk (mE X θ (wdM θ ad S) 4) (mT X θ (wdM θ ad S) 4 (PI (wdM θ ad S))) 0 0 (wdM θ ad S) [(0, .ref (ad 44)), (1, .int a1), (2, .int a2), (3, .int x3)] [] 75 (f_X11_taken_B75 F S a1 a2 x3) := by
  unfold f_X11_taken_B75
  refine k_iload_n (q := 3) C dX11_taken_75 rfl rfl ?_
  refine k_iload_n (q := 2) C dX11_taken_76 rfl rfl ?_
  refine k_icmp_ne (tgt := 93) C dX11_taken_77 (by decide) (fun _ => ?_) (fun _ => ?_)
  · refine k_bipush (v := (-12)) C dX11_taken_93 rfl ?_
    exact k_iret C rfl ⟨rfl, rfl⟩ dX11_taken_95
  · refine k_aload_n (q := 0) C dX11_taken_80 rfl rfl ?_
    refine k_aload_n (q := 0) C dX11_taken_81 rfl rfl ?_
    refine m_geta (kf := 40) C mR_40 fl_11_80 dX11_taken_82 ?_
    refine k_iload_n (q := 1) C dX11_taken_85 rfl rfl ?_
    refine m_iald (x := S.2.1 40 (a1).toNatClampNeg) C mA_40 mN_40 rfl dX11_taken_86 ?_
    refine k_cVI C ct_X11_kindOf my_11_kindOf ml_11_351 rfl ⟨Nat.le_of_ble_eq_true rfl, Nat.le_of_ble_eq_true rfl⟩ recvM rfl (Nat.le_of_ble_eq_true rfl) dX11_taken_87 ⟨Nat.le_refl _, Nat.le_refl _⟩ (fun r5 _ => ?_)
    refine k_goto (tgt := 95) C dX11_taken_90 (by decide) ?_
    exact k_iret C rfl ⟨rfl, rfl⟩ dX11_taken_95
set_option maxRecDepth 20000 in
theorem kb_X11_taken_L58 {X : GX} {θ : TH} {ad : Nat → Nat} {F : Nat} {S : St} {a1 : Int32} {a2 : Int32} (C : CX (mE X θ (wdM θ ad S) 4) RX11 cX11_taken (some .int) 2 0 0)  : ∀ (n : Nat) (x3 : Int32), Dk (mE X θ (wdM θ ad S) 4) (mT X θ (wdM θ ad S) 4 (PI (wdM θ ad S))) 0 0 (wdM θ ad S) [(0, .ref (ad 44)), (1, .int a1), (2, .int a2), (3, .int x3)] [] 58 (f_X11_taken_L58 F S a1 a2 n x3) := by
  intro n
  induction n with
  | zero => intro x3; exact Dk.none
  | succ n ih =>
    intro x3
    show Dk _ _ _ _ _ _ _ _ (if x3 = a2 then f_X11_taken_B75 F S a1 a2 x3 else if x3 ≤ 0 then f_X11_taken_B75 F S a1 a2 x3 else (f_X11_above x3).bind fun r4 => f_X11_taken_L58 F S a1 a2 n r4)
    refine k_iload_n (q := 3) C dX11_taken_58 rfl rfl ?_
    refine k_iload_n (q := 2) C dX11_taken_59 rfl rfl ?_
    refine k_icmp_eq (tgt := 75) C dX11_taken_60 (by decide) (fun _ => ?_) (fun _ => ?_)
    · exact kb_X11_taken_B75 C _
    · refine k_iload_n (q := 3) C dX11_taken_63 rfl rfl ?_
      refine k_if_le (tgt := 75) C dX11_taken_64 (by decide) (fun _ => ?_) (fun _ => ?_)
      · exact kb_X11_taken_B75 C _
      · refine k_iload_n (q := 3) C dX11_taken_67 rfl rfl ?_
        refine k_cSI C ct_X11_above my_11_above ml_11_354 rfl ⟨Nat.le_of_ble_eq_true rfl, Nat.le_of_ble_eq_true rfl⟩ rfl (Nat.le_of_ble_eq_true rfl) dX11_taken_68 ⟨Nat.le_refl _, Nat.le_refl _⟩ (fun r4 _ => ?_)
        refine k_istore_n (lv' := [(3, .int r4), (0, .ref (ad 44)), (1, .int a1), (2, .int a2)]) C dX11_taken_71 rfl (Nat.le_of_ble_eq_true rfl) rfl ?_
        refine k_goto (tgt := 58) C dX11_taken_72 (by decide) ?_
        refine Dk.loc [1, 2, 3, 0] rfl ?_
        exact ih _
set_option maxRecDepth 20000 in
theorem kw_X11_taken {X : GX} {θ : TH} {ad : Nat → Nat} {F : Nat} {S : St} {a1 : Int32} {a2 : Int32} (C : CX (mE X θ (wdM θ ad S) 4) RX11 cX11_taken (some .int) 2 0 0)  : Dk (mE X θ (wdM θ ad S) 4) (mT X θ (wdM θ ad S) 4 (PI (wdM θ ad S))) 0 0 (wdM θ ad S) [(0, .ref (ad 44)), (1, .int a1), (2, .int a2)] [] 0 (f_X11_taken F S a1 a2) := by
  unfold f_X11_taken
  refine k_iload_n (q := 1) C dX11_taken_0 rfl rfl ?_
  refine k_cSI C ct_X11_isShelf my_11_isShelf ml_11_213 rfl ⟨Nat.le_of_ble_eq_true rfl, Nat.le_of_ble_eq_true rfl⟩ rfl (Nat.le_of_ble_eq_true rfl) dX11_taken_1 ⟨Nat.le_refl _, Nat.le_refl _⟩ (fun r1 _ => ?_)
  refine k_if_eq (tgt := 19) C dX11_taken_4 (by decide) (fun _ => ?_) (fun _ => ?_)
  · refine k_iconst (v := (-1)) C dX11_taken_19 rfl ?_
    exact k_iret C rfl ⟨rfl, rfl⟩ dX11_taken_20
  · refine k_iload_n (q := 2) C dX11_taken_7 rfl rfl ?_
    refine k_i2l C dX11_taken_8 ?_
    refine k_lconst (v := 0) C dX11_taken_9 rfl ?_
    refine k_ldc2 C co_11_307 dX11_taken_10 ?_
    refine k_cSI C ct_X11_within my_11_within ml_11_106 rfl ⟨Nat.le_of_ble_eq_true rfl, Nat.le_of_ble_eq_true rfl⟩ rfl (Nat.le_of_ble_eq_true rfl) dX11_taken_13 ⟨Nat.le_refl _, Nat.le_refl _⟩ (fun r2 _ => ?_)
    refine k_if_ne (tgt := 21) C dX11_taken_16 (by decide) (fun _ => ?_) (fun _ => ?_)
    · refine k_aload_n (q := 0) C dX11_taken_21 rfl rfl ?_
      refine m_geta (kf := 40) C mR_40 fl_11_80 dX11_taken_22 ?_
      refine k_iload_n (q := 1) C dX11_taken_25 rfl rfl ?_
      refine m_iald (x := S.2.1 40 (a1).toNatClampNeg) C mA_40 mN_40 rfl dX11_taken_26 ?_
      refine k_if_ge (tgt := 33) C dX11_taken_27 (by decide) (fun _ => ?_) (fun _ => ?_)
      · refine k_aload_n (q := 0) C dX11_taken_33 rfl rfl ?_
        refine m_geta (kf := 40) C mR_40 fl_11_80 dX11_taken_34 ?_
        refine k_iload_n (q := 1) C dX11_taken_37 rfl rfl ?_
        refine m_iald (x := S.2.1 40 (a1).toNatClampNeg) C mA_40 mN_40 rfl dX11_taken_38 ?_
        refine k_bipush (v := 50) C dX11_taken_39 rfl ?_
        refine k_icmp_lt (tgt := 47) C dX11_taken_41 (by decide) (fun _ => ?_) (fun _ => ?_)
        · refine k_aload_n (q := 0) C dX11_taken_47 rfl rfl ?_
          refine k_aload_n (q := 0) C dX11_taken_48 rfl rfl ?_
          refine m_geta (kf := 40) C mR_40 fl_11_80 dX11_taken_49 ?_
          refine k_iload_n (q := 1) C dX11_taken_52 rfl rfl ?_
          refine m_iald (x := S.2.1 40 (a1).toNatClampNeg) C mA_40 mN_40 rfl dX11_taken_53 ?_
          refine k_cVI C ct_X11_kindOf my_11_kindOf ml_11_351 rfl ⟨Nat.le_of_ble_eq_true rfl, Nat.le_of_ble_eq_true rfl⟩ recvM rfl (Nat.le_of_ble_eq_true rfl) dX11_taken_54 ⟨Nat.le_refl _, Nat.le_refl _⟩ (fun r3 _ => ?_)
          refine k_istore_n (lv' := [(3, .int r3), (0, .ref (ad 44)), (1, .int a1), (2, .int a2)]) C dX11_taken_57 rfl (Nat.le_of_ble_eq_true rfl) rfl ?_
          refine Dk.loc [1, 2, 3, 0] rfl ?_
          exact kb_X11_taken_L58 C _ _
        · refine k_bipush (v := (-12)) C dX11_taken_44 rfl ?_
          exact k_iret C rfl ⟨rfl, rfl⟩ dX11_taken_46
      · refine k_bipush (v := (-11)) C dX11_taken_30 rfl ?_
        exact k_iret C rfl ⟨rfl, rfl⟩ dX11_taken_32
    · refine k_iconst (v := (-1)) C dX11_taken_19 rfl ?_
      exact k_iret C rfl ⟨rfl, rfl⟩ dX11_taken_20
theorem ct_X11_taken {l : Launch} {θ : TH} {ad : Nat → Nat} {S : St} {F : Nat} {a1 : Int32} {a2 : Int32} : ∀ r, f_X11_taken F S a1 a2 = some r → Ct l θ yX11_taken cX11_taken 4 (some .int) 2 0 0 [.ref (ad 44), .int a1, .int a2] (wdM θ ad S) (PI (wdM θ ad S) r) :=
  fun r hr => Ct.of (by decide) (Nat.le_of_ble_eq_true rfl) (fun X _ C _ => kw_X11_taken C r hr)
set_option maxRecDepth 20000 in
theorem kw_X11_count {X : GX} {θ : TH} {ad : Nat → Nat}  {S : St} {a1 : Int32} (C : CX (mE X θ (wdM θ ad S) 2) RX11 cX11_count (some .int) 0 0 0)  : Dk (mE X θ (wdM θ ad S) 2) (mT X θ (wdM θ ad S) 2 (PI (wdM θ ad S))) 0 0 (wdM θ ad S) [(0, .ref (ad 44)), (1, .int a1)] [] 0 (f_X11_count S a1) := by
  unfold f_X11_count
  refine k_iload_n (q := 1) C dX11_count_0 rfl rfl ?_
  refine k_case (c := 0) (fun q1 => ?_) (fun q1 => ?_)
  · refine k_tableIn (off := 47) (tgt := 48) C dX11_count_1 (by rw [q1]; decide) (by rw [q1]; decide) (by rw [q1]; rfl) (by decide) ?_
    refine k_aload_n (q := 0) C dX11_count_48 rfl rfl ?_
    refine m_geti (kf := 6) (v := S.1 6) C mS_6 fl_11_103 rfl dX11_count_49 ?_
    exact k_iret C rfl ⟨rfl, rfl⟩ dX11_count_52
  refine k_case (c := 1) (fun q2 => ?_) (fun q2 => ?_)
  · refine k_tableIn (off := 52) (tgt := 53) C dX11_count_1 (by rw [q2]; decide) (by rw [q2]; decide) (by rw [q2]; rfl) (by decide) ?_
    refine k_aload_n (q := 0) C dX11_count_53 rfl rfl ?_
    refine m_geti (kf := 8) (v := S.1 8) C mS_8 fl_11_110 rfl dX11_count_54 ?_
    exact k_iret C rfl ⟨rfl, rfl⟩ dX11_count_57
  refine k_case (c := 2) (fun q3 => ?_) (fun q3 => ?_)
  · refine k_tableIn (off := 57) (tgt := 58) C dX11_count_1 (by rw [q3]; decide) (by rw [q3]; decide) (by rw [q3]; rfl) (by decide) ?_
    refine k_aload_n (q := 0) C dX11_count_58 rfl rfl ?_
    refine m_geti (kf := 22) (v := S.1 22) C mS_22 fl_11_196 rfl dX11_count_59 ?_
    exact k_iret C rfl ⟨rfl, rfl⟩ dX11_count_62
  refine k_case (c := 3) (fun q4 => ?_) (fun q4 => ?_)
  · refine k_tableIn (off := 62) (tgt := 63) C dX11_count_1 (by rw [q4]; decide) (by rw [q4]; decide) (by rw [q4]; rfl) (by decide) ?_
    refine k_aload_n (q := 0) C dX11_count_63 rfl rfl ?_
    refine m_geti (kf := 31) (v := S.1 31) C mS_31 fl_11_287 rfl dX11_count_64 ?_
    exact k_iret C rfl ⟨rfl, rfl⟩ dX11_count_67
  refine k_case (c := 4) (fun q5 => ?_) (fun q5 => ?_)
  · refine k_tableIn (off := 67) (tgt := 68) C dX11_count_1 (by rw [q5]; decide) (by rw [q5]; decide) (by rw [q5]; rfl) (by decide) ?_
    refine k_aload_n (q := 0) C dX11_count_68 rfl rfl ?_
    refine m_geti (kf := 13) (v := S.1 13) C mS_13 fl_11_143 rfl dX11_count_69 ?_
    exact k_iret C rfl ⟨rfl, rfl⟩ dX11_count_72
  refine k_case (c := 5) (fun q6 => ?_) (fun q6 => ?_)
  · refine k_tableIn (off := 72) (tgt := 73) C dX11_count_1 (by rw [q6]; decide) (by rw [q6]; decide) (by rw [q6]; rfl) (by decide) ?_
    refine k_aload_n (q := 0) C dX11_count_73 rfl rfl ?_
    refine m_geti (kf := 5) (v := S.1 5) C mS_5 fl_11_96 rfl dX11_count_74 ?_
    exact k_iret C rfl ⟨rfl, rfl⟩ dX11_count_77
  refine k_case (c := 6) (fun q7 => ?_) (fun q7 => ?_)
  · refine k_tableIn (off := 77) (tgt := 78) C dX11_count_1 (by rw [q7]; decide) (by rw [q7]; decide) (by rw [q7]; rfl) (by decide) ?_
    refine k_aload_n (q := 0) C dX11_count_78 rfl rfl ?_
    refine m_geti (kf := 34) (v := S.1 34) C mS_34 fl_11_304 rfl dX11_count_79 ?_
    exact k_iret C rfl ⟨rfl, rfl⟩ dX11_count_82
  refine k_case (c := 7) (fun q8 => ?_) (fun q8 => ?_)
  · refine k_tableIn (off := 82) (tgt := 83) C dX11_count_1 (by rw [q8]; decide) (by rw [q8]; decide) (by rw [q8]; rfl) (by decide) ?_
    refine k_aload_n (q := 0) C dX11_count_83 rfl rfl ?_
    refine m_geti (kf := 37) (v := S.1 37) C mS_37 fl_11_309 rfl dX11_count_84 ?_
    exact k_iret C rfl ⟨rfl, rfl⟩ dX11_count_87
  refine k_tableOut (tgt := 88) C dX11_count_1 (by have zq1 := i32ne q1 (z := 0) rfl; have zq2 := i32ne q2 (z := 1) rfl; have zq3 := i32ne q3 (z := 2) rfl; have zq4 := i32ne q4 (z := 3) rfl; have zq5 := i32ne q5 (z := 4) rfl; have zq6 := i32ne q6 (z := 5) rfl; have zq7 := i32ne q7 (z := 6) rfl; have zq8 := i32ne q8 (z := 7) rfl; omega) (by decide) ?_
  refine k_iconst (v := (-1)) C dX11_count_88 rfl ?_
  exact k_iret C rfl ⟨rfl, rfl⟩ dX11_count_89
theorem ct_X11_count {l : Launch} {θ : TH} {ad : Nat → Nat} {S : St}  {a1 : Int32} : ∀ r, f_X11_count S a1 = some r → Ct l θ yX11_count cX11_count 2 (some .int) 0 0 0 [.ref (ad 44), .int a1] (wdM θ ad S) (PI (wdM θ ad S) r) :=
  fun r hr => Ct.of (by decide) (Nat.le_of_ble_eq_true rfl) (fun X _ C _ => kw_X11_count C r hr)
