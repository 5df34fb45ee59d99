set_option maxRecDepth 20000 in
theorem law_loop {p : Program} {l : Launch} {e : Env} {R : Room} {s : State} {m : MethodId} {args : Array Value} {below : List Frame} {meth : Method} {c : Code} {θ : TH} {ad ad2 : Nat → Nat} {b L : Nat} {xs : Nat → Int32} {F : Nat} {RR : Nat → St → Zt → St → Prop} (hst : ST_moon F RR ∧ ST_valley F RR ∧ ST_hills F RR ∧ ST_way F RR ∧ ST_mend F RR ∧ ST_feed F RR ∧ ST_law F RR ∧ ST_state F RR ∧ ST_deed F RR ∧ ST_deeds F RR ∧ ST_of F RR ∧ ST_costs F RR ∧ ST_may F RR ∧ ST_now F RR ∧ ST_when F RR ∧ ST_cheapest F RR ∧ ST_broken F RR ∧ ST_elsewhere F RR ∧ ST_harm F RR ∧ ST_next F RR ∧ ST_many F RR ∧ ST_longest F RR ∧ ST_round F RR ∧ ST_odds F RR ∧ ST_promise F RR ∧ ST_judge F RR ∧ ST_dated F RR ∧ ST_claims F RR ∧ ST_year F RR ∧ ST_undo F RR ∧ ST_redo F RR ∧ ST_body F RR ∧ ST_act F RR ∧ ST_trace F RR ∧ ST_keep F RR ∧ ST_row F RR ∧ ST_put F RR ∧ ST_element F RR ∧ ST_shift F RR ∧ ST_taken F RR ∧ ST_count F RR) (C : CX (lE p l e R s m args below meth c θ) RL code ret LH 600000 7302250) (hidle : ∀ (t : Nat) (S : St) (Z : Zt) (M : St), RR t S Z M → RR (t + 1) S Z M) (hR0 : R = room_1) (hb0 : c.code = code) (hX : va_X b L xs s s.heap) (hbl : b < s.heap.size) (hL : L ≤ 384) (hargs : args = #[Value.ref b]) : ∀ (q t : Nat), L + 1 ≤ 6 * t + q → 6 * t ≤ L → ∀ (S : St) (Z : Zt) (M : St) (Y : Nat → Nat) (k n : Nat), RR t S Z M → BL t k n → Dk (lE p l e R s m args below meth c θ) (lT below b s) k n (wdC θ ad Y Z S ++ wdM θ ad2 M) (lL b ad ad2 (nI (6 * t))) [] 18 (some ()) := by
  have hbA : ¬ s.heap.size ≤ b := Nat.not_le.mpr hbl
  obtain ⟨h_moon, h_valley, h_hills, h_way, h_mend, h_feed, h_law, h_state, h_deed, h_deeds, h_of, h_costs, h_may, h_now, h_when, h_cheapest, h_broken, h_elsewhere, h_harm, h_next, h_many, h_longest, h_round, h_odds, h_promise, h_judge, h_dated, h_claims, h_year, h_undo, h_redo, h_body, h_act, h_trace, h_keep, h_row, h_put, h_element, h_shift, h_taken, h_count⟩ := hst
  intro q
  induction q with
  | zero => intro t h1 h2; omega
  | succ q ih =>
    intro t h1 h2 S Z M Y k n hR hk
    refine k_iload_n (q := 0) C dL_law_18 rfl rfl ?_
    refine k_aload_n (q := 1) C dL_law_19 rfl rfl ?_
    refine k_slen C hX hbl hbA dL_law_20 ?_
    refine k_bipush (v := 6) C dL_law_21 rfl ?_
    refine k_isub C dL_law_23 ?_
    by_cases hex : Int32.ofNat L - 6 < nI (6 * t)
    · refine Dk.eq (if_pos hex).symm (k_icmp_gt (tgt := 1672) (e2 := none) C dL_law_24 (by decide) (fun _ => ?_) (fun z => absurd hex z))
      refine k_iconst (v := 1) C dL_law_1672 rfl ?_
      intro r hr H locs ls hP hD hS hv
      refine va_forget (fun z hz => hS.2.2 z hz) ?_
      subst hR0
      subst hargs
      have ht : t ≤ 64 := by omega
      refine W.widen (k := 600000) (n := 7302250) (by have := hk.1; omega) (by have := hk.2; omega) ?_
      exact lw_ret C.x hb0 C.r C.lk dL_law_1673
    · refine Dk.eq (if_neg hex).symm (k_icmp_gt (tgt := 1672) (e1 := none) C dL_law_24 (by decide) (fun z => absurd z hex) (fun _ => ?_))
      have hlt : 6 * t + 6 ≤ L := by
        rcases Nat.lt_or_ge L (6 * t + 6) with z | z
        · exfalso
          apply hex
          rcases Nat.lt_or_ge L 6 with y | y
          · have e1 : (Int32.ofNat L - 6).toInt = (L : Int) - 6 := by
              have := pk_sub_toInt (a := L) (b := 6) (by omega) (by omega)
              exact this
            rw [Int32.lt_iff_toInt_lt, e1, nI_toInt (by omega)]
            omega
          · have e1 : (Int32.ofNat L - 6) = nI (L - 6) := pk_sub (a := L) (b := 6) y
            rw [e1]
            exact nI_lt (by omega) (by omega)
        · exact z
      have hin0 : vp_in (nI (6 * t)) L := vp_in_nI (by omega) (by omega)
      have hin : ∀ z : Int32, 1 ≤ z → z ≤ 5 → vp_in (nI (6 * t) + z) L := fun z z1 z2 => by
        obtain ⟨j, hj, rfl⟩ := nI_of2 (M := 5) (n := 5) rfl (fun z0 => absurd (Int32.lt_of_le_of_lt z1 z0) (by decide)) z2
        rw [nI_add]
        exact vp_in_nI (by omega) (by omega)
      have ht : t < 64 := by omega
      have hK : ∀ (S' : St) (Z' : Zt) (M' : St) (Y' : Nat → Nat) (k' n' : Nat), RR (t + 1) S' Z' M' → BL (t + 1) k' n' → Dk (lE p l e R s m args below meth c θ) (lT below b s) k' n' (wdC θ ad Y' Z' S' ++ wdM θ ad2 M') (lL b ad ad2 (nI (6 * t))) [] 1666 (some ()) := fun S' Z' M' Y' k' n' hR' hk' => by
        refine k_iinc (q := 0) (v := nI (6 * (t + 1))) (lv' := lL b ad ad2 (nI (6 * (t + 1)))) C dL_law_1666 rfl (nI_add (6 * t) 6) (Nat.le_of_ble_eq_true rfl) rfl ?_
        refine k_goto (tgt := 18) C dL_law_1669 (by decide) ?_
        exact ih (t + 1) (by omega) (by omega) S' Z' M' Y' k' n' hR' hk'
      refine k_aload_n (q := 1) C dL_law_27 rfl rfl ?_
      refine k_iload_n (q := 0) C dL_law_28 rfl rfl ?_
      refine k_sld C hX hbl hbA hin0 dL_law_29 ?_
      refine k_bipush (v := 63) C dL_law_30 rfl ?_
      refine k_iand C dL_law_32 ?_
      obtain ⟨j, hj, ej⟩ := pk_andE (xs (nI (6 * t)).toNatClampNeg) (m := 63) 6 rfl
      rw [ej]
      by_cases q0 : j = 0
      · subst q0
        refine k_tableIn (off := 179) (tgt := 212) C dL_law_33 (by decide) (by decide) rfl (by decide) ?_
        exact lc_moon h_moon C hX hbl hbA t _ hin ht S Z M Y k n hR ⟨ht, hk⟩ hK
      by_cases q1 : j = 1
      · subst q1
        refine k_tableIn (off := 212) (tgt := 245) C dL_law_33 (by decide) (by decide) rfl (by decide) ?_
        exact lc_valley h_valley C hX hbl hbA t _ hin ht S Z M Y k n hR ⟨ht, hk⟩ hK
      by_cases q2 : j = 2
      · subst q2
        refine k_tableIn (off := 225) (tgt := 258) C dL_law_33 (by decide) (by decide) rfl (by decide) ?_
        exact lc_hills h_hills C hX hbl hbA t _ hin ht S Z M Y k n hR ⟨ht, hk⟩ hK
      by_cases q3 : j = 3
      · subst q3
        refine k_tableIn (off := 258) (tgt := 291) C dL_law_33 (by decide) (by decide) rfl (by decide) ?_
        exact lc_way h_way C hX hbl hbA t _ hin ht S Z M Y k n hR ⟨ht, hk⟩ hK
      by_cases q4 : j = 4
      · subst q4
        refine k_tableIn (off := 291) (tgt := 324) C dL_law_33 (by decide) (by decide) rfl (by decide) ?_
        exact lc_mend h_mend C hX hbl hbA t _ hin ht S Z M Y k n hR ⟨ht, hk⟩ hK
      by_cases q5 : j = 5
      · subst q5
        refine k_tableIn (off := 334) (tgt := 367) C dL_law_33 (by decide) (by decide) rfl (by decide) ?_
        exact lc_feed h_feed C hX hbl hbA t _ hin ht S Z M Y k n hR ⟨ht, hk⟩ hK
      by_cases q6 : j = 6
      · subst q6
        refine k_tableIn (off := 357) (tgt := 390) C dL_law_33 (by decide) (by decide) rfl (by decide) ?_
        exact lc_law h_law C hX hbl hbA t _ hin ht S Z M Y k n hR ⟨ht, hk⟩ hK
      by_cases q7 : j = 7
      · subst q7
        refine k_tableIn (off := 380) (tgt := 413) C dL_law_33 (by decide) (by decide) rfl (by decide) ?_
        exact lc_state h_state C hX hbl hbA t _ hin ht S Z M Y k n hR ⟨ht, hk⟩ hK
      by_cases q8 : j = 8
      · subst q8
        refine k_tableIn (off := 413) (tgt := 446) C dL_law_33 (by decide) (by decide) rfl (by decide) ?_
        exact lc_deed h_deed C hX hbl hbA t _ hin ht S Z M Y k n hR ⟨ht, hk⟩ hK
      by_cases q9 : j = 9
      · subst q9
        refine k_tableIn (off := 446) (tgt := 479) C dL_law_33 (by decide) (by decide) rfl (by decide) ?_
        exact lc_deeds h_deeds C hX hbl hbA t _ hin ht S Z M Y k n hR ⟨ht, hk⟩ hK
      by_cases q10 : j = 10
      · subst q10
        refine k_tableIn (off := 489) (tgt := 522) C dL_law_33 (by decide) (by decide) rfl (by decide) ?_
        exact lc_of h_of C hX hbl hbA t _ hin ht S Z M Y k n hR ⟨ht, hk⟩ hK
      by_cases q11 : j = 11
      · subst q11
        refine k_tableIn (off := 522) (tgt := 555) C dL_law_33 (by decide) (by decide) rfl (by decide) ?_
        exact lc_costs h_costs C hX hbl hbA t _ hin ht S Z M Y k n hR ⟨ht, hk⟩ hK
      by_cases q12 : j = 12
      · subst q12
        refine k_tableIn (off := 565) (tgt := 598) C dL_law_33 (by decide) (by decide) rfl (by decide) ?_
        exact lc_may h_may C hX hbl hbA t _ hin ht S Z M Y k n hR ⟨ht, hk⟩ hK
      by_cases q13 : j = 13
      · subst q13
        refine k_tableIn (off := 598) (tgt := 631) C dL_law_33 (by decide) (by decide) rfl (by decide) ?_
        exact lc_now h_now C hX hbl hbA t _ hin ht S Z M Y k n hR ⟨ht, hk⟩ hK
      by_cases q14 : j = 14
      · subst q14
        refine k_tableIn (off := 631) (tgt := 664) C dL_law_33 (by decide) (by decide) rfl (by decide) ?_
        exact lc_when h_when C hX hbl hbA t _ hin ht S Z M Y k n hR ⟨ht, hk⟩ hK
      by_cases q15 : j = 15
      · subst q15
        refine k_tableIn (off := 674) (tgt := 707) C dL_law_33 (by decide) (by decide) rfl (by decide) ?_
        exact lc_cheapest h_cheapest C hX hbl hbA t _ hin ht S Z M Y k n hR ⟨ht, hk⟩ hK
      by_cases q16 : j = 16
      · subst q16
        refine k_tableIn (off := 727) (tgt := 760) C dL_law_33 (by decide) (by decide) rfl (by decide) ?_
        exact lc_broken h_broken C hX hbl hbA t _ hin ht S Z M Y k n hR ⟨ht, hk⟩ hK
      by_cases q17 : j = 17
      · subst q17
        refine k_tableIn (off := 770) (tgt := 803) C dL_law_33 (by decide) (by decide) rfl (by decide) ?_
        exact lc_elsewhere h_elsewhere C hX hbl hbA t _ hin ht S Z M Y k n hR ⟨ht, hk⟩ hK
      by_cases q18 : j = 18
      · subst q18
        refine k_tableIn (off := 813) (tgt := 846) C dL_law_33 (by decide) (by decide) rfl (by decide) ?_
        exact lc_harm h_harm C hX hbl hbA t _ hin ht S Z M Y k n hR ⟨ht, hk⟩ hK
      by_cases q19 : j = 19
      · subst q19
        refine k_tableIn (off := 856) (tgt := 889) C dL_law_33 (by decide) (by decide) rfl (by decide) ?_
        exact lc_next h_next C hX hbl hbA t _ hin ht S Z M Y k n hR ⟨ht, hk⟩ hK
      by_cases q20 : j = 20
      · subst q20
        refine k_tableIn (off := 899) (tgt := 932) C dL_law_33 (by decide) (by decide) rfl (by decide) ?_
        exact lc_many h_many C hX hbl hbA t _ hin ht S Z M Y k n hR ⟨ht, hk⟩ hK
      by_cases q21 : j = 21
      · subst q21
        refine k_tableIn (off := 952) (tgt := 985) C dL_law_33 (by decide) (by decide) rfl (by decide) ?_
        exact lc_longest h_longest C hX hbl hbA t _ hin ht S Z M Y k n hR ⟨ht, hk⟩ hK
      by_cases q22 : j = 22
      · subst q22
        refine k_tableIn (off := 1005) (tgt := 1038) C dL_law_33 (by decide) (by decide) rfl (by decide) ?_
        exact lc_round h_round C hX hbl hbA t _ hin ht S Z M Y k n hR ⟨ht, hk⟩ hK
      by_cases q23 : j = 23
      · subst q23
        refine k_tableIn (off := 1018) (tgt := 1051) C dL_law_33 (by decide) (by decide) rfl (by decide) ?_
        exact lc_odds h_odds C hX hbl hbA t _ hin ht S Z M Y k n hR ⟨ht, hk⟩ hK
      by_cases q24 : j = 24
      · subst q24
        refine k_tableIn (off := 1061) (tgt := 1094) C dL_law_33 (by decide) (by decide) rfl (by decide) ?_
        exact lc_promise h_promise C hX hbl hbA t _ hin ht S Z M Y k n hR ⟨ht, hk⟩ hK
      by_cases q25 : j = 25
      · subst q25
        refine k_tableIn (off := 1094) (tgt := 1127) C dL_law_33 (by decide) (by decide) rfl (by decide) ?_
        exact lc_judge h_judge C hX hbl hbA t _ hin ht S Z M Y k n hR ⟨ht, hk⟩ hK
      by_cases q26 : j = 26
      · subst q26
        refine k_tableIn (off := 1107) (tgt := 1140) C dL_law_33 (by decide) (by decide) rfl (by decide) ?_
        exact lc_dated h_dated C hX hbl hbA t _ hin ht S Z M Y k n hR ⟨ht, hk⟩ hK
      by_cases q27 : j = 27
      · subst q27
        refine k_tableIn (off := 1130) (tgt := 1163) C dL_law_33 (by decide) (by decide) rfl (by decide) ?_
        exact lc_claims h_claims C hX hbl hbA t _ hin ht S Z M Y k n hR ⟨ht, hk⟩ hK
      by_cases q28 : j = 28
      · subst q28
        refine k_tableIn (off := 1163) (tgt := 1196) C dL_law_33 (by decide) (by decide) rfl (by decide) ?_
        exact lc_year h_year C hX hbl hbA t _ hin ht S Z M Y k n hR ⟨ht, hk⟩ hK
      by_cases q29 : j = 29
      · subst q29
        refine k_tableIn (off := 1216) (tgt := 1249) C dL_law_33 (by decide) (by decide) rfl (by decide) ?_
        exact lc_undo h_undo C hX hbl hbA t _ hin ht S Z M Y k n hR ⟨ht, hk⟩ hK
      by_cases q30 : j = 30
      · subst q30
        refine k_tableIn (off := 1229) (tgt := 1262) C dL_law_33 (by decide) (by decide) rfl (by decide) ?_
        exact lc_redo h_redo C hX hbl hbA t _ hin ht S Z M Y k n hR ⟨ht, hk⟩ hK
      by_cases q31 : j = 31
      · subst q31
        refine k_tableIn (off := 1242) (tgt := 1275) C dL_law_33 (by decide) (by decide) rfl (by decide) ?_
        exact lc_body h_body C hX hbl hbA t _ hin ht S Z M Y k n hR ⟨ht, hk⟩ hK
      by_cases q32 : j = 32
      · subst q32
        refine k_tableIn (off := 1265) (tgt := 1298) C dL_law_33 (by decide) (by decide) rfl (by decide) ?_
        exact lc_act h_act C hX hbl hbA t _ hin ht S Z M Y k n hR ⟨ht, hk⟩ hK
      by_cases q33 : j = 33
      · subst q33
        refine k_tableIn (off := 1308) (tgt := 1341) C dL_law_33 (by decide) (by decide) rfl (by decide) ?_
        exact lc_trace h_trace C hX hbl hbA t _ hin ht S Z M Y k n hR ⟨ht, hk⟩ hK
      by_cases q34 : j = 34
      · subst q34
        refine k_tableIn (off := 1331) (tgt := 1364) C dL_law_33 (by decide) (by decide) rfl (by decide) ?_
        exact lc_keep h_keep C hX hbl hbA t _ hin ht S Z M Y k n hR ⟨ht, hk⟩ hK
      by_cases q35 : j = 35
      · subst q35
        refine k_tableIn (off := 1364) (tgt := 1397) C dL_law_33 (by decide) (by decide) rfl (by decide) ?_
        exact lc_row h_row C hX hbl hbA t _ hin ht S Z M Y k n hR ⟨ht, hk⟩ hK
      by_cases q36 : j = 36
      · subst q36
        refine k_tableIn (off := 1407) (tgt := 1440) C dL_law_33 (by decide) (by decide) rfl (by decide) ?_
        exact lc_put h_put C hX hbl hbA t _ hin ht S Z M Y k n hR ⟨ht, hk⟩ hK
      by_cases q37 : j = 37
      · subst q37
        refine k_tableIn (off := 1480) (tgt := 1513) C dL_law_33 (by decide) (by decide) rfl (by decide) ?_
        exact lc_element h_element C hX hbl hbA t _ hin ht S Z M Y k n hR ⟨ht, hk⟩ hK
      by_cases q38 : j = 38
      · subst q38
        refine k_tableIn (off := 1514) (tgt := 1547) C dL_law_33 (by decide) (by decide) rfl (by decide) ?_
        exact lc_shift h_shift C hX hbl hbA t _ hin ht S Z M Y k n hR ⟨ht, hk⟩ hK
      by_cases q39 : j = 39
      · subst q39
        refine k_tableIn (off := 1577) (tgt := 1610) C dL_law_33 (by decide) (by decide) rfl (by decide) ?_
        exact lc_taken h_taken C hX hbl hbA t _ hin ht S Z M Y k n hR ⟨ht, hk⟩ hK
      by_cases q40 : j = 40
      · subst q40
        refine k_tableIn (off := 1610) (tgt := 1643) C dL_law_33 (by decide) (by decide) rfl (by decide) ?_
        exact lc_count h_count C hX hbl hbA t _ hin ht S Z M Y k n hR ⟨ht, hk⟩ hK
      refine k_tableOut (tgt := 1666) C dL_law_33 (by rw [nI_toInt (by omega)]; omega) (by decide) ?_
      exact hK _ _ _ _ _ _ (hidle t S Z M hR) (bud_f ⟨ht, hk⟩)
