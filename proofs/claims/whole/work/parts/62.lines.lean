/-! reading: the lines of a law -/
def LnI (S : St) (s l : Nat) : Prop := S.1 1066 = nI l ∧ l ≤ 120 ∧ (S.1 103 = -1 → l ≤ s ∧ ∀ i, i < l → lineOK s (S.2.1 1063 i) (S.2.1 1064 i))
def Hit (S : St) (nm : Nat → Int32) (s l : Nat) (x3 x4 : Int32) : Prop := (x3 = 0 ∧ x4 = 0 ∧ hitP (S.2.1 1063) (S.2.1 1064) (ev S nm s) l = none) ∨ (x3 = 1 ∧ hitP (S.2.1 1063) (S.2.1 1064) (ev S nm s) l = some x4)
def lnS (S : St) (l : Nat) (a b : Int32) : St := sf (sa (sa S 1063 l a) 1064 l b) 1066 (nI (l + 1))
def RdG (S S' : St) : Prop := S'.2.2 = S.2.2 ∧ (∀ j, j ≠ 102 → j ≠ 103 → j ≠ 1065 → j ≠ 1066 → S'.1 j = S.1 j) ∧ ∀ j, j ≠ 1060 → j ≠ 1061 → j ≠ 1062 → j ≠ 1063 → j ≠ 1064 → S'.2.1 j = S.2.1 j
theorem RdG.rf {S : St} : RdG S S := ⟨rfl, fun _ _ _ _ _ => rfl, fun _ _ _ _ _ _ => rfl⟩
theorem RdG.tr {S S1 S2 : St} (h1 : RdG S S1) (h2 : RdG S1 S2) : RdG S S2 := ⟨h2.1.trans h1.1, fun j a b c d => (h2.2.1 j a b c d).trans (h1.2.1 j a b c d), fun j a b c d e => (h2.2.2 j a b c d e).trans (h1.2.2 j a b c d e)⟩
theorem RdF.g {S S' : St} {s : Nat} (h1 : RdF S S' s) : RdG S S' := ⟨h1.1, fun j a b c _ => h1.2.1 j a b c, fun j a b c _ _ => h1.2.2.1 j a b c⟩
theorem RdG.ln {S : St} {l : Nat} {a b : Int32} : RdG S (lnS S l a b) := ⟨rfl, fun j _ _ _ q => if_neg q, fun j _ _ _ q1 q2 => by
  show (if j = 1064 then _ else if j = 1063 then _ else _) = _
  rw [if_neg q2, if_neg q1]⟩
theorem lineOK.le {s s' : Nat} {a b : Int32} (h1 : lineOK s a b) (hs : s ≤ s') : lineOK s' a b := ⟨h1.1.imp id (fun ⟨j, hj, e⟩ => ⟨j, by omega, e⟩), h1.2.imp (fun r hr => ⟨by omega, hr.2⟩)⟩
section
variable {F : Nat} {Z : Zt} {tx : Nat → Int32} {L p s l : Nat} {S M : St}
theorem addLine_eq {a b : Int32} (hl : S.1 1066 = nI l) (h120 : l < 120) : f_X8_addLine 1060 Z S a b = some (lnS S l a b) := by
  unfold f_X8_addLine
  simp only [Nat.reduceAdd, hl]
  rw [show (120 : Int32) = nI 120 from rfl, if_neg (nI_ge h120 (by omega)), lnC_hi (by omega), lnC_hi (by omega), inr_nI h120 (by omega), chk_true, chk_true, cl_nI (by omega), nI_1]
  rfl
theorem addLine_full {a b : Int32} (hl : S.1 1066 = nI l) (h120 : ¬ l < 120) (hle : l ≤ 120) : f_X8_addLine 1060 Z S a b = some S := by
  unfold f_X8_addLine
  have e : l = 120 := by omega
  subst e
  simp only [Nat.reduceAdd, hl]
  rw [show (120 : Int32) = nI 120 from rfl, if_pos (nI_le (Nat.le_refl _) (by omega))]
theorem b74_flt {K : St → Int32 → Int32 → Int32 → Option (Int32 × St)} {x3 x4 w t : Int32} (hf : 0 ≤ M.1 19) : f_X11_workOut_B74 F K M x3 x4 w t = (f_X11_takes M 59).bind (fun r => K r.2 x3 x4 r.1) := by
  unfold f_X11_workOut_B74
  rw [if_pos hf]
theorem b74_0 {K : St → Int32 → Int32 → Int32 → Option (Int32 × St)} {x3 x4 w : Int32} (hf : ¬ 0 ≤ M.1 19) : f_X11_workOut_B74 F K M x3 x4 w 0 = (f_X11_takes M 59).bind (fun r => K r.2 x3 x4 r.1) := by
  unfold f_X11_workOut_B74
  rw [if_neg hf, if_pos rfl]
theorem b74_10 {K : St → Int32 → Int32 → Int32 → Option (Int32 × St)} {x4 w : Int32} (hf : ¬ 0 ≤ M.1 19) : f_X11_workOut_B74 F K M 0 x4 w 1 = (f_X11_takes M 59).bind (fun r => K r.2 1 w r.1) := by
  unfold f_X11_workOut_B74
  rw [if_neg hf, if_neg (by decide), if_pos rfl]
theorem b74_11 {K : St → Int32 → Int32 → Int32 → Option (Int32 × St)} {x4 w : Int32} (hf : ¬ 0 ≤ M.1 19) : f_X11_workOut_B74 F K M 1 x4 w 1 = (f_X11_takes M 59).bind (fun r => K r.2 1 x4 r.1) := by
  unfold f_X11_workOut_B74
  rw [if_neg hf, if_neg (by decide), if_neg (by decide)]
theorem line_end {a b : Int32} (hI : RdI tx L S p s) (h1 : S.1 1066 = nI l) (h2 : l ≤ 120) (h3 : S.1 103 = -1 → l < 120 ∧ l + 1 ≤ s ∧ (∀ i, i < l → lineOK s (S.2.1 1063 i) (S.2.1 1064 i)) ∧ lineOK s a b) :
    ∃ S' l', f_X8_addLine 1060 Z S a b = some S' ∧ RdI tx L S' p s ∧ LnI S' s l' ∧ RdG S S' ∧ S'.1 103 = S.1 103 ∧ ∀ (K : St → Int32 → Int32 → Int32 → Option (Int32 × St)) (M : St) (x3 x4 w t : Int32), RdM tx L S M → (S.1 103 = -1 → M.1 20 = 0 ∧ Hit S (M.2.1 21) s l x3 x4 ∧ (∀ rn, b = nI rn → rn < s → ev S (M.2.1 21) s rn = w) ∧ ((t = 1 ∧ (a = -1 ∨ ∃ an, an < s ∧ a = nI an ∧ ¬ ev S (M.2.1 21) s an = 0)) ∨ (t = 0 ∧ ∃ an, an < s ∧ a = nI an ∧ ev S (M.2.1 21) s an = 0))) →
      ∃ x3' x4', f_X11_workOut_B74 F K M x3 x4 w t = (f_X11_takes M 59).bind (fun r => K r.2 x3' x4' r.1) ∧ RdM tx L S' M ∧ (S'.1 103 = -1 → M.1 20 = 0 ∧ Hit S' (M.2.1 21) s l' x3' x4') := by
  by_cases h120 : l < 120
  · refine ⟨lnS S l a b, l + 1, addLine_eq h1 h120, hI, ⟨rfl, by omega, fun q => ⟨(h3 q).2.1, fun i hi => ?_⟩⟩, RdG.ln, rfl, fun K M x3 x4 w t hM hV => ?_⟩
    · obtain ⟨-, -, k1, k2⟩ := h3 q
      show lineOK s (upd (S.2.1 1063) l a i) (upd (S.2.1 1064) l b i)
      by_cases hil : i = l
      · subst hil; rw [pk_us, pk_us]; exact k2
      · rw [pk_un hil, pk_un hil]; exact k1 i (by omega)
    · by_cases hf : S.1 103 = -1
      · obtain ⟨v1, v2, v3, v4⟩ := hV hf
        obtain ⟨-, -, k1, ⟨k2, r, hr, er⟩⟩ := h3 hf
        have hnf := (flt_no hM hf).2
        have hs31 : s < 2 ^ 31 := by have := hI.2.2.1; have := hI.2.2.2.2.1; have := hI.2.2.2.2.2.2.1; omega
        have hpre : hitP (upd (S.2.1 1063) l a) (upd (S.2.1 1064) l b) (ev S (M.2.1 21) s) l = hitP (S.2.1 1063) (S.2.1 1064) (ev S (M.2.1 21) s) l := hitP_ext k1 (fun i hi => ⟨pk_un (by omega), pk_un (by omega)⟩) (fun _ _ => rfl) hs31
        have hw : ev S (M.2.1 21) s r = w := v3 r er hr
        have hstep : hitP (upd (S.2.1 1063) l a) (upd (S.2.1 1064) l b) (ev S (M.2.1 21) s) (l + 1) = match hitP (S.2.1 1063) (S.2.1 1064) (ev S (M.2.1 21) s) l with
            | some v => some v
            | none => if a < 0 ∨ ¬ ev S (M.2.1 21) s a.toNatClampNeg = 0 then some w else none := by
          show (match hitP (upd (S.2.1 1063) l a) (upd (S.2.1 1064) l b) (ev S (M.2.1 21) s) l with
            | some v => some v
            | none => if upd (S.2.1 1063) l a l < 0 ∨ ¬ ev S (M.2.1 21) s (upd (S.2.1 1063) l a l).toNatClampNeg = 0 then some (ev S (M.2.1 21) s (upd (S.2.1 1064) l b l).toNatClampNeg) else none) = _
          rw [hpre, pk_us, pk_us, er, cl_nI (by omega), hw]
        rcases v2 with ⟨rfl, rfl, hn⟩ | ⟨rfl, hn⟩
        · rw [hn] at hstep
          rcases v4 with ⟨rfl, ha⟩ | ⟨rfl, an, han, ea, e0⟩
          · refine ⟨1, w, b74_10 hnf, hM, fun _ => ⟨v1, Or.inr ⟨rfl, hstep.trans (if_pos ?_)⟩⟩⟩
            rcases ha with ha | ⟨an, han, ea, e0⟩
            · rw [ha]; exact Or.inl (by decide)
            · rw [ea, cl_nI (by omega)]; exact Or.inr e0
          · refine ⟨0, 0, b74_0 hnf, hM, fun _ => ⟨v1, Or.inl ⟨rfl, rfl, hstep.trans (if_neg ?_)⟩⟩⟩
            rw [ea, cl_nI (by omega)]
            rintro (q | q)
            · exact nI_pos (by omega) q
            · exact q e0
        · rw [hn] at hstep
          rcases v4 with ⟨rfl, ha⟩ | ⟨rfl, an, han, ea, e0⟩
          · exact ⟨1, x4, b74_11 hnf, hM, fun _ => ⟨v1, Or.inr ⟨rfl, hstep⟩⟩⟩
          · exact ⟨1, x4, b74_0 hnf, hM, fun _ => ⟨v1, Or.inr ⟨rfl, hstep⟩⟩⟩
      · exact ⟨x3, x4, b74_flt (flt_yes hI hM hf).2, hM, fun q => absurd q hf⟩
  · have hf : ¬ S.1 103 = -1 := fun q => h120 (h3 q).1
    exact ⟨S, l, addLine_full h1 h120 h2, hI, ⟨h1, h2, fun q => absurd q hf⟩, RdG.rf, rfl, fun K M x3 x4 w t hM hV => ⟨x3, x4, b74_flt (flt_yes hI hM hf).2, hM, fun q => absurd q hf⟩⟩
def mline (F : Nat) (K : St → Int32 → Int32 → Int32 → Option (Int32 × St)) (S : St) (x3 x4 : Int32) : Option (Int32 × St) := (R_X11_0 F 60 0 S).bind fun r2 => (f_X11_takes r2.2 63).bind fun r3 => (if r3.1 = 0 then f_X11_workOut_B74 F K r3.2 x3 x4 r2.1 1 else if r2.1 = 0 then f_X11_workOut_B66 F K r3.2 x3 x4 0 else f_X11_workOut_B66 F K r3.2 x3 x4 1)
theorem any60 (hF : 200 ≤ F) (hI : RdI tx L S p s) : Spec tx L 0 S p s (R_C_0 F Z 60 0 S 0 0) (R_X11_0 F 60 0) := knot hF 6 (Nat.le_refl _) 0 (by omega) 60 60 (by omega) (by omega) S p s hI
theorem Hit.keep {S S' : St} {nm : Nat → Int32} {s s' l : Nat} {x3 x4 : Int32} (hH : Hit S nm s l x3 x4) (hf : RdF S S' s) (hs : s ≤ s') (hl : ∀ i, i < l → lineOK s (S.2.1 1063 i) (S.2.1 1064 i)) (hs31 : s < 2 ^ 31) : Hit S' nm s' l x3 x4 := by
  have e : hitP (S'.2.1 1063) (S'.2.1 1064) (ev S' nm s') l = hitP (S.2.1 1063) (S.2.1 1064) (ev S nm s) l := by
    rw [hf.2.2.1 1063 (by decide) (by decide) (by decide), hf.2.2.1 1064 (by decide) (by decide) (by decide)]
    exact hitP_ext hl (fun _ _ => ⟨rfl, rfl⟩) (fun j hj => ev_keep hf hj hs) hs31
  unfold Hit
  rw [e]
  exact hH
theorem line_ok (hF : 200 ≤ F) (hI : RdI tx L S p s) (hL : LnI S s l) : ∃ S' p' s' l', f_X5_readLine F Z S = some S' ∧ RdI tx L S' p' s' ∧ p ≤ p' ∧ LnI S' s' l' ∧ RdG S S' ∧ (S'.1 103 = -1 → S.1 103 = -1) ∧ ∀ (K : St → Int32 → Int32 → Int32 → Option (Int32 × St)) (M : St) (x3 x4 : Int32), RdM tx L S M → (S.1 103 = -1 → M.1 20 = 0 ∧ Hit S (M.2.1 21) s l x3 x4) → ∃ M' x3' x4', mline F K M x3 x4 = (f_X11_takes M' 59).bind (fun r => K r.2 x3' x4' r.1) ∧ RdM tx L S' M' ∧ MFr M M' ∧ (S'.1 103 = -1 → M'.1 20 = 0 ∧ Hit S' (M.2.1 21) s' l' x3' x4') := by
  obtain ⟨hl1, hl2, hl3⟩ := hL
  have hLL := hI.2.2.1
  obtain ⟨r1, S1, p1, s1, e1, hI1, a1, a2, a3, f1, g1, k1⟩ := any60 (Z := Z) hF hI
  have hp1 := hI1.2.2.2.2.1
  have hs1 := hI1.2.2.2.2.2.2.1
  have hsp := hI.2.2.2.2.2.2.1
  have hpL := hI.2.2.2.2.1
  by_cases hq : nxt tx L S1 p1 = some 63
  · obtain ⟨hf1, hp1', -⟩ := nxt_some hq
    obtain ⟨hf0, hss1, rn, hrn, er1⟩ := g1 hf1
    obtain ⟨r4, S4, p4, s4, e4, hI4, b1, b2, b3, f4, g4, k4⟩ := any60 (Z := Z) hF (hI1.pl (p1 + 1) (by omega) (by omega))
    have hp4 := hI4.2.2.2.2.1
    have hs4 := hI4.2.2.2.2.2.2.1
    have f14 : RdF S1 S4 s1 := RdF.pl.tr f4 (Nat.le_refl _)
    have f04 : RdF S S4 s := f1.tr f14 a2
    obtain ⟨S', l', c1, c2, c3, c4, c5, c6⟩ := line_end (F := F) (Z := Z) (l := l) (a := r1) (b := r4) hI4 (by rw [f04.2.1 1066 (by decide) (by decide) (by decide)]; exact hl1) hl2 (fun q => by
      obtain ⟨h1, h2⟩ := hl3 hf0
      obtain ⟨-, w1, w2⟩ := g4 q
      refine ⟨by omega, by omega, fun i hi => ?_, Or.inr ⟨rn, by omega, er1⟩, w2⟩
      rw [f04.2.2.1 1063 (by decide) (by decide) (by decide), f04.2.2.1 1064 (by decide) (by decide) (by decide)]
      exact (h2 i hi).le (by omega))
    refine ⟨S', p4, s4, l', ?_, c2, by omega, c3, f04.g.tr c4, fun q => hf0, fun K M x3 x4 hM hV => ?_⟩
    · unfold f_X5_readLine
      rw [e1]
      show Option.bind (f_X5_took Z S1 63) _ = _
      rw [took_eq hI1 (by decide), if_pos hq]
      show Option.bind (R_C_0 F Z 60 0 (sf S1 102 (nI (p1 + 1))) 0 0) _ = _
      rw [e4]
      show Option.bind (f_X8_addLine 1060 Z S4 r1 r4) _ = _
      rw [c1]
      rfl
    · obtain ⟨v, M1, w1, hM1, fr1, z1⟩ := k1 M hM (fun q => (hV q).1)
      obtain ⟨y1, y2⟩ := z1 hf1
      have hv : ev S1 (M.2.1 21) s1 rn = v := y2 rn er1 hrn
      obtain ⟨w, M4, w4, hM4, fr4, z4⟩ := k4 (sf M1 17 (nI (p1 + 1))) (hM1.pl (p1 + 1)) (fun _ => y1)
      have fr14 : MFr M M4 := (fr1.tr MFr.pl).tr fr4
      have hrow1 : (sf M1 17 (nI (p1 + 1))).2.1 21 = M.2.1 21 := by show M1.2.1 21 = _; rw [fr1.1]
      have hrow : M4.2.1 21 = M.2.1 21 := by rw [fr14.1]
      rw [hrow1] at z4
      have hv4 : ev S4 (M.2.1 21) s4 rn = v := (ev_keep f14 hrn b2).trans hv
      have hD : S4.1 103 = -1 → M4.1 20 = 0 ∧ Hit S4 (M4.2.1 21) s4 l x3 x4 ∧ (∀ rn, r4 = nI rn → rn < s4 → ev S4 (M4.2.1 21) s4 rn = w) := fun q => by
        rw [hrow]
        exact ⟨(z4 q).1, (hV hf0).2.keep f04 (by omega) (hl3 hf0).2 (by omega), (z4 q).2⟩
      have hun : mline F K M x3 x4 = if v = 0 then f_X11_workOut_B74 F K M4 x3 x4 w 0 else f_X11_workOut_B74 F K M4 x3 x4 w 1 := by
        unfold mline
        rw [w1]
        show Option.bind (f_X11_takes M1 63) _ = _
        rw [takes_eq hI1 hM1 (by decide), if_pos hq]
        show (if v = 0 then f_X11_workOut_B66 F K (sf M1 17 (nI (p1 + 1))) x3 x4 0 else f_X11_workOut_B66 F K (sf M1 17 (nI (p1 + 1))) x3 x4 1) = _
        unfold f_X11_workOut_B66
        rw [w4]
        rfl
      rw [hun]
      by_cases hv0 : v = 0
      · rw [if_pos hv0]
        obtain ⟨x3', x4', d1, d2, d3⟩ := c6 K M4 x3 x4 w 0 hM4 (fun q => ⟨(hD q).1, (hD q).2.1, (hD q).2.2, Or.inr ⟨rfl, rn, by omega, er1, by rw [hrow, hv4, hv0]⟩⟩)
        rw [hrow] at d3
        exact ⟨M4, x3', x4', d1, d2, fr14, d3⟩
      · rw [if_neg hv0]
        obtain ⟨x3', x4', d1, d2, d3⟩ := c6 K M4 x3 x4 w 1 hM4 (fun q => ⟨(hD q).1, (hD q).2.1, (hD q).2.2, Or.inl ⟨rfl, Or.inr ⟨rn, by omega, er1, by rw [hrow, hv4]; exact hv0⟩⟩⟩)
        rw [hrow] at d3
        exact ⟨M4, x3', x4', d1, d2, fr14, d3⟩
  · obtain ⟨S', l', c1, c2, c3, c4, c5, c6⟩ := line_end (F := F) (Z := Z) (l := l) (a := -1) (b := r1) hI1 (by rw [f1.2.1 1066 (by decide) (by decide) (by decide)]; exact hl1) hl2 (fun q => by
      obtain ⟨hf0, w1, w2⟩ := g1 q
      obtain ⟨h1, h2⟩ := hl3 hf0
      refine ⟨by omega, by omega, fun i hi => ?_, Or.inl rfl, w2⟩
      rw [f1.2.2.1 1063 (by decide) (by decide) (by decide), f1.2.2.1 1064 (by decide) (by decide) (by decide)]
      exact (h2 i hi).le (by omega))
    refine ⟨S', p1, s1, l', ?_, c2, a1, c3, f1.g.tr c4, fun q => (g1 (c5 ▸ q)).1, fun K M x3 x4 hM hV => ?_⟩
    · unfold f_X5_readLine
      rw [e1]
      show Option.bind (f_X5_took Z S1 63) _ = _
      rw [took_eq hI1 (by decide), if_neg hq]
      show Option.bind (f_X8_addLine 1060 Z S1 (-1) r1) _ = _
      rw [c1]
      rfl
    · obtain ⟨v, M1, w1, hM1, fr1, z1⟩ := k1 M hM (fun q => (hV q).1)
      have hrow : M1.2.1 21 = M.2.1 21 := by rw [fr1.1]
      have hun : mline F K M x3 x4 = f_X11_workOut_B74 F K M1 x3 x4 v 1 := by
        unfold mline
        rw [w1]
        show Option.bind (f_X11_takes M1 63) _ = _
        rw [takes_eq hI1 hM1 (by decide), if_neg hq]
        rfl
      rw [hun]
      obtain ⟨x3', x4', d1, d2, d3⟩ := c6 K M1 x3 x4 v 1 hM1 (fun q => by
        obtain ⟨hf0, -, -⟩ := g1 q
        rw [hrow]
        exact ⟨(z1 q).1, (hV hf0).2.keep f1 a2 (hl3 hf0).2 (by omega), (z1 q).2, Or.inl ⟨rfl, Or.inl rfl⟩⟩)
      rw [hrow] at d3
      exact ⟨M1, x3', x4', d1, d2, fr1, d3⟩
end
