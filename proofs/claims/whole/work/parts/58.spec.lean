/-- the class's reading of a piece beside the reference's working it out -/
def Spec (tx : Nat → Int32) (L o : Nat) (S : St) (p s : Nat) (c : Option (Int32 × St)) (m : St → Option (Int32 × St)) : Prop :=
  ∃ r S' p' s', c = some (r, S') ∧ RdI tx L S' p' s' ∧ p ≤ p' ∧ s ≤ s' ∧ s' + p ≤ s + p' ∧ RdF S S' s ∧ (S'.1 103 = -1 → S.1 103 = -1 ∧ s < s' ∧ ∃ rn, rn < s' ∧ r = nI rn) ∧
    ∀ M, RdM tx L S M → (S.1 103 = -1 → M.1 20 = nI o) → ∃ v M', m M = some (v, M') ∧ RdM tx L S' M' ∧ MFr M M' ∧ (S'.1 103 = -1 → M'.1 20 = nI o ∧ ∀ rn, r = nI rn → rn < s' → ev S' (M.2.1 21) s' rn = v)
def Ent (S : St) (s : Nat) (r : Int32) : Prop := S.1 103 = -1 → ∃ rn, rn < s ∧ r = nI rn
def EntM (o : Nat) (S : St) (s : Nat) (r : Int32) (M : St) (v : Int32) : Prop := S.1 103 = -1 → M.1 20 = nI o ∧ ∀ rn, r = nI rn → rn < s → ev S (M.2.1 21) s rn = v
def LSpec (tx : Nat → Int32) (L o : Nat) (S : St) (p s : Nat) (r : Int32) (c : Option (Int32 × St)) (m : St → Int32 → Option (Int32 × St)) : Prop :=
  ∃ r' S' p' s', c = some (r', S') ∧ RdI tx L S' p' s' ∧ p ≤ p' ∧ s ≤ s' ∧ s' + p ≤ s + p' ∧ RdF S S' s ∧ (S'.1 103 = -1 → S.1 103 = -1 ∧ ∃ rn, rn < s' ∧ r' = nI rn) ∧
    ∀ M v, RdM tx L S M → EntM o S s r M v → ∃ v' M', m M v = some (v', M') ∧ RdM tx L S' M' ∧ MFr M M' ∧ (S'.1 103 = -1 → M'.1 20 = nI o ∧ ∀ rn, r' = nI rn → rn < s' → ev S' (M.2.1 21) s' rn = v')
section
variable {F : Nat} {Z : Zt} {tx : Nat → Int32} {L o p s : Nat} {S M : St}
theorem Spec.loop {c : Option (Int32 × St)} {m : St → Option (Int32 × St)} {lc : Int32 × St → Option (Int32 × St)} {lm : Int32 × St → Option (Int32 × St)} (h1 : Spec tx L o S p s c m) (h2 : ∀ r S' p' s', RdI tx L S' p' s' → Ent S' s' r → LSpec tx L o S' p' s' r (lc (r, S')) (fun M v => lm (v, M))) : Spec tx L o S p s (c.bind lc) (fun M => (m M).bind lm) := by
  obtain ⟨r, S1, p1, s1, e1, hI1, a1, a2, a3, f1, g1, k1⟩ := h1
  obtain ⟨r2, S2, p2, s2, e2, hI2, b1, b2, b3, f2, g2, k2⟩ := h2 r S1 p1 s1 hI1 (fun q => (g1 q).2.2)
  refine ⟨r2, S2, p2, s2, by rw [e1]; exact e2, hI2, by omega, by omega, by omega, f1.tr f2 a2, fun q => ⟨(g1 (g2 q).1).1, by have := (g1 (g2 q).1).2.1; omega, (g2 q).2⟩, fun M hM hO => ?_⟩
  obtain ⟨v, M1, w1, hM1, fr1, z1⟩ := k1 M hM hO
  have hrow : M1.2.1 21 = M.2.1 21 := by rw [fr1.1]
  obtain ⟨v2, M2, w2, hM2, fr2, z2⟩ := k2 M1 v hM1 (fun q => by rw [hrow]; exact z1 q)
  refine ⟨v2, M2, by show (m M).bind lm = _; rw [w1]; exact w2, hM2, fr1.tr fr2, fun q => ?_⟩
  rw [hrow] at z2
  exact z2 q
/-- nothing more -/
theorem LSpec.stop {r : Int32} {c : Option (Int32 × St)} {m : St → Int32 → Option (Int32 × St)} (hI : RdI tx L S p s) (hE : Ent S s r) (hc : c = some (r, S)) (hm : ∀ M v, RdM tx L S M → m M v = some (v, M)) : LSpec tx L o S p s r c m :=
  ⟨r, S, p, s, hc, hI, Nat.le_refl _, Nat.le_refl _, Nat.le_refl _, RdF.rf, fun q => ⟨q, hE q⟩, fun M v hM hV => ⟨v, M, hm M v hM, hM, MFr.rf, hV⟩⟩
/-- a step, then on -/
theorem LSpec.step {r r4 : Int32} {c c4 : Option (Int32 × St)} {m m4 : St → Int32 → Option (Int32 × St)} {S4 : St} {p4 s4 : Nat} (hc : c = c4) (h1 : p ≤ p4) (h2 : s ≤ s4) (h3 : s4 + p ≤ s + p4) (hF : RdF S S4 s) (hG : S4.1 103 = -1 → S.1 103 = -1) (hm : ∀ M v, RdM tx L S M → EntM o S s r M v → ∃ M4 v4, m M v = m4 M4 v4 ∧ RdM tx L S4 M4 ∧ MFr M M4 ∧ EntM o S4 s4 r4 M4 v4) (h4 : LSpec tx L o S4 p4 s4 r4 c4 m4) : LSpec tx L o S p s r c m := by
  obtain ⟨r2, S2, p2, s2, e2, hI2, b1, b2, b3, f2, g2, k2⟩ := h4
  refine ⟨r2, S2, p2, s2, hc.trans e2, hI2, by omega, by omega, by omega, hF.tr f2 h2, fun q => ⟨hG (g2 q).1, (g2 q).2⟩, fun M v hM hV => ?_⟩
  obtain ⟨M4, v4, w1, hM4, fr4, z4⟩ := hm M v hM hV
  obtain ⟨v2, M2, w2, hM2, fr2, z2⟩ := k2 M4 v4 hM4 z4
  refine ⟨v2, M2, w1.trans w2, hM2, fr4.tr fr2, fun q => ?_⟩
  have hrow : M4.2.1 21 = M.2.1 21 := by rw [fr4.1]
  rw [hrow] at z2
  exact z2 q
/-- a sign between two, its right side read, its step written -/
theorem bin_step {r op ch : Int32} {c1 : Option (Int32 × St)} {m1 : St → Option (Int32 × St)} (hI : RdI tx L S p s) (hE : Ent S s r) (hx : nxt tx L S p = some ch) (hop : ¬ op = 48 ∧ ¬ op = 107) (h1 : Spec tx L o (sf S 102 (nI (p + 1))) (p + 1) s c1 m1) :
    ∃ r3 S3 p3 s3, c1 = some (r3, S3) ∧ f_X8_addStep 1060 Z S3 op r r3 = some (nI s3, stp S3 s3 op r r3) ∧ RdI tx L (stp S3 s3 op r r3) p3 (s3 + 1) ∧ p + 1 ≤ p3 ∧ s ≤ s3 + 1 ∧ s3 + 1 + p ≤ s + p3 ∧ RdF S (stp S3 s3 op r r3) s ∧ ((stp S3 s3 op r r3).1 103 = -1 → S.1 103 = -1) ∧ Ent (stp S3 s3 op r r3) (s3 + 1) (nI s3) ∧
      ∀ M v, RdM tx L S M → EntM o S s r M v → ∃ w M3, m1 (sf M 17 (nI (p + 1))) = some (w, M3) ∧ RdM tx L (stp S3 s3 op r r3) M3 ∧ MFr M M3 ∧ EntM o (stp S3 s3 op r r3) (s3 + 1) (nI s3) M3 (jn op v w) := by
  obtain ⟨r3, S3, p3, s3, e3, hI3, a1, a2, a3, f3, g3, k3⟩ := h1
  obtain ⟨hfl, hp, htx⟩ := nxt_some hx
  have hL := hI.2.2.1
  have hs := hI.2.2.2.2.2.2.1
  have hs3 := hI3.2.2.2.2.2.2.1
  have hp3 := hI3.2.2.2.2.1
  have hlt : s3 < p3 := by omega
  refine ⟨r3, S3, p3, s3, e3, add_eq hI3 hlt, hI3.st hlt, a1, by omega, by omega, (RdF.pl.tr f3 (Nat.le_refl _)).tr RdF.st a2, fun _ => hfl, fun _ => ⟨s3, Nat.lt_succ_self _, rfl⟩, fun M v hM hV => ?_⟩
  obtain ⟨w, M3, w1, hM3, fr3, z3⟩ := k3 _ (hM.pl (p + 1)) (fun q => (hV q).1)
  refine ⟨w, M3, w1, hM3.st, MFr.pl.tr fr3, fun q => ?_⟩
  have hrow : M3.2.1 21 = M.2.1 21 := by rw [fr3.1]; rfl
  obtain ⟨y1, y2⟩ := z3 q
  obtain ⟨rn, hr1, rfl⟩ := hE hfl
  obtain ⟨wn, hw1, rfl⟩ := (g3 q).2.2
  refine ⟨y1, fun x ex hlx => ?_⟩
  have ex2 : s3 = x := (nI_eq (by omega) (by omega)).mp ex
  subst ex2
  rw [hrow]
  have k1 : ev S (M.2.1 21) s rn = v := (hV hfl).2 rn rfl hr1
  have k2 : ev S3 (M.2.1 21) s3 wn = w := y2 wn rfl hw1
  have k3 : ev S3 (M.2.1 21) s3 rn = v := (ev_keep (f3.le (Nat.le_refl _)) hr1 a2).trans k1
  show vs (upd (S3.2.1 1060) s3 op) (upd (S3.2.1 1061) s3 (nI rn)) (upd (S3.2.1 1062) s3 (nI wn)) (M.2.1 21) (s3 + 1) s3 = _
  rw [vs_push2 hop.1 hop.2 (by omega) hw1 (by omega)]
  show jn op (ev S3 (M.2.1 21) s3 rn) (ev S3 (M.2.1 21) s3 wn) = _
  rw [k2, k3]
end
