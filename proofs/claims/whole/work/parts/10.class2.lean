/-! laws that may be none; courts that make their row late: the budget of what is made -/
def optc {τ : Type} (q : Option Nat) (e1 : Option τ) (e2 : Nat → Option τ) : Option τ := match q with
  | none => e1
  | some k => e2 k
def lawok (Z : Zt) (k : Nat) : Bool := decide (k < 3 ∧ Z.2 k = true)
abbrev PQ (Y : Nat → Nat) (wv : va_W) : Option Nat → Option Value → va_W → Prop := fun r v w => v = some (lawV Y r) ∧ w = wv
/-- what an answer says of a world whose moving rows may have moved -/
abbrev PIA (θ : TH) (ad : Nat → Nat) : Int32 × St × Zt → Option Value → va_W → Prop := fun r v w => v = some (.int r.1) ∧ ∃ Y' : Nat → Nat, w = wdC θ ad Y' r.2.2 r.2.1
abbrev PVA (θ : TH) (ad : Nat → Nat) : St × Zt → Option Value → va_W → Prop := fun r v w => v = none ∧ ∃ Y' : Nat → Nat, w = wdC θ ad Y' r.2 r.1
def nd (b : Nat) (Z : Zt) : Nat := if Z.1 (b + 6) = 0 then 1 else 0
def zo (b : Nat) (Z : Zt) : Zt := if Z.1 (b + 6) = 0 then (fun j => if j = b + 6 then 9216 else Z.1 j, Z.2) else Z
theorem nd_zo (b : Nat) (Z : Zt) : nd b (zo b Z) = 0 := by
  unfold nd zo
  by_cases h : Z.1 (b + 6) = 0
  · simp [h]
  · simp [h]
theorem nd_zo2 {b b' : Nat} (hb : b ≠ b') (Z : Zt) : nd b (zo b' Z) = nd b Z := by
  unfold nd zo
  by_cases h : Z.1 (b' + 6) = 0
  · have h2 : ¬ (b + 6 = b' + 6) := by omega
    rw [if_pos h]
    simp [hb]
  · rw [if_neg h]
abbrev mTa {τ : Type} (X : GX) (θ : TH) (ws0 : va_W) (nL MC MS : Nat) (P : τ → Option Value → va_W → Prop) : τ → State → Prop := fun r => MR (mE X θ ws0 nL) ws0 (P r) MC MS
/-- the budget: what is made so far, and what may still be -/
abbrev BD1 (k n : Nat) (Z : Zt) (MC MS : Nat) : Prop := k + nd 80 Z ≤ MC ∧ n + 9216 * nd 80 Z ≤ MS
abbrev BD2 (k n : Nat) (Z : Zt) (MC MS : Nat) : Prop := k + (nd 80 Z + nd 300 Z) ≤ MC ∧ n + 9216 * (nd 80 Z + nd 300 Z) ≤ MS
abbrev BE (k n : Nat) (MC MS : Nat) : Prop := k ≤ MC ∧ n ≤ MS
theorem BD1.e {k n MC MS : Nat} {Z : Zt} (h : BD1 k n Z MC MS) : BE k n MC MS := ⟨Nat.le_trans (Nat.le_add_right _ _) h.1, Nat.le_trans (Nat.le_add_right _ _) h.2⟩
theorem BD2.e {k n MC MS : Nat} {Z : Zt} (h : BD2 k n Z MC MS) : BE k n MC MS := ⟨Nat.le_trans (Nat.le_add_right _ _) h.1, Nat.le_trans (Nat.le_add_right _ _) h.2⟩
theorem BD1.z {Z : Zt} : BD1 0 0 Z (nd 80 Z) (9216 * nd 80 Z) := ⟨by rw [Nat.zero_add]; exact Nat.le_refl _, by rw [Nat.zero_add]; exact Nat.le_refl _⟩
theorem BD2.z {Z : Zt} : BD2 0 0 Z (nd 80 Z + nd 300 Z) (9216 * (nd 80 Z + nd 300 Z)) := ⟨by rw [Nat.zero_add]; exact Nat.le_refl _, by rw [Nat.zero_add]; exact Nat.le_refl _⟩
theorem BD1.o {k n MC MS : Nat} {Z Z' : Zt} (h : BD1 k n Z MC MS) (hz : nd 80 Z' = 0) : BD1 (k + nd 80 Z) (n + 9216 * nd 80 Z) Z' MC MS := by
  unfold BD1 at *
  rw [hz]
  exact h
theorem BD2.o1 {k n MC MS : Nat} {Z Z' : Zt} (h : BD2 k n Z MC MS) (hz : Z' = zo 80 Z) : BD2 (k + nd 80 Z) (n + 9216 * nd 80 Z) Z' MC MS := by
  unfold BD2 at *
  subst hz
  rw [nd_zo, nd_zo2 (by decide)]
  omega
theorem BD2.o2 {k n MC MS : Nat} {Z Z' : Zt} (h : BD2 k n Z MC MS) (hz : Z' = zo 300 Z) : BD2 (k + nd 300 Z) (n + 9216 * nd 300 Z) Z' MC MS := by
  unfold BD2 at *
  subst hz
  rw [nd_zo, nd_zo2 (by decide)]
  omega
section C2
variable {τ ρ : Type} {E : GE} {own : String} {cc : ByteArray} {ret : Option FieldType} {h mc ms : Nat} {T : τ → State → Prop} {k n : Nat} {ws : va_W} {lv lv' : List (Nat × Value)} {st rest As : List Value} {pc : Nat} {e e1 : Option τ} {e2 : Nat → Option τ} {Y : Nat → Nat}
theorem k_aloadQ (C : CX E own cc ret h mc ms) {j q : Nat} {x : Option Nat} (d : decode cc pc = .ok (.aload j, 2)) (hl : lv[q]? = some (j, lawV Y x)) (kk : Dk E T k n ws lv (lawV Y x :: st) (pc + 2) e) : Dk E T k n ws lv st pc e := by
  cases x with
  | none => exact fun r hr H locs ls hP hD hS hv => lv_aloadN C.x C.b d (lv_at hv q hl) (kk r hr H locs ls hP hD hS hv)
  | some y => exact fun r hr H locs ls hP hD hS hv => lv_aload C.x C.b d (lv_at hv q hl) (kk r hr H locs ls hP hD hS hv)
theorem k_astoreQ (C : CX E own cc ret h mc ms) {j : Nat} {x : Option Nat} (d : decode cc pc = .ok (.astore j, 2)) (hn : j < gn E) (hl : (j, lawV Y x) :: lv.filter (fun q => !(q.1 == j) && !(q.1 + 1 == j && q.2.category == 2)) = lv') (kk : Dk E T k n ws lv' st (pc + 2) e) : Dk E T k n ws lv (lawV Y x :: st) pc e := by
  cases x with
  | none => exact fun r hr H locs ls hP hD hS hv => lv_astoreN C.x C.b d hv hn hl (fun ls hv => kk r hr H locs ls hP hD hS hv)
  | some y => exact fun r hr H locs ls hP hD hS hv => lv_astore C.x C.b d hv hn hl (fun ls hv => kk r hr H locs ls hP hD hS hv)
theorem k_ifnonnullQ (C : CX E own cc ret h mc ms) {x : Option Nat} {off : Int} {tgt : Nat} (d : decode cc pc = .ok (.ifnonnull off, 3)) (ht : (pc : Int) + off = (tgt : Int)) (kn : x = none → Dk E T k n ws lv st (pc + 3) e1) (ks : ∀ y, x = some y → Dk E T k n ws lv st tgt (e2 y)) : Dk E T k n ws lv (lawV Y x :: st) pc (optc x e1 e2) := by
  cases x with
  | none => exact k_ifnonnullN C d (kn rfl)
  | some y => exact k_ifnonnull C d ht (ks y rfl)
variable {y : MethodName} {cc' : ByteArray} {nL' : Nat} {ret' : Option FieldType} {h' mc' ms' na idx : Nat} {C' : String} {b : Addr} {er : Option ρ} {K : ρ → Option τ} {ov : ρ → Option Nat} {wv : ρ → va_W} {iv : ρ → Int32} {θ : TH} {ad : Nat → Nat} {sv : ρ → St} {zv : ρ → Zt}
theorem k_cVQ (C : CX E own cc ret h mc ms) (hc : ∀ r, er = some r → Ct (gl E) (gt E) y cc' nL' ret' h' 0 0 (.ref b :: As) ws (fun v w => v = some (lawV Y (ov r)) ∧ w = wv r)) (hw : MWv C' y cc' nL' ret' na) (hl : Cond.methodLink own idx y ∈ TB) (hn : As.length = na) (hh : h' + 1 ≤ h ∧ nL' ≤ 21) (hrv : ∃ (q0 ci : Nat) (fs : List Value) (q : vw_C), ws[q0]? = some (b, .inr (ci, fs)) ∧ vwCl[ci]? = some q ∧ q.1 = C') (hst : st = As.reverse ++ .ref b :: rest) (hrest : (rest.map fun v => v.category).sum ≤ 8) (d : decode cc pc = .ok (.invokevirtual idx, 3)) (hk : k ≤ mc ∧ n ≤ ms)
    (kk : ∀ r, er = some r → Dk E T k n (wv r) lv (lawV Y (ov r) :: rest) (pc + 3) (K r)) : Dk E T k n ws lv st pc (er.bind K) := by
  intro r hr
  obtain ⟨a, ha, hr⟩ := bind_some hr
  exact g_callV (fun w => w) (Or.inl ⟨rfl, rfl⟩) C (hc a ha) hw hl hn hh hrv hst hrest d hk (fun v w hp => by obtain ⟨rfl, rfl⟩ := hp; exact kk a ha r hr)
theorem k_cAI (C : CX E own cc ret h mc ms) (hc : ∀ r, er = some r → Ct (gl E) (gt E) y cc' nL' ret' h' mc' ms' (.ref b :: As) ws (fun v w => v = some (.int (iv r)) ∧ ∃ Y' : Nat → Nat, w = wdC (gt E) ad Y' (zv r) (sv r))) (hw : MWv C' y cc' nL' ret' na) (hl : Cond.methodLink own idx y ∈ TB) (hn : As.length = na) (hh : h' + 1 ≤ h ∧ nL' ≤ 21) (hrv : ∃ (q0 ci : Nat) (fs : List Value) (q : vw_C), ws[q0]? = some (b, .inr (ci, fs)) ∧ vwCl[ci]? = some q ∧ q.1 = C') (hst : st = As.reverse ++ .ref b :: rest) (hrest : (rest.map fun v => v.category).sum ≤ 8) (d : decode cc pc = .ok (.invokevirtual idx, 3)) (hk : k + mc' ≤ mc ∧ n + ms' ≤ ms)
    (kk : ∀ (r : ρ) (Y' : Nat → Nat), er = some r → Dk E T (k + mc') (n + ms') (wdC (gt E) ad Y' (zv r) (sv r)) lv (.int (iv r) :: rest) (pc + 3) (K r)) : Dk E T k n ws lv st pc (er.bind K) := by
  intro r hr
  obtain ⟨a, ha, hr⟩ := bind_some hr
  exact g_callV (fun w => w) (Or.inl ⟨rfl, rfl⟩) C (hc a ha) hw hl hn hh hrv hst hrest d hk (fun v w hp => by obtain ⟨rfl, Y', rfl⟩ := hp; exact kk a Y' ha r hr)
theorem k_cAV (C : CX E own cc ret h mc ms) (hc : ∀ r, er = some r → Ct (gl E) (gt E) y cc' nL' ret' h' mc' ms' (.ref b :: As) ws (fun v w => v = none ∧ ∃ Y' : Nat → Nat, w = wdC (gt E) ad Y' (zv r) (sv r))) (hw : MWv C' y cc' nL' ret' na) (hl : Cond.methodLink own idx y ∈ TB) (hn : As.length = na) (hh : h' + 1 ≤ h ∧ nL' ≤ 21) (hrv : ∃ (q0 ci : Nat) (fs : List Value) (q : vw_C), ws[q0]? = some (b, .inr (ci, fs)) ∧ vwCl[ci]? = some q ∧ q.1 = C') (hst : st = As.reverse ++ .ref b :: rest) (hrest : (rest.map fun v => v.category).sum ≤ 8) (d : decode cc pc = .ok (.invokevirtual idx, 3)) (hk : k + mc' ≤ mc ∧ n + ms' ≤ ms)
    (kk : ∀ (r : ρ) (Y' : Nat → Nat), er = some r → Dk E T (k + mc') (n + ms') (wdC (gt E) ad Y' (zv r) (sv r)) lv rest (pc + 3) (K r)) : Dk E T k n ws lv st pc (er.bind K) := by
  intro r hr
  obtain ⟨a, ha, hr⟩ := bind_some hr
  exact g_callV (fun w => w) (Or.inl ⟨rfl, rfl⟩) C (hc a ha) hw hl hn hh hrv hst hrest d hk (fun v w hp => by obtain ⟨rfl, Y', rfl⟩ := hp; exact kk a Y' ha r hr)
end C2
section C2e
variable {τ : Type} {X : GX} {θ : TH} {nL : Nat} {own : String} {cc : ByteArray} {h mc ms : Nat} {k n MC MS : Nat} {ws ws0 : va_W} {lv : List (Nat × Value)} {pc : Nat} {P : τ → Option Value → va_W → Prop} {r0 : τ}
theorem k_iretA {x : Int32} (hb : BE k n MC MS) (C : CX (mE X θ ws0 nL) own cc (some .int) h mc ms) (hp : P r0 (some (.int x)) ws) (d : decode cc pc = .ok (.ireturn, 1)) : Dk (mE X θ ws0 nL) (mTa X θ ws0 nL MC MS P) k n ws lv [.int x] pc (some r0) := Dk.wide hb.1 hb.2 (k_iret C rfl hp d)
theorem k_vretA (hb : BE k n MC MS) (C : CX (mE X θ ws0 nL) own cc none h mc ms) (hp : P r0 none ws) (d : decode cc pc = .ok (.return_, 1)) : Dk (mE X θ ws0 nL) (mTa X θ ws0 nL MC MS P) k n ws lv [] pc (some r0) := Dk.wide hb.1 hb.2 (k_vret C hp d)
/-- a law, or null, handed back -/
theorem k_aretQ {Y : Nat → Nat} {x : Option Nat} {rt : String} (C : CX (mE X θ ws0 nL) own cc (some (.object rt)) h mc ms) (hp : P r0 (some (lawV Y x)) ws) (d : decode cc pc = .ok (.areturn, 1)) : Dk (mE X θ ws0 nL) (mT X θ ws0 nL P) 0 0 ws lv [lawV Y x] pc (some r0) := k_aret C (Or.inl ⟨rt, rfl⟩) (by cases x with
  | none => exact Or.inl rfl
  | some y => exact Or.inr ⟨_, rfl⟩) hp d
end C2e
/-- a court's row, made late: the new row comes, the old one is left behind -/
theorem pl_drop {ad ad' : Nat → Nat} {L : List Nat} {g g' : Nat → va_E} {i q : Nat} {D : va_G} {A : Nat → Prop} {H : Heap} {x : va_E} (hL : L.Nodup) (hi : i ∈ L) (hn : ad' i = q) (ho : ∀ j ∈ L, j ≠ i → ad' j = ad j ∧ g' j = g j) (hx : g' i = x) (hP : va_P D vwCl (pl ad L g ++ [(q, x)]) H) (hD : va_D A (pl ad L g ++ [(q, x)])) : va_P D vwCl (pl ad' L g') H ∧ va_D A (pl ad' L g') := by
  obtain ⟨p1, p2, d1, d2, hd⟩ := fr_in hP hD
  have hq : ([(q, x)] : va_W)[0]? = some (q, x) := rfl
  have key : ∀ (k : Nat) (z : Nat × va_E), (pl ad' L g')[k]? = some z → ∃ j, L[k]? = some j ∧ ((j = i ∧ z = (q, x)) ∨ (j ≠ i ∧ (pl ad L g)[k]? = some z)) := by
    intro k z hz
    unfold pl at hz
    rw [List.getElem?_map] at hz
    cases hj : L[k]? with
    | none => rw [hj] at hz; cases hz
    | some j =>
      rw [hj] at hz
      have hz : (ad' j, g' j) = z := Option.some.inj hz
      refine ⟨j, rfl, ?_⟩
      by_cases hji : j = i
      · subst hji
        exact Or.inl ⟨rfl, by rw [← hz, hn, hx]⟩
      · refine Or.inr ⟨hji, ?_⟩
        obtain ⟨h1, h2⟩ := ho j (List.mem_of_getElem? hj) hji
        unfold pl
        rw [List.getElem?_map, hj, ← hz, h1, h2]
        rfl
  refine ⟨fun k z hz => ?_, ⟨fun k1 k2 z1 z2 h1 h2 he => ?_, fun k z hz => ?_⟩⟩
  · obtain ⟨j, -, ⟨-, rfl⟩ | ⟨-, h⟩⟩ := key k z hz
    · exact p2 0 _ hq
    · exact p1 k z h
  · obtain ⟨j1, l1, c1⟩ := key k1 z1 h1
    obtain ⟨j2, l2, c2⟩ := key k2 z2 h2
    rcases c1 with ⟨e1, rfl⟩ | ⟨e1, c1⟩ <;> rcases c2 with ⟨e2, rfl⟩ | ⟨e2, c2⟩
    · subst e1; subst e2
      exact (List.getElem?_inj (List.getElem?_eq_some_iff.mp l1).1 hL).mp (l1.trans l2.symm)
    · exact absurd he.symm (hd k2 0 z2 (q, x) c2 hq)
    · exact absurd he (hd k1 0 z1 (q, x) c1 hq)
    · exact d1.1 k1 k2 z1 z2 c1 c2 he
  · obtain ⟨j, -, ⟨-, rfl⟩ | ⟨-, h⟩⟩ := key k z hz
    · exact d2.2 0 _ hq
    · exact d1.2 k z h
def sA (S : St) (k : Nat) (f : Nat → Int32) : St := (S.1, fun j => if j = k then f else S.2.1 j, S.2.2)
def zk (b : Nat) (Z : Zt) : Zt := (fun j => if j = b + 6 then 9216 else Z.1 j, Z.2)
theorem zk_cell {θ : TH} {ad Y : Nat → Nat} {S : St} {Z : Zt} {b q : Nat} (hb : b = 80 ∨ b = 300) : ∀ j ∈ LC Z, j ≠ b + 6 → adr ad (va_up Y (b + 6) q) j = adr ad Y j ∧ cellC θ ad (va_up Y (b + 6) q) (sA S (b + 6) (fun _ => 0)) (zk b Z) j = (if j = b + 19 then .inr (4, (objC ad Y S b 4).set 6 (.ref q)) else cellC θ ad Y S Z j) := by
  intro j _ hj
  refine ⟨by simp [adr, va_up, hj], ?_⟩
  by_cases ho : j % 20 = 19
  · unfold cellC
    rw [if_pos ho]
    by_cases hj2 : j = b + 19
    · subst hj2
      rw [if_pos rfl]
      have hc : clC (b + 19) = 4 := by rcases hb with rfl | rfl <;> rfl
      rw [hc, Nat.add_sub_cancel]
      unfold objC
      rw [map_set (f' := fun kf => fvC ad (va_up Y (b + 6) q) (sA S (b + 6) (fun _ => 0)) b ((KT 4).getD kf 0) kf)]
      intro kf
      by_cases hk : kf = 6
      · subst hk
        simp [fvC, KT, va_up]
      · rw [if_neg hk]
        unfold fvC
        have h1 : ¬ (1079 = b + 6) := by omega
        have h2 : ¬ (b + kf = b + 6) := by omega
        simp [sA, va_up, h1, hk]
    · rw [if_neg hj2, if_pos ho]
      unfold objC
      congr 2
      refine List.map_congr_left (fun kf hkf => ?_)
      have h1 := List.mem_range.mp hkf
      have h2 := KT_len (clC j)
      have h3 : ¬ (j - 19 + kf = b + 6) := by omega
      have h4 : ¬ (1079 = b + 6) := by omega
      unfold fvC
      simp [sA, va_up, h3, h4]
  · have hj2 : ¬ j = b + 19 := by omega
    rw [if_neg hj2]
    unfold cellC
    rw [if_neg ho, if_neg ho]
    have e1 : lnC (zk b Z) j = lnC Z j := by simp [lnC, zk, hj]
    have e2 : lawR (va_up Y (b + 6) q) (zk b Z) = lawR Y Z := by
      funext k
      have h : ¬ (1019 + 20 * k = b + 6) := by omega
      simp [lawR, zk, va_up, h]
    rw [e1, e2]
    simp [sA, hj]
theorem arr_id {E : GE} {own : String} {cc : ByteArray} {ret : Option FieldType} {h mc ms : Nat} (C : CX E own cc ret h mc ms) {cA : ClassId} {tys : List (ClassId × FieldType)} (hK : va_K (gt E).1 vwCl (tys ++ [(cA, .int)]) (gs E)) : cA = (gt E).2.1 := by
  have h1 : va_RA (gs E) cA .int := (hK.2 tys.length (cA, .int) (by rw [List.getElem?_append_right (Nat.le_refl _), Nat.sub_self]; rfl)).2
  have h2 : va_RA (gs E) (gt E).2.1 .int := (C.k.2 0 _ rfl).2
  exact Option.some.inj ((show (gs E).vm.findClass _ = some cA from h1).symm.trans h2)
theorem c_newkept {τ : Type} {E : GE} {cc : ByteArray} {ret : Option FieldType} {h mc ms : Nat} {T : τ → State → Prop} {k n : Nat} {lv : List (Nat × Value)} {st : List Value} {pc : Nat} {e : Option τ} {ad Y : Nat → Nat} {S : St} {Z : Zt} {b idx : Nat} (C : CX E RX4 cc ret h mc ms) (hb : b = 80 ∨ b = 300) (d1 : decode cc pc = .ok (.newarray .int, 2)) (hl : Cond.fieldLink RX4 idx "TwoMoons$Court" "kept" "[I" ∈ TB) (d2 : decode cc (pc + 2) = .ok (.putfield idx, 3)) (hk : k + 1 ≤ mc ∧ n + 9216 ≤ ms)
    (kk : ∀ Y' : Nat → Nat, Dk E T (k + 1) (n + 9216) (wdC (gt E) ad Y' (zk b Z) (sA S (b + 6) (fun _ => 0))) lv st (pc + 2 + 3) e) : Dk E T k n (wdC (gt E) ad Y Z S) lv (.int 9216 :: .ref (ad (b + 19)) :: st) pc e := by
  intro r hr H locs ls hP hD hS hv
  refine va_newa (atype := .int) C.x C.b (C.ts _ acl_I) (ty := .int) rfl C.k hP hD hS C.nw (a0 := (9216, .inl (fun _ => 0))) (fun cA => rfl) (by decide) rfl (Nat.le_of_ble_eq_true rfl) (by rw [C.rm.2.2.1]; exact hk.1) (by rw [C.rm.2.2.2]; exact hk.2) d1 (fun q cA H1 hK1 hP1 hD1 hS1 => ?_)
  have hcA := arr_id C hK1
  subst hcA
  have hm : b + 19 ∈ LC Z := LC_f (by rcases hb with rfl | rfl <;> decide)
  have hc : (b + 19) % 20 = 19 ∧ clC (b + 19) = 4 := by rcases hb with rfl | rfl <;> exact ⟨rfl, rfl⟩
  have ha : adr ad Y (b + 19) = ad (b + 19) := by rcases hb with rfl | rfl <;> rfl
  obtain ⟨p, hpi, hp⟩ := pl_get (ad := adr ad Y) (g := cellC (gt E) ad Y S Z) hm
  rw [cC_o hc, ha] at hp
  have hlt : p < (wdC (gt E) ad Y Z S).length := (List.getElem?_eq_some_iff.mp hp).1
  refine va_put (T := TX4) (C := RX4) (N := 11) C.x C.b C.ts lay_4 tyX4 tyX4_ok nmX4 C.ow C.k hP1 hD1 hS1 p (ci := 4) (fs := objC ad Y S b 4) (by rw [List.getElem?_append_left hlt]; exact hp) rfl 6 (by decide) (C.ts _ hl) (fun _ z => z) rfl (ty := .array .int) (by decide +kernel) rfl rfl (by rw [objC_len]; decide) d2 (fun H2 locs2 hP2 hD2 hS2 => ?_)
  have es : ∀ x : Nat × va_E, (wdC (gt E) ad Y Z S ++ [x]).set p (ad (b + 19), .inr (4, (objC ad Y S b 4).set 6 (.ref q))) = pl (adr ad Y) (LC Z) (fun j => if j = b + 19 then .inr (4, (objC ad Y S b 4).set 6 (.ref q)) else cellC (gt E) ad Y S Z j) ++ [x] := fun x => by
    rw [List.set_append_left _ _ hlt]
    congr 1
    rw [← ha]
    exact pl_set (LC_nd Z) hpi
  rw [es] at hP2 hD2
  have hx : cellC (gt E) ad (va_up Y (b + 6) q) (sA S (b + 6) (fun _ => 0)) (zk b Z) (b + 6) = .inl ((gt E).2.1, (9216, .inl (fun _ => 0))) := by
    rw [cC_i (N := 9216) (by omega) (by unfold lnC; rw [if_pos (by omega)]; simp [zk])]
    simp [sA]
  obtain ⟨hP3, hD3⟩ := pl_drop (ad' := adr ad (va_up Y (b + 6) q)) (LC_nd Z) (LC_f (by rcases hb with rfl | rfl <;> decide)) (by rcases hb with rfl | rfl <;> simp [adr, dynC, va_up]) (fun j hj hji => zk_cell hb j hj hji) hx hP2 hD2
  exact kk _ r hr H2 locs2 ls hP3 hD3 hS2 hv
