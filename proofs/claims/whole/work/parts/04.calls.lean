/-! contracts, calls, ends -/
def Rm (h mc ms : Nat) : Room := { frames := h, cells := mc, slots := ms, locals := 40 * h }
def Qp (θ : TH) (ws : va_W) (sz : Nat) (P : Option Value → va_W → Prop) : Array Value → State → Outcome → State → Prop := fun _ st oc t => (∃ (v : Option Value) (w : va_W), oc = .returned v ∧ P v w ∧ va_P θ.1 vwCl w t.heap ∧ va_K θ.1 vwCl (tyv θ) t ∧ va_D (va_A ws sz) w) ∧ va_F (va_A ws sz) st t
def Pw (θ : TH) (ws : va_W) (sz : Nat) (U : State) : Prop := U.heap.size = sz ∧ va_P θ.1 vwCl ws U.heap ∧ va_K θ.1 vwCl (tyv θ) U ∧ va_D (fun _ => True) ws ∧ SF (va_A ws sz) U U.heap
/-- method y, from the world ws: it returns, and its answer and its world are as P says -/
def Ct (l : Launch) (θ : TH) (y : MethodName) (cc : ByteArray) (nL : Nat) (ret : Option FieldType) (h mc ms : Nat) (argv : List Value) (ws : va_W) (P : Option Value → va_W → Prop) : Prop :=
  ∀ sz : Nat, Met l y (Cond.code y cc nL ret :: TB) (Rm h mc ms) (va_Pc argv (Pw θ ws sz)) (Qp θ ws sz P) mc ms (va_A ws sz)
def MR (E : GE) (ws0 : va_W) (P : Option Value → va_W → Prop) (mc ms : Nat) : State → Prop := MQ (gb E) (Qp (gt E) ws0 (gs E).heap.size P) (ga E) (gs E) mc ms (va_A ws0 (gs E).heap.size)
theorem Ct.of {l : Launch} {θ : TH} {y : MethodName} {cc : ByteArray} {nL : Nat} {ret : Option FieldType} {h mc ms : Nat} {argv : List Value} {ws : va_W} {P : Option Value → va_W → Prop} (hy : plainName y.cls = true) (harg : (lg_sl argv).length ≤ nL)
    (hb : ∀ X : GX, X.2.1 = l → CX (X, θ, va_A ws X.2.2.2.2.1.heap.size, nL) y.cls cc ret h mc ms → (y.name = "<init>" → X.2.2.2.2.2.2.2.2.1.name = "<init>") → G (X, θ, va_A ws X.2.2.2.2.1.heap.size, nL) (MR (X, θ, va_A ws X.2.2.2.2.1.heap.size, nL) ws P mc ms) 0 0 ws (lv_args 0 argv) [] 0) : Ct l θ y cc nL ret h mc ms argv ws P := by
  intro sz
  refine Met.ofW (cc := cc) (maxL := nL) (ret := ret) hy rfl ?_
  intro p e s m args below meth c s₁ B hml hv
  obtain ⟨rfl, hsz, hP, hK, hD, hF⟩ := hv
  subst hsz
  have hts := atoms_spec (ws := Cond.code y cc nL ret :: TB) B.pre
  have hin : y.name = "<init>" → meth.name = "<init>" := fun q => (name_of_methodNamed B.named B.method).1.trans q
  have hC : CX ((p, l, e, Rm h mc ms, s, m, argv.toArray, below, meth, c), θ, va_A ws s.heap.size, nL) y.cls cc ret h mc ms :=
    ⟨B.exec, B.bytes, B.returns, hml, findClass_of_methodNamed B.named, fun w hw => hts w (List.mem_cons_of_mem _ hw), B.notSynchronized, hK, hF, ⟨Nat.le_refl _, Nat.le_refl _, rfl, rfl⟩, fun q hq => Or.inr hq⟩
  have hl := lv_entry argv harg
  rw [lg_entry_eq]
  exact hb (p, l, e, Rm h mc ms, s, m, argv.toArray, below, meth, c) rfl hC hin s.heap [] _ hP (hD.self) va_S.rf hl
/-- the words of a method that is called -/
def MWv (C' : String) (y : MethodName) (cc : ByteArray) (nL : Nat) (ret : Option FieldType) (na : Nat) : Prop := (Cond.instanceMethod y ∈ TB ∧ Cond.selects C' y y ∈ TB ∧ Cond.initialized C' ∈ TB ∧ Cond.code y cc nL ret ∈ TB) ∧ y.cls = C' ∧ y.cls ≠ "java/lang/invoke/MethodHandle" ∧ y.cls ≠ "java/lang/invoke/VarHandle" ∧ (parseMethodDescriptor y.desc).map (fun d => d.parameters.length) = some na
def MWs (C' : String) (y : MethodName) (cc : ByteArray) (nL : Nat) (ret : Option FieldType) (na : Nat) : Prop := (Cond.static y ∈ TB ∧ Cond.initialized C' ∈ TB ∧ Cond.code y cc nL ret ∈ TB) ∧ y.cls = C' ∧ y.cls ≠ "java/lang/invoke/MethodHandle" ∧ y.cls ≠ "java/lang/invoke/VarHandle" ∧ (parseMethodDescriptor y.desc).map (fun d => d.parameters.length) = some na
def MWi (C' : String) (y : MethodName) (cc : ByteArray) (nL : Nat) (na : Nat) : Prop := (Cond.instanceMethod y ∈ TB ∧ Cond.initialized C' ∈ TB ∧ Cond.code y cc nL none ∈ TB) ∧ y.cls = C' ∧ y.name = "<init>" ∧ y.cls ≠ "java/lang/invoke/MethodHandle" ∧ y.cls ≠ "java/lang/invoke/VarHandle" ∧ (parseMethodDescriptor y.desc).map (fun d => d.parameters.length) = some na
theorem gGood : GoodIn TB TB := fun w h => ⟨h, good_of_word (TB_gd h)⟩
theorem gCode {y : MethodName} {cc : ByteArray} {nL : Nat} {ret : Option FieldType} (h : Cond.code y cc nL ret ∈ TB) : GoodIn TB (Cond.code y cc nL ret :: TB) := fun w hw => (List.mem_cons.mp hw).elim (fun q => q ▸ gGood _ h) (fun q => gGood _ q)
theorem blind {θ : TH} {ws : va_W} {sz : Nat} {argv : List Value} : FrameBlind (va_Pc argv (Pw θ ws sz)) := fun a U g mk q => by
  obtain ⟨q0, q1, qP, qK, qD, qF⟩ := q
  exact ⟨q0, q1, qP, va_K.moved (u := U) (U := U.calling g mk a) (Vm.Alike.refl U.vm) qK, qD, SF.moved (u := U) (U := U.calling g mk a) (Vm.Alike.refl U.vm) qF⟩
theorem fr_in {A : Nat → Prop} {D : va_G} {cl : List vw_C} {w1 w2 : va_W} {H : Heap} (hP : va_P D cl (w1 ++ w2) H) (hD : va_D A (w1 ++ w2)) : va_P D cl w1 H ∧ va_P D cl w2 H ∧ va_D A w1 ∧ va_D A w2 ∧ ∀ (i j : Nat) (p q : Nat × va_E), w1[i]? = some p → w2[j]? = some q → p.1 ≠ q.1 := by
  have l1 : ∀ {i : Nat} {p : Nat × va_E}, w1[i]? = some p → (w1 ++ w2)[i]? = some p := fun {i p} h => by rw [List.getElem?_append_left (List.getElem?_eq_some_iff.mp h).1]; exact h
  have l2 : ∀ {i : Nat} {p : Nat × va_E}, w2[i]? = some p → (w1 ++ w2)[w1.length + i]? = some p := fun {i p} h => by rw [List.getElem?_append_right (by omega), Nat.add_sub_cancel_left]; exact h
  have lt : ∀ {i : Nat} {p : Nat × va_E}, w1[i]? = some p → i < w1.length := fun {i p} h => (List.getElem?_eq_some_iff.mp h).1
  refine ⟨fun k q h => hP k q (l1 h), fun k q h => hP _ q (l2 h), ⟨fun i j p q hi hj hpq => hD.1 i j p q (l1 hi) (l1 hj) hpq, fun k q h => hD.2 k q (l1 h)⟩, ⟨fun i j p q hi hj hpq => ?_, fun k q h => hD.2 _ q (l2 h)⟩, fun i j p q hi hj hpq => ?_⟩
  · have h := hD.1 _ _ p q (l2 hi) (l2 hj) hpq
    omega
  · have h := hD.1 _ _ p q (l1 hi) (l2 hj) hpq
    have h2 := lt hi
    omega
/-- what a call may change is the caller's own -/
theorem fr_free {A : Nat → Prop} {w1 : va_W} {H0 H : Heap} {locs : List Loc} (hD : va_D A w1) (hS : va_S A H0 H locs) (hA : ∀ q, H0.size ≤ q → A q) : ∀ q, va_A w1 H.size q → A q := by
  intro q h
  rcases h with ⟨k, e, h⟩ | h
  · exact hD.2 k (q, e) h
  · exact hA q (Nat.le_trans hS.1 h)
theorem fr_out {A : Nat → Prop} {D : va_G} {cl : List vw_C} {w1 w2 w : va_W} {H H1 : Heap} (hP2 : va_P D cl w2 H) (hD2 : va_D A w2) (hx : ∀ (i j : Nat) (p q : Nat × va_E), w1[i]? = some p → w2[j]? = some q → p.1 ≠ q.1) (hk : ∀ q : Nat, q < H.size → ¬ va_A w1 H.size q → H1[q]? = H[q]?) (hF : ∀ q, va_A w1 H.size q → A q) (hP1 : va_P D cl w H1) (hD1 : va_D (va_A w1 H.size) w) :
    va_P D cl w2 H1 ∧ va_D A (w ++ w2) ∧ va_D A (w2 ++ w) := by
  have ap : ∀ (k : Nat) (q : Nat × va_E), w2[k]? = some q → q.1 < H.size ∧ ¬ va_A w1 H.size q.1 := by
    intro k q hq
    have hl := (hP2 k q hq).lt
    refine ⟨hl, fun h => ?_⟩
    rcases h with ⟨k2, e, h⟩ | h
    · exact hx k2 k (q.1, e) q h hq rfl
    · omega
  have hw : va_D A w := hD1.weaken (fun _ q _ h => hF q.1 h)
  refine ⟨fun k q hq => (hP2 k q hq).kept (hk q.1 (ap k q hq).1 (ap k q hq).2), va_D.app hw hD2 (fun i j p q hi hj hpq => (ap j q hj).2 (hpq ▸ hD1.2 i p hi)), va_D.app hD2 hw (fun i j p q hi hj hpq => (ap i p hi).2 (hpq ▸ hD1.2 j q hj))⟩
section Calls
variable {E : GE} {own : String} {cc : ByteArray} {ret : Option FieldType} {h mc ms : Nat} {Q : State → Prop} {k n : Nat} {ws w1 w2 : va_W} {lv : List (Nat × Value)} {st st0 rest As : List Value} {pc : Nat}
variable {y : MethodName} {cc' : ByteArray} {nL' : Nat} {ret' : Option FieldType} {h' mc' ms' na idx : Nat} {C' : String} {b : Addr} {P' : Option Value → va_W → Prop} {a : Array Value}
/-- behind a call; its world is a part of the caller's (o: how the rest lies beside it) -/
theorem call_end (o : va_W → va_W) (ho : (o = fun w => w) ∧ w1 = ws ∨ (∃ w2 : va_W, ws = w1 ++ w2 ∧ o = fun w => w ++ w2) ∨ ∃ w2 : va_W, ws = w2 ++ w1 ∧ o = fun w => w2 ++ w) (C : CX E own cc ret h mc ms) {H : Heap} {locs : List Loc} {ls : Array Slot} (hP : va_P (gt E).1 vwCl ws H) (hD : va_D (gA E) ws) (hS : va_S (gA E) (gs E).heap H locs) (hv : lv_has ls (gn E) lv)
    (hr : va_Run (gp E) (gl E) (ge E) (gR E) (gs E) (gm E) (ga E) (gb E) (gM E) (gc E) H locs k n mc' ms' (F0 (gm E) pc ls st0) rest (Qp (gt E) w1 H.size P' a) (va_A w1 H.size))
    (kk : ∀ (v : Option Value) (w : va_W), P' v w → G E Q (k + mc') (n + ms') (o w) lv (v.toList ++ rest) (pc + 3)) : W (gp E) (gl E) (ge E) (gR E) (gs E) (gm E) (ga E) (gb E) (gM E) (gc E) H locs k n Q (F0 (gm E) pc ls st0) := by
  intro T hT X
  obtain ⟨v, st₀, t, T', L, h0, X', hL, e1, e2, ⟨⟨v', w, hv', hp, hPw, hKt, hDw⟩, hz, hk⟩, st⟩ := hr T hT X
  cases hv'
  rw [h0] at hz hk
  have key : (∀ q, va_A w1 H.size q → gA E q) ∧ va_P (gt E).1 vwCl (o w) T'.heap ∧ va_D (gA E) (o w) := by
    rw [← e1] at hPw hk
    rcases ho with ⟨rfl, rfl⟩ | ⟨w2, rfl, rfl⟩ | ⟨w2, rfl, rfl⟩
    · have hF := fr_free hD hS C.nw
      exact ⟨hF, hPw, hDw.weaken (fun _ q _ h => hF q.1 h)⟩
    · obtain ⟨p1, p2, d1, d2, hx⟩ := fr_in hP hD
      have hF := fr_free d1 hS C.nw
      obtain ⟨z1, z2, -⟩ := fr_out p2 d2 hx hk hF hPw hDw
      exact ⟨hF, va_P.app hPw z1, z2⟩
    · obtain ⟨p2, p1, d2, d1, hx⟩ := fr_in hP hD
      have hF := fr_free d1 hS C.nw
      obtain ⟨z1, -, z2⟩ := fr_out p2 d2 (fun i j p q hi hj hpq => hx j i q p hj hi hpq.symm) hk hF hPw hDw
      exact ⟨hF, va_P.app z1 hPw, z2⟩
  obtain ⟨hF, kP, kD⟩ := key
  obtain ⟨t2, a1, b1⟩ := kk v w hp T'.heap (locs ++ L) ls kP kD
    ⟨Nat.le_trans hS.1 (by rw [e1]; exact hz), fun q h1 h2 => by rw [e1, hk q (Nat.lt_of_lt_of_le h1 hS.1) (fun z => h2 (hF q z))]; exact hS.2.1 q h1 h2, fun q hq => by
      rcases List.mem_append.mp hq with h | h
      · exact hS.2.2 q h
      · exact hF _ (hL q h)⟩ hv T' rfl X'
  exact ⟨t2, st t2 a1, b1⟩
/-- what holds ahead of a call, of the part that goes along -/
theorem call_pre {As : List Value} (C : CX E own cc ret h mc ms) {H : Heap} {locs : List Loc} (hP : va_P (gt E).1 vwCl w1 H) (hD : va_D (gA E) w1) (hS : va_S (gA E) (gs E).heap H locs) (U : State) (hU : U.heap = H) (hW : (gs E).WarmedH U.vm) : va_Pc As (Pw (gt E) w1 H.size) As.toArray U :=
  ⟨rfl, by rw [hU], by rw [hU]; exact hP, va_K.moved hW.alike C.k, hD.weaken (fun _ _ _ _ => trivial), by rw [hU]; exact ((C.sf.kept (fun q h1 h2 => hS.2.1 q h1 h2)).narrow (fr_free hD hS C.nw)).moved hW.alike⟩
theorem call_part (o : va_W → va_W) (ho : (o = fun w => w) ∧ w1 = ws ∨ (∃ w2 : va_W, ws = w1 ++ w2 ∧ o = fun w => w ++ w2) ∨ ∃ w2 : va_W, ws = w2 ++ w1 ∧ o = fun w => w2 ++ w) {D : va_G} {A : Nat → Prop} {H : Heap} (hP : va_P D vwCl ws H) (hD : va_D A ws) : va_P D vwCl w1 H ∧ va_D A w1 := by
  rcases ho with ⟨rfl, rfl⟩ | ⟨w2, rfl, rfl⟩ | ⟨w2, rfl, rfl⟩
  · exact ⟨hP, hD⟩
  · exact ⟨(fr_in hP hD).1, (fr_in hP hD).2.2.1⟩
  · exact ⟨(fr_in hP hD).2.1, (fr_in hP hD).2.2.2.1⟩
theorem g_callV (o : va_W → va_W) (ho : (o = fun w => w) ∧ w1 = ws ∨ (∃ w2 : va_W, ws = w1 ++ w2 ∧ o = fun w => w ++ w2) ∨ ∃ w2 : va_W, ws = w2 ++ w1 ∧ o = fun w => w2 ++ w) (C : CX E own cc ret h mc ms) (hc : Ct (gl E) (gt E) y cc' nL' ret' h' mc' ms' (.ref b :: As) w1 P') (hw : MWv C' y cc' nL' ret' na) (hl : Cond.methodLink own idx y ∈ TB) (hn : As.length = na)
    (hh : h' + 1 ≤ h ∧ nL' ≤ 21) (hrv : ∃ (q0 ci : Nat) (fs : List Value) (q : vw_C), w1[q0]? = some (b, .inr (ci, fs)) ∧ vwCl[ci]? = some q ∧ q.1 = C') (hst : st = As.reverse ++ .ref b :: rest) (hrest : (rest.map fun v => v.category).sum ≤ 8) (d : decode cc pc = .ok (.invokevirtual idx, 3)) (hk : k + mc' ≤ mc ∧ n + ms' ≤ ms)
    (kk : ∀ (v : Option Value) (w : va_W), P' v w → G E Q (k + mc') (n + ms') (o w) lv (v.toList ++ rest) (pc + 3)) : G E Q k n ws lv st pc := by
  intro H locs ls hP hD hS hv
  obtain ⟨p1, d1⟩ := call_part o ho hP hD
  obtain ⟨⟨hw1, hw2, hw3, hw4⟩, hd⟩ := hw
  subst hst
  refine call_end o ho C hP hD hS hv (va_runV (As := As) (rest := rest) ⟨C.x, C.b, C.ml, C.ow, C.ts⟩ (hc H.size) (cwV na C.ts (fun w hw => ?_) rfl rfl rfl hd ⟨Nat.le_trans hh.1 C.rm.1, ?_⟩) ⟨blind, ?_, fun U hU hW => call_pre C p1 d1 hS U hU hW⟩ rfl hn hv.1 rfl (lv_room hrest) d ⟨by rw [C.rm.2.2.1]; exact hk.1, by rw [C.rm.2.2.2]; exact hk.2⟩) kk
  · rcases List.mem_append.mp hw with h | h
    · simp only [List.mem_cons, List.not_mem_nil, or_false] at h
      rcases h with rfl | rfl | rfl | rfl
      · exact gGood _ hl
      · exact gGood _ hw1
      · exact gGood _ hw2
      · exact gGood _ hw3
    · exact gCode hw4 w h
  · have h1 := C.rm.2.1
    show 8 + (nL' + 11) + 40 * h' ≤ (gR E).locals
    omega
  · obtain ⟨q0, ci, fs, q, r1, r2, r3⟩ := hrv
    have r := va_recv C.k p1 r2 r1
    rw [r3] at r
    exact r
theorem g_callS (o : va_W → va_W) (ho : (o = fun w => w) ∧ w1 = ws ∨ (∃ w2 : va_W, ws = w1 ++ w2 ∧ o = fun w => w ++ w2) ∨ ∃ w2 : va_W, ws = w2 ++ w1 ∧ o = fun w => w2 ++ w) (C : CX E own cc ret h mc ms) (hc : Ct (gl E) (gt E) y cc' nL' ret' h' mc' ms' As w1 P') (hw : MWs C' y cc' nL' ret' na) (hl : Cond.methodLink own idx y ∈ TB) (hn : As.length = na)
    (hh : h' + 1 ≤ h ∧ nL' ≤ 21) (hst : st = As.reverse ++ rest) (hrest : (rest.map fun v => v.category).sum ≤ 8) (d : decode cc pc = .ok (.invokestatic idx, 3)) (hk : k + mc' ≤ mc ∧ n + ms' ≤ ms)
    (kk : ∀ (v : Option Value) (w : va_W), P' v w → G E Q (k + mc') (n + ms') (o w) lv (v.toList ++ rest) (pc + 3)) : G E Q k n ws lv st pc := by
  intro H locs ls hP hD hS hv
  obtain ⟨p1, d1⟩ := call_part o ho hP hD
  obtain ⟨⟨hw1, hw3, hw4⟩, hcl, hd1, hd2, hd3⟩ := hw
  subst hst
  have hB : CallB (gR E) (gs E) (ga E) own idx y cc' nL' ret' (Cond.code y cc' nL' ret' :: TB) (Rm h' mc' ms') mc' ms' na := callB_of na C.ts (gCode hw4) rfl rfl rfl (hcl ▸ C.ts _ hw3) (C.ts _ hl) ⟨hd1, hd2, hd3⟩ ⟨Nat.le_trans hh.1 C.rm.1, by
    have h1 := C.rm.2.1
    show 8 + (nL' + 11) + 40 * h' ≤ (gR E).locals
    omega⟩
  exact call_end o ho C hP hD hS hv (va_runS (As := As) (rest := rest) ⟨C.x, C.b, C.ml, C.ow, C.ts⟩ (hc H.size) ⟨hB, C.ts _ hw1⟩ ⟨blind, fun U hU hW => call_pre C p1 d1 hS U hU hW⟩ rfl hn hv.1 rfl (lv_room hrest) d ⟨by rw [C.rm.2.2.1]; exact hk.1, by rw [C.rm.2.2.2]; exact hk.2⟩) kk
theorem g_callI (o : va_W → va_W) (ho : (o = fun w => w) ∧ w1 = ws ∨ (∃ w2 : va_W, ws = w1 ++ w2 ∧ o = fun w => w ++ w2) ∨ ∃ w2 : va_W, ws = w2 ++ w1 ∧ o = fun w => w2 ++ w) (C : CX E own cc ret h mc ms) (hc : Ct (gl E) (gt E) y cc' nL' none h' mc' ms' (.ref b :: As) w1 P') (hw : MWi C' y cc' nL' na) (hl : Cond.methodLink own idx y ∈ TB) (hn : As.length = na)
    (hh : h' + 1 ≤ h ∧ nL' ≤ 21) (hst : st = As.reverse ++ .ref b :: rest) (hrest : (rest.map fun v => v.category).sum ≤ 8) (d : decode cc pc = .ok (.invokespecial idx, 3)) (hk : k + mc' ≤ mc ∧ n + ms' ≤ ms)
    (kk : ∀ (v : Option Value) (w : va_W), P' v w → G E Q (k + mc') (n + ms') (o w) lv (v.toList ++ rest) (pc + 3)) : G E Q k n ws lv st pc := by
  intro H locs ls hP hD hS hv
  obtain ⟨p1, d1⟩ := call_part o ho hP hD
  obtain ⟨⟨hw1, hw3, hw4⟩, hcl, hni, hd1, hd2, hd3⟩ := hw
  subst hst
  have hB : CallB (gR E) (gs E) (ga E) own idx y cc' nL' none (Cond.code y cc' nL' none :: TB) (Rm h' mc' ms') mc' ms' na := callB_of na C.ts (gCode hw4) rfl rfl rfl (hcl ▸ C.ts _ hw3) (C.ts _ hl) ⟨hd1, hd2, hd3⟩ ⟨Nat.le_trans hh.1 C.rm.1, by
    have h1 := C.rm.2.1
    show 8 + (nL' + 11) + 40 * h' ≤ (gR E).locals
    omega⟩
  exact call_end o ho C hP hD hS hv (va_runI (As := As) (rest := rest) ⟨C.x, C.b, C.ml, C.ow, C.ts⟩ (hc H.size) ⟨hB, hni, C.ts _ hw1⟩ ⟨blind, fun U hU hW => call_pre C p1 d1 hS U hU hW⟩ rfl hn hv.1 rfl (lv_room hrest) d ⟨by rw [C.rm.2.2.1]; exact hk.1, by rw [C.rm.2.2.2]; exact hk.2⟩) kk
end Calls
section Ends
variable {τ : Type} {X : GX} {θ : TH} {nL : Nat} {own : String} {cc : ByteArray} {ret : Option FieldType} {h mc ms : Nat} {k n : Nat} {ws ws0 : va_W} {lv : List (Nat × Value)} {pc : Nat} {P : τ → Option Value → va_W → Prop} {r0 : τ}
theorem k_iret {x : Int32} {ty : FieldType} (C : CX (X, θ, va_A ws0 X.2.2.2.2.1.heap.size, nL) own cc (some ty) h mc ms) (hty : narrow ty (.int x) = .int x) (hp : P r0 (some (.int x)) ws) (d : decode cc pc = .ok (.ireturn, 1)) : Dk (X, θ, va_A ws0 X.2.2.2.2.1.heap.size, nL) (fun r => MR (X, θ, va_A ws0 X.2.2.2.2.1.heap.size, nL) ws0 (P r) k n) k n ws lv [.int x] pc (some r0) := by
  intro r hr
  cases hr
  intro H locs ls hP hD hS hv
  exact W.zret C.x C.b C.r hty (fun t ht hW => ⟨⟨some (.int x), ws, rfl, hp, by rw [ht]; exact hP, va_K.moved hW.alike C.k, hD⟩, hS.F ht⟩) hS.2.2 d C.lk
theorem k_lret {x : Int64} (C : CX (X, θ, va_A ws0 X.2.2.2.2.1.heap.size, nL) own cc (some .long) h mc ms) (hp : P r0 (some (.long x)) ws) (d : decode cc pc = .ok (.lreturn, 1)) : Dk (X, θ, va_A ws0 X.2.2.2.2.1.heap.size, nL) (fun r => MR (X, θ, va_A ws0 X.2.2.2.2.1.heap.size, nL) ws0 (P r) k n) k n ws lv [.long x] pc (some r0) := by
  intro r hr
  cases hr
  intro H locs ls hP hD hS hv
  exact W.lret C.x C.b C.r (fun t ht hW => ⟨⟨some (.long x), ws, rfl, hp, by rw [ht]; exact hP, va_K.moved hW.alike C.k, hD⟩, hS.F ht⟩) hS.2.2 d C.lk
theorem k_vret (C : CX (X, θ, va_A ws0 X.2.2.2.2.1.heap.size, nL) own cc none h mc ms) (hp : P r0 none ws) (d : decode cc pc = .ok (.return_, 1)) : Dk (X, θ, va_A ws0 X.2.2.2.2.1.heap.size, nL) (fun r => MR (X, θ, va_A ws0 X.2.2.2.2.1.heap.size, nL) ws0 (P r) k n) k n ws lv [] pc (some r0) := by
  intro r hr
  cases hr
  intro H locs ls hP hD hS hv
  exact W.vret C.x C.b C.r (fun t ht hW => ⟨⟨none, ws, rfl, hp, by rw [ht]; exact hP, va_K.moved hW.alike C.k, hD⟩, hS.F ht⟩) hS.2.2 d C.lk
theorem k_aret {v : Value} {rt : FieldType} (C : CX (X, θ, va_A ws0 X.2.2.2.2.1.heap.size, nL) own cc (some rt) h mc ms) (hrt : (∃ n, rt = .object n) ∨ ∃ t, rt = .array t) (hv0 : v = .null ∨ ∃ a, v = .ref a) (hp : P r0 (some v) ws) (d : decode cc pc = .ok (.areturn, 1)) : Dk (X, θ, va_A ws0 X.2.2.2.2.1.heap.size, nL) (fun r => MR (X, θ, va_A ws0 X.2.2.2.2.1.heap.size, nL) ws0 (P r) k n) k n ws lv [v] pc (some r0) := by
  intro r hr
  cases hr
  intro H locs ls hP hD hS hv
  exact W.aret C.x C.b C.r hrt hv0 (fun t ht hW => ⟨⟨some v, ws, rfl, hp, by rw [ht]; exact hP, va_K.moved hW.alike C.k, hD⟩, hS.F ht⟩) hS.2.2 d C.lk
end Ends
abbrev mE (X : GX) (θ : TH) (ws0 : va_W) (nL : Nat) : GE := (X, θ, va_A ws0 X.2.2.2.2.1.heap.size, nL)
abbrev mT {τ : Type} (X : GX) (θ : TH) (ws0 : va_W) (nL : Nat) (P : τ → Option Value → va_W → Prop) : τ → State → Prop := fun r => MR (mE X θ ws0 nL) ws0 (P r) 0 0
abbrev PI (wv : va_W) : Int32 → Option Value → va_W → Prop := fun r v w => v = some (.int r) ∧ w = wv
abbrev PL (wv : va_W) : Int64 → Option Value → va_W → Prop := fun r v w => v = some (.long r) ∧ w = wv
abbrev PIS {σ : Type} (wd : σ → va_W) : Int32 × σ → Option Value → va_W → Prop := fun r v w => v = some (.int r.1) ∧ w = wd r.2
abbrev PLS {σ : Type} (wd : σ → va_W) : Int64 × σ → Option Value → va_W → Prop := fun r v w => v = some (.long r.1) ∧ w = wd r.2
abbrev PVS {σ : Type} (wd : σ → va_W) : σ → Option Value → va_W → Prop := fun r v w => v = none ∧ w = wd r
def lti {α τ : Type} (v : α) (K : α → Option τ) : Option τ := K v
def isb (x : Int32) : Bool := decide (x = 0 ∨ x = 1)
def nz (x : Int32) : Bool := decide (¬ x = 0)
def nzl (x : Int64) : Bool := decide (¬ x = 0)
theorem isb_n {x : Int32} (h : isb x = true) : narrow .boolean (.int x) = .int x := by
  rcases of_decide_eq_true h with rfl | rfl <;> rfl
theorem i32ne {x c : Int32} (h : ¬ x = c) {z : Int} (hz : c.toInt = z) : ¬ x.toInt = z := fun e => h (Int32.toInt_inj.mp (e.trans hz.symm))
section CallRows
variable {τ ρ : Type} {E : GE} {own : String} {cc : ByteArray} {ret : Option FieldType} {h mc ms : Nat} {T : τ → State → Prop} {k n : Nat} {ws : va_W} {lv : List (Nat × Value)} {st rest As : List Value} {pc : Nat} {e1 : Option ρ} {K : ρ → Option τ}
variable {y : MethodName} {cc' : ByteArray} {nL' : Nat} {ret' : Option FieldType} {h' na idx : Nat} {C' : String} {b : Addr} {iv : ρ → Int32} {jv : ρ → Int64} {wv : ρ → va_W}
theorem bind_some {e1 : Option ρ} {K : ρ → Option τ} {r : τ} (h : e1.bind K = some r) : ∃ a, e1 = some a ∧ K a = some r := Option.bind_eq_some_iff.mp h
theorem k_lti {α : Type} {v : α} {f : α → Value} {K : α → Option τ} (kk : ∀ y : α, Dk E T k n ws lv (f y :: rest) pc (K y)) : Dk E T k n ws lv (f v :: rest) pc (lti v K) := kk v
theorem k_cVI (C : CX E own cc ret h mc ms) (hc : ∀ r, e1 = some r → Ct (gl E) (gt E) y cc' nL' ret' h' 0 0 (.ref b :: As) ws (fun v w => v = some (.int (iv r)) ∧ w = wv r)) (hw : MWv C' y cc' nL' ret' na) (hl : Cond.methodLink own idx y ∈ TB) (hn : As.length = na) (hh : h' + 1 ≤ h ∧ nL' ≤ 21) (hrv : ∃ (q0 ci : Nat) (fs : List Value) (q : vw_C), ws[q0]? = some (b, .inr (ci, fs)) ∧ vwCl[ci]? = some q ∧ q.1 = C') (hst : st = As.reverse ++ .ref b :: rest) (hrest : (rest.map fun v => v.category).sum ≤ 8) (d : decode cc pc = .ok (.invokevirtual idx, 3)) (hk : k ≤ mc ∧ n ≤ ms)
    (kk : ∀ r, e1 = some r → Dk E T k n (wv r) lv (.int (iv r) :: rest) (pc + 3) (K r)) : Dk E T k n ws lv st pc (e1.bind K) := by
  intro r hr
  obtain ⟨a, ha, hr⟩ := bind_some hr
  exact g_callV (fun w => w) (Or.inl ⟨rfl, rfl⟩) C (hc a ha) hw hl hn hh hrv hst hrest d hk (fun v w hp => by obtain ⟨rfl, rfl⟩ := hp; exact kk a ha r hr)
theorem k_cVL (C : CX E own cc ret h mc ms) (hc : ∀ r, e1 = some r → Ct (gl E) (gt E) y cc' nL' ret' h' 0 0 (.ref b :: As) ws (fun v w => v = some (.long (jv r)) ∧ w = wv r)) (hw : MWv C' y cc' nL' ret' na) (hl : Cond.methodLink own idx y ∈ TB) (hn : As.length = na) (hh : h' + 1 ≤ h ∧ nL' ≤ 21) (hrv : ∃ (q0 ci : Nat) (fs : List Value) (q : vw_C), ws[q0]? = some (b, .inr (ci, fs)) ∧ vwCl[ci]? = some q ∧ q.1 = C') (hst : st = As.reverse ++ .ref b :: rest) (hrest : (rest.map fun v => v.category).sum ≤ 8) (d : decode cc pc = .ok (.invokevirtual idx, 3)) (hk : k ≤ mc ∧ n ≤ ms)
    (kk : ∀ r, e1 = some r → Dk E T k n (wv r) lv (.long (jv r) :: rest) (pc + 3) (K r)) : Dk E T k n ws lv st pc (e1.bind K) := by
  intro r hr
  obtain ⟨a, ha, hr⟩ := bind_some hr
  exact g_callV (fun w => w) (Or.inl ⟨rfl, rfl⟩) C (hc a ha) hw hl hn hh hrv hst hrest d hk (fun v w hp => by obtain ⟨rfl, rfl⟩ := hp; exact kk a ha r hr)
theorem k_cVV (C : CX E own cc ret h mc ms) (hc : ∀ r, e1 = some r → Ct (gl E) (gt E) y cc' nL' ret' h' 0 0 (.ref b :: As) ws (fun v w => v = none ∧ w = wv r)) (hw : MWv C' y cc' nL' ret' na) (hl : Cond.methodLink own idx y ∈ TB) (hn : As.length = na) (hh : h' + 1 ≤ h ∧ nL' ≤ 21) (hrv : ∃ (q0 ci : Nat) (fs : List Value) (q : vw_C), ws[q0]? = some (b, .inr (ci, fs)) ∧ vwCl[ci]? = some q ∧ q.1 = C') (hst : st = As.reverse ++ .ref b :: rest) (hrest : (rest.map fun v => v.category).sum ≤ 8) (d : decode cc pc = .ok (.invokevirtual idx, 3)) (hk : k ≤ mc ∧ n ≤ ms)
    (kk : ∀ r, e1 = some r → Dk E T k n (wv r) lv rest (pc + 3) (K r)) : Dk E T k n ws lv st pc (e1.bind K) := by
  intro r hr
  obtain ⟨a, ha, hr⟩ := bind_some hr
  exact g_callV (fun w => w) (Or.inl ⟨rfl, rfl⟩) C (hc a ha) hw hl hn hh hrv hst hrest d hk (fun v w hp => by obtain ⟨rfl, rfl⟩ := hp; exact kk a ha r hr)
theorem k_cSI (C : CX E own cc ret h mc ms) (hc : ∀ r, e1 = some r → Ct (gl E) (gt E) y cc' nL' ret' h' 0 0 As ws (fun v w => v = some (.int (iv r)) ∧ w = wv r)) (hw : MWs C' y cc' nL' ret' na) (hl : Cond.methodLink own idx y ∈ TB) (hn : As.length = na) (hh : h' + 1 ≤ h ∧ nL' ≤ 21) (hst : st = As.reverse ++ rest) (hrest : (rest.map fun v => v.category).sum ≤ 8) (d : decode cc pc = .ok (.invokestatic idx, 3)) (hk : k ≤ mc ∧ n ≤ ms)
    (kk : ∀ r, e1 = some r → Dk E T k n (wv r) lv (.int (iv r) :: rest) (pc + 3) (K r)) : Dk E T k n ws lv st pc (e1.bind K) := by
  intro r hr
  obtain ⟨a, ha, hr⟩ := bind_some hr
  exact g_callS (fun w => w) (Or.inl ⟨rfl, rfl⟩) C (hc a ha) hw hl hn hh hst hrest d hk (fun v w hp => by obtain ⟨rfl, rfl⟩ := hp; exact kk a ha r hr)
theorem k_cSL (C : CX E own cc ret h mc ms) (hc : ∀ r, e1 = some r → Ct (gl E) (gt E) y cc' nL' ret' h' 0 0 As ws (fun v w => v = some (.long (jv r)) ∧ w = wv r)) (hw : MWs C' y cc' nL' ret' na) (hl : Cond.methodLink own idx y ∈ TB) (hn : As.length = na) (hh : h' + 1 ≤ h ∧ nL' ≤ 21) (hst : st = As.reverse ++ rest) (hrest : (rest.map fun v => v.category).sum ≤ 8) (d : decode cc pc = .ok (.invokestatic idx, 3)) (hk : k ≤ mc ∧ n ≤ ms)
    (kk : ∀ r, e1 = some r → Dk E T k n (wv r) lv (.long (jv r) :: rest) (pc + 3) (K r)) : Dk E T k n ws lv st pc (e1.bind K) := by
  intro r hr
  obtain ⟨a, ha, hr⟩ := bind_some hr
  exact g_callS (fun w => w) (Or.inl ⟨rfl, rfl⟩) C (hc a ha) hw hl hn hh hst hrest d hk (fun v w hp => by obtain ⟨rfl, rfl⟩ := hp; exact kk a ha r hr)
theorem k_cSV (C : CX E own cc ret h mc ms) (hc : ∀ r, e1 = some r → Ct (gl E) (gt E) y cc' nL' ret' h' 0 0 As ws (fun v w => v = none ∧ w = wv r)) (hw : MWs C' y cc' nL' ret' na) (hl : Cond.methodLink own idx y ∈ TB) (hn : As.length = na) (hh : h' + 1 ≤ h ∧ nL' ≤ 21) (hst : st = As.reverse ++ rest) (hrest : (rest.map fun v => v.category).sum ≤ 8) (d : decode cc pc = .ok (.invokestatic idx, 3)) (hk : k ≤ mc ∧ n ≤ ms)
    (kk : ∀ r, e1 = some r → Dk E T k n (wv r) lv rest (pc + 3) (K r)) : Dk E T k n ws lv st pc (e1.bind K) := by
  intro r hr
  obtain ⟨a, ha, hr⟩ := bind_some hr
  exact g_callS (fun w => w) (Or.inl ⟨rfl, rfl⟩) C (hc a ha) hw hl hn hh hst hrest d hk (fun v w hp => by obtain ⟨rfl, rfl⟩ := hp; exact kk a ha r hr)
theorem k_idivc (C : CX E own cc ret h mc ms) {e : Option τ} {x y : Int32} (d : decode cc pc = .ok (.idiv, 1)) (kk : Dk E T k n ws lv (.int (x / y) :: st) (pc + 1) e) : Dk E T k n ws lv (.int y :: .int x :: st) pc (chk (nz y) e) := k_chk fun hb => k_idiv C d (of_decide_eq_true hb) kk
theorem k_iremc (C : CX E own cc ret h mc ms) {e : Option τ} {x y : Int32} (d : decode cc pc = .ok (.irem, 1)) (kk : Dk E T k n ws lv (.int (jrem x y) :: st) (pc + 1) e) : Dk E T k n ws lv (.int y :: .int x :: st) pc (chk (nz y) e) := k_chk fun hb => k_irem C d (of_decide_eq_true hb) kk
theorem k_ldivc (C : CX E own cc ret h mc ms) {e : Option τ} {x y : Int64} (d : decode cc pc = .ok (.ldiv, 1)) (kk : Dk E T k n ws lv (.long (x / y) :: st) (pc + 1) e) : Dk E T k n ws lv (.long y :: .long x :: st) pc (chk (nzl y) e) := k_chk fun hb => k_ldiv C d (of_decide_eq_true hb) kk
end CallRows
theorem k_zretc {τ : Type} {X : GX} {θ : TH} {nL : Nat} {own : String} {cc : ByteArray} {h mc ms : Nat} {k n : Nat} {ws ws0 : va_W} {lv : List (Nat × Value)} {pc : Nat} {P : τ → Option Value → va_W → Prop} {r0 : τ} {x : Int32} (C : CX (X, θ, va_A ws0 X.2.2.2.2.1.heap.size, nL) own cc (some .boolean) h mc ms) (hp : P r0 (some (.int x)) ws) (d : decode cc pc = .ok (.ireturn, 1)) : Dk (X, θ, va_A ws0 X.2.2.2.2.1.heap.size, nL) (fun r => MR (X, θ, va_A ws0 X.2.2.2.2.1.heap.size, nL) ws0 (P r) k n) k n ws lv [.int x] pc (chk (isb x) (some r0)) := k_chk fun hb => k_iret C (isb_n hb) hp d
