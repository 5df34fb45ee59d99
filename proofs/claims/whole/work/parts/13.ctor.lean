/-! makers: worlds as lists of cells -/
theorem oi_i : Cond.instanceMethod objectInit ∈ TB := TB_1 23 rfl rfl
theorem oi_c : Cond.code objectInit ⟨#[0xb1]⟩ 1 none ∈ TB := TB_1 24 rfl rfl
section LRows
variable {τ : Type} {E : GE} {own cn : String} {cc : ByteArray} {ret : Option FieldType} {h mc ms : Nat} {T : τ → State → Prop} {k n : Nat} {ws ws' : va_W} {lv lv' : List (Nat × Value)} {st rest As : List Value} {pc : Nat} {e e1 e2 : Option τ} {kf idx ci N : Nat} {Tf : u_T} {a : Nat} {fs : List Value}
theorem Dk.wsq (hw : ws = ws') (kk : Dk E T k n ws' lv st pc e) : Dk E T k n ws lv st pc e := hw ▸ kk
theorem l_oi (C : CX E own cc ret h mc ms) (hl : Cond.methodLink own idx objectInit ∈ TB) (hh : 1 ≤ h) (hrest : (st.map fun v => v.category).sum ≤ 8) (d : decode cc pc = .ok (.invokespecial idx, 3)) (kk : Dk E T k n ws lv st (pc + 3) e) : Dk E T k n ws lv (.ref a :: st) pc e := by
  intro r hr H locs ls hP hD hS hv
  have h1 := C.rm.2.1
  refine W.objInit C.x C.b C.ow (C.ts _ hl) (C.ts _ oi_i) (C.ts _ oi_c) rfl (hv.1.trans C.ml.symm) rfl d (Nat.le_trans hh C.rm.1) ?_ (kk r hr H locs ls hP hD hS hv)
  have h2 := lv_room (m := gm E) (pc := pc) (ls := ls) (rest := .ref a :: st) hrest
  omega
theorem l_get (C : CX E own cc ret h mc ms) (q0 : Nat) {v : Value} (he : ws[q0]? = some (a, .inr (ci, fs))) (hc : vwCl[ci]? = some (cn, Tf, N)) (hin : ∀ w ∈ u_ws cn Tf N, w ∈ TB) (hk : kf < N) (hl : Cond.fieldLink own idx (Tf kf).1 (Tf kf).2.1 (Tf kf).2.2.1 ∈ TB) (hv0 : fs[kf]? = some v) (d : decode cc pc = .ok (.getfield idx, 3)) (kk : Dk E T k n ws lv (v :: st) (pc + 3) e) : Dk E T k n ws lv (.ref a :: st) pc e := fun r hr H locs ls hP hD hS hv =>
  va_get (T := Tf) C.x C.b C.ts hin C.ow C.k hP q0 he hc kf hk (C.ts _ hl) (fun _ z => z) hv0 d (kk r hr H locs ls hP hD hS hv)
theorem l_put (C : CX E own cc ret h mc ms) (q0 : Nat) {v : Value} {ty : FieldType} (he : ws[q0]? = some (a, .inr (ci, fs))) (hc : vwCl[ci]? = some (cn, Tf, N)) (hin : ∀ w ∈ u_ws cn Tf N, w ∈ TB) (ty0 : Nat → FieldType) (hty : ∀ k, k < N → parseFieldDescriptor (Tf k).2.2.1 = some (ty0 k)) (hnm : ∀ a, a < N → ∀ b, b < N → a ≠ b → (Tf a).2.1 ≠ (Tf b).2.1) (hk : kf < N) (hl : Cond.fieldLink own idx (Tf kf).1 (Tf kf).2.1 (Tf kf).2.2.1 ∈ TB) (hfin : (Tf kf).2.2.2 = false) (ht : ty0 kf = ty) (hn : narrow ty v = v ∧ fits ty v = true) (hlen : kf < fs.length) (hw : ws.set q0 (a, .inr (ci, fs.set kf v)) = ws') (d : decode cc pc = .ok (.putfield idx, 3)) (kk : Dk E T k n ws' lv st (pc + 3) e) : Dk E T k n ws lv (v :: .ref a :: st) pc e := fun r hr H locs ls hP hD hS hv =>
  va_put (T := Tf) C.x C.b C.ts hin ty0 hty hnm C.ow C.k hP hD hS q0 he hc kf hk (C.ts _ hl) (fun _ z => z) hfin (ht ▸ hty kf hk) hn.1 hn.2 hlen d (fun H1 locs1 h1 h2 h3 => kk r hr H1 locs1 ls (hw ▸ h1) (hw ▸ h2) h3 hv)
theorem l_putF (C : CX E own cc ret h mc ms) (hini : (gM E).name = "<init>") (q0 : Nat) {v : Value} {ty : FieldType} (he : ws[q0]? = some (a, .inr (ci, fs))) (hc : vwCl[ci]? = some (cn, Tf, N)) (hin : ∀ w ∈ u_ws cn Tf N, w ∈ TB) (ty0 : Nat → FieldType) (hty : ∀ k, k < N → parseFieldDescriptor (Tf k).2.2.1 = some (ty0 k)) (hnm : ∀ a, a < N → ∀ b, b < N → a ≠ b → (Tf a).2.1 ≠ (Tf b).2.1) (hk : kf < N) (hl : Cond.fieldLink own idx (Tf kf).1 (Tf kf).2.1 (Tf kf).2.2.1 ∈ TB) (hfin : (Tf kf).2.2.2 = true ∧ (Tf kf).1 = own) (ht : ty0 kf = ty) (hn : narrow ty v = v ∧ fits ty v = true) (hlen : kf < fs.length) (hw : ws.set q0 (a, .inr (ci, fs.set kf v)) = ws') (d : decode cc pc = .ok (.putfield idx, 3)) (kk : Dk E T k n ws' lv st (pc + 3) e) : Dk E T k n ws lv (v :: .ref a :: st) pc e := fun r hr H locs ls hP hD hS hv =>
  va_putF (T := Tf) C.x C.b C.ts hin ty0 hty hnm C.ow C.k hP hD hS q0 he hc kf hk (C.ts _ hl) (fun _ z => z) hfin.1 hini hfin.2 (ht ▸ hty kf hk) hn.1 hn.2 hlen d (fun H1 locs1 h1 h2 h3 => kk r hr H1 locs1 ls (hw ▸ h1) (hw ▸ h2) h3 hv)
theorem l_iast (C : CX E own cc ret h mc ms) (q0 : Nat) {M : Nat} {f : Nat → Int32} {i x : Int32} (he : ws[q0]? = some (a, .inl ((gt E).2.1, (M, .inl f)))) (hi : inr i M = true) (hw : ws.set q0 (a, .inl ((gt E).2.1, (M, .inl (upd f i.toNatClampNeg x)))) = ws') (d : decode cc pc = .ok (.iastore, 1)) (kk : Dk E T k n ws' lv st (pc + 1) e) : Dk E T k n ws lv (.int x :: .int i :: .ref a :: st) pc e := fun r hr H locs ls hP hD hS hv =>
  va_iast C.x C.b C.k hP hD hS q0 0 he rfl (inr_in hi) d (fun H1 locs1 h1 h2 h3 => kk r hr H1 locs1 ls (hw ▸ h1) (hw ▸ h2) h3 hv)
theorem l_alen (C : CX E own cc ret h mc ms) (q0 : Nat) {M : Nat} {f : Nat → Int32} {v : Int32} (he : ws[q0]? = some (a, .inl ((gt E).2.1, (M, .inl f)))) (hv0 : Int32.ofNat M = v) (d : decode cc pc = .ok (.arraylength, 1)) (kk : Dk E T k n ws lv (.int v :: st) (pc + 1) e) : Dk E T k n ws lv (.ref a :: st) pc e := fun r hr H locs ls hP hD hS hv =>
  va_alen C.x C.b C.k hP q0 0 he rfl hv0 d (kk r hr H locs ls hP hD hS hv)
theorem l_ge_t (C : CX E own cc ret h mc ms) {x y : Int32} {off : Int} {tgt : Nat} (d : decode cc pc = .ok (.if_icmp .ge off, 3)) (ht : (pc : Int) + off = (tgt : Int)) (hc : y ≤ x) (kk : Dk E T k n ws lv st tgt e) : Dk E T k n ws lv (.int y :: .int x :: st) pc e := Dk.eq (if_pos hc).symm (k_icmp_ge (e2 := none) C d ht (fun _ => kk) (fun q => absurd hc q))
theorem l_ge_f (C : CX E own cc ret h mc ms) {x y : Int32} {off : Int} {tgt : Nat} (d : decode cc pc = .ok (.if_icmp .ge off, 3)) (ht : (pc : Int) + off = (tgt : Int)) (hc : ¬ y ≤ x) (kk : Dk E T k n ws lv st (pc + 3) e) : Dk E T k n ws lv (.int y :: .int x :: st) pc e := Dk.eq (if_neg hc).symm (k_icmp_ge (e1 := none) C d ht (fun q => absurd q hc) (fun _ => kk))
theorem l_new (C : CX E own cc ret h mc ms) (hc : vwCl[ci]? = some (cn, Tf, N)) (hin : ∀ w ∈ u_ws cn Tf N, w ∈ TB) (ty0 : Nat → FieldType) (hty : ∀ k, k < N → parseFieldDescriptor (Tf k).2.2.1 = some (ty0 k)) (hcl : Cond.classLink own idx cn ∈ TB) (hins : Cond.instantiable cn N ∈ TB) (hini : Cond.initialized cn ∈ TB) (hfs : ∀ j, j < N → defaultValue (ty0 j) = vp_V fs j) (hk : k + 1 ≤ mc ∧ n + N ≤ ms) (d : decode cc pc = .ok (.new idx, 3)) (kk : ∀ q : Nat, Dk E T (k + 1) (n + N) (ws ++ [(q, .inr (ci, fs))]) lv (.ref q :: st) (pc + 3) e) : Dk E T k n ws lv st pc e := fun r hr H locs ls hP hD hS hv =>
  va_new (T := Tf) C.x C.b C.ts hin ty0 hty C.ow (C.ts _ hcl) (C.ts _ hins) (C.ts _ hini) C.k hP hD hS C.nw hc hfs (by rw [C.rm.2.2.1]; exact hk.1) (by rw [C.rm.2.2.2]; exact hk.2) d (fun q H1 h1 h2 h3 => kk q r hr H1 locs ls h1 h2 h3 hv)
theorem l_newi (C : CX E own cc ret h mc ms) {M : Int32} (hM : ¬ M < 0 ∧ M.toNatClampNeg = N ∧ N * 4 ≤ 536870912) (hk : k + 1 ≤ mc ∧ n + N ≤ ms) (d : decode cc pc = .ok (.newarray .int, 2)) (kk : ∀ q : Nat, Dk E T (k + 1) (n + N) (ws ++ [(q, .inl ((gt E).2.1, (N, .inl (fun _ => 0))))]) lv (.ref q :: st) (pc + 2) e) : Dk E T k n ws lv (.int M :: st) pc e := by
  intro r hr H locs ls hP hD hS hv
  refine va_newa (atype := .int) C.x C.b (C.ts _ acl_I) (ty := .int) rfl C.k hP hD hS C.nw (a0 := (N, .inl (fun _ => 0))) (fun cA => rfl) hM.1 hM.2.1 hM.2.2 (by rw [C.rm.2.2.1]; exact hk.1) (by rw [C.rm.2.2.2]; exact hk.2) d (fun q cA H1 hK1 hP1 hD1 hS1 => ?_)
  have hcA := arr_id C hK1
  subst hcA
  exact kk q r hr H1 locs ls hP1 hD1 hS1 hv
theorem arr_idJ (C : CX E own cc ret h mc ms) {cA : ClassId} {tys : List (ClassId × FieldType)} (hK : va_K (gt E).1 vwCl (tys ++ [(cA, .long)]) (gs E)) : cA = (gt E).2.2.1 := by
  have h1 : va_RA (gs E) cA .long := (hK.2 tys.length (cA, .long) (by rw [List.getElem?_append_right (Nat.le_refl _), Nat.sub_self]; rfl)).2
  have h2 : va_RA (gs E) (gt E).2.2.1 .long := (C.k.2 1 _ rfl).2
  exact Option.some.inj ((show (gs E).vm.findClass _ = some cA from h1).symm.trans h2)
theorem arr_idQ (C : CX E own cc ret h mc ms) {cA : ClassId} {tys : List (ClassId × FieldType)} (hK : va_K (gt E).1 vwCl (tys ++ [(cA, .object "TwoMoons$Statute")]) (gs E)) : cA = (gt E).2.2.2 := by
  have h1 : va_RA (gs E) cA (.object "TwoMoons$Statute") := (hK.2 tys.length (cA, .object "TwoMoons$Statute") (by rw [List.getElem?_append_right (Nat.le_refl _), Nat.sub_self]; rfl)).2
  have h2 : va_RA (gs E) (gt E).2.2.2 (.object "TwoMoons$Statute") := (C.k.2 2 _ rfl).2
  obtain ⟨k1, c1, -, -, -, a1⟩ := h1
  obtain ⟨k2, c2, -, -, -, a2⟩ := h2
  exact Option.some.inj (a1.symm.trans a2)
theorem l_newj (C : CX E own cc ret h mc ms) {M : Int32} (hM : ¬ M < 0 ∧ M.toNatClampNeg = N ∧ N * 8 ≤ 536870912) (hk : k + 1 ≤ mc ∧ n + N ≤ ms) (d : decode cc pc = .ok (.newarray .long, 2)) (kk : ∀ q : Nat, Dk E T (k + 1) (n + N) (ws ++ [(q, .inl ((gt E).2.2.1, (N, .inr (.inl (fun _ => 0)))))]) lv (.ref q :: st) (pc + 2) e) : Dk E T k n ws lv (.int M :: st) pc e := by
  intro r hr H locs ls hP hD hS hv
  refine va_newa (atype := .long) C.x C.b (C.ts _ acl_J) (ty := .long) rfl C.k hP hD hS C.nw (a0 := (N, .inr (.inl (fun _ => 0)))) (fun cA => rfl) hM.1 hM.2.1 hM.2.2 (by rw [C.rm.2.2.1]; exact hk.1) (by rw [C.rm.2.2.2]; exact hk.2) d (fun q cA H1 hK1 hP1 hD1 hS1 => ?_)
  have hcA := arr_idJ C hK1
  subst hcA
  exact kk q r hr H1 locs ls hP1 hD1 hS1 hv
theorem l_newq (C : CX E own cc ret h mc ms) {M : Int32} (hM : ¬ M < 0 ∧ M.toNatClampNeg = N ∧ N * 4 ≤ 536870912) (hcl : Cond.classLink own idx "TwoMoons$Statute" ∈ TB) (hk : k + 1 ≤ mc ∧ n + N ≤ ms) (d : decode cc pc = .ok (.anewarray idx, 3)) (kk : ∀ q : Nat, Dk E T (k + 1) (n + N) (ws ++ [(q, .inl ((gt E).2.2.2, (N, .inr (.inr (.inr (.inr (fun _ => none)))))))]) lv (.ref q :: st) (pc + 3) e) : Dk E T k n ws lv (.int M :: st) pc e := by
  intro r hr H locs ls hP hD hS hv
  refine va_newq C.x C.b C.ow (C.ts _ hcl) (by obtain ⟨_, _, _, _, _, _, q⟩ := C.sf; exact q) C.k hP hD hS C.nw hM.1 hM.2.1 hM.2.2 (by rw [C.rm.2.2.1]; exact hk.1) (by rw [C.rm.2.2.2]; exact hk.2) d (fun q cA H1 hK1 hP1 hD1 hS1 => ?_)
  have hcA := arr_idQ C hK1
  subst hcA
  exact kk q r hr H1 locs ls hP1 hD1 hS1 hv
variable {y : MethodName} {cc' : ByteArray} {nL' h' mc' ms' na : Nat} {C' : String} {b : Addr} {w1 : va_W} {Pq : va_W → Prop}
theorem k_cI (C : CX E own cc ret h mc ms) (wr : va_W) (hc : Ct (gl E) (gt E) y cc' nL' none h' mc' ms' (.ref b :: As) w1 (fun v w => v = none ∧ Pq w)) (hw : MWi C' y cc' nL' na) (hl : Cond.methodLink own idx y ∈ TB) (hn : As.length = na) (hh : h' + 1 ≤ h ∧ nL' ≤ 21) (hws : ws = wr ++ w1) (hst : st = As.reverse ++ .ref b :: rest) (hrest : (rest.map fun v => v.category).sum ≤ 8) (d : decode cc pc = .ok (.invokespecial idx, 3)) (hk : k + mc' ≤ mc ∧ n + ms' ≤ ms)
    (kk : ∀ w, Pq w → Dk E T (k + mc') (n + ms') (wr ++ w) lv rest (pc + 3) e) : Dk E T k n ws lv st pc e := fun r hr =>
  g_callI (fun w => wr ++ w) (Or.inr (Or.inr ⟨wr, hws, rfl⟩)) C hc hw hl hn hh hst hrest d hk (fun v w hp => by obtain ⟨rfl, hp⟩ := hp; exact kk w hp r hr)
theorem k_cSl (C : CX E own cc ret h mc ms) (wr : va_W) {wt : va_W → va_W} (ho : (wt = fun w => w) ∧ w1 = ws ∨ (∃ w2 : va_W, ws = w1 ++ w2 ∧ wt = fun w => w ++ w2) ∨ ∃ w2 : va_W, ws = w2 ++ w1 ∧ wt = fun w => w2 ++ w) (hc : Ct (gl E) (gt E) y cc' nL' none h' mc' ms' As w1 (fun v w => v = none ∧ Pq w)) (hw : MWs C' y cc' nL' none na) (hl : Cond.methodLink own idx y ∈ TB) (hn : As.length = na) (hh : h' + 1 ≤ h ∧ nL' ≤ 21) (hst : st = As.reverse ++ rest) (hrest : (rest.map fun v => v.category).sum ≤ 8) (d : decode cc pc = .ok (.invokestatic idx, 3)) (hk : k + mc' ≤ mc ∧ n + ms' ≤ ms)
    (kk : ∀ w, Pq w → Dk E T (k + mc') (n + ms') (wt w) lv rest (pc + 3) e) : Dk E T k n ws lv st pc e := fun r hr =>
  g_callS wt ho C hc hw hl hn hh hst hrest d hk (fun v w hp => by obtain ⟨rfl, hp⟩ := hp; exact kk w hp r hr)
end LRows
