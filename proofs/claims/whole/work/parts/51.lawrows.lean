/-! THE CLAIM OUT OF ONE WALK OF THE LAW'S BODY. Your part is whole_start (and what it stands on); all else here is the same for every law, but numbers. -/
def R_law : String := "TwoMoonsLaw"
def lw_P (b : Addr) (xs : List Int32) (args : Array Value) (s : State) : Prop := args = #[.ref b] ∧ s.IntsAt b xs ∧ xs.length ≤ 384 ∧ (Jvm.Cond.and given_1 narrow_1).before args s = true
def lw_Q (_ : Array Value) (s : State) (o : Outcome) (t : State) : Prop := o = .returned (some (.int 1)) ∧ Framed s o t [] 600000 7302250
def lw_Z (below : List Frame) (a : Array Value) (s : State) : State → Prop := fun t => ∃ o, t.status = .running ∧ Ended t below o ∧ lw_Q a s o t
/-- the law's own end, with 1 on the stack, nothing written that was there before, its room as the claim has it -/
theorem lw_ret {p : Program} {l : Launch} {e : Env} {s : State} {m : MethodId} {below : List Frame} {meth : Method} {c : Code} {b : Nat} (hx : p.tables.exec = Jvm.exec) (hb : c.code = code) (hr : meth.sig.returnType = ret) (hlocks : meth.locks = false) {pc : Nat} {H : Heap} {ls : Array Slot} (hdg : decode code pc = .ok (.ireturn, 1)) : W p l e room_1 s m #[Value.ref b] below meth c H [] 600000 7302250 (lw_Z below #[Value.ref b] s) (F0 m pc ls [.int 1]) := by
  intro T hT X
  obtain ⟨fs, hret, hrun, hended, hW, hframe⟩ := X.leave (v := some (.int 1)) (hlocks := hlocks) (fun h => by rw [hr] at h; cases h)
  have hmeth' : T.vm.method? m = some meth := X.method'
  refine ⟨T.setFrames fs, ?_, .returned (some (.int 1)), hrun, hended, rfl, ⟨_, rfl⟩, hW, hframe⟩
  jvm_step X.here [X.here.top, hx, hb, hdg, hmeth', hr, ret, narrow_b1]
  (try refine ⟨rfl, ?_⟩); (try refine ⟨rfl, ?_⟩)
  first | (intro acts; rw [hret _ acts rfl rfl rfl]) | rw [hret _ _ rfl rfl rfl]
  exact Steps.refl _
/-- what holds at the law's entry: the machine, the code, the tables' words (any of lw_tbl by 'hts w (by decide +kernel)'), the script of L ints xs at the cell b, what the Statement gives of the start (any of its parts by flat_of_before) -/
def lw_At (p : Program) (s : State) (m : MethodId) (meth : Method) (c : Code) (b L : Nat) (xs : Nat → Int32) : Prop :=
  p.tables.exec = Jvm.exec ∧ c.code = code ∧ meth.sig.returnType = ret ∧ c.maxLocals = 4 ∧ s.vm.findClass R_law = some m.cls ∧ (∀ w ∈ lw_tbl, w.before #[Value.ref b] s = true) ∧ va_X b L xs s s.heap ∧ b < s.heap.size ∧ meth.locks = false ∧ (Jvm.Cond.and given_1 narrow_1).before #[Value.ref b] s = true
abbrev lE (p : Program) (l : Launch) (e : Env) (R : Room) (s : State) (m : MethodId) (args : Array Value) (below : List Frame) (meth : Method) (c : Code) (θ : TH) : GE := ((p, l, e, R, s, m, args, below, meth, c), θ, fun q : Nat => s.heap.size ≤ q, 4)
abbrev lT (below : List Frame) (b : Nat) (s : State) : Unit → State → Prop := fun _ => lw_Z below #[Value.ref b] s
abbrev lL (b : Nat) (ad ad2 : Nat → Nat) (x3 : Int32) : List (Nat × Value) := [(3, .int x3), (0, .ref b), (1, .ref (ad 219)), (2, .ref (ad2 44))]
/-- the budget of t calls -/
abbrev BL (t k n : Nat) : Prop := k ≤ 100 + 8 * t ∧ n ≤ 230000 + 20000 * t
abbrev LH : Nat := 2048
section Frames
variable {τ : Type} {E : GE} {own : String} {cc : ByteArray} {ret : Option FieldType} {h mc ms : Nat} {T : τ → State → Prop} {k n : Nat} {w1 w2 : va_W} {lv : List (Nat × Value)} {st rest As : List Value} {pc : Nat} {e : Option τ}
variable {y : MethodName} {cc' : ByteArray} {nL' : Nat} {ret' : Option FieldType} {h' mc' ms' na idx : Nat} {C' : String} {b : Addr} {P' : Option Value → va_W → Prop}
theorem k_fC (C : CX E own cc ret h mc ms) (hc : Ct (gl E) (gt E) y cc' nL' ret' h' mc' ms' (.ref b :: As) w1 P') (hw : MWv C' y cc' nL' ret' na) (hl : Cond.methodLink own idx y ∈ TB) (hn : As.length = na) (hh : h' + 1 ≤ h ∧ nL' ≤ 21) (hrv : ∃ (q0 ci : Nat) (fs : List Value) (q : vw_C), w1[q0]? = some (b, .inr (ci, fs)) ∧ vwCl[ci]? = some q ∧ q.1 = C') (hst : st = As.reverse ++ .ref b :: rest) (hrest : (rest.map fun v => v.category).sum ≤ 8) (d : decode cc pc = .ok (.invokevirtual idx, 3)) (hk : k + mc' ≤ mc ∧ n + ms' ≤ ms)
    (kk : ∀ v w, P' v w → Dk E T (k + mc') (n + ms') (w ++ w2) lv (v.toList ++ rest) (pc + 3) e) : Dk E T k n (w1 ++ w2) lv st pc e := fun r hr => g_callV (fun w => w ++ w2) (Or.inr (Or.inl ⟨w2, rfl, rfl⟩)) C hc hw hl hn hh hrv hst hrest d hk (fun v w hp => kk v w hp r hr)
theorem k_fM (C : CX E own cc ret h mc ms) (hc : Ct (gl E) (gt E) y cc' nL' ret' h' 0 0 (.ref b :: As) w2 P') (hw : MWv C' y cc' nL' ret' na) (hl : Cond.methodLink own idx y ∈ TB) (hn : As.length = na) (hh : h' + 1 ≤ h ∧ nL' ≤ 21) (hrv : ∃ (q0 ci : Nat) (fs : List Value) (q : vw_C), w2[q0]? = some (b, .inr (ci, fs)) ∧ vwCl[ci]? = some q ∧ q.1 = C') (hst : st = As.reverse ++ .ref b :: rest) (hrest : (rest.map fun v => v.category).sum ≤ 8) (d : decode cc pc = .ok (.invokevirtual idx, 3)) (hk : k ≤ mc ∧ n ≤ ms)
    (kk : ∀ v w, P' v w → Dk E T k n (w1 ++ w) lv (v.toList ++ rest) (pc + 3) e) : Dk E T k n (w1 ++ w2) lv st pc e := fun r hr => g_callV (fun w => w1 ++ w) (Or.inr (Or.inr ⟨w1, rfl, rfl⟩)) C hc hw hl hn hh hrv hst hrest d hk (fun v w hp => kk v w hp r hr)
theorem k_icmp_eq_rf (C : CX E own cc ret h mc ms) {ws : va_W} {x : Int32} {off : Int} {tgt : Nat} (d : decode cc pc = .ok (.if_icmp .eq off, 3)) (ht : (pc : Int) + off = (tgt : Int)) (kk : Dk E T k n ws lv st tgt e) : Dk E T k n ws lv (.int x :: .int x :: st) pc e := Dk.eq (if_pos rfl).symm (k_icmp_eq (e2 := none) C d ht (fun _ => kk) (fun q => absurd rfl q))
theorem k_if_eq_rf (C : CX E own cc ret h mc ms) {ws : va_W} {off : Int} {tgt : Nat} (d : decode cc pc = .ok (.ifCond .eq off, 3)) (ht : (pc : Int) + off = (tgt : Int)) (kk : Dk E T k n ws lv st tgt e) : Dk E T k n ws lv (.int 0 :: st) pc e := Dk.eq (if_pos rfl).symm (k_if_eq (e2 := none) C d ht (fun _ => kk) (fun q => absurd rfl q))
end Frames
theorem lg_cmp_rf (x : Int64) : lg_cmp x x = 0 := by unfold lg_cmp; simp
theorem nd_1 (Z : Zt) : nd 80 Z ≤ 6 ∧ 9216 * nd 80 Z ≤ 19000 := by
  unfold nd
  split <;> decide
theorem nd_2 (Z : Zt) : nd 80 Z + nd 300 Z ≤ 6 ∧ 9216 * (nd 80 Z + nd 300 Z) ≤ 19000 := by
  unfold nd
  split <;> split <;> decide
theorem nd_L : 6 ≤ 6 ∧ 607 ≤ 19000 := by decide
theorem bud_0 {t k n : Nat} (hk : t < 64 ∧ BL t k n) : k ≤ 600000 ∧ n ≤ 7302250 := by obtain ⟨h0, h1, h2⟩ := hk; omega
theorem bud_a {t k n a c : Nat} (hk : t < 64 ∧ BL t k n) (hn : a ≤ 6 ∧ c ≤ 19000) : k + a ≤ 600000 ∧ n + c ≤ 7302250 := by obtain ⟨h0, h1, h2⟩ := hk; omega
theorem bud_b {t k n a c : Nat} (hk : t < 64 ∧ BL t k n) (hn : a ≤ 6 ∧ c ≤ 19000) : k + a ≤ 600000 ∧ n + c ≤ 7302250 := by obtain ⟨h0, h1, h2⟩ := hk; omega
theorem bud_e {t k n a c : Nat} (hk : t < 64 ∧ BL t k n) (hn : a ≤ 6 ∧ c ≤ 19000) : BL (t + 1) (k + a) (n + c) := by obtain ⟨h0, h1, h2⟩ := hk; exact ⟨by omega, by omega⟩
theorem bud_f {t k n : Nat} (hk : t < 64 ∧ BL t k n) : BL (t + 1) k n := by obtain ⟨h0, h1, h2⟩ := hk; exact ⟨by omega, by omega⟩
theorem k_sld {E : GE} {own : String} {cc : ByteArray} {ret : Option FieldType} {h mc ms : Nat} {τ : Type} {T : τ → State → Prop} {k n : Nat} {ws : va_W} {lv : List (Nat × Value)} {st : List Value} {pc : Nat} {e : Option τ} (C : CX E own cc ret h mc ms) {b L : Nat} {xs : Nat → Int32} (hX : va_X b L xs (gs E) (gs E).heap) (hbl : b < (gs E).heap.size) (hbA : ¬ gA E b) {i : Int32} (hin : vp_in i L) (d : decode cc pc = .ok (.iaload, 1)) (kk : Dk E T k n ws lv (.int (xs i.toNatClampNeg) :: st) (pc + 1) e) : Dk E T k n ws lv (.int i :: .ref b :: st) pc e := fun r hr H locs ls hP hD hS hv => va_sld C.x C.b hX hbl hbA hS hin d (kk r hr H locs ls hP hD hS hv)
theorem k_slen {E : GE} {own : String} {cc : ByteArray} {ret : Option FieldType} {h mc ms : Nat} {τ : Type} {T : τ → State → Prop} {k n : Nat} {ws : va_W} {lv : List (Nat × Value)} {st : List Value} {pc : Nat} {e : Option τ} (C : CX E own cc ret h mc ms) {b L : Nat} {xs : Nat → Int32} (hX : va_X b L xs (gs E) (gs E).heap) (hbl : b < (gs E).heap.size) (hbA : ¬ gA E b) (d : decode cc pc = .ok (.arraylength, 1)) (kk : Dk E T k n ws lv (.int (Int32.ofNat L) :: st) (pc + 1) e) : Dk E T k n ws lv (.ref b :: st) pc e := fun r hr H locs ls hP hD hS hv => va_slen C.x C.b hX hbl hbA hS d (kk r hr H locs ls hP hD hS hv)
/-- a case of the law: from its first place on, both are called, and answer alike -/
abbrev LCS (p : Program) (l : Launch) (e : Env) (R : Room) (s : State) (m : MethodId) (args : Array Value) (below : List Frame) (meth : Method) (c : Code) (θ : TH) (ad ad2 : Nat → Nat) (b L : Nat) (xs : Nat → Int32) (F : Nat) (RR : Nat → St → Zt → St → Prop) (pc0 : Nat) : Prop :=
  CX (lE p l e R s m args below meth c θ) RL code ret LH 600000 7302250 → va_X b L xs s s.heap → b < s.heap.size → ¬ s.heap.size ≤ b →
  ∀ (t : Nat) (x3 : Int32), (∀ z : Int32, 1 ≤ z → z ≤ 5 → vp_in (x3 + z) L) → t < 64 → ∀ (S : St) (Z : Zt) (M : St) (Y : Nat → Nat) (k n : Nat), RR t S Z M → (t < 64 ∧ BL t k n) →
  (∀ (S' : St) (Z' : Zt) (M' : St) (Y' : Nat → Nat) (k' n' : Nat), RR (t + 1) S' Z' M' → BL (t + 1) k' n' → Dk (lE p l e R s m args below meth c θ) (lT below b s) k' n' (wdC θ ad Y' Z' S' ++ wdM θ ad2 M') (lL b ad ad2 x3) [] 1666 (some ())) →
  Dk (lE p l e R s m args below meth c θ) (lT below b s) k n (wdC θ ad Y Z S ++ wdM θ ad2 M) (lL b ad ad2 x3) [] pc0 (some ())
