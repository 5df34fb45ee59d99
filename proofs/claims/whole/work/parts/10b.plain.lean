/-- as Met.ofW, for a method of a class of which some methods are rows of the machine's -/
theorem Met.ofWF {l : Launch} {y : MethodName} {ws ws' : List Cond} {rm : Room} {Pc : Array Value → State → Prop} {Qc : Array Value → State → Outcome → State → Prop} {mc ms : Nat} {free : Addr → Prop} {cc : ByteArray} {maxL : Nat} {ret : Option FieldType}
    (hy : plainFor y = true) (hw : ws = Cond.code y cc maxL ret :: ws')
    (body : ∀ p e s m args below meth c s₁, BodyLoose p l y (headSpec ws rm) cc maxL ret e s m args below meth c s₁ → c.maxLocals = maxL → Pc args s →
      W p l e (headSpec ws rm).room s m args below meth c s.heap [] 0 0 (MQ below Qc args s mc ms free) (entryFrame m args maxL)) : Met l y ws rm Pc Qc mc ms free := by
  refine MetFree.of_bodySF (code := cc) (maxLocals := maxL) (ret := ret) hy ?_ ?_
  · intro args s m h hn
    obtain ⟨meth, c, h1, h2, h3, h4, h5, h6, -, -⟩ := Cond.code_spec hn (atoms_spec (ws := ws) h _ (by rw [hw]; exact List.mem_cons_self))
    exact ⟨meth, c, h1, h2, h3, h4, h5, h6⟩
  · intro p e s m args below meth c s₁ B hml hP _
    have hh0 : s₁.heap = s.heap := by rw [B.state]; rfl
    obtain ⟨t, a1, o, b1, b2, b3⟩ := body p e s m args below meth c s₁ B hml hP s₁ hh0 (Stand.of_body B)
    exact ⟨t, o, a1, b1, b2, ⟨b3.1, b3.2⟩⟩
theorem Ct.ofF {l : Launch} {θ : TH} {y : MethodName} {cc : ByteArray} {nL : Nat} {ret : Option FieldType} {h mc ms : Nat} {argv : List Value} {ws : va_W} {P : Option Value → va_W → Prop} (hy : plainFor y = true) (harg : (lg_sl argv).length ≤ nL)
    (hb : ∀ X : GX, X.2.1 = l → CX (X, θ, va_A ws X.2.2.2.2.1.heap.size, nL) y.cls cc ret h mc ms → (y.name = "<init>" → X.2.2.2.2.2.2.2.2.1.name = "<init>") → G (X, θ, va_A ws X.2.2.2.2.1.heap.size, nL) (MR (X, θ, va_A ws X.2.2.2.2.1.heap.size, nL) ws P mc ms) 0 0 ws (lv_args 0 argv) [] 0) : Ct l θ y cc nL ret h mc ms argv ws P := by
  intro sz
  refine Met.ofWF (cc := cc) (maxL := nL) (ret := ret) hy rfl ?_
  intro p e s m args below meth c s₁ B hml hv
  obtain ⟨rfl, hsz, hP, hK, hD, hF⟩ := hv
  subst hsz
  have hts := atoms_spec (ws := Cond.code y cc nL ret :: TB) B.pre
  have hin : y.name = "<init>" → meth.name = "<init>" := fun q => (name_of_methodNamed B.named B.method).1.trans q
  have hC : CX ((p, l, e, Rm h mc ms, s, m, argv.toArray, below, meth, c), θ, va_A ws s.heap.size, nL) y.cls cc ret h mc ms :=
    ⟨B.exec, B.bytes, B.returns, hml, findClass_of_methodNamed B.named, fun w hw => hts w (List.mem_cons_of_mem _ hw), B.notSynchronized, hK, hF, ⟨Nat.le_refl _, Nat.le_refl _, rfl, rfl⟩, fun q hq => Or.inr hq⟩
  have hl := lv_entry argv harg
  rw [lg_entry_eq]
  exact hb (p, l, e, Rm h mc ms, s, m, argv.toArray, below, meth, c) rfl hC hin s.heap [] _ hP (hD.self) va_S.rf hl
