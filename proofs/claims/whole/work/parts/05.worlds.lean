/-! a state as numbers by place: single ones, rows of ints, rows of longs; a world as cells by place -/
abbrev St : Type := (Nat → Int32) × (Nat → Nat → Int32) × (Nat → Nat → Int64)
def sf (S : St) (k : Nat) (v : Int32) : St := (fun j => if j = k then v else S.1 j, S.2)
def sa (S : St) (k i : Nat) (x : Int32) : St := (S.1, fun j => if j = k then upd (S.2.1 k) i x else S.2.1 j, S.2.2)
def sl (S : St) (k i : Nat) (x : Int64) : St := (S.1, S.2.1, fun j => if j = k then vp_updL (S.2.2 k) i x else S.2.2 j)
def pl (ad : Nat → Nat) (L : List Nat) (g : Nat → va_E) : va_W := L.map (fun i => (ad i, g i))
theorem pl_get {ad : Nat → Nat} {L : List Nat} {g : Nat → va_E} {i : Nat} (h : i ∈ L) : ∃ q : Nat, L[q]? = some i ∧ (pl ad L g)[q]? = some (ad i, g i) := by
  obtain ⟨q, hq⟩ := List.getElem?_of_mem h
  exact ⟨q, hq, by rw [pl, List.getElem?_map, hq]; rfl⟩
theorem pl_congr {ad : Nat → Nat} {L : List Nat} {g g' : Nat → va_E} (h : ∀ i ∈ L, g i = g' i) : pl ad L g = pl ad L g' := List.map_congr_left (fun i hi => by rw [h i hi])
theorem pl_set {ad : Nat → Nat} {L : List Nat} {g : Nat → va_E} {q i : Nat} {x : va_E} (hL : L.Nodup) (hq : L[q]? = some i) : (pl ad L g).set q (ad i, x) = pl ad L (fun j => if j = i then x else g j) := by
  apply List.ext_getElem?
  intro z
  rw [List.getElem?_set, pl, pl, List.getElem?_map, List.getElem?_map, List.length_map]
  by_cases hz : q = z
  · subst hz
    rw [if_pos rfl, if_pos (List.getElem?_eq_some_iff.mp hq).1, hq]
    simp
  · rw [if_neg hz]
    cases hc : L[z]? with
    | none => rfl
    | some w =>
      have hw : w ≠ i := fun e => hz (by
        subst e
        exact (List.getElem?_inj (List.getElem?_eq_some_iff.mp hq).1 hL).mp (hq.trans hc.symm))
      simp [hw]
theorem map_get {N k : Nat} {f : Nat → Value} (h : k < N) : ((List.range N).map f)[k]? = some (f k) := by rw [List.getElem?_map, List.getElem?_range h]; rfl
theorem map_set {N k : Nat} {f f' : Nat → Value} {v : Value} (h : ∀ j, f' j = if j = k then v else f j) : ((List.range N).map f).set k v = (List.range N).map f' := by
  apply List.ext_getElem?
  intro z
  rw [List.getElem?_set, List.getElem?_map, List.getElem?_map, List.length_map, List.length_range]
  by_cases hz : k = z
  · subst hz
    rw [if_pos rfl]
    by_cases hk : k < N
    · rw [if_pos hk, List.getElem?_range hk]
      simp [h]
    · rw [if_neg hk]
      have : (List.range N)[k]? = none := List.getElem?_eq_none (by rw [List.length_range]; omega)
      rw [this]; rfl
  · rw [if_neg hz]
    cases hc : (List.range N)[z]? with
    | none => rfl
    | some w =>
      have hlt : z < N := by have := (List.getElem?_eq_some_iff.mp hc).1; rwa [List.length_range] at this
      have hw : w = z := by rw [List.getElem?_range hlt] at hc; exact (Option.some.inj hc).symm
      subst hw
      simp [h, Ne.symm hz]
section PlRows
variable {τ : Type} {E : GE} {own : String} {cc : ByteArray} {ret : Option FieldType} {h mc ms : Nat} {T : τ → State → Prop} {k n : Nat} {ws : va_W} {lv lv' : List (Nat × Value)} {st : List Value} {pc : Nat} {e e1 e2 : Option τ}
variable {ad : Nat → Nat} {L : List Nat} {g g' : Nat → va_E} {ci kf idx : Nat} {fs : List Value} {cn : String} {Tf : u_T} {N : Nat}
theorem k_get (C : CX E own cc ret h mc ms) {i : Nat} {v : Value} (hi : i ∈ L) (hg : g i = .inr (ci, fs)) (hc : vwCl[ci]? = some (cn, Tf, N)) (hin : ∀ w ∈ u_ws cn Tf N, w ∈ TB) (hk : kf < N) (hl : Cond.fieldLink own idx (Tf kf).1 (Tf kf).2.1 (Tf kf).2.2.1 ∈ TB) (hv0 : fs[kf]? = some v) (d : decode cc pc = .ok (.getfield idx, 3)) (kk : Dk E T k n (pl ad L g) lv (v :: st) (pc + 3) e) : Dk E T k n (pl ad L g) lv (.ref (ad i) :: st) pc e := by
  intro r hr H locs ls hP hD hS hv
  obtain ⟨q, -, hq⟩ := pl_get (ad := ad) (g := g) hi
  exact va_get (T := Tf) C.x C.b C.ts hin C.ow C.k hP q (hg ▸ hq) hc kf hk (C.ts _ hl) (fun _ z => z) hv0 d (kk r hr H locs ls hP hD hS hv)
theorem k_put (C : CX E own cc ret h mc ms) {i : Nat} {v : Value} {ty : FieldType} (hL : L.Nodup) (hi : i ∈ L) (hg : g i = .inr (ci, fs)) (hc : vwCl[ci]? = some (cn, Tf, N)) (hin : ∀ w ∈ u_ws cn Tf N, w ∈ TB) (ty0 : Nat → FieldType) (hty : ∀ k, k < N → parseFieldDescriptor (Tf k).2.2.1 = some (ty0 k)) (hnm : ∀ a, a < N → ∀ b, b < N → a ≠ b → (Tf a).2.1 ≠ (Tf b).2.1) (hk : kf < N) (hl : Cond.fieldLink own idx (Tf kf).1 (Tf kf).2.1 (Tf kf).2.2.1 ∈ TB) (hfin : (Tf kf).2.2.2 = false) (hd : parseFieldDescriptor (Tf kf).2.2.1 = some ty) (hn : narrow ty v = v) (hfit : fits ty v = true) (hlen : kf < fs.length) (hg' : ∀ j ∈ L, g' j = if j = i then .inr (ci, fs.set kf v) else g j) (d : decode cc pc = .ok (.putfield idx, 3)) (kk : Dk E T k n (pl ad L g') lv st (pc + 3) e) : Dk E T k n (pl ad L g) lv (v :: .ref (ad i) :: st) pc e := by
  intro r hr H locs ls hP hD hS hv
  obtain ⟨q, hqi, hq⟩ := pl_get (ad := ad) (g := g) hi
  have es : (pl ad L g).set q (ad i, .inr (ci, fs.set kf v)) = pl ad L g' := (pl_set hL hqi).trans (pl_congr (fun j hj => (hg' j hj).symm))
  refine va_put (T := Tf) C.x C.b C.ts hin ty0 hty hnm C.ow C.k hP hD hS q (hg ▸ hq) hc kf hk (C.ts _ hl) (fun _ z => z) hfin hd hn hfit hlen d (fun H1 locs1 h1 h2 h3 => ?_)
  rw [es] at h1 h2
  exact kk r hr H1 locs1 ls h1 h2 h3 hv
theorem k_putF (C : CX E own cc ret h mc ms) (hini : (gM E).name = "<init>") {i : Nat} {v : Value} {ty : FieldType} (hL : L.Nodup) (hi : i ∈ L) (hg : g i = .inr (ci, fs)) (hc : vwCl[ci]? = some (cn, Tf, N)) (hin : ∀ w ∈ u_ws cn Tf N, w ∈ TB) (ty0 : Nat → FieldType) (hty : ∀ k, k < N → parseFieldDescriptor (Tf k).2.2.1 = some (ty0 k)) (hnm : ∀ a, a < N → ∀ b, b < N → a ≠ b → (Tf a).2.1 ≠ (Tf b).2.1) (hk : kf < N) (hl : Cond.fieldLink own idx (Tf kf).1 (Tf kf).2.1 (Tf kf).2.2.1 ∈ TB) (hfin : (Tf kf).2.2.2 = true) (hown : (Tf kf).1 = own) (hd : parseFieldDescriptor (Tf kf).2.2.1 = some ty) (hn : narrow ty v = v) (hfit : fits ty v = true) (hlen : kf < fs.length) (hg' : ∀ j ∈ L, g' j = if j = i then .inr (ci, fs.set kf v) else g j) (d : decode cc pc = .ok (.putfield idx, 3)) (kk : Dk E T k n (pl ad L g') lv st (pc + 3) e) : Dk E T k n (pl ad L g) lv (v :: .ref (ad i) :: st) pc e := by
  intro r hr H locs ls hP hD hS hv
  obtain ⟨q, hqi, hq⟩ := pl_get (ad := ad) (g := g) hi
  have es : (pl ad L g).set q (ad i, .inr (ci, fs.set kf v)) = pl ad L g' := (pl_set hL hqi).trans (pl_congr (fun j hj => (hg' j hj).symm))
  refine va_putF (T := Tf) C.x C.b C.ts hin ty0 hty hnm C.ow C.k hP hD hS q (hg ▸ hq) hc kf hk (C.ts _ hl) (fun _ z => z) hfin hini hown hd hn hfit hlen d (fun H1 locs1 h1 h2 h3 => ?_)
  rw [es] at h1 h2
  exact kk r hr H1 locs1 ls h1 h2 h3 hv
theorem k_iald (C : CX E own cc ret h mc ms) {i M : Nat} {f : Nat → Int32} {x : Int32} (hi : i ∈ L) (hg : g i = .inl ((gt E).2.1, (M, .inl f))) (d : decode cc pc = .ok (.iaload, 1)) (kk : Dk E T k n (pl ad L g) lv (.int (f x.toNatClampNeg) :: st) (pc + 1) e) : Dk E T k n (pl ad L g) lv (.int x :: .ref (ad i) :: st) pc (chk (inr x M) e) := k_chk fun hx => by
  intro r hr H locs ls hP hD hS hv
  obtain ⟨q, -, hq⟩ := pl_get (ad := ad) (g := g) hi
  exact va_iald C.x C.b C.k hP q 0 (hg ▸ hq) rfl (inr_in hx) d (kk r hr H locs ls hP hD hS hv)
theorem k_lald (C : CX E own cc ret h mc ms) {i M : Nat} {f : Nat → Int64} {x : Int32} (hi : i ∈ L) (hg : g i = .inl ((gt E).2.2.1, (M, .inr (.inl f)))) (d : decode cc pc = .ok (.laload, 1)) (kk : Dk E T k n (pl ad L g) lv (.long (f x.toNatClampNeg) :: st) (pc + 1) e) : Dk E T k n (pl ad L g) lv (.int x :: .ref (ad i) :: st) pc (chk (inr x M) e) := k_chk fun hx => by
  intro r hr H locs ls hP hD hS hv
  obtain ⟨q, -, hq⟩ := pl_get (ad := ad) (g := g) hi
  exact va_lald C.x C.b C.k hP q 1 (hg ▸ hq) rfl (inr_in hx) d (kk r hr H locs ls hP hD hS hv)
theorem k_iast (C : CX E own cc ret h mc ms) {i M : Nat} {f : Nat → Int32} {x v : Int32} (hL : L.Nodup) (hi : i ∈ L) (hg : g i = .inl ((gt E).2.1, (M, .inl f))) (hg' : ∀ j ∈ L, g' j = if j = i then .inl ((gt E).2.1, (M, .inl (upd f x.toNatClampNeg v))) else g j) (d : decode cc pc = .ok (.iastore, 1)) (kk : Dk E T k n (pl ad L g') lv st (pc + 1) e) : Dk E T k n (pl ad L g) lv (.int v :: .int x :: .ref (ad i) :: st) pc (chk (inr x M) e) := k_chk fun hx => by
  intro r hr H locs ls hP hD hS hv
  obtain ⟨q, hqi, hq⟩ := pl_get (ad := ad) (g := g) hi
  have es : (pl ad L g).set q (ad i, .inl ((gt E).2.1, (M, .inl (upd f x.toNatClampNeg v)))) = pl ad L g' := (pl_set hL hqi).trans (pl_congr (fun j hj => (hg' j hj).symm))
  refine va_iast C.x C.b C.k hP hD hS q 0 (hg ▸ hq) rfl (inr_in hx) d (fun H1 locs1 h1 h2 h3 => ?_)
  rw [es] at h1 h2
  exact kk r hr H1 locs1 ls h1 h2 h3 hv
theorem k_last (C : CX E own cc ret h mc ms) {i M : Nat} {f : Nat → Int64} {x : Int32} {v : Int64} (hL : L.Nodup) (hi : i ∈ L) (hg : g i = .inl ((gt E).2.2.1, (M, .inr (.inl f)))) (hg' : ∀ j ∈ L, g' j = if j = i then .inl ((gt E).2.2.1, (M, .inr (.inl (vp_updL f x.toNatClampNeg v)))) else g j) (d : decode cc pc = .ok (.lastore, 1)) (kk : Dk E T k n (pl ad L g') lv st (pc + 1) e) : Dk E T k n (pl ad L g) lv (.long v :: .int x :: .ref (ad i) :: st) pc (chk (inr x M) e) := k_chk fun hx => by
  intro r hr H locs ls hP hD hS hv
  obtain ⟨q, hqi, hq⟩ := pl_get (ad := ad) (g := g) hi
  have es : (pl ad L g).set q (ad i, .inl ((gt E).2.2.1, (M, .inr (.inl (vp_updL f x.toNatClampNeg v))))) = pl ad L g' := (pl_set hL hqi).trans (pl_congr (fun j hj => (hg' j hj).symm))
  refine va_last C.x C.b C.k hP hD hS q 1 (hg ▸ hq) rfl (inr_in hx) d (fun H1 locs1 h1 h2 h3 => ?_)
  rw [es] at h1 h2
  exact kk r hr H1 locs1 ls h1 h2 h3 hv
theorem k_alen (C : CX E own cc ret h mc ms) {i M : Nat} {f : Nat → Int32} (hi : i ∈ L) (hg : g i = .inl ((gt E).2.1, (M, .inl f))) (d : decode cc pc = .ok (.arraylength, 1)) (kk : Dk E T k n (pl ad L g) lv (.int (Int32.ofNat M) :: st) (pc + 1) e) : Dk E T k n (pl ad L g) lv (.ref (ad i) :: st) pc e := by
  intro r hr H locs ls hP hD hS hv
  obtain ⟨q, -, hq⟩ := pl_get (ad := ad) (g := g) hi
  exact va_alen C.x C.b C.k hP q 0 (hg ▸ hq) rfl rfl d (kk r hr H locs ls hP hD hS hv)
end PlRows
