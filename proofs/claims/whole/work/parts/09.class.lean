/-! the class's world: its objects by the place b + 19 (b: 20 times the class's number; the other court 300; laws 1000, 1020, 1040, the draft 1060), what field k of an object holds at b + k -/
abbrev Zt : Type := (Nat → Nat) × (Nat → Bool)
def LF : List Nat := [19, 39, 59, 79, 99, 319, 119, 139, 159, 199, 219, 0, 1, 20, 21, 22, 23, 62, 63, 64, 65, 82, 83, 84, 85, 302, 303, 304, 305, 100, 120, 121, 122, 123, 140, 141, 142, 143, 144, 145, 146, 147, 183, 184, 185, 86, 306, 1060, 1061, 1062, 1063, 1064, 1079]
def LSt (t : Nat) : List Nat := [1000 + 20 * t, 1001 + 20 * t, 1002 + 20 * t, 1003 + 20 * t, 1004 + 20 * t, 1019 + 20 * t]
def LC (Z : Zt) : List Nat := LF ++ ((if Z.2 0 = true then LSt 0 else []) ++ ((if Z.2 1 = true then LSt 1 else []) ++ (if Z.2 2 = true then LSt 2 else [])))
theorem LC_nd (Z : Zt) : (LC Z).Nodup := by
  unfold LC
  cases Z.2 0 <;> cases Z.2 1 <;> cases Z.2 2 <;> decide +kernel
theorem LC_f {Z : Zt} {i : Nat} (h : i ∈ LF) : i ∈ LC Z := List.mem_append_left _ h
theorem LC_s0 {Z : Zt} {i : Nat} (hz : Z.2 0 = true) (h : i ∈ LSt 0) : i ∈ LC Z := List.mem_append_right _ (List.mem_append_left _ (by rw [if_pos hz]; exact h))
theorem LC_s1 {Z : Zt} {i : Nat} (hz : Z.2 1 = true) (h : i ∈ LSt 1) : i ∈ LC Z := List.mem_append_right _ (List.mem_append_right _ (List.mem_append_left _ (by rw [if_pos hz]; exact h)))
theorem LC_s2 {Z : Zt} {i : Nat} (hz : Z.2 2 = true) (h : i ∈ LSt 2) : i ∈ LC Z := List.mem_append_right _ (List.mem_append_right _ (List.mem_append_right _ (by rw [if_pos hz]; exact h)))
def dynC (i : Nat) : Bool := decide (i = 86 ∨ i = 306 ∨ 1000 ≤ i)
def adr (ad Y : Nat → Nat) (i : Nat) : Nat := if dynC i = true then Y i else ad i
/-- what kind of thing each field holds: 0 an int, 1 a row of its own, 2 the draft, 3 a row that moves, else that object -/
def KT (ci : Nat) : List Nat := match ci with
  | 0 => [1, 1, 0, 0, 0]
  | 1 => [1, 1, 1, 1, 0]
  | 2 => [159, 39, 99, 319]
  | 3 => [159, 39, 1, 1, 1, 1, 0, 0]
  | 4 => [159, 39, 1, 1, 1, 1, 3, 0, 0, 0, 0]
  | 5 => [1, 0, 0, 0, 2]
  | 6 => [1, 1, 1, 1]
  | 7 => [1, 1, 1, 1, 1, 1, 1, 1, 0, 0]
  | 8 => [3, 3, 3, 3, 3, 0, 0]
  | 9 => [159, 39, 99, 1, 1, 1, 0]
  | _ => [159, 119, 39, 99, 59, 199, 79, 19, 139]
def fvC (ad Y : Nat → Nat) (S : St) (b code kf : Nat) : Value := if code = 0 then .int (S.1 (b + kf)) else if code = 1 then .ref (ad (b + kf)) else if code = 2 then .ref (Y 1079) else if code = 3 then .ref (Y (b + kf)) else .ref (ad code)
def objC (ad Y : Nat → Nat) (S : St) (b ci : Nat) : List Value := (List.range (KT ci).length).map (fun kf => fvC ad Y S b ((KT ci).getD kf 0) kf)
def clC (i : Nat) : Nat := if 1000 ≤ i then 8 else if i = 319 then 4 else i / 20
def lnT : List (Nat × Nat) := [(0, 50), (1, 24), (20, 12), (21, 12), (22, 12), (23, 12), (62, 40), (63, 40), (64, 40), (65, 40), (82, 7), (83, 120), (84, 64), (85, 64), (302, 7), (303, 120), (304, 64), (305, 64), (100, 120), (120, 6), (121, 6), (122, 6), (123, 360), (140, 3), (141, 3), (142, 3), (143, 3), (144, 15), (145, 15), (146, 25), (147, 5), (183, 20), (184, 20), (185, 20)]
def lnC (Z : Zt) (i : Nat) : Nat := if i = 86 ∨ i = 306 then Z.1 i else if 1000 ≤ i then 120 else (lnT.lookup i).getD 0
def lawR (Y : Nat → Nat) (Z : Zt) : Nat → Option Nat := fun k => if k < 3 ∧ Z.2 k = true then some (Y (1019 + 20 * k)) else none
def cellC (θ : TH) (ad Y : Nat → Nat) (S : St) (Z : Zt) (i : Nat) : va_E := if i % 20 = 19 then .inr (clC i, objC ad Y S (i - 19) (clC i)) else if i = 123 then .inl (θ.2.2.1, (360, .inr (.inl (S.2.2 123)))) else if i = 143 then .inl (θ.2.2.2, (3, .inr (.inr (.inr (.inr (lawR Y Z)))))) else .inl (θ.2.1, (lnC Z i, .inl (S.2.1 i)))
def wdC (θ : TH) (ad Y : Nat → Nat) (Z : Zt) (S : St) : va_W := pl (adr ad Y) (LC Z) (cellC θ ad Y S Z)
theorem cC_o {θ : TH} {ad Y : Nat → Nat} {S : St} {Z : Zt} {b ci : Nat} (hb : (b + 19) % 20 = 19 ∧ clC (b + 19) = ci) : cellC θ ad Y S Z (b + 19) = .inr (ci, objC ad Y S b ci) := by
  unfold cellC
  rw [if_pos hb.1, hb.2, Nat.add_sub_cancel]
theorem cC_i {θ : TH} {ad Y : Nat → Nat} {S : St} {Z : Zt} {a N : Nat} (ha : ¬ a % 20 = 19 ∧ ¬ a = 123 ∧ ¬ a = 143) (hN : lnC Z a = N) : cellC θ ad Y S Z a = .inl (θ.2.1, (N, .inl (S.2.1 a))) := by
  unfold cellC
  rw [if_neg ha.1, if_neg ha.2.1, if_neg ha.2.2, hN]
theorem KT_len (ci : Nat) : (KT ci).length ≤ 11 := by
  unfold KT
  split <;> decide
theorem objC_len (ad Y : Nat → Nat) (S : St) (b ci : Nat) : (objC ad Y S b ci).length = (KT ci).length := by rw [objC, List.length_map, List.length_range]
theorem recvC {θ : TH} {ad Y : Nat → Nat} {S : St} {Z : Zt} {b ci : Nat} {q : vw_C} {a : Nat} {cn : String} (ha : adr ad Y (b + 19) = a) (hb : (b + 19) % 20 = 19 ∧ clC (b + 19) = ci) (hm : b + 19 ∈ LC Z) (hc : vwCl[ci]? = some q) (hn : q.1 = cn) : ∃ (q0 ci : Nat) (fs : List Value) (q : vw_C), (wdC θ ad Y Z S)[q0]? = some (a, .inr (ci, fs)) ∧ vwCl[ci]? = some q ∧ q.1 = cn := by
  obtain ⟨z, -, hz⟩ := pl_get (ad := adr ad Y) (g := cellC θ ad Y S Z) hm
  exact ⟨z, ci, objC ad Y S b ci, q, by rw [← ha, ← cC_o (θ := θ) (Z := Z) hb]; exact hz, hc, hn⟩
section CRows
variable {τ : Type} {E : GE} {own cn : String} {cc : ByteArray} {ret : Option FieldType} {h mc ms : Nat} {T : τ → State → Prop} {k n : Nat} {lv lv' : List (Nat × Value)} {st : List Value} {pc : Nat} {e e1 e2 : Option τ} {ad Y : Nat → Nat} {S : St} {Z : Zt} {kf idx b ci N : Nat} {Tf : u_T} {a : Nat}
theorem c_get (C : CX E own cc ret h mc ms) {v : Value} (ha : adr ad Y (b + 19) = a) (hb : (b + 19) % 20 = 19 ∧ clC (b + 19) = ci) (hm : b + 19 ∈ LC Z) (hc : vwCl[ci]? = some (cn, Tf, N)) (hin : ∀ w ∈ u_ws cn Tf N, w ∈ TB) (hk : kf < N ∧ kf < (KT ci).length) (hl : Cond.fieldLink own idx (Tf kf).1 (Tf kf).2.1 (Tf kf).2.2.1 ∈ TB) (hv : fvC ad Y S b ((KT ci).getD kf 0) kf = v) (d : decode cc pc = .ok (.getfield idx, 3)) (kk : Dk E T k n (wdC (gt E) ad Y Z S) lv (v :: st) (pc + 3) e) : Dk E T k n (wdC (gt E) ad Y Z S) lv (.ref a :: st) pc e := by
  rw [← ha]
  exact k_get C hm (cC_o hb) hc hin hk.1 hl ((map_get hk.2).trans (by rw [hv])) d kk
theorem c_puti (C : CX E own cc ret h mc ms) {x : Int32} (ha : adr ad Y (b + 19) = a) (hb : (b + 19) % 20 = 19 ∧ clC (b + 19) = ci) (hm : b + 19 ∈ LC Z) (hc : vwCl[ci]? = some (cn, Tf, N)) (hin : ∀ w ∈ u_ws cn Tf N, w ∈ TB) (ty0 : Nat → FieldType) (hty : ∀ k, k < N → parseFieldDescriptor (Tf k).2.2.1 = some (ty0 k)) (hnm : ∀ a, a < N → ∀ b, b < N → a ≠ b → (Tf a).2.1 ≠ (Tf b).2.1) (hk : kf < N ∧ kf < (KT ci).length) (hl : Cond.fieldLink own idx (Tf kf).1 (Tf kf).2.1 (Tf kf).2.2.1 ∈ TB) (hf : (Tf kf).2.2.2 = false ∧ ty0 kf = .int ∧ (KT ci).getD kf 0 = 0) (d : decode cc pc = .ok (.putfield idx, 3)) (kk : Dk E T k n (wdC (gt E) ad Y Z (sf S (b + kf) x)) lv st (pc + 3) e) : Dk E T k n (wdC (gt E) ad Y Z S) lv (.int x :: .ref a :: st) pc e := by
  rw [← ha]
  refine k_put C (LC_nd Z) hm (cC_o hb) hc hin ty0 hty hnm hk.1 hl hf.1 (hf.2.1 ▸ hty kf hk.1) rfl rfl (by rw [objC_len]; exact hk.2) (fun j _ => ?_) d kk
  by_cases hj : j = b + 19
  · subst hj
    rw [if_pos rfl, cC_o hb]
    unfold objC
    rw [map_set (f' := fun kf' => fvC ad Y (sf S (b + kf) x) b ((KT ci).getD kf' 0) kf')]
    intro j
    by_cases hj : j = kf
    · subst hj
      rw [if_pos rfl, hf.2.2]
      simp [fvC, sf]
    · rw [if_neg hj]
      unfold fvC
      simp [sf, hj]
  · rw [if_neg hj]
    unfold cellC
    by_cases hm2 : j % 20 = 19
    · rw [if_pos hm2, if_pos hm2]
      unfold objC
      congr 2
      refine List.map_congr_left (fun kf' hkf => ?_)
      have h1 := List.mem_range.mp hkf
      have h2 := KT_len (clC j)
      have h3 := KT_len ci
      have h4 : ¬ (j - 19 + kf' = b + kf) := by omega
      unfold fvC
      simp [sf, h4]
    · rw [if_neg hm2, if_neg hm2]
      rfl
theorem c_iald (C : CX E own cc ret h mc ms) {i N : Nat} {x v : Int32} (ha : adr ad Y i = a) (hi : i ∈ LC Z) (hk : ¬ i % 20 = 19 ∧ ¬ i = 123 ∧ ¬ i = 143) (hN : lnC Z i = N) (hv : S.2.1 i x.toNatClampNeg = v) (d : decode cc pc = .ok (.iaload, 1)) (kk : Dk E T k n (wdC (gt E) ad Y Z S) lv (.int v :: st) (pc + 1) e) : Dk E T k n (wdC (gt E) ad Y Z S) lv (.int x :: .ref a :: st) pc (chk (inr x N) e) := by
  rw [← ha]
  exact k_iald C hi (cC_i hk hN) d (hv ▸ kk)
theorem c_iast (C : CX E own cc ret h mc ms) {i N : Nat} {x v : Int32} (ha : adr ad Y i = a) (hi : i ∈ LC Z) (hk : ¬ i % 20 = 19 ∧ ¬ i = 123 ∧ ¬ i = 143) (hN : lnC Z i = N) (d : decode cc pc = .ok (.iastore, 1)) (kk : Dk E T k n (wdC (gt E) ad Y Z (sa S i x.toNatClampNeg v)) lv st (pc + 1) e) : Dk E T k n (wdC (gt E) ad Y Z S) lv (.int v :: .int x :: .ref a :: st) pc (chk (inr x N) e) := by
  rw [← ha]
  refine k_iast C (LC_nd Z) hi (cC_i hk hN) (fun j _ => ?_) d kk
  by_cases hj : j = i
  · subst hj
    rw [if_pos rfl, cC_i hk hN]
    simp [sa]
  · rw [if_neg hj]
    unfold cellC
    simp [sa, objC, fvC, hj]
theorem c_alen (C : CX E own cc ret h mc ms) {i : Nat} {v : Int32} (ha : adr ad Y i = a) (hi : i ∈ LC Z) (hk : ¬ i % 20 = 19 ∧ ¬ i = 123 ∧ ¬ i = 143) (hv : Int32.ofNat (lnC Z i) = v) (d : decode cc pc = .ok (.arraylength, 1)) (kk : Dk E T k n (wdC (gt E) ad Y Z S) lv (.int v :: st) (pc + 1) e) : Dk E T k n (wdC (gt E) ad Y Z S) lv (.ref a :: st) pc e := by
  rw [← ha]
  exact k_alen C hi (cC_i hk rfl) d (hv ▸ kk)
theorem cC_l {θ : TH} {ad Y : Nat → Nat} {S : St} {Z : Zt} : cellC θ ad Y S Z 123 = .inl (θ.2.2.1, (360, .inr (.inl (S.2.2 123)))) := rfl
theorem c_lald (C : CX E own cc ret h mc ms) {x : Int32} {v : Int64} (hv : S.2.2 123 x.toNatClampNeg = v) (d : decode cc pc = .ok (.laload, 1)) (kk : Dk E T k n (wdC (gt E) ad Y Z S) lv (.long v :: st) (pc + 1) e) : Dk E T k n (wdC (gt E) ad Y Z S) lv (.int x :: .ref (ad 123) :: st) pc (chk (inr x 360) e) :=
  k_lald (ad := adr ad Y) C (LC_f (by decide)) cC_l d (hv ▸ kk)
theorem c_last (C : CX E own cc ret h mc ms) {x : Int32} {v : Int64} (d : decode cc pc = .ok (.lastore, 1)) (kk : Dk E T k n (wdC (gt E) ad Y Z (sl S 123 x.toNatClampNeg v)) lv st (pc + 1) e) : Dk E T k n (wdC (gt E) ad Y Z S) lv (.long v :: .int x :: .ref (ad 123) :: st) pc (chk (inr x 360) e) :=
  k_last (ad := adr ad Y) C (LC_nd Z) (LC_f (by decide)) cC_l (fun j _ => by
    by_cases hj : j = 123
    · subst hj
      rw [if_pos rfl]
      simp [cellC, sl]
    · rw [if_neg hj]
      unfold cellC
      simp [sl, objC, fvC, hj]) d kk
def sL (S : St) (k : Nat) (f : Nat → Int64) : St := (S.1, S.2.1, fun j => if j = k then f else S.2.2 j)
def cpy (S : St) (sp dp n : Int32) : St := sL S 123 (va_cpy (S.2.2 123) (S.2.2 123) sp.toNatClampNeg dp.toNatClampNeg n.toNatClampNeg)
def cpok (sp dp n : Int32) : Bool := decide (¬ sp < 0 ∧ ¬ dp < 0 ∧ ¬ n < 0 ∧ sp.toNatClampNeg + n.toNatClampNeg ≤ 360 ∧ dp.toNatClampNeg + n.toNatClampNeg ≤ 360)
theorem c_copy (C : CX E own cc ret h mc ms) {sp dp z : Int32} (hl : Cond.methodLink own idx arraycopyName ∈ TB) (hnat : Cond.native arraycopyName ∈ TB) (hstat : Cond.static arraycopyName ∈ TB) (hini : Cond.initialized "java/lang/System" ∈ TB) (hh : 1 ≤ h) (hrest : (st.map fun v => v.category).sum ≤ 8) (d : decode cc pc = .ok (.invokestatic idx, 3)) (kk : Dk E T k n (wdC (gt E) ad Y Z (cpy S sp dp z)) lv st (pc + 3) e) : Dk E T k n (wdC (gt E) ad Y Z S) lv (.int z :: .int dp :: .ref (ad 123) :: .int sp :: .ref (ad 123) :: st) pc (chk (cpok sp dp z) e) := k_chk fun hb => by
  intro r hr H locs ls hP hD hS hv
  obtain ⟨b1, b2, b3, b4, b5⟩ := of_decide_eq_true hb
  obtain ⟨q, hqi, hq⟩ := pl_get (ad := adr ad Y) (g := cellC (gt E) ad Y S Z) (LC_f (Z := Z) (show 123 ∈ LF by decide))
  rw [cC_l] at hq
  have es : (wdC (gt E) ad Y Z S).set q (adr ad Y 123, .inl ((gt E).2.2.1, (360, .inr (.inl (va_cpy (S.2.2 123) (S.2.2 123) sp.toNatClampNeg dp.toNatClampNeg z.toNatClampNeg))))) = wdC (gt E) ad Y Z (cpy S sp dp z) := (pl_set (LC_nd Z) hqi).trans (pl_congr (fun j hj => by
    by_cases hj : j = 123
    · subst hj
      rw [if_pos rfl]
      simp [cellC, cpy, sL]
    · rw [if_neg hj]
      unfold cellC
      simp [cpy, sL, objC, fvC, hj]))
  have h1 := C.rm.2.1
  refine va_copyl C.x C.b (C.ml.trans hv.1.symm) C.ow (C.ts _ hl) (C.ts _ hnat) (C.ts _ hstat) (C.ts _ hini) C.k hP hD hS q q 1 1 hq hq rfl rfl rfl b1 b2 b3 b4 b5 (fun _ _ => rfl) (Nat.le_trans hh C.rm.1) ?_ d (fun H1 locs1 h1 h2 h3 => ?_)
  · have e1 : nativeFrameWords "java/lang/System" "arraycopy" 5 ≤ 16 := by decide +kernel
    omega
  · rw [es] at h1 h2
    exact kk r hr H1 locs1 ls h1 h2 h3 hv
/-- a law of the sky: its place, or null -/
def lawV (Y : Nat → Nat) (q : Option Nat) : Value := match q with
  | none => .null
  | some k => .ref (Y (1019 + 20 * k))
def lawQ (Z : Zt) (i : Int32) : Option Nat := if i.toNatClampNeg < 3 ∧ Z.2 i.toNatClampNeg = true then some i.toNatClampNeg else none
theorem c_lawld (C : CX E own cc ret h mc ms) {x : Int32} (d : decode cc pc = .ok (.aaload, 1)) (kk : Dk E T k n (wdC (gt E) ad Y Z S) lv (lawV Y (lawQ Z x) :: st) (pc + 1) e) : Dk E T k n (wdC (gt E) ad Y Z S) lv (.int x :: .ref (ad 143) :: st) pc (chk (inr x 3) e) := k_chk fun hx => by
  intro r hr H locs ls hP hD hS hv
  obtain ⟨q, hqi, hq⟩ := pl_get (ad := adr ad Y) (g := cellC (gt E) ad Y S Z) (LC_f (Z := Z) (show 143 ∈ LF by decide))
  have hq' : (wdC (gt E) ad Y Z S)[q]? = some (ad 143, .inl ((gt E).2.2.2, (3, .inr (.inr (.inr (.inr (lawR Y Z))))))) := hq
  have ev : va_rf (lawR Y Z x.toNatClampNeg) = lawV Y (lawQ Z x) := by
    unfold lawR lawQ
    by_cases hz : x.toNatClampNeg < 3 ∧ Z.2 x.toNatClampNeg = true
    · rw [if_pos hz, if_pos hz]; rfl
    · rw [if_neg hz, if_neg hz]; rfl
  refine va_aldq C.x C.b C.k hP q 2 hq' rfl (inr_in hx) d ?_
  rw [ev]
  exact kk r hr H locs ls hP hD hS hv
/-- the two rows that never change -/
theorem c_own (C : CX E own cc ret h mc ms) (hl : Cond.fieldLink own idx "TwoMoons$Acts" "OWN" "[I" ∈ TB) (d : decode cc pc = .ok (.getstatic idx, 3)) {ws : va_W} (kk : ∀ t : Nat, va_T .int t 32 (fun j => .int (ownF j)) (gA E) (gs E) (gs E).heap → Dk E T k n ws lv (.ref t :: st) (pc + 3) e) : Dk E T k n ws lv st pc e := by
  obtain ⟨t1, t2, h1, h2, -, -, -⟩ := C.sf
  exact fun r hr H locs ls hP hD hS hv => va_gets C.x C.b h1 hS C.ow (C.ts _ hl) (fun _ z => z) d (kk t1 h2 r hr H locs ls hP hD hS hv)
theorem c_abv (C : CX E own cc ret h mc ms) (hl : Cond.fieldLink own idx "TwoMoons$Acts" "ABOVE" "[I" ∈ TB) (d : decode cc pc = .ok (.getstatic idx, 3)) {ws : va_W} (kk : ∀ t : Nat, va_T .int t 8 (fun j => .int (abvF j)) (gA E) (gs E) (gs E).heap → Dk E T k n ws lv (.ref t :: st) (pc + 3) e) : Dk E T k n ws lv st pc e := by
  obtain ⟨t1, t2, -, -, h1, h2, -⟩ := C.sf
  exact fun r hr H locs ls hP hD hS hv => va_gets C.x C.b h1 hS C.ow (C.ts _ hl) (fun _ z => z) d (kk t2 h2 r hr H locs ls hP hD hS hv)
theorem c_slen (C : CX E own cc ret h mc ms) {t M : Nat} {f : Nat → Value} {v : Int32} (hT : va_T .int t M f (gA E) (gs E) (gs E).heap) (hv0 : Int32.ofNat M = v) (d : decode cc pc = .ok (.arraylength, 1)) {ws : va_W} (kk : Dk E T k n ws lv (.int v :: st) (pc + 1) e) : Dk E T k n ws lv (.ref t :: st) pc e := fun r hr H locs ls hP hD hS hv => va_tlen C.x C.b hT hS hv0 d (kk r hr H locs ls hP hD hS hv)
end CRows
theorem c_sald {τ : Type} {E : GE} {own : String} {cc : ByteArray} {ret : Option FieldType} {h mc ms : Nat} {T : τ → State → Prop} {k n : Nat} {ws : va_W} {lv : List (Nat × Value)} {st : List Value} {pc : Nat} {e : Option τ} (C : CX E own cc ret h mc ms) {t M : Nat} {f : Nat → Int32} {x : Int32} (hT : va_T .int t M (fun j => .int (f j)) (gA E) (gs E) (gs E).heap) (d : decode cc pc = .ok (.iaload, 1)) (kk : Dk E T k n ws lv (.int (f x.toNatClampNeg) :: st) (pc + 1) e) : Dk E T k n ws lv (.int x :: .ref t :: st) pc (chk (inr x M) e) := k_chk fun hx => fun r hr H locs ls hP hD hS hv => va_ti C.x C.b hT hS (inr_in hx) rfl d (kk r hr H locs ls hP hD hS hv)
