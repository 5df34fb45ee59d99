/-! the reference's world: one object, its rows by the place of the field -/
def scM (k : Nat) : Bool := [4, 5, 6, 8, 13, 16, 17, 18, 19, 20, 22, 29, 31, 34, 37, 38, 39].contains k
def lnM (i : Nat) : Nat := [30, 40, 40, 40, 0, 0, 0, 3, 0, 15, 15, 25, 120, 0, 360, 3, 0, 0, 0, 0, 0, 7, 0, 12, 12, 110592, 110592, 12, 12, 0, 5, 0, 20, 20, 0, 50, 24, 0, 0, 0, 6, 6, 360, 60].getD i 0
def LM : List Nat := [0, 1, 2, 3, 7, 9, 10, 11, 12, 14, 15, 21, 23, 24, 25, 26, 27, 28, 30, 32, 33, 35, 36, 40, 41, 42, 43, 44]
theorem LM_nd : LM.Nodup := by decide +kernel
def mF (ad : Nat → Nat) (S : St) : List Value := (List.range 44).map (fun k => if scM k = true then .int (S.1 k) else .ref (ad k))
def cellM (θ : TH) (ad : Nat → Nat) (S : St) (i : Nat) : va_E := if i = 44 then .inr (11, mF ad S) else if 42 ≤ i then .inl (θ.2.2.1, (lnM i, .inr (.inl (S.2.2 i)))) else .inl (θ.2.1, (lnM i, .inl (S.2.1 i)))
def wdM (θ : TH) (ad : Nat → Nat) (S : St) : va_W := pl ad LM (cellM θ ad S)
theorem cM_o (θ : TH) (ad : Nat → Nat) (S : St) : cellM θ ad S 44 = .inr (11, mF ad S) := if_pos rfl
theorem cM_i {θ : TH} {ad : Nat → Nat} {S : St} {a N : Nat} (ha : a < 42) (hN : lnM a = N) : cellM θ ad S a = .inl (θ.2.1, (N, .inl (S.2.1 a))) := by
  unfold cellM
  rw [if_neg (by omega), if_neg (by omega), hN]
theorem cM_l {θ : TH} {ad : Nat → Nat} {S : St} {a N : Nat} (ha : a = 42 ∨ a = 43) (hN : lnM a = N) : cellM θ ad S a = .inl (θ.2.2.1, (N, .inr (.inl (S.2.2 a)))) := by
  unfold cellM
  rw [if_neg (by omega), if_pos (by omega), hN]
theorem recvM {θ : TH} {ad : Nat → Nat} {S : St} : ∃ (q0 ci : Nat) (fs : List Value) (q : vw_C), (wdM θ ad S)[q0]? = some (ad 44, .inr (ci, fs)) ∧ vwCl[ci]? = some q ∧ q.1 = RX11 := by
  obtain ⟨q, -, hq⟩ := pl_get (ad := ad) (g := cellM θ ad S) (show 44 ∈ LM by decide)
  exact ⟨q, 11, mF ad S, _, (cM_o θ ad S) ▸ hq, rfl, rfl⟩
section MRows
variable {τ : Type} {E : GE} {cc : ByteArray} {ret : Option FieldType} {h mc ms : Nat} {T : τ → State → Prop} {k n : Nat} {lv lv' : List (Nat × Value)} {st : List Value} {pc : Nat} {e e1 e2 : Option τ} {ad : Nat → Nat} {S : St} {kf idx : Nat}
theorem m_geti (C : CX E RX11 cc ret h mc ms) {v : Int32} (hs : kf < 44 ∧ scM kf = true) (hl : Cond.fieldLink RX11 idx (TX11 kf).1 (TX11 kf).2.1 (TX11 kf).2.2.1 ∈ TB) (hv : S.1 kf = v) (d : decode cc pc = .ok (.getfield idx, 3)) (kk : Dk E T k n (wdM (gt E) ad S) lv (.int v :: st) (pc + 3) e) : Dk E T k n (wdM (gt E) ad S) lv (.ref (ad 44) :: st) pc e :=
  k_get C (show 44 ∈ LM by decide) (cM_o _ _ _) (ci := 11) (cn := RX11) (Tf := TX11) (N := 44) rfl lay_11 hs.1 hl ((map_get hs.1).trans (by rw [if_pos hs.2, hv])) d kk
theorem m_geta (C : CX E RX11 cc ret h mc ms) (hs : kf < 44 ∧ scM kf = false) (hl : Cond.fieldLink RX11 idx (TX11 kf).1 (TX11 kf).2.1 (TX11 kf).2.2.1 ∈ TB) (d : decode cc pc = .ok (.getfield idx, 3)) (kk : Dk E T k n (wdM (gt E) ad S) lv (.ref (ad kf) :: st) (pc + 3) e) : Dk E T k n (wdM (gt E) ad S) lv (.ref (ad 44) :: st) pc e :=
  k_get C (show 44 ∈ LM by decide) (cM_o _ _ _) (ci := 11) (cn := RX11) (Tf := TX11) (N := 44) rfl lay_11 hs.1 hl ((map_get hs.1).trans (by rw [if_neg (by rw [hs.2]; decide)])) d kk
theorem m_puti (C : CX E RX11 cc ret h mc ms) {x : Int32} (hs : kf < 44 ∧ scM kf = true) (hf : (TX11 kf).2.2.2 = false ∧ tyX11 kf = .int) (hl : Cond.fieldLink RX11 idx (TX11 kf).1 (TX11 kf).2.1 (TX11 kf).2.2.1 ∈ TB) (d : decode cc pc = .ok (.putfield idx, 3)) (kk : Dk E T k n (wdM (gt E) ad (sf S kf x)) lv st (pc + 3) e) : Dk E T k n (wdM (gt E) ad S) lv (.int x :: .ref (ad 44) :: st) pc e :=
  k_put C LM_nd (show 44 ∈ LM by decide) (cM_o _ _ _) (ci := 11) (cn := RX11) (Tf := TX11) (N := 44) rfl lay_11 tyX11 tyX11_ok nmX11 hs.1 hl hf.1 (hf.2 ▸ tyX11_ok kf hs.1) rfl rfl (by rw [mF, List.length_map, List.length_range]; exact hs.1) (fun j _ => by
    unfold cellM
    by_cases hj : j = 44
    · subst hj
      rw [if_pos rfl, if_pos rfl, mF, mF, map_set (f' := fun k => if scM k = true then .int ((sf S kf x).1 k) else .ref (ad k))]
      intro j
      by_cases hj : j = kf
      · subst hj
        rw [if_pos hs.2, if_pos rfl]
        simp [sf]
      · rw [if_neg hj]
        simp [sf, hj]
    · rw [if_neg hj, if_neg hj, if_neg hj]
      rfl) d kk
theorem m_iald (C : CX E RX11 cc ret h mc ms) {a N : Nat} {i x : Int32} (ha : a ∈ LM ∧ a < 42) (hN : lnM a = N) (hx : S.2.1 a i.toNatClampNeg = x) (d : decode cc pc = .ok (.iaload, 1)) (kk : Dk E T k n (wdM (gt E) ad S) lv (.int x :: st) (pc + 1) e) : Dk E T k n (wdM (gt E) ad S) lv (.int i :: .ref (ad a) :: st) pc (chk (inr i N) e) :=
  k_iald C ha.1 (cM_i ha.2 hN) d (hx ▸ kk)
theorem m_lald (C : CX E RX11 cc ret h mc ms) {a N : Nat} {i : Int32} {x : Int64} (ha : a ∈ LM ∧ (a = 42 ∨ a = 43)) (hN : lnM a = N) (hx : S.2.2 a i.toNatClampNeg = x) (d : decode cc pc = .ok (.laload, 1)) (kk : Dk E T k n (wdM (gt E) ad S) lv (.long x :: st) (pc + 1) e) : Dk E T k n (wdM (gt E) ad S) lv (.int i :: .ref (ad a) :: st) pc (chk (inr i N) e) :=
  k_lald C ha.1 (cM_l ha.2 hN) d (hx ▸ kk)
theorem m_iast (C : CX E RX11 cc ret h mc ms) {a N : Nat} {i x : Int32} (ha : a ∈ LM ∧ a < 42) (hN : lnM a = N) (d : decode cc pc = .ok (.iastore, 1)) (kk : Dk E T k n (wdM (gt E) ad (sa S a i.toNatClampNeg x)) lv st (pc + 1) e) : Dk E T k n (wdM (gt E) ad S) lv (.int x :: .int i :: .ref (ad a) :: st) pc (chk (inr i N) e) :=
  k_iast C LM_nd ha.1 (cM_i ha.2 hN) (fun j _ => by
    by_cases hj : j = a
    · subst hj
      rw [if_pos rfl, cM_i ha.2 hN]
      simp [sa]
    · rw [if_neg hj]
      unfold cellM
      simp [sa, mF, hj]) d kk
theorem m_last (C : CX E RX11 cc ret h mc ms) {a N : Nat} {i : Int32} {x : Int64} (ha : a ∈ LM ∧ (a = 42 ∨ a = 43)) (hN : lnM a = N) (d : decode cc pc = .ok (.lastore, 1)) (kk : Dk E T k n (wdM (gt E) ad (sl S a i.toNatClampNeg x)) lv st (pc + 1) e) : Dk E T k n (wdM (gt E) ad S) lv (.long x :: .int i :: .ref (ad a) :: st) pc (chk (inr i N) e) :=
  k_last C LM_nd ha.1 (cM_l ha.2 hN) (fun j _ => by
    by_cases hj : j = a
    · subst hj
      rw [if_pos rfl, cM_l ha.2 hN]
      simp [sl]
    · rw [if_neg hj]
      unfold cellM
      simp [sl, mF, hj]) d kk
end MRows
