/-! what the walks want of the functions: which court has made its row -/
abbrev BDb (b : Nat) (k n : Nat) (Z : Zt) (MC MS : Nat) : Prop := k + nd b Z ≤ MC ∧ n + 9216 * nd b Z ≤ MS
theorem BDb.e {b k n MC MS : Nat} {Z : Zt} (h : BDb b k n Z MC MS) : BE k n MC MS := ⟨Nat.le_trans (Nat.le_add_right _ _) h.1, Nat.le_trans (Nat.le_add_right _ _) h.2⟩
theorem BDb.z {b : Nat} {Z : Zt} : BDb b 0 0 Z (nd b Z) (9216 * nd b Z) := ⟨by rw [Nat.zero_add]; exact Nat.le_refl _, by rw [Nat.zero_add]; exact Nat.le_refl _⟩
theorem BDb.k1 {b k n MC MS : Nat} {Z : Zt} (h : BDb b k n Z MC MS) (hz : kz b Z = true) : k + 1 ≤ MC ∧ n + 9216 ≤ MS := by
  have h0 : nd b Z = 1 := if_pos (of_decide_eq_true hz)
  unfold BDb at h
  rw [h0] at h
  exact h
theorem nd_zk {b : Nat} {Z : Zt} : nd b (zk b Z) = 0 := by simp [nd, zk]
theorem BDb.k {b k n MC MS : Nat} {Z : Zt} (h : BDb b k n Z MC MS) (hz : kz b Z = true) : BDb b (k + 1) (n + 9216) (zk b Z) MC MS := by
  have h1 := BDb.k1 h hz
  unfold BDb
  rw [nd_zk]
  exact h1
theorem BDb.o {b k n MC MS : Nat} {Z Z' : Zt} (h : BDb b k n Z MC MS) (hz : nd b Z' = 0) : BDb b (k + nd b Z) (n + 9216 * nd b Z) Z' MC MS := by
  unfold BDb at *
  rw [hz]
  exact h
theorem BD2.h1 {k n MC MS : Nat} {Z : Zt} (h : BD2 k n Z MC MS) : k + nd 80 Z ≤ MC ∧ n + 9216 * nd 80 Z ≤ MS := by
  unfold BD2 at h
  omega
theorem BD2.h2 {k n MC MS : Nat} {Z : Zt} (h : BD2 k n Z MC MS) : k + nd 300 Z ≤ MC ∧ n + 9216 * nd 300 Z ≤ MS := by
  unfold BD2 at h
  omega
theorem za_B17 {F b : Nat} {S : St} {Z : Zt} {r : St × Zt} (h : f_X4_forget_B17 F b S Z = some r) : r.2 = Z := by
  unfold f_X4_forget_B17 at h
  split at h
  · unfold f_X4_forget_B39 at h; cases h; rfl
  · obtain ⟨a, -, h⟩ := bind_some h
    unfold f_X4_forget_B39 at h; cases h; rfl
theorem za_forget {F b : Nat} {S : St} {Z : Zt} {r : St × Zt} (hb : b = 80 ∨ b = 300) (h : f_X4_forget F b S Z = some r) : r.2 = zo b Z := by
  have hl : lnC Z (b + 6) = Z.1 (b + 6) := by
    unfold lnC
    rw [if_pos (by omega)]
  unfold f_X4_forget at h
  split at h
  · obtain ⟨h1, h⟩ := chk_some h
    rw [za_B17 h]
    unfold zo
    rw [if_pos (of_decide_eq_true h1)]
    rfl
  · rename_i h0
    rw [za_B17 h]
    unfold zo
    rw [if_neg (fun e => h0 (by rw [hl, e]; rfl))]
theorem za_open {F b : Nat} {S : St} {Z : Zt} {a1 a2 : Int32} {r : St × Zt} (hb : b = 80 ∨ b = 300) (h : f_X4_open F b S Z a1 a2 = some r) : r.2 = zo b Z := by
  unfold f_X4_open at h
  obtain ⟨_, -, h⟩ := bind_some h
  obtain ⟨_, -, h⟩ := bind_some h
  obtain ⟨_, -, h⟩ := bind_some h
  obtain ⟨-, h⟩ := chk_some h
  obtain ⟨-, h⟩ := chk_some h
  obtain ⟨-, h⟩ := chk_some h
  obtain ⟨_, -, h⟩ := bind_some h
  obtain ⟨-, h⟩ := chk_some h
  obtain ⟨_, -, h⟩ := bind_some h
  obtain ⟨q, hq, h⟩ := bind_some h
  cases h
  exact za_forget hb hq
theorem za_forget1 {F b : Nat} {S : St} {Z : Zt} {r : St × Zt} (hb : b = 80 ∨ b = 300) (h : f_X4_forget F b S Z = some r) : nd b r.2 = 0 := by rw [za_forget hb h, nd_zo]
theorem za_open1 {F : Nat} {S : St} {Z : Zt} {a1 a2 : Int32} {r : St × Zt} (h : f_X4_open F 80 S Z a1 a2 = some r) : nd 80 r.2 = 0 := by rw [za_open (Or.inl rfl) h, nd_zo]
theorem za_hours {F : Nat} {a3 a4 : Int32} : ∀ (n : Nat) (S : St) (Z : Zt) (x y : Int32) (r : Int32 × St × Zt), f_X2_lawfulHours_L15 F a3 a4 n S Z x y = some r → r.2.2 = Z := by
  intro n
  induction n with
  | zero => intro S Z x y r h; cases h
  | succ n ih =>
    intro S Z x y r h
    unfold f_X2_lawfulHours_L15 at h
    split at h
    · cases h; rfl
    · obtain ⟨a, -, h⟩ := bind_some h
      split at h
      · exact ih _ _ _ _ _ h
      · exact ih _ _ _ _ _ h
theorem za_lawfulHours1 {F : Nat} {S : St} {Z : Zt} {a1 a2 a3 a4 : Int32} {r : Int32 × St × Zt} (h : f_X2_lawfulHours F S Z a1 a2 a3 a4 = some r) : nd 80 r.2.2 = 0 := by
  unfold f_X2_lawfulHours at h
  obtain ⟨a, ha, h⟩ := bind_some h
  rw [za_hours _ _ _ _ _ _ h]
  exact za_open1 ha
theorem recvS {θ : TH} {ad Y : Nat → Nat} {S : St} {Z : Zt} {k : Nat} (hw : lawok Z k = true) : ∃ (q0 ci : Nat) (fs : List Value) (q : vw_C), (wdC θ ad Y Z S)[q0]? = some (Y (1019 + 20 * k), .inr (ci, fs)) ∧ vwCl[ci]? = some q ∧ q.1 = RX8 := by
  obtain ⟨hk, hz⟩ := of_decide_eq_true hw
  match k, hk with
  | 0, _ => exact recvC (b := 1000) (ci := 8) rfl ⟨rfl, rfl⟩ (LC_s0 hz (by decide)) rfl rfl
  | 1, _ => exact recvC (b := 1020) (ci := 8) rfl ⟨rfl, rfl⟩ (LC_s1 hz (by decide)) rfl rfl
  | 2, _ => exact recvC (b := 1040) (ci := 8) rfl ⟨rfl, rfl⟩ (LC_s2 hz (by decide)) rfl rfl
