/-! acts: each kind's -/
section
variable {F : Nat} {Z : Zt} {S0 M0 S M : St} {p k0 nb : Nat}
theorem AS.leaf {tag k : Nat} {a num : Int32} {f : Int32 → Int32 → Int32} (hC : ∀ d S x dep, dep ≤ 40 → R_C_1 F Z (d + 1 + 1) 0 S a (nI k) x (nI dep) = (f_X0_note Z S num).bind fun r4 => some (f x (r4.1 4), r4)) (hM : ∀ d M x, R_X11_1 F (d + 1) tag M (nI k) x = (f_X11_begins M num).bind fun r => some (f x (r.1 39), r)) : AS F Z S0 M0 p k0 nb a tag k 1 2 1 := by
  intro d d' S M r x dep q1 q2 q3 q4 q5
  obtain ⟨d, rfl⟩ : ∃ z, d = z + 1 + 1 := ⟨d - 2, by omega⟩
  obtain ⟨d', rfl⟩ : ∃ z, d' = z + 1 := ⟨d' - 1, by omega⟩
  obtain ⟨S1, M1, n1, n2, n3⟩ := noteB (Z := Z) q3 (by omega) num
  refine ⟨f x (nI p), S1, M1, r + 1, ?_, ?_, n3, Nat.le_refl _⟩
  · show R_C_1 F Z (d + 1 + 1) 0 S a (nI k) x (nI dep) = _
    rw [hC d S x dep (by omega), n1, Option.bind_some, n3.2.1.1]
  · show R_X11_1 F (d' + 1) tag M (nI k) x = _
    rw [hM, n2, Option.bind_some, n3.2.1.2.1]
theorem run_at (hF : 200 ≤ F) {A k kd : Nat} {num : Int32} (h1 : A < 4) (h2 : k < 8) (hk : kndP A 8 k = kd) (hn : ownF (8 * A + kd) = num) {d dep : Nat} {S : St} {x : Int32} (hdep : dep ≤ 40) : R_C_1 F Z (d + 1) 0 S (nI A) (nI k) x (nI dep) = (f_X0_note Z S num).bind fun r4 => R_C_1 F Z d (A + 1) r4 num (nI kd) x (nI dep) := by
  rw [runC hF rfl h1 h2 hdep, hk, hn]
theorem AS_b0 (hF : 200 ≤ F) {k : Nat} (hk : k = 0 ∨ k = 2 ∨ k = 3 ∨ k = 4 ∨ k = 7) : AS F Z S0 M0 p k0 nb 0 0 k 1 2 1 := by
  have hkd : kndP 0 8 k = 0 := by rcases hk with rfl | rfl | rfl | rfl | rfl <;> decide
  have hk8 : k < 8 := by omega
  refine AS.leaf (num := 1) (f := fun x p => x + p) (fun d S x dep hdep => ?_) (fun d M x => ?_)
  · exact (run_at hF (A := 0) (by omega) hk8 hkd rfl hdep).trans rfl
  · rcases hk with rfl | rfl | rfl | rfl | rfl <;> rfl
theorem AS_begins (hF : 200 ≤ F) {k : Nat} (hk : k < 8) : AS F Z S0 M0 p k0 nb 0 0 k 3 5 2 := by
  by_cases h0 : k = 0 ∨ k = 2 ∨ k = 3 ∨ k = 4 ∨ k = 7
  · exact (AS_b0 hF h0).mono (by omega) (by omega) (by omega)
  · by_cases h1 : k = 1 ∨ k = 5
    · have hkd : kndP 0 8 k = 1 := by rcases h1 with rfl | rfl <;> decide
      refine AS.one (num := 20) (f := fun v => v + 3) (h := fun x => x) (fun d S x dep hdep => ?_) (fun d M x => ?_) (Sub.up (Z := Z) (kk := 1) (j := 0) (by omega) (by decide) (AS_b0 hF (Or.inl rfl)))
      · exact (run_at hF (A := 0) (by omega) hk hkd (by decide) hdep).trans rfl
      · rcases h1 with rfl | rfl <;> rfl
    · have e : k = 6 := by omega
      subst e
      refine AS.one (num := 70) (f := fun v => v * 2) (h := fun x => x) (fun d S x dep hdep => ?_) (fun d M x => ?_) (Sub.up (Z := Z) (kk := 6) (j := 0) (by omega) (by decide) (AS_b0 hF (Or.inl rfl)))
      · exact (run_at hF (A := 0) (by omega) hk (kd := 6) (by decide) (by decide) hdep).trans rfl
      · rfl
theorem AS_e0 (hF : 200 ≤ F) {k : Nat} (hk : k = 0 ∨ k = 1 ∨ k = 2 ∨ k = 5 ∨ k = 6) : AS F Z S0 M0 p k0 nb 2 1 k 1 2 1 := by
  have hkd : kndP 2 8 k = 0 := by rcases hk with rfl | rfl | rfl | rfl | rfl <;> decide
  have hk8 : k < 8 := by omega
  refine AS.leaf (num := 11) (f := fun x p => x ^^^ p) (fun d S x dep hdep => ?_) (fun d M x => ?_)
  · exact (run_at hF (A := 2) (by omega) hk8 hkd (by decide) hdep).trans rfl
  · rcases hk with rfl | rfl | rfl | rfl | rfl <;> rfl
theorem AS_ends (hF : 200 ≤ F) (hk0 : k0 < 8) {k : Nat} (hk : k < 8) : AS F Z S0 M0 p k0 nb 2 1 k 8 8 3 := by
  by_cases h0 : k = 0 ∨ k = 1 ∨ k = 2 ∨ k = 5 ∨ k = 6
  · exact (AS_e0 hF h0).mono (by omega) (by omega) (by omega)
  · have hup := AS_e0 (F := F) (Z := Z) (S0 := S0) (M0 := M0) (p := p) (k0 := k0) (nb := nb) hF (k := 2) (by omega)
    by_cases h1 : k = 3 ∨ k = 7
    · have hkd : kndP 2 8 k = 3 := by rcases h1 with rfl | rfl <;> decide
      refine Sub.mono (AS.one (num := 40) (f := fun v => v * 3) (h := fun x => x) (fun d S x dep hdep => ?_) (fun d M x => ?_) (Sub.up (Z := Z) (kk := 3) (j := 2) (by omega) (by decide) hup)) (by omega) (by omega) (by omega)
      · exact (run_at hF (A := 2) (by omega) hk hkd (by decide) hdep).trans rfl
      · rcases h1 with rfl | rfl <;> rfl
    · have e : k = 4 := by omega
      subst e
      refine Sub.mono (AS.two (num := 50) (f := fun v w => v - w) (x2 := 2) (fun d S x dep hdep => ?_) (fun d M x => ?_) ((Sub.up (Z := Z) (kk := 4) (j := 2) (by omega) (by decide) hup).mono (c2 := 2) (D2 := 6) (D2' := 2) (by omega) (by omega) (by omega)) ((Sub.own (Z := Z) (z := 0) (AS_begins (F := F) (Z := Z) (S0 := S0) (M0 := M0) (p := p) (k0 := k0) (nb := nb) hF hk0)).mono (c2 := 4) (D2 := 6) (D2' := 2) (by omega) (by omega) (by omega))) (by omega) (by omega) (by omega)
      · exact (run_at hF (A := 2) (by omega) hk (kd := 4) (by decide) (by decide) hdep).trans rfl
      · rfl
theorem AS_l0 (hF : 200 ≤ F) (hk0 : k0 < 8) {k : Nat} (hk : k = 0 ∨ k = 1 ∨ k = 5 ∨ k = 6) : AS F Z S0 M0 p k0 nb 1 2 k 5 8 3 := by
  have hkd : kndP 1 8 k = 0 := by rcases hk with rfl | rfl | rfl | rfl <;> decide
  have hk8 : k < 8 := by omega
  refine AS.one (num := 10) (f := fun v => v * 2) (h := fun x => x) (fun d S x dep hdep => ?_) (fun d M x => ?_) (Sub.own (Z := Z) (z := 0) (AS_begins (F := F) (Z := Z) (S0 := S0) (M0 := M0) (p := p) (k0 := k0) (nb := nb) hF hk0))
  · exact (run_at hF (A := 1) (by omega) hk8 hkd (by decide) hdep).trans rfl
  · rcases hk with rfl | rfl | rfl | rfl <;> rfl
theorem AS_l2 (hF : 200 ≤ F) (hk0 : k0 < 8) {k : Nat} (hk : k = 2 ∨ k = 4) : AS F Z S0 M0 p k0 nb 1 2 k 7 11 4 := by
  have hkd : kndP 1 8 k = 2 := by rcases hk with rfl | rfl <;> decide
  have hk8 : k < 8 := by omega
  refine AS.one (num := 30) (f := fun v => -v) (h := fun x => x) (fun d S x dep hdep => ?_) (fun d M x => ?_) (Sub.up (Z := Z) (kk := 2) (j := 0) (by omega) (by decide) (AS_l0 hF hk0 (Or.inl rfl)))
  · exact (run_at hF (A := 1) (by omega) hk8 hkd (by decide) hdep).trans rfl
  · rcases hk with rfl | rfl <;> rfl
theorem AS_l3 (hF : 200 ≤ F) (hk0 : k0 < 8) : AS F Z S0 M0 p k0 nb 1 2 3 9 14 5 := by
  refine AS.one (num := 41) (f := fun v => v) (h := fun x => x + 1) (fun d S x dep hdep => ?_) (fun d M x => ?_) (Sub.up (Z := Z) (kk := 3) (j := 2) (by omega) (by decide) (AS_l2 hF hk0 (Or.inl rfl)))
  · exact (run_at hF (A := 1) (k := 3) (by omega) (by omega) (kd := 3) (by decide) (by decide) hdep).trans rfl
  · rfl
theorem AS_lasts (hF : 200 ≤ F) (hk0 : k0 < 8) {k : Nat} (hk : k < 8) : AS F Z S0 M0 p k0 nb 1 2 k 20 17 6 := by
  by_cases h0 : k = 0 ∨ k = 1 ∨ k = 5 ∨ k = 6
  · exact (AS_l0 hF hk0 h0).mono (by omega) (by omega) (by omega)
  · by_cases h2 : k = 2 ∨ k = 4
    · exact (AS_l2 hF hk0 h2).mono (by omega) (by omega) (by omega)
    · by_cases h3 : k = 3
      · subst h3
        exact (AS_l3 hF hk0).mono (by omega) (by omega) (by omega)
      · have e : k = 7 := by omega
        subst e
        refine Sub.mono (AS.two (num := 80) (f := fun v w => v + w) (x2 := 2) (fun d S x dep hdep => ?_) (fun d M x => ?_) ((Sub.up (Z := Z) (kk := 7) (j := 3) (by omega) (by decide) (AS_l3 (F := F) (Z := Z) (S0 := S0) (M0 := M0) (p := p) (k0 := k0) (nb := nb) hF hk0)).mono (c2 := 10) (D2 := 15) (D2' := 5) (by omega) (by omega) (by omega)) ((Sub.own (Z := Z) (z := 0) (AS_ends (F := F) (Z := Z) (S0 := S0) (M0 := M0) (p := p) (k0 := k0) (nb := nb) hF hk0 hk0)).mono (c2 := 9) (D2 := 15) (D2' := 5) (by omega) (by omega) (by omega))) (by omega) (by omega) (by omega)
        · exact (run_at hF (A := 1) (by omega) hk (kd := 7) (by decide) (by decide) hdep).trans rfl
        · rfl
theorem AS_t0 (hF : 200 ≤ F) (hk0 : k0 < 8) {k : Nat} (hk : k < 8) (h5 : k ≠ 5) (h7 : k ≠ 7) : AS F Z S0 M0 p k0 nb 3 3 k 31 20 7 := by
  have hkd : kndP 3 8 k = 0 := by
    have hc : k = 0 ∨ k = 1 ∨ k = 2 ∨ k = 3 ∨ k = 4 ∨ k = 6 := by omega
    rcases hc with rfl | rfl | rfl | rfl | rfl | rfl <;> decide
  refine Sub.mono (AS.two (num := 2) (f := fun v w => v - w) (x2 := 1) (fun d S x dep hdep => ?_) (fun d M x => ?_) ((Sub.own (Z := Z) (z := 0) (AS_lasts (F := F) (Z := Z) (S0 := S0) (M0 := M0) (p := p) (k0 := k0) (nb := nb) hF hk0 hk0)).mono (c2 := 21) (D2 := 18) (D2' := 6) (by omega) (by omega) (by omega)) ((Sub.own (Z := Z) (z := 0) (AS_ends (F := F) (Z := Z) (S0 := S0) (M0 := M0) (p := p) (k0 := k0) (nb := nb) hF hk0 hk0)).mono (c2 := 9) (D2 := 18) (D2' := 6) (by omega) (by omega) (by omega))) (by omega) (by omega) (by omega)
  · exact (run_at hF (A := 3) (by omega) hk hkd (by decide) hdep).trans rfl
  · have hc : k = 0 ∨ k = 1 ∨ k = 2 ∨ k = 3 ∨ k = 4 ∨ k = 6 := by omega
    rcases hc with rfl | rfl | rfl | rfl | rfl | rfl <;> rfl
theorem AS_tells (hF : 200 ≤ F) (hk0 : k0 < 8) {k : Nat} (hk : k < 8) : AS F Z S0 M0 p k0 nb 3 3 k 33 23 8 := by
  by_cases h5 : k = 5
  · subst h5
    refine AS.one (num := 60) (f := fun v => v ^^^ 5) (h := fun x => x) (fun d S x dep hdep => ?_) (fun d M x => ?_) (Sub.up (Z := Z) (kk := 5) (j := 1) (by omega) (by decide) (AS_t0 hF hk0 (k := 1) (by omega) (by omega) (by omega)))
    · exact (run_at hF (A := 3) (by omega) hk (kd := 5) (by decide) (by decide) hdep).trans rfl
    · rfl
  · by_cases h7 : k = 7
    · subst h7
      refine AS.one (num := 81) (f := fun v => v - 1) (h := fun x => x) (fun d S x dep hdep => ?_) (fun d M x => ?_) (Sub.up (Z := Z) (kk := 7) (j := 3) (by omega) (by decide) (AS_t0 hF hk0 (k := 3) (by omega) (by omega) (by omega)))
      · exact (run_at hF (A := 3) (by omega) hk (kd := 7) (by decide) (by decide) hdep).trans rfl
      · rfl
    · exact (AS_t0 hF hk0 hk h5 h7).mono (by omega) (by omega) (by omega)
theorem RR_act {nm nv nd t r : Nat} {S' M' : St} (hV : RV F S Z M nm nv nd nb) (c1 : KCt S Z 80) (c2 : KCt S Z 300) (hm : KMemo S Z M nd (1000000 * t)) (e1 : S'.1 3 = nI r) (e2 : M'.1 37 = nI r) (hr : r ≤ 1000) (e3 : S'.2.1 1 = M'.2.1 36) (a1 : ∀ j, j ≠ 3 → j ≠ 4 → S'.1 j = S.1 j) (a2 : ∀ j, j ≠ 1 → S'.2.1 j = S.2.1 j) (a3 : S'.2.2 = S.2.2) (b1 : ∀ j, (j < 37 ∨ 39 < j) → M'.1 j = M.1 j) (b2 : ∀ j, j ≠ 36 → M'.2.1 j = M.2.1 j) (b3 : M'.2.2 = M.2.2) : RR F (t + 1) S' Z M' := by
  obtain ⟨h1, h2, h3, h4, h5, h6, h7, h8⟩ := hV
  have h12 := h2.1.2.2
  have e0 : M'.2.1 0 = M.2.1 0 := b2 0 (by omega)
  have hl : ∀ k, lwS S Z S' Z k := fun k => ⟨rfl, a1 _ (by omega) (by omega), a1 _ (by omega) (by omega), a2 _ (by omega), a2 _ (by omega), a2 _ (by omega), a2 _ (by omega), a2 _ (by omega)⟩
  refine RR_mk (nm := nm) (nv := nv) (nd := nd) (nb := nb) ⟨?_, ?_, ?_, ?_, ?_, ⟨?_, ?_, ?_, ?_, r, hr, e2⟩, ?_, ?_⟩ (c1.fr ⟨rfl, a1 _ (by omega) (by omega), a2 _ (by omega)⟩) (c2.fr ⟨rfl, a1 _ (by omega) (by omega), a2 _ (by omega)⟩) (hm.fr (Nat.le_refl _) h12 ⟨hl 0, hl 1, hl 2⟩ ⟨b1 _ (by omega), b2 _ (by omega), b2 _ (by omega), b2 _ (by omega), b2 _ (by omega)⟩ (fun d _ => ⟨by rw [b2 23 (by omega)], by rw [e0], by rw [b2 24 (by omega)]⟩)) (by omega)
  · exact h1.fr ⟨a1 _ (by omega) (by omega), a1 _ (by omega) (by omega), a2 _ (by omega), a2 _ (by omega), a2 _ (by omega), a2 _ (by omega), a2 _ (by omega), a2 _ (by omega)⟩ ⟨b1 _ (by omega), b1 _ (by omega), b2 _ (by omega), b2 _ (by omega), b2 _ (by omega), b2 _ (by omega)⟩ (fun k _ => by rw [e0])
  · exact h2.fr ⟨a1 _ (by omega) (by omega), a2 _ (by omega), a2 _ (by omega), a2 _ (by omega), a2 _ (by omega)⟩ ⟨b1 _ (by omega), b2 _ (by omega), b2 _ (by omega)⟩ (fun k _ _ => by rw [e0])
  · exact h3.fr ⟨a2 _ (by omega), a1 _ (by omega) (by omega)⟩ ⟨b2 _ (by omega), b1 _ (by omega)⟩
  · exact h4.fr ⟨a1 _ (by omega) (by omega), a2 _ (by omega), a2 _ (by omega), a2 _ (by omega)⟩ ⟨b1 _ (by omega), b2 _ (by omega), b2 _ (by omega)⟩ (Nat.le_refl _) (Nat.le_refl _)
  · exact h5.fr ⟨a1 _ (by omega) (by omega), a1 _ (by omega) (by omega), a2 _ (by omega), a2 _ (by omega), a2 _ (by omega), a2 _ (by omega)⟩ ⟨b1 _ (by omega), b1 _ (by omega), b2 _ (by omega), b2 _ (by omega), b2 _ (by omega)⟩ (fun k _ => by rw [b2 7 (by omega)]) (Nat.le_refl _) (Nat.le_refl _)
  · rw [a1 2 (by omega) (by omega), b1 34 (by omega)]; exact h6.1
  · rw [a2 0 (by omega), b2 35 (by omega)]; exact ⟨h6.2.1.1, e3⟩
  · rw [b2 35 (by omega)]; exact h6.2.2.1
  · rw [e1, e2]
  · exact h7.fr (Nat.le_refl _) ⟨a2 _ (by omega), a2 _ (by omega), a2 _ (by omega), by rw [a3]⟩ ⟨b2 _ (by omega), b2 _ (by omega), by rw [b3]⟩
  · exact h8.fr (Nat.le_refl _) ⟨hl 0, hl 1, hl 2⟩ ⟨b2 _ (by omega), b2 _ (by omega)⟩
theorem st_act (hF : 200000 ≤ F) : ST_act F (RR F) := by
  intro t S Z M a1 a2 a3 ht hR
  obtain ⟨nm, nv, nd, nb, hV, c1, c2, hm⟩ := hR
  have hA := hV.2.2.2.2.2.1
  have hnb := hA.1.2.2
  unfold f_X10_act f_X11_act f_X0_play
  rw [hasBody_eq (show (sf S 3 0).1 2 = nI nb from hA.1.1) hnb, isBody_eq (show (sf M 37 0).1 34 = nI nb from hA.1.2.1) hnb, Option.bind_some, Option.bind_some, bind_id2]
  have hf3 : ∀ (x : Int32) j, j ≠ 3 → j ≠ 4 → (sf S 3 x).1 j = S.1 j := fun x j q _ => by rw [sf1, if_neg q]
  have hf37 : ∀ (x : Int32) j, (j < 37 ∨ 39 < j) → (sf M 37 x).1 j = M.1 j := fun x j q => by rw [sf1, if_neg (by omega)]
  have hrow : S.2.1 1 = M.2.1 36 := hA.2.1.2
  rcases hx_01 (n := nb) (a := a1) with h0 | ⟨b, hb, rfl, h1⟩
  · rw [h0, if_pos rfl, if_pos rfl]
    exact ⟨_, _, _, rfl, rfl, RR_act hV c1 c2 hm (r := 0) rfl rfl (by omega) hrow (hf3 0) (fun _ _ => rfl) rfl (hf37 0) (fun _ _ => rfl) rfl⟩
  obtain ⟨k0, hk0, ek⟩ := hA.2.2.1 b hb
  rw [h1, if_neg one0, if_neg one0, inr_nI (show b < 50 by omega) (by omega), chk_true, cl_nI (by omega), ek]
  have hM3 : ∀ j, (j < 37 ∨ 39 < j) → (sf (sf (sf M 37 0) 38 (nI k0)) 39 (nI b)).1 j = M.1 j := fun j q => by
    rw [sf1, if_neg (by omega), sf1, if_neg (by omega), sf1, if_neg (by omega)]
  have hS2 : ∀ j, j ≠ 3 → j ≠ 4 → (sf (sf S 3 0) 4 (nI b)).1 j = S.1 j := fun j q1 q2 => by
    rw [sf1, if_neg q2, sf1, if_neg q1]
  have hkind : f_X0_kindOf Z (sf (sf S 3 0) 4 (nI b)) (nI b) = some (nI k0) := by
    unfold f_X0_kindOf
    rw [hasBody_eq (show (sf (sf S 3 0) 4 (nI b)).1 2 = nI nb from hA.1.1) hnb, hx_y hb, Option.bind_some, if_neg one0, inr_nI (show b < 50 by omega) (by omega), chk_true, cl_nI (by omega)]
    show some (S.2.1 0 b) = _
    rw [hA.2.1.1, ek]
  have hTR : TR S M b k0 nb (sf (sf S 3 0) 4 (nI b)) (sf (sf (sf M 37 0) 38 (nI k0)) 39 (nI b)) 0 := ⟨⟨rfl, rfl, hrow⟩, ⟨rfl, rfl, rfl⟩, ⟨hA.1.1, hb, hnb, by show S.2.1 0 b = _; rw [hA.2.1.1, ek]⟩, ⟨hS2, fun _ _ => rfl, rfl⟩, hM3, fun _ _ => rfl, rfl⟩
  have hgo : ∀ (a : Int32) (tag c D D' : Nat), AS F Z S M b k0 nb a tag k0 c D D' → c ≤ 40 → D ≤ 60 → D' ≤ 12 → ∃ (r : Int32) (S1 M1 : St), ((R_C_1 F Z 60 0 (sf (sf S 3 0) 4 (nI b)) a (nI k0) a3 0).bind fun r3 => some (r3.1, r3.2)) = some (r, S1) ∧ ((R_X11_1 F 12 tag (sf (sf (sf M 37 0) 38 (nI k0)) 39 (nI b)) (nI k0) a3).bind fun r2 => some (r2.1, r2.2)) = some (r, M1) ∧ RR F (t + 1) S1 Z M1 := by
    intro a tag c D D' hAS hc hD hD'
    obtain ⟨v, S', M', r', e1, e2, e3, e4⟩ := hAS 60 12 _ _ 0 a3 0 hD hD' hTR (by omega) (by omega)
    have e1' : R_C_1 F Z 60 0 (sf (sf S 3 0) 4 (nI b)) a (nI k0) a3 0 = some (v, S') := e1
    have e2' : R_X11_1 F 12 tag (sf (sf (sf M 37 0) 38 (nI k0)) 39 (nI b)) (nI k0) a3 = some (v, M') := e2
    rw [e1', e2']
    obtain ⟨⟨t1, t2, t3⟩, -, -, ⟨t4, t5, t6⟩, t7, t8, t9⟩ := e3
    exact ⟨v, S', M', rfl, rfl, RR_act hV c1 c2 hm t1 t2 (by omega) t3 t4 t5 t6 t7 t8 t9⟩
  rcases of_cases (a2 := a2) with rfl | rfl | rfl | rfl | ⟨hq, q0, q1, q2, q3⟩
  · rw [if_neg (by decide), if_pos (by decide), hkind, Option.bind_some, if_pos rfl]
    exact hgo 0 0 3 5 2 (AS_begins (by omega) hk0) (by omega) (by omega) (by omega)
  · rw [if_neg (by decide), if_pos (by decide), hkind, Option.bind_some, if_neg (by decide), if_pos rfl]
    exact hgo 1 2 20 17 6 (AS_lasts (by omega) hk0 hk0) (by omega) (by omega) (by omega)
  · rw [if_neg (by decide), if_pos (by decide), hkind, Option.bind_some, if_neg (by decide), if_neg (by decide), if_pos rfl]
    exact hgo 2 1 8 8 3 (AS_ends (by omega) hk0 hk0) (by omega) (by omega) (by omega)
  · rw [if_neg (by decide), if_pos (by decide), hkind, Option.bind_some, if_neg (by decide), if_neg (by decide), if_neg (by decide), if_pos rfl]
    exact hgo 3 3 33 23 8 (AS_tells (by omega) hk0 hk0) (by omega) (by omega) (by omega)
  · rw [if_neg q0, if_neg q1, if_neg q2, if_neg q3]
    have hfin : ∃ (r : Int32) (S1 M1 : St), (some ((0 : Int32), sf S 3 0) : Option (Int32 × St)) = some (r, S1) ∧ (some ((0 : Int32), sf (sf (sf M 37 0) 38 (nI k0)) 39 (nI b)) : Option (Int32 × St)) = some (r, M1) ∧ RR F (t + 1) S1 Z M1 :=
      ⟨_, _, _, rfl, rfl, RR_act hV c1 c2 hm (r := 0) rfl rfl (by omega) hrow (hf3 0) (fun _ _ => rfl) rfl hM3 (fun _ _ => rfl) rfl⟩
    by_cases h2 : a2 < 0
    · rw [if_pos h2]; exact hfin
    · have h4 : ¬ a2 < 4 := fun z => by
        have h3 := hq.resolve_left h2
        rw [lt_i] at z h3
        have e3 : (3 : Int32).toInt = 3 := rfl
        have e4 : (4 : Int32).toInt = 4 := rfl
        omega
      rw [if_neg h2, if_neg h4]; exact hfin
end
