/-! the invariant between class and reference; Rs: town, law and what is reckoned from them (its cells: AgX, AgY) -/
def AgX (M M' : Mem) : Prop := ∀ k, k ∈ ([3, 4, 6, 7, 8, 10, 11, 12, 13, 14, 326, 327] : List Nat) → M'.1 k = M.1 k ∧ M'.2 k = M.2 k
def AgY (M M' : Mem) : Prop := (∀ j, j ∈ ([5, 9, 20] : List Nat) → M'.1 0 j = M.1 0 j) ∧ ∀ k, k ∈ ([4, 5, 6, 15, 16, 17, 18, 19] : List Nat) → M'.1 k = M.1 k
def Tp (Mx My : Mem) : Prop := ∃ t, t ≤ 260 ∧ Mx.1 1 1 = nI t ∧ My.1 0 11 = nI t ∧ ∀ j, j < 260 → Mx.1 2 j = My.1 8 j &&& 255
def Wt (Mx My : Mem) : Prop := Mx.1 25 2 = My.1 0 6 ∧ ∃ w, w < 2 ^ 24 ∧ Mx.1 25 2 = nI w
def RG (c : Nat) (M : Mem) : Prop := (∀ j, j < 96 → ∃ w, w ≤ 9999 ∧ M.1 (c + 1) j = nI w) ∧ (∀ j, j < 60 → ∃ p, p < 96 ∧ M.1 (c + 2) j = nI p) ∧ (M.1 c 4 = -2 ∨ ∃ h, h < 24 ∧ M.1 c 4 = nI h) ∧ (∃ v, v ≤ 60 ∧ M.1 c 5 = nI v) ∧ (∃ v, v < 1024 ∧ M.1 c 6 = nI v) ∧ (∃ v, v ≤ 99 ∧ M.1 c 7 = nI v) ∧ (∃ v, v ≤ 9999 ∧ M.1 c 2 = nI v) ∧ ∃ v, v < 65536 ∧ M.1 c 3 = nI v
def Cs (Mx My : Mem) : Prop := CR 330 1 Mx My ∧ RG 330 Mx ∧ Mx.1 0 12 = My.1 0 53 ∧ (Mx.1 0 12 = 0 ∨ (CR 333 3 Mx My ∧ RG 333 Mx))
def InvOf (Rs : Nat → Mem → Mem → Prop) (t : Nat) (Mx My : Mem) : Prop := Rs t Mx My ∧ Tp Mx My ∧ Wt Mx My ∧ Cs Mx My
/-- what Rs must bear: that nothing of its cells has changed -/
def RsOk (Rs : Nat → Mem → Mem → Prop) : Prop := ∀ t Mx My Mx' My', Rs t Mx My → AgX Mx Mx' → AgY My My' → Rs (t + 6) Mx' My'
theorem AgX.refl {M : Mem} : AgX M M := fun _ _ => ⟨rfl, rfl⟩
theorem AgY.refl {M : Mem} : AgY M M := ⟨fun _ _ => rfl, fun _ _ => rfl⟩
theorem AgX.of {L : List Nat} {M M' : Mem} (h : Fr L false M M') (hL : ∀ k, k ∈ ([3, 4, 6, 7, 8, 10, 11, 12, 13, 14, 326, 327] : List Nat) → k ∉ L) : AgX M M' := fun k hk => h k (hL k hk) (fun e => by cases e)
theorem AgY.of {L : List Nat} {O : List (Nat × Nat)} {M M' : Mem} (h : Fr L false M M') (q : Fq CSY O M M') (hL : ∀ k, k ∈ ([4, 5, 6, 15, 16, 17, 18, 19] : List Nat) → k ∉ L) (hO : ∀ j, j ∈ ([5, 9, 20] : List Nat) → (0, j) ∉ O) : AgY M M' := ⟨fun j hj => q 0 j (by decide) (hO j hj), fun k hk => (h k (hL k hk) (fun e => by cases e)).1⟩
/-- the courses stay, if their cells do -/
theorem CR.keep {c r : Nat} {Mx My Mx' My' : Mem} (h : CR c r Mx My) (h0 : ∀ j, j ∈ ([2, 3, 4, 5, 6, 7] : List Nat) → Mx'.1 c j = Mx.1 c j) (h1 : Mx'.1 (c + 1) = Mx.1 (c + 1)) (h2 : Mx'.1 (c + 2) = Mx.1 (c + 2)) (hy : My'.1 r = My.1 r) : CR c r Mx' My' := by
  obtain ⟨a1, a2, a3, a4, a5, a6, a7, a8⟩ := h
  refine ⟨fun j hj => ?_, fun j hj => ?_, ?_, ?_, ?_, ?_, ?_, ?_⟩
  · rw [h1, hy]; exact a1 j hj
  · rw [h2, hy]; exact a2 j hj
  all_goals rw [h0 _ (by decide), hy]; assumption
theorem RG.keep {c : Nat} {M M' : Mem} (h : RG c M) (h0 : ∀ j, j ∈ ([2, 3, 4, 5, 6, 7] : List Nat) → M'.1 c j = M.1 c j) (h1 : M'.1 (c + 1) = M.1 (c + 1)) (h2 : M'.1 (c + 2) = M.1 (c + 2)) : RG c M' := by
  obtain ⟨a1, a2, a3, a4, a5, a6, a7, a8⟩ := h
  refine ⟨fun j hj => ?_, fun j hj => ?_, ?_, ?_, ?_, ?_, ?_, ?_⟩
  · rw [h1]; exact a1 j hj
  · rw [h2]; exact a2 j hj
  all_goals rw [h0 _ (by decide)]; assumption
theorem Cs.keep {Mx My Mx' My' : Mem} (h : Cs Mx My) (hx : ∀ k, k ∈ ([330, 331, 332, 333, 334, 335] : List Nat) → Mx'.1 k = Mx.1 k) (hx0 : Mx'.1 0 12 = Mx.1 0 12) (hy : ∀ k, k ∈ ([1, 3] : List Nat) → My'.1 k = My.1 k) (hy0 : My'.1 0 53 = My.1 0 53) : Cs Mx' My' := by
  obtain ⟨a1, a2, a3, a4⟩ := h
  refine ⟨a1.keep (fun j _ => by rw [hx 330 (by decide)]) (hx 331 (by decide)) (hx 332 (by decide)) (hy 1 (by decide)), a2.keep (fun j _ => by rw [hx 330 (by decide)]) (hx 331 (by decide)) (hx 332 (by decide)), by rw [hx0, hy0]; exact a3, ?_⟩
  rw [hx0]
  refine a4.imp id (fun h => ⟨h.1.keep (fun j _ => by rw [hx 333 (by decide)]) (hx 334 (by decide)) (hx 335 (by decide)) (hy 3 (by decide)), h.2.keep (fun j _ => by rw [hx 333 (by decide)]) (hx 334 (by decide)) (hx 335 (by decide))⟩)
theorem Tp.keep {Mx My Mx' My' : Mem} (h : Tp Mx My) (h1 : Mx'.1 1 1 = Mx.1 1 1) (h2 : Mx'.1 2 = Mx.1 2) (h3 : My'.1 0 11 = My.1 0 11) (h4 : My'.1 8 = My.1 8) : Tp Mx' My' := by
  obtain ⟨t, a1, a2, a3, a4⟩ := h
  exact ⟨t, a1, by rw [h1, a2], by rw [h3, a3], fun j hj => by rw [h2, h4]; exact a4 j hj⟩
theorem Wt.keep {Mx My Mx' My' : Mem} (h : Wt Mx My) (h1 : Mx'.1 25 2 = Mx.1 25 2) (h2 : My'.1 0 6 = My.1 0 6) : Wt Mx' My' := by
  unfold Wt
  rw [h1, h2]
  exact h
/-- PROMISE 15: worn -/
theorem st_worn {Rs : Nat → Mem → Mem → Prop} (hR : RsOk Rs) {FU : Nat} (hFU : 10000000 ≤ FU) (t : Nat) (Mx My : Mem) (ht : t < 3072) (h : InvOf Rs t Mx My) : ∃ (r : Int32) (Mx' My' : Mem), f11_worn FU Mx = some (r, Mx') ∧ f12_worn FU My = some (r, My') ∧ InvOf Rs (t + 6) Mx' My' := by
  obtain ⟨h1, h2, h3, h4⟩ := h
  obtain ⟨r, e1, e2⟩ := worn_XY (n := FU) h4.1.1 (by omega)
  exact ⟨r, Mx, My, e1, e2, hR _ _ _ _ _ h1 AgX.refl AgY.refl, h2, h3, h4⟩
/-- PROMISE 25: seed -/
theorem st_seed {Rs : Nat → Mem → Mem → Prop} (hR : RsOk Rs) {FU : Nat} (hFU : 10000000 ≤ FU) (t : Nat) (Mx My : Mem) (a0 : Int32) (ht : t < 3072) (h : InvOf Rs t Mx My) : ∃ (r : Int32) (Mx' My' : Mem), f11_seed FU a0 Mx = some (r, Mx') ∧ f12_seed FU a0 My = some (r, My') ∧ InvOf Rs (t + 6) Mx' My' := by
  obtain ⟨h1, h2, h3, h4⟩ := h
  rw [seed_X, seed_Y]
  by_cases c1 : a0 < 0
  · rw [if_pos c1, if_pos c1]
    exact ⟨0, Mx, My, rfl, rfl, hR _ _ _ _ _ h1 AgX.refl AgY.refl, h2, h3, h4⟩
  · rw [if_neg c1, if_neg c1]
    by_cases c2 : a0 ≤ 65535
    · rw [if_pos c2, if_pos c2]
      refine ⟨1, _, _, rfl, rfl, hR _ _ _ _ _ h1 (fun k hk => wI_o k (by rintro rfl; revert hk; decide)) ⟨fun j _ => (congrFun (wI_o (M := My) (k := 1) (j := 161) (v := a0) 0 (by decide)).1 j), fun k hk => (wI_o k (by rintro rfl; revert hk; decide)).1⟩, h2.keep rfl rfl rfl rfl, h3.keep rfl rfl, ?_⟩
      obtain ⟨⟨a1, a2, a3, a4, a5, a6, a7, a8⟩, ⟨b1, b2, b3, b4, b5, b6, b7, b8⟩, g3, g4⟩ := h4
      obtain ⟨v, hv⟩ := nI_of c1
      refine ⟨⟨fun j hj => ?_, fun j hj => ?_, a3, a4, a5, a6, a7, rfl⟩, ⟨b1, b2, b3, b4, b5, b6, b7, v, ?_, hv.2⟩, g3, ?_⟩
      · have := a1 j hj
        rw [wI_at, wI_at, if_neg (by decide), if_pos rfl, if_neg (by omega)]
        exact this
      · have := a2 j hj
        rw [wI_at, wI_at, if_neg (by decide), if_pos rfl, if_neg (by omega)]
        exact this
      · have h5 := hv.1
        rw [hv.2] at c2
        have : nI v ≤ nI 65535 := c2
        rw [nI_leI (by omega) (by decide)] at this
        omega
      · exact g4
    · rw [if_neg c2, if_neg c2]
      exact ⟨0, Mx, My, rfl, rfl, hR _ _ _ _ _ h1 AgX.refl AgY.refl, h2, h3, h4⟩
/-- a course is taken over -/
theorem take_spec {n k0 k1 : Nat} (h0 : isCo k0) (h1 : isCo k1) (hne : k0 ≠ k1) (M : Mem) : ∃ M', f0_take n k0 k1 M = some ((), M') ∧ (∀ j, j < 96 → M'.1 (k0 + 1) j = M.1 (k1 + 1) j) ∧ (∀ j, j < 60 → M'.1 (k0 + 2) j = M.1 (k1 + 2) j) ∧ ∀ j, 2 ≤ j → j ≤ 7 → M'.1 k0 j = M.1 k1 j := by
  refine ⟨_, rfl, fun j hj => ?_, fun j hj => ?_, fun j hj hj2 => ?_⟩
  · rcases h0 with rfl | rfl | rfl <;> rcases h1 with rfl | rfl | rfl <;> first | (exfalso; exact hne rfl) | (simp [lt, wI_at, wR_at, va_cpy, show (96 : Int32).toNatClampNeg = 96 from by decide, show (0 : Int32).toNatClampNeg = 0 from by decide, hj])
  · rcases h0 with rfl | rfl | rfl <;> rcases h1 with rfl | rfl | rfl <;> first | (exfalso; exact hne rfl) | (simp [lt, wI_at, wR_at, va_cpy, show (60 : Int32).toNatClampNeg = 60 from by decide, show (0 : Int32).toNatClampNeg = 0 from by decide, hj])
  · have hjj : j = 2 ∨ j = 3 ∨ j = 4 ∨ j = 5 ∨ j = 6 ∨ j = 7 := by omega
    rcases h0 with rfl | rfl | rfl <;> rcases h1 with rfl | rfl | rfl <;> first | (exfalso; exact hne rfl) | (rcases hjj with rfl | rfl | rfl | rfl | rfl | rfl <;> simp [lt, wI_at, wR_at])
theorem CR.copied {c c' r r' : Nat} {Mx My Mx' My' : Mem} (h : CR c r Mx My) (a1 : ∀ j, j < 96 → Mx'.1 (c' + 1) j = Mx.1 (c + 1) j) (a2 : ∀ j, j < 60 → Mx'.1 (c' + 2) j = Mx.1 (c + 2) j) (a3 : ∀ j, 2 ≤ j → j ≤ 7 → Mx'.1 c' j = Mx.1 c j) (b : ∀ j, j < 162 → My'.1 r' j = My.1 r j) : CR c' r' Mx' My' := by
  obtain ⟨e1, e2, e3, e4, e5, e6, e7, e8⟩ := h
  refine ⟨fun j hj => ?_, fun j hj => ?_, ?_, ?_, ?_, ?_, ?_, ?_⟩
  · rw [a1 j hj, b j (by omega)]; exact e1 j hj
  · rw [a2 j hj, b _ (by omega)]; exact e2 j hj
  all_goals rw [a3 _ (by decide) (by decide), b _ (by decide)]; assumption
theorem RG.copied {c c' : Nat} {Mx Mx' : Mem} (h : RG c Mx) (a1 : ∀ j, j < 96 → Mx'.1 (c' + 1) j = Mx.1 (c + 1) j) (a2 : ∀ j, j < 60 → Mx'.1 (c' + 2) j = Mx.1 (c + 2) j) (a3 : ∀ j, 2 ≤ j → j ≤ 7 → Mx'.1 c' j = Mx.1 c j) : RG c' Mx' := by
  obtain ⟨e1, e2, e3, e4, e5, e6, e7, e8⟩ := h
  refine ⟨fun j hj => ?_, fun j hj => ?_, ?_, ?_, ?_, ?_, ?_, ?_⟩
  · rw [a1 j hj]; exact e1 j hj
  · rw [a2 j hj]; exact e2 j hj
  all_goals rw [a3 _ (by decide) (by decide)]; assumption
/-- PROMISE 26: keep -/
theorem st_keep {Rs : Nat → Mem → Mem → Prop} (hR : RsOk Rs) {FU : Nat} (hFU : 10000000 ≤ FU) (t : Nat) (Mx My : Mem) (ht : t < 3072) (h : InvOf Rs t Mx My) : ∃ (r : Int32) (Mx' My' : Mem), f11_keep FU Mx = some (r, Mx') ∧ f12_keep FU My = some (r, My') ∧ InvOf Rs (t + 6) Mx' My' := by
  obtain ⟨h1, h2, h3, h4⟩ := h
  obtain ⟨M1, e1, a1, a2, a3⟩ := take_spec (n := FU) co_333 co_330 (by decide) Mx
  have f1 := fr0_take e1
  have e2 := copies_spec (n := FU) 1 3 (by decide) (wI My 0 53 1) (by omega)
  have x : f11_keep FU Mx = some (M1.1 330 2, wI M1 0 12 1) := by
    simp only [f11_keep, b11_keep_0, bnd_e e1, lt]
    rfl
  have y : f12_keep FU My = some (My.1 1 160, wR (wI My 0 53 1) 3 (fun j => if j < 162 then (wI My 0 53 1).1 1 j else (wI My 0 53 1).1 3 j)) := by
    simp only [f12_keep, b12_keep_0, lt, bnd_e e2]
    rw [chk_t (by decide)]
    rfl
  have k330 : M1.1 330 = Mx.1 330 := (f1 330 (by decide) (fun e => by cases e)).1
  have k331 : M1.1 331 = Mx.1 331 := (f1 331 (by decide) (fun e => by cases e)).1
  have k332 : M1.1 332 = Mx.1 332 := (f1 332 (by decide) (fun e => by cases e)).1
  obtain ⟨c1, c2, c3, c4⟩ := h4
  have er : My.1 1 160 = M1.1 330 2 := by rw [k330]; exact c1.2.2.2.2.2.2.1.symm
  rw [er] at y
  refine ⟨_, _, _, x, y, hR _ _ _ _ _ h1 (fun k hk => ?_) ⟨fun j hj => ?_, fun k hk => ?_⟩, ?_, ?_, ?_, ?_, ?_, Or.inr ⟨?_, ?_⟩⟩
  · have := f1 k (by revert hk; revert k; decide) (fun e => by cases e)
    have w := wI_o (M := M1) (k := 0) (j := 12) (v := 1) k (by rintro rfl; revert hk; decide)
    exact ⟨w.1.trans this.1, w.2.trans this.2⟩
  · rw [wR_at, if_neg (by decide), wI_at, if_pos rfl, if_neg (by rintro rfl; revert hj; decide)]
  · rw [(wR_o k (by rintro rfl; revert hk; decide)).1, (wI_o k (by rintro rfl; revert hk; decide)).1]
  · have k1 : M1.1 1 = Mx.1 1 := (f1 1 (by decide) (fun e => by cases e)).1
    have k2 : M1.1 2 = Mx.1 2 := (f1 2 (by decide) (fun e => by cases e)).1
    exact h2.keep (by rw [wI_at, if_neg (by decide), k1]) (by rw [(wI_o 2 (by decide)).1, k2]) (by rw [wR_at, if_neg (by decide), wI_at, if_pos rfl, if_neg (by decide)]) (by rw [(wR_o 8 (by decide)).1, (wI_o 8 (by decide)).1])
  · have k25 : M1.1 25 = Mx.1 25 := (f1 25 (by decide) (fun e => by cases e)).1
    exact h3.keep (by rw [wI_at, if_neg (by decide), k25]) (by rw [wR_at, if_neg (by decide), wI_at, if_pos rfl, if_neg (by decide)])
  · exact c1.keep (fun j _ => by rw [(wI_o 330 (by decide)).1, k330]) (by rw [(wI_o 331 (by decide)).1, k331]) (by rw [(wI_o 332 (by decide)).1, k332]) (by rw [(wR_o 1 (by decide)).1, (wI_o 1 (by decide)).1])
  · exact c2.keep (fun j _ => by rw [(wI_o 330 (by decide)).1, k330]) (by rw [(wI_o 331 (by decide)).1, k331]) (by rw [(wI_o 332 (by decide)).1, k332])
  · rw [wI_at, if_pos rfl, if_pos rfl, wR_at, if_neg (by decide), wI_at, if_pos rfl, if_pos rfl]
  · refine c1.copied (fun j hj => ?_) (fun j hj => ?_) (fun j hj hj2 => ?_) (fun j hj => ?_)
    · rw [(wI_o 334 (by decide)).1]; exact a1 j hj
    · rw [(wI_o 335 (by decide)).1]; exact a2 j hj
    · rw [(wI_o 333 (by decide)).1]; exact a3 j hj hj2
    · rw [wR_at, if_pos rfl, if_pos hj, wI_at, if_neg (by decide)]
  · refine c2.copied (fun j hj => ?_) (fun j hj => ?_) (fun j hj hj2 => ?_)
    · rw [(wI_o 334 (by decide)).1]; exact a1 j hj
    · rw [(wI_o 335 (by decide)).1]; exact a2 j hj
    · rw [(wI_o 333 (by decide)).1]; exact a3 j hj hj2
