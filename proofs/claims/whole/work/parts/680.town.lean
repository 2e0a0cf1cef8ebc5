/-! the town: places, ways, kinds; walks; the breadth-first search -/
def bes (p w : Nat) : Nat := if w = 0 then (if 12 ≤ p then p - 12 else 999) else if w = 1 then (if p % 12 < 11 then p + 1 else 999) else if w = 2 then (if p < 84 then p + 12 else 999) else (if 0 < p % 12 then p - 1 else 999)
def bI (p w : Nat) : Int32 := if bes p w < 96 then nI (bes p w) else -1
theorem bes_back : ∀ p, p < 96 → ∀ w, w < 4 → bes p w < 96 → bes (bes p w) ((w + 2) % 4) = p := by decide +kernel
theorem bes_ne : ∀ p, p < 96 → ∀ w, w < 4 → bes p w ≠ p := by decide +kernel
theorem bes_one : ∀ p, p < 96 → ∀ w, w < 4 → ∀ v, v < 4 → bes p w < 96 → bes p w = bes p v → w = v := by decide +kernel
def gX (a w : Int32) : Int32 := if w = 0 then (if a < 12 then -1 else a - 12) else if w = 1 then (if 11 ≤ a - a / 12 * 12 then -1 else a + 1) else if w = 2 then (if 84 ≤ a then -1 else a + 12) else (if a - a / 12 * 12 ≤ 0 then -1 else a - 1)
def gYx (a w : Int32) : Int32 := a - a / 12 * 12 + (if w = 1 then 1 else if w = 3 then -1 else 0)
def gYy (a w : Int32) : Int32 := a / 12 + (if w = 2 then 1 else if w = 0 then -1 else 0)
def gY (a w : Int32) : Int32 := if gYx a w < 0 ∨ 11 < gYx a w ∨ gYy a w < 0 ∨ 7 < gYy a w then -1 else 12 * gYy a w + gYx a w
theorem gX_e (n : Nat) (a w : Int32) (M : Mem) : f11_beside n a w M = some (gX a w, M) := by
  unfold f11_beside b11_beside_0 gX
  simp only [lt_v]
  repeat' split
  all_goals rfl
theorem isPlace_e (n : Nat) (x y : Int32) (M : Mem) : f12_isPlace n x y M = some (if x < 0 ∨ 11 < x ∨ y < 0 ∨ 7 < y then 0 else 1, M) := by
  unfold f12_isPlace b12_isPlace_0
  rw [in_e, bnd_s']
  by_cases h : x < 0 ∨ 11 < x
  · rw [if_pos h, if_pos rfl, if_pos (by rcases h with h | h <;> simp [h])]
    rfl
  · rw [if_neg h, if_neg (by decide), in_e, bnd_s']
    by_cases g : y < 0 ∨ 7 < y
    · rw [if_pos g, if_pos rfl, if_pos (Or.inr (Or.inr g))]
      rfl
    · rw [if_neg g, if_neg (by decide), if_neg]
      rintro (e | e | e)
      · exact h (Or.inl e)
      · exact h (Or.inr e)
      · exact g e
theorem beside47 (n : Nat) (rc : Nat → List Int32 → List Int64 → Mem → Option (Int32 × Mem)) (x s t : Int32) (M : Mem) : b12_beside_47 rc n x s t M = some (if x < 0 ∨ 11 < x ∨ s + t < 0 ∨ 7 < s + t then -1 else 12 * (s + t) + x, M) := by
  unfold b12_beside_47
  rw [lt_v, isPlace_e, bnd_s']
  by_cases h : x < 0 ∨ 11 < x ∨ s + t < 0 ∨ 7 < s + t
  · rw [if_pos h, if_pos h, if_pos rfl]
  · rw [if_neg h, if_neg h, if_neg (by decide)]
theorem gY_e (n : Nat) (a w : Int32) (M : Mem) : f12_beside n a w M = some (gY a w, M) := by
  unfold f12_beside b12_beside_0 b12_beside_23 gY gYx gYy
  simp only [lt_v, beside47]
  repeat' split
  all_goals first | rfl | simp_all
theorem gX_b : ∀ p, p < 96 → ∀ w, w < 4 → gX (nI p) (nI w) = bI p w := by decide +kernel
theorem gY_b : ∀ p, p < 96 → ∀ w, w < 4 → gY (nI p) (nI w) = bI p w := by decide +kernel
theorem bes_X {n p w : Nat} {M : Mem} (hp : p < 96) (hw : w < 4) : f11_beside n (nI p) (nI w) M = some (bI p w, M) := by rw [gX_e, gX_b p hp w hw]
theorem bes_Y {n p w : Nat} {M : Mem} (hp : p < 96) (hw : w < 4) : f12_beside n (nI p) (nI w) M = some (bI p w, M) := by rw [gY_e, gY_b p hp w hw]
theorem bI_in {p w : Nat} (h : bes p w < 96) : bI p w = nI (bes p w) := if_pos h
theorem bI_out {p w : Nat} (h : ¬ bes p w < 96) : bI p w = -1 := if_neg h
/-! kinds -/
def kof (sq : Nat) (kd : Nat → Nat) (p : Nat) : Nat := if p = sq then 2 else kd p
def opn (sq : Nat) (kd : Nat → Nat) (p : Nat) : Bool := decide (kof sq kd p = 2)
def TX (sq : Nat) (kd : Nat → Nat) (M : Mem) : Prop := sq < 96 ∧ M.1 3 7 = nI sq ∧ ∀ p, p < 96 → M.1 4 p = nI (kd p) ∧ kd p ≤ 2
def TY (sq : Nat) (kd : Nat → Nat) (M : Mem) : Prop := sq < 96 ∧ M.1 0 5 = nI sq ∧ ∀ p, p < 96 → M.1 4 p = nI (kd p) ∧ kd p ≤ 2
theorem kof_le {sq : Nat} {kd : Nat → Nat} {p : Nat} (h : kd p ≤ 2) : kof sq kd p ≤ 2 := by unfold kof; split <;> omega
theorem TX.keep {sq : Nat} {kd : Nat → Nat} {M M' : Mem} (h : TX sq kd M) (h1 : M'.1 3 7 = M.1 3 7) (h2 : M'.1 4 = M.1 4) : TX sq kd M' := ⟨h.1, by rw [h1]; exact h.2.1, fun p hp => by rw [h2]; exact h.2.2 p hp⟩
theorem TY.keep {sq : Nat} {kd : Nat → Nat} {M M' : Mem} (h : TY sq kd M) (h1 : M'.1 0 5 = M.1 0 5) (h2 : M'.1 4 = M.1 4) : TY sq kd M' := ⟨h.1, by rw [h1]; exact h.2.1, fun p hp => by rw [h2]; exact h.2.2 p hp⟩
theorem kindOf_X {n sq : Nat} {kd : Nat → Nat} {M : Mem} (h : TX sq kd M) {p : Nat} (hp : p < 96) : f8_kindOf n (nI p) M = some (nI (kof sq kd p), M) := by
  obtain ⟨h0, h1, h2⟩ := h
  unfold f8_kindOf b8_kindOf_0 kof
  rw [if_neg (nI_pos (by omega)), if_pos (show nI p < (96 : Int32) from nI_lt (b := 96) hp (by decide)), h1]
  by_cases hc : p = sq
  · subst hc
    rw [if_pos rfl, if_pos rfl]
    rfl
  · rw [if_neg (by rw [nI_eq (by omega) (by omega)]; exact hc), if_neg hc, chk_in hp (by decide), nI_clamp (by omega), (h2 p hp).1]
theorem kindOf_m1 {n : Nat} {M : Mem} : f8_kindOf n (-1) M = some (0, M) := by
  unfold f8_kindOf b8_kindOf_0 b8_kindOf_10
  rw [if_pos (by decide)]
theorem isOpen_X {n sq : Nat} {kd : Nat → Nat} {M : Mem} (h : TX sq kd M) {p : Nat} (hp : p < 96) : f8_isOpen n (nI p) M = some (if opn sq kd p then 1 else 0, M) := by
  unfold f8_isOpen b8_isOpen_0 opn
  rw [bnd_e (kindOf_X h hp)]
  by_cases hc : kof sq kd p = 2
  · rw [hc]
    rfl
  · have hk := kof_le (sq := sq) (h.2.2 p hp).2
    rw [if_neg (show ¬ nI (kof sq kd p) = (2 : Int32) from fun e => hc ((nI_eq (b := 2) (by omega) (by decide)).mp e))]
    simp [hc]
theorem isOpen_m1 {n : Nat} {M : Mem} : f8_isOpen n (-1) M = some (0, M) := by
  unfold f8_isOpen b8_isOpen_0
  rw [bnd_e kindOf_m1, if_neg (by decide)]
theorem isOpen_Y {n sq : Nat} {kd : Nat → Nat} {M : Mem} (h : TY sq kd M) {p : Nat} (hp : p < 96) : f12_isOpen n (nI p) M = some (if opn sq kd p then 1 else 0, M) := by
  obtain ⟨h0, h1, h2⟩ := h
  unfold f12_isOpen b12_isOpen_0 b12_isOpen_18 opn kof
  rw [h1]
  by_cases hc : p = sq
  · subst hc
    simp
  · rw [if_neg (by rw [nI_eq (by omega) (by omega)]; exact hc), if_neg hc, chk_in hp (by decide), nI_clamp (by omega), (h2 p hp).1]
    have hk2 := (h2 p hp).2
    by_cases hk : kd p = 2
    · rw [hk]
      rfl
    · rw [if_neg (show ¬ nI (kd p) = (2 : Int32) from fun e => hk ((nI_eq (b := 2) (by omega) (by decide)).mp e))]
      simp [hk]
/-! walks -/
def wk (O : Nat → Bool) (s : Nat) : Nat → Nat → Prop
  | 0, p => p = s ∧ O s = true ∧ s < 96
  | d + 1, p => ∃ q w, w < 4 ∧ wk O s d q ∧ bes q w = p ∧ p < 96 ∧ O p = true
theorem wk_in {O : Nat → Bool} {s : Nat} : ∀ {d p : Nat}, wk O s d p → p < 96 ∧ O p = true := by
  intro d p h
  cases d with
  | zero => obtain ⟨rfl, h1, h2⟩ := h; exact ⟨h2, h1⟩
  | succ d => obtain ⟨q, w, _, _, _, h3, h4⟩ := h; exact ⟨h3, h4⟩
theorem wk_fst {O : Nat → Bool} {s : Nat} : ∀ {d p : Nat}, wk O s d p → s < 96 ∧ O s = true := by
  intro d
  induction d with
  | zero => intro p h; exact ⟨h.2.2, h.2.1⟩
  | succ d ih => intro p h; obtain ⟨q, w, _, h2, _⟩ := h; exact ih h2
theorem wk_cons {O : Nat → Bool} {s x : Nat} {w : Nat} (hw : w < 4) (hs : s < 96) (ho : O s = true) (e : bes s w = x) : ∀ {d p : Nat}, wk O x d p → wk O s (d + 1) p := by
  intro d
  induction d with
  | zero =>
    intro p h
    obtain ⟨rfl, h1, h2⟩ := h
    exact ⟨s, w, hw, ⟨rfl, ho, hs⟩, e, h2, h1⟩
  | succ d ih =>
    intro p h
    obtain ⟨q, v, h1, h2, h3, h4, h5⟩ := h
    exact ⟨q, v, h1, ih h2, h3, h4, h5⟩
theorem wk_symm {O : Nat → Bool} {s : Nat} : ∀ {d p : Nat}, wk O s d p → wk O p d s := by
  intro d
  induction d with
  | zero =>
    intro p h
    obtain ⟨rfl, h1, h2⟩ := h
    exact ⟨rfl, h1, h2⟩
  | succ d ih =>
    intro p h
    obtain ⟨q, v, h1, h2, h3, h4, h5⟩ := h
    have hq := wk_in h2
    have hb := bes_back q hq.1 v h1 (by rw [h3]; exact h4)
    rw [h3] at hb
    exact wk_cons (Nat.mod_lt _ (by decide)) h4 h5 hb (ih h2)
def Dis (O : Nat → Bool) (s : Nat) (D : Nat → Nat) : Prop := ∀ p, p < 96 → (D p ≤ 95 ∧ wk O s (D p) p ∧ ∀ e, wk O s e p → D p ≤ e) ∨ (D p = 99 ∧ ∀ e, ¬ wk O s e p)
theorem Dis.uniq {O : Nat → Bool} {s p : Nat} {D D' : Nat → Nat} (h : Dis O s D) (h' : Dis O s D') (hp : p < 96) : D p = D' p := by
  rcases h p hp with ⟨a1, a2, a3⟩ | ⟨a1, a2⟩
  · rcases h' p hp with ⟨b1, b2, b3⟩ | ⟨b1, b2⟩
    · exact Nat.le_antisymm (a3 _ b2) (b3 _ a2)
    · exact absurd a2 (b2 _)
  · rcases h' p hp with ⟨b1, b2, b3⟩ | ⟨b1, b2⟩
    · exact absurd b2 (a2 _)
    · rw [a1, b1]
theorem Dis.symm {O : Nat → Bool} {s p : Nat} {D D' : Nat → Nat} (h : Dis O s D) (h' : Dis O p D') (hs : s < 96) (hp : p < 96) : D p = D' s := by
  rcases h p hp with ⟨a1, a2, a3⟩ | ⟨a1, a2⟩
  · rcases h' s hs with ⟨b1, b2, b3⟩ | ⟨b1, b2⟩
    · exact Nat.le_antisymm (a3 _ (wk_symm b2)) (b3 _ (wk_symm a2))
    · exact absurd (wk_symm a2) (b2 _)
  · rcases h' s hs with ⟨b1, b2, b3⟩ | ⟨b1, b2⟩
    · exact absurd (wk_symm b2) (a2 _)
    · rw [a1, b1]
/-! the search -/
def up (f : Nat → Nat) (a v : Nat) : Nat → Nat := fun i => if i = a then v else f i
theorem up_eq {f : Nat → Nat} {a v : Nat} : up f a v a = v := if_pos rfl
theorem up_ne {f : Nat → Nat} {a v i : Nat} (h : i ≠ a) : up f a v i = f i := if_neg h
def BI (O : Nat → Bool) (s : Nat) (D q : Nat → Nat) (sz i w : Nat) : Prop := (sz ≤ 96 ∧ i ≤ sz ∧ 1 ≤ sz ∧ q 0 = s ∧ D s = 0) ∧ (∀ j, j < sz → q j < 96 ∧ D (q j) ≤ j ∧ wk O s (D (q j)) (q j)) ∧ (∀ j k, j < k → k < sz → q j ≠ q k) ∧ (∀ p, p < 96 → D p = 99 ∨ ∃ j, j < sz ∧ q j = p) ∧ (∀ j k, j ≤ k → k < sz → D (q j) ≤ D (q k)) ∧ (i < sz → ∀ k, k < sz → D (q k) ≤ D (q i) + 1) ∧ (∀ j, j < i → ∀ v, v < 4 → bes (q j) v < 96 → O (bes (q j) v) = true → D (bes (q j) v) ≤ D (q j) + 1) ∧ (i < sz → ∀ v, v < w → bes (q i) v < 96 → O (bes (q i) v) = true → D (bes (q i) v) ≤ D (q i) + 1)
theorem BI.init {O : Nat → Bool} {s : Nat} {q : Nat → Nat} (hs : s < 96) (ho : O s = true) (hq : q 0 = s) : BI O s (fun p => if p = s then 0 else 99) q 1 0 0 := by
  refine ⟨⟨by decide, by decide, by decide, hq, if_pos rfl⟩, fun j hj => ?_, fun j k h1 h2 => by omega, fun p hp => ?_, fun j k h1 h2 => ?_, fun h k hk => ?_, fun j hj => by omega, fun _ v hv => by omega⟩
  · have : j = 0 := by omega
    subst this
    rw [hq]
    simp only [if_true]
    exact ⟨hs, Nat.le_refl _, rfl, ho, hs⟩
  · by_cases h : p = s
    · exact Or.inr ⟨0, by decide, by rw [hq, h]⟩
    · exact Or.inl (if_neg h)
  · have e1 : j = 0 := by omega
    have e2 : k = 0 := by omega
    rw [e1, e2]
    exact Nat.le_refl _
  · have e2 : k = 0 := by omega
    rw [e2]
    omega
theorem BI.pass {O : Nat → Bool} {s : Nat} {D q : Nat → Nat} {sz i w : Nat} (h : BI O s D q sz i w) (hi : i < sz) (hc : ¬ bes (q i) w < 96 ∨ O (bes (q i) w) = false ∨ D (bes (q i) w) ≠ 99) : BI O s D q sz i (w + 1) := by
  obtain ⟨h0, h1, h2, h3, h4, h5, h6, h7⟩ := h
  refine ⟨h0, h1, h2, h3, h4, h5, h6, fun hi v hv hb ho => ?_⟩
  by_cases hvw : v = w
  · subst hvw
    rcases hc with hc | hc | hc
    · exact absurd hb hc
    · rw [hc] at ho; cases ho
    · obtain ⟨j, hj, e⟩ := (h3 _ hb).resolve_left hc
      rw [← e]
      exact h5 hi j hj
  · exact h7 hi v (by omega) hb ho
theorem BI.room {O : Nat → Bool} {s : Nat} {D q : Nat → Nat} {sz i w : Nat} (h : BI O s D q sz i w) {x : Nat} (hx : x < 96) (hd : D x = 99) : sz < 96 ∧ ∀ j, j < sz → q j ≠ x := by
  obtain ⟨h0, h1, h2, h3, h4, h5, h6, h7⟩ := h
  have hn : ∀ j, j < sz → q j ≠ x := fun j hj e => by
    have := (h1 j hj).2.1
    rw [e, hd] at this
    omega
  refine ⟨?_, hn⟩
  have := fb_holes 96 (sz + 1) (up q sz x) (fun j hj => by
    by_cases e : j = sz
    · rw [e, up_eq]; exact hx
    · rw [up_ne e]; exact (h1 j (by omega)).1) (fun j k hj hk => by
    by_cases e : k = sz
    · rw [e, up_eq, up_ne (by omega)]; exact hn j (by omega)
    · rw [up_ne e, up_ne (by omega)]; exact h2 j k hj (by omega))
  omega
theorem BI.take {O : Nat → Bool} {s : Nat} {D q : Nat → Nat} {sz i w : Nat} (h : BI O s D q sz i w) (hi : i < sz) (hw : w < 4) (hb : bes (q i) w < 96) (ho : O (bes (q i) w) = true) (hd : D (bes (q i) w) = 99) : BI O s (up D (bes (q i) w) (D (q i) + 1)) (up q sz (bes (q i) w)) (sz + 1) i (w + 1) := by
  have hr := h.room hb hd
  obtain ⟨h0, h1, h2, h3, h4, h5, h6, h7⟩ := h
  obtain ⟨x, hx⟩ : ∃ x, x = bes (q i) w := ⟨_, rfl⟩
  rw [← hx] at hb ho hd hr ⊢
  have hq : ∀ j, j < sz → up q sz x j = q j := fun j hj => up_ne (by omega)
  have hD : ∀ j, j < sz → up D x (D (q i) + 1) (q j) = D (q j) := fun j hj => up_ne (hr.2 j hj)
  have hle : ∀ y, y < 96 → D y ≤ D (q i) + 1 → up D x (D (q i) + 1) y ≤ D (q i) + 1 := fun y hy e => by
    by_cases e2 : y = x
    · rw [e2, up_eq]; exact Nat.le_refl _
    · rw [up_ne e2]; exact e
  have hsx : s ≠ x := fun e => by
    have := h0.2.2.2.2
    rw [e, hd] at this
    omega
  refine ⟨⟨by omega, by omega, by omega, by rw [hq 0 (by omega)]; exact h0.2.2.2.1, by rw [up_ne hsx]; exact h0.2.2.2.2⟩, fun j hj => ?_, fun j k hj hk => ?_, fun p hp => ?_, fun j k hj hk => ?_, fun _ k hk => ?_, fun j hj v hv hb2 ho2 => ?_, fun _ v hv hb2 ho2 => ?_⟩
  · by_cases e : j = sz
    · rw [e, up_eq, up_eq]
      have := (h1 i hi).2.1
      exact ⟨hb, by omega, q i, w, hw, (h1 i hi).2.2, hx.symm, hb, ho⟩
    · rw [hq j (by omega), hD j (by omega)]
      exact h1 j (by omega)
  · by_cases e : k = sz
    · rw [e, up_eq, hq j (by omega)]; exact hr.2 j (by omega)
    · rw [hq j (by omega), hq k (by omega)]; exact h2 j k hj (by omega)
  · by_cases e : p = x
    · exact Or.inr ⟨sz, by omega, by rw [up_eq, e]⟩
    · rw [up_ne e]
      rcases h3 p hp with g | ⟨j, hj, g⟩
      · exact Or.inl g
      · exact Or.inr ⟨j, by omega, by rw [hq j hj, g]⟩
  · by_cases e : k = sz
    · rw [e, up_eq, up_eq]
      by_cases e2 : j = sz
      · rw [e2, up_eq, up_eq]; exact Nat.le_refl _
      · rw [hq j (by omega), hD j (by omega)]
        exact h5 hi j (by omega)
    · rw [hq j (by omega), hq k (by omega), hD j (by omega), hD k (by omega)]; exact h4 j k hj (by omega)
  · rw [hq i hi, hD i hi]
    by_cases e : k = sz
    · rw [e, up_eq, up_eq]; exact Nat.le_refl _
    · rw [hq k (by omega), hD k (by omega)]; exact h5 hi k (by omega)
  · rw [hq j (by omega)] at hb2 ho2 ⊢
    rw [hD j (by omega)]
    by_cases e2 : bes (q j) v = x
    · have := h6 j hj v hv hb2 ho2
      rw [e2, hd] at this
      have := (h1 j (by omega)).2.1
      omega
    · rw [up_ne e2]; exact h6 j hj v hv hb2 ho2
  · rw [hq i hi] at hb2 ho2 ⊢
    rw [hD i hi]
    by_cases e : v = w
    · rw [e, ← hx, up_eq]; exact Nat.le_refl _
    · exact hle _ hb2 (h7 hi v (by omega) hb2 ho2)
theorem BI.next {O : Nat → Bool} {s : Nat} {D q : Nat → Nat} {sz i : Nat} (h : BI O s D q sz i 4) (hi : i < sz) : BI O s D q sz (i + 1) 0 := by
  obtain ⟨h0, h1, h2, h3, h4, h5, h6, h7⟩ := h
  refine ⟨⟨h0.1, by omega, h0.2.2⟩, h1, h2, h3, h4, fun hi2 k hk => ?_, fun j hj v hv hb ho => ?_, fun _ v hv => by omega⟩
  · have := h5 hi k hk
    have := h4 i (i + 1) (by omega) hi2
    omega
  · by_cases e : j = i
    · subst e; exact h7 hi v hv hb ho
    · exact h6 j (by omega) v hv hb ho
theorem BI.fin {O : Nat → Bool} {s : Nat} {D q : Nat → Nat} {sz w : Nat} (h : BI O s D q sz sz w) (hs : s < 96) : Dis O s D := by
  obtain ⟨h0, h1, h2, h3, h4, h5, h6, h7⟩ := h
  have key : ∀ e p, wk O s e p → D p ≤ e ∧ D p ≤ 95 := by
    intro e
    induction e with
    | zero =>
      intro p hw
      obtain ⟨rfl, _, _⟩ := hw
      rw [h0.2.2.2.2]
      omega
    | succ e ih =>
      intro p hw
      obtain ⟨x, v, hv, hw, e1, e2, e3⟩ := hw
      obtain ⟨i1, i2⟩ := ih x hw
      obtain ⟨j, hj, ej⟩ := (h3 x (wk_in hw).1).resolve_left (by omega)
      have := h6 j hj v hv (by rw [ej, e1]; exact e2) (by rw [ej, e1]; exact e3)
      rw [ej, e1] at this
      obtain ⟨k, hk, ek⟩ := (h3 p e2).resolve_left (by omega)
      have := (h1 k hk).2.1
      rw [ek] at this
      omega
  intro p hp
  rcases h3 p hp with g | ⟨j, hj, g⟩
  · exact Or.inr ⟨g, fun e he => by have := (key e p he).2; omega⟩
  · have := h1 j hj
    rw [g] at this
    exact Or.inl ⟨by omega, this.2.2, fun e he => (key e p he).1⟩
theorem Dis.none {O : Nat → Bool} {s : Nat} {D : Nat → Nat} (ho : O s = false) (hD : ∀ p, p < 96 → D p = 99) : Dis O s D := fun p hp => Or.inr ⟨hD p hp, fun e he => by
  have := (wk_fst he).2
  rw [ho] at this
  cases this⟩
/-- some table of steps there is -/
theorem Dis.ex (O : Nat → Bool) (s : Nat) (hs : s < 96) : ∃ D, Dis O s D := by
  by_cases ho : O s = true
  · have run : ∀ (m : Nat) (D q : Nat → Nat) (sz i w : Nat), BI O s D q sz i w → i < sz → w ≤ 4 → 5 * (96 - i) - w ≤ m → ∃ D, Dis O s D := by
      intro m
      induction m with
      | zero => intro D q sz i w h hi hw hm; have := h.1.1; omega
      | succ m ih =>
        intro D q sz i w h hi hw hm
        have hsz := h.1.1
        by_cases e : w = 4
        · subst e
          have h2 := h.next hi
          by_cases e2 : i + 1 < sz
          · exact ih D q sz (i + 1) 0 h2 e2 (by omega) (by omega)
          · have : i + 1 = sz := by omega
            rw [this] at h2
            exact ⟨D, h2.fin hs⟩
        · by_cases hc : ¬ bes (q i) w < 96 ∨ O (bes (q i) w) = false ∨ D (bes (q i) w) ≠ 99
          · exact ih D q sz i (w + 1) (h.pass hi hc) hi (by omega) (by omega)
          · have c1 : bes (q i) w < 96 := Decidable.byContradiction fun e => hc (Or.inl e)
            have c2 : O (bes (q i) w) = true := by
              cases e : O (bes (q i) w) with
              | true => rfl
              | false => exact absurd (Or.inr (Or.inl e)) hc
            have c3 : D (bes (q i) w) = 99 := Decidable.byContradiction fun e => hc (Or.inr (Or.inr e))
            exact ih _ _ (sz + 1) i (w + 1) (h.take hi (by omega) c1 c2 c3) (by omega) (by omega) (by omega)
    exact run 480 _ (fun _ => s) 1 0 0 (BI.init hs ho rfl) (by decide) (by decide) (by decide)
  · exact ⟨fun _ => 99, Dis.none (by cases h : O s with | true => exact absurd h ho | false => rfl) (fun _ _ => rfl)⟩
/-- the steps between two places; 99: no way -/
noncomputable def ds (O : Nat → Bool) (s p : Nat) : Nat := Classical.epsilon (fun D => Dis O s D) p
theorem ds_dis (O : Nat → Bool) {s : Nat} (hs : s < 96) : Dis O s (ds O s) := Classical.epsilon_spec (Dis.ex O s hs)
theorem ds_symm (O : Nat → Bool) {s p : Nat} (hs : s < 96) (hp : p < 96) : ds O s p = ds O p s := (ds_dis O hs).symm (ds_dis O hp) hs hp
theorem ds_le (O : Nat → Bool) {s p : Nat} (hs : s < 96) (hp : p < 96) : ds O s p ≤ 95 ∨ ds O s p = 99 := (ds_dis O hs p hp).imp (fun h => h.1) (fun h => h.1)
theorem Dis.eq {O : Nat → Bool} {s p : Nat} {D : Nat → Nat} (h : Dis O s D) (hs : s < 96) (hp : p < 96) : D p = ds O s p := h.uniq (ds_dis O hs) hp
