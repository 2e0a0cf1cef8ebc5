/-! DAYS: an hour, minute by minute -/
def CF (c : Nat) (X : Mem) (wr wa : Nat → Nat) (d x : Nat) (h : Int32) (s cl f : Nat) : Prop := (∀ j, j < 96 → X.1 (c + 1) j = nI (wr j)) ∧ (∀ j, j < 60 → X.1 (c + 2) j = nI (wa j)) ∧ X.1 c 2 = nI d ∧ X.1 c 3 = nI x ∧ X.1 c 4 = h ∧ X.1 c 5 = nI s ∧ X.1 c 6 = nI cl ∧ X.1 c 7 = nI f
def YF (Y : Mem) (wr wa : Nat → Nat) (d x : Nat) (h : Int32) (s cl f : Nat) : Prop := (∀ j, j < 96 → Y.1 1 j = nI (wr j)) ∧ (∀ j, j < 60 → Y.1 1 (96 + j) = nI (wa j)) ∧ Y.1 1 160 = nI d ∧ Y.1 1 161 = nI x ∧ Y.1 1 156 = h ∧ Y.1 1 157 = nI s ∧ Y.1 1 158 = nI cl ∧ Y.1 1 159 = nI f
def BF (wr wa : Nat → Nat) (d x : Nat) (h : Int32) (s cl f : Nat) : Prop := (∀ j, j < 96 → wr j ≤ 9999) ∧ (∀ j, j < 60 → wa j < 96) ∧ (h = -2 ∨ ∃ k, k < 24 ∧ h = nI k) ∧ s ≤ 60 ∧ cl < 1024 ∧ f ≤ 99 ∧ d ≤ 9999 ∧ x < 65536
theorem of_CR {c : Nat} {X Y : Mem} (h : CR c 1 X Y) (g : RG c X) : ∃ wr wa d x hv s cl f, CF c X wr wa d x hv s cl f ∧ YF Y wr wa d x hv s cl f ∧ BF wr wa d x hv s cl f := by
  obtain ⟨a1, a2, a3, a4, a5, a6, a7, a8⟩ := h
  obtain ⟨b1, b2, b3, ⟨s, b4, b4'⟩, ⟨cl, b5, b5'⟩, ⟨f, b6, b6'⟩, ⟨d, b7, b7'⟩, x, b8, b8'⟩ := g
  have w1 : ∀ j, j < 96 → X.1 (c + 1) j = nI (X.1 (c + 1) j).toNatClampNeg ∧ (X.1 (c + 1) j).toNatClampNeg ≤ 9999 := fun j hj => by
    obtain ⟨w, q1, q2⟩ := b1 j hj
    rw [q2, nI_clamp (by omega)]
    exact ⟨rfl, q1⟩
  have w2 : ∀ j, j < 60 → X.1 (c + 2) j = nI (X.1 (c + 2) j).toNatClampNeg ∧ (X.1 (c + 2) j).toNatClampNeg < 96 := fun j hj => by
    obtain ⟨w, q1, q2⟩ := b2 j hj
    rw [q2, nI_clamp (by omega)]
    exact ⟨rfl, q1⟩
  exact ⟨fun j => (X.1 (c + 1) j).toNatClampNeg, fun j => (X.1 (c + 2) j).toNatClampNeg, d, x, X.1 c 4, s, cl, f, ⟨fun j hj => (w1 j hj).1, fun j hj => (w2 j hj).1, b7', b8', rfl, b4', b5', b6'⟩, ⟨fun j hj => (a1 j hj).symm.trans (w1 j hj).1, fun j hj => (a2 j hj).symm.trans (w2 j hj).1, a7.symm.trans b7', a8.symm.trans b8', a3.symm, a4.symm.trans b4', a5.symm.trans b5', a6.symm.trans b6'⟩, fun j hj => (w1 j hj).2, fun j hj => (w2 j hj).2, b3, b4, b5, b6, b7, b8⟩
theorem to_CR {c : Nat} {X Y : Mem} {wr wa : Nat → Nat} {d x : Nat} {h : Int32} {s cl f : Nat} (hX : CF c X wr wa d x h s cl f) (hY : YF Y wr wa d x h s cl f) (hB : BF wr wa d x h s cl f) : CR c 1 X Y ∧ RG c X := by
  obtain ⟨a1, a2, a3, a4, a5, a6, a7, a8⟩ := hX
  obtain ⟨b1, b2, b3, b4, b5, b6, b7, b8⟩ := hY
  obtain ⟨c1, c2, c3, c4, c5, c6, c7, c8⟩ := hB
  refine ⟨⟨fun j hj => (a1 j hj).trans (b1 j hj).symm, fun j hj => (a2 j hj).trans (b2 j hj).symm, a5.trans b5.symm, a6.trans b6.symm, a7.trans b7.symm, a8.trans b8.symm, a3.trans b3.symm, a4.trans b4.symm⟩, fun j hj => ⟨_, c1 j hj, a1 j hj⟩, fun j hj => ⟨_, c2 j hj, a2 j hj⟩, ?_, ⟨s, c4, a6⟩, ⟨cl, c5, a7⟩, ⟨f, c6, a8⟩, ⟨d, c7, a3⟩, x, c8, a4⟩
  rw [a5]
  exact c3
def dst (dr : Nat → Nat) (p : Nat) : Nat → Nat
  | 0 => 0
  | k + 1 => dst dr p k ||| (if 1 ≤ k ∧ dr k = p then 2 ^ k else 0)
theorem dst_lt (dr : Nat → Nat) (p : Nat) : ∀ k, k ≤ 10 → dst dr p k < 2 ^ 10
  | 0, _ => by show 0 < 2 ^ 10; decide
  | k + 1, h => by
    rw [dst]
    refine Nat.or_lt_two_pow (dst_lt dr p k (by omega)) ?_
    split
    · exact Nat.pow_lt_pow_right (by decide) (by omega)
    · decide
theorem dI_eq {v p : Nat} (hp : p < 96) : (dI v = nI p) = (v = p) := by
  unfold dI
  by_cases c : v < 96
  · rw [if_pos c]
    exact propext (nI_eq (by omega) (by omega))
  · rw [if_neg c]
    exact propext ⟨fun e => absurd e.symm (nI_m1 (by omega)), fun e => by omega⟩
def up9 (v : Nat) : Nat := if v + 1 < 9999 then v + 1 else 9999
theorem up9_le (v : Nat) : up9 v ≤ 9999 := by unfold up9; split <;> omega
section MI
variable {sq : Nat} {kd dr : Nat → Nat} {c : Nat}
theorem comeX_loop {p cl : Nat} (hc : 100 ≤ c) (hp : p < 96) : ∀ (d k n : Nat) (M : Mem), k + d = 10 → 1 ≤ k → d < n → (∀ k, 1 ≤ k → k ≤ 9 → M.1 6 k = dI (dr k)) → M.1 c 6 = nI (cl ||| dst dr p k) → ∃ M', r10_comeTo c n 32 [nI p, nI k] [] M = some ((), M') ∧ M'.1 c 6 = nI (cl ||| dst dr p 10) ∧ (∀ j, j ≠ 6 → M'.1 c j = M.1 c j) ∧ ∀ a, a ≠ c → M'.1 a = M.1 a := by
  intro d
  induction d with
  | zero =>
    intro k n M h1 h2 h3 h4 h5
    obtain ⟨n, rfl⟩ : ∃ n', n = n' + 1 := ⟨n - 1, by omega⟩
    have : k = 10 := by omega
    subst this
    rw [e10_comeTo_32]
    unfold b10_comeTo_32
    rw [if_pos (by decide)]
    exact ⟨M, rfl, h5, fun _ _ => rfl, fun _ _ => rfl⟩
  | succ d ih =>
    intro k n M h1 h2 h3 h4 h5
    obtain ⟨n, rfl⟩ : ∃ n', n = n' + 1 := ⟨n - 1, by omega⟩
    rw [e10_comeTo_32]
    unfold b10_comeTo_32 b10_comeTo_63
    rw [if_neg (show ¬ (9 : Int32) < nI k from nI_nlt (a := 9) (by omega) (by decide)), chk_in (by omega) (by decide), nI_clamp (by omega), h4 k (by omega) (by omega)]
    simp only [dI_eq hp, lt_v, nI_1]
    by_cases e : dr k = p
    · rw [if_pos e, h5, shl1 (by omega), fa_or]
      obtain ⟨M', q1, q2, q3, q4⟩ := ih (k + 1) n (wI M c 6 (nI (cl ||| dst dr p k ||| 2 ^ k))) (by omega) (by omega) (by omega) (fun j a b => by rw [(wI_o 6 (by omega)).1]; exact h4 j a b) (by rw [wI_at, if_pos rfl, if_pos rfl, dst, if_pos ⟨by omega, e⟩, Nat.or_assoc])
      refine ⟨M', q1, q2, fun j hj => ?_, fun a ha => (q4 a ha).trans (wI_o a ha).1⟩
      rw [q3 j hj, wI_at, if_pos rfl, if_neg hj]
    · rw [if_neg e]
      exact ih (k + 1) n M (by omega) (by omega) (by omega) h4 (by rw [dst, if_neg (fun q => e q.2), Nat.or_zero]; exact h5)
theorem comeX {p n d x s cl f : Nat} {wr wa : Nat → Nat} {h : Int32} {X : Mem} (hn : 100 ≤ n) (hc : 100 ≤ c) (hp : p < 96) (h6 : ∀ k, 1 ≤ k → k ≤ 9 → X.1 6 k = dI (dr k)) (hw : wr p ≤ 9999) (hX : CF c X wr wa d x h s cl f) : ∃ X', f10_comeTo n c (nI p) X = some ((), X') ∧ CF c X' (fun j => if j = p then up9 (wr p) else wr j) wa d x h (s + 1) (cl ||| dst dr p 10) f := by
  obtain ⟨a1, a2, a3, a4, a5, a6, a7, a8⟩ := hX
  have cp : (nI p).toNatClampNeg = p := nI_clamp (by omega)
  have e9 : (if nI (wr p + 1) < (9999 : Int32) then nI (wr p + 1) else (9999 : Int32)) = nI (up9 (wr p)) := by
    unfold up9
    by_cases q : wr p + 1 < 9999
    · rw [if_pos q, if_pos (show nI (wr p + 1) < (9999 : Int32) from nI_lt (b := 9999) q (by decide))]
    · rw [if_neg q, if_neg (show ¬ nI (wr p + 1) < (9999 : Int32) from nI_nlt (b := 9999) (by omega) (by omega))]
      rfl
  generalize hM4 : wI (wI X c 5 (nI (s + 1))) (c + 1) p (nI (up9 (wr p))) = M4
  have m4c : ∀ j, M4.1 c j = if j = 5 then nI (s + 1) else X.1 c j := fun j => by
    rw [← hM4, wI_at, if_neg (by omega), wI_at, if_pos rfl]
  have m4w : ∀ j, M4.1 (c + 1) j = if j = p then nI (up9 (wr p)) else X.1 (c + 1) j := fun j => by
    rw [← hM4, wI_at, if_pos rfl, wI_at, if_neg (show ¬ c + 1 = c by omega)]
  have m4o : ∀ a, a ≠ c → a ≠ c + 1 → M4.1 a = X.1 a := fun a q1 q2 => by
    rw [← hM4, (wI_o a q2).1, (wI_o a q1).1]
  obtain ⟨M', q1, q2, q3, q4⟩ := comeX_loop (dr := dr) (cl := cl) hc hp 9 1 (n + 1) M4 (by omega) (by omega) (by omega) (fun k h1 h2 => by rw [m4o 6 (by omega) (by omega)]; exact h6 k h1 h2) (by
    rw [m4c, if_neg (by decide), a7]
    congr 1
    show cl = cl ||| (0 ||| 0)
    simp)
  rw [e10_comeTo_32] at q1
  refine ⟨M', ?_, fun j hj => ?_, fun j hj => ?_, ?_, ?_, ?_, ?_, q2, ?_⟩
  · unfold f10_comeTo b10_comeTo_0
    rw [a6, nI_1, lt_v, chk_in hp (by decide), chk_in hp (by decide), cp, show (wI X c 5 (nI (s + 1))).1 (c + 1) p = nI (wr p) by rw [wI_at, if_neg (by omega)]; exact a1 p hp, nI_1, e9, lt_v, hM4]
    exact q1
  · show _ = nI (if j = p then up9 (wr p) else wr j)
    rw [q4 (c + 1) (by omega), m4w]
    by_cases e : j = p
    · rw [if_pos e, if_pos e]
    · rw [if_neg e, if_neg e]; exact a1 j hj
  · rw [q4 (c + 2) (by omega), m4o (c + 2) (by omega) (by omega)]; exact a2 j hj
  · rw [q3 2 (by decide), m4c, if_neg (by decide)]; exact a3
  · rw [q3 3 (by decide), m4c, if_neg (by decide)]; exact a4
  · rw [q3 4 (by decide), m4c, if_neg (by decide)]; exact a5
  · rw [q3 5 (by decide), m4c, if_pos rfl]
  · rw [q3 7 (by decide), m4c, if_neg (by decide)]; exact a8
theorem doorsY_loop {p : Nat} (hp : p < 96) {M : Mem} (hD : DY dr M) : ∀ (d k n : Nat), k + d = 10 → 1 ≤ k → d < n → r12_doorsIn n 4 [nI p, nI (dst dr p k), nI k] [] M = some (nI (dst dr p 10), M) := by
  intro d
  induction d with
  | zero =>
    intro k n h1 h2 h3
    obtain ⟨n, rfl⟩ : ∃ n', n = n' + 1 := ⟨n - 1, by omega⟩
    have : k = 10 := by omega
    subst this
    rw [e12_doorsIn_4]
    unfold b12_doorsIn_4
    rw [if_pos (by decide)]
  | succ d ih =>
    intro k n h1 h2 h3
    obtain ⟨n, rfl⟩ : ∃ n', n = n' + 1 := ⟨n - 1, by omega⟩
    rw [e12_doorsIn_4]
    unfold b12_doorsIn_4 b12_doorsIn_26
    rw [if_neg (show ¬ (9 : Int32) < nI k from nI_nlt (a := 9) (by omega) (by decide)), chk_in (by omega) (by decide), nI_clamp (by omega), hD k (by omega) (by omega)]
    simp only [dI_eq hp, lt_v, nI_1]
    have g := ih (k + 1) n (by omega) (by omega) (by omega)
    by_cases e : dr k = p
    · rw [if_pos e, shl1 (by omega), fa_or]
      rw [dst, if_pos ⟨by omega, e⟩] at g
      exact g
    · rw [if_neg e]
      rw [dst, if_neg (fun q => e q.2), Nat.or_zero] at g
      exact g
theorem doors_Y {p n : Nat} {M : Mem} (hn : 100 ≤ n) (hp : p < 96) (hD : DY dr M) : f12_doorsIn n (nI p) M = some (nI (dst dr p 10), M) := by
  have g := doorsY_loop hp hD 9 1 (n + 1) (by omega) (by omega) (by omega)
  rw [e12_doorsIn_4] at g
  have e : dst dr p 1 = 0 := by
    rw [dst, dst, if_neg (by omega)]
    rfl
  rw [e, nI_0] at g
  exact g
theorem cnt24 {cl : Nat} (h : cl < 1024) : fb_ct (fun i => cl.testBit i) 32 = fb_ct (fun i => cl.testBit i) 24 := by
  have hz : fb_ct (fun k => cl.testBit (24 + k)) 8 = 0 := fb_ct_zero.mpr (fun j _ => Nat.testBit_lt_two_pow (Nat.lt_of_lt_of_le (show cl < 2 ^ 10 from h) (Nat.pow_le_pow_right (by decide) (by omega))))
  rw [show (32 : Nat) = 24 + 8 from rfl, fb_ct_split, hz, Nat.add_zero]
def cnt (cl : Nat) : Nat := fb_ct (fun i => cl.testBit i) 24
/-- a minute's end, the class -/
theorem mark_X {p m d x s cl f : Nat} {wr wa : Nat → Nat} {h : Int32} {X : Mem} (hc : 100 ≤ c) (hm : m < 60) (hX : CF c X wr wa d x h s cl f) : CF c (wI (wI X (c + 2) m (nI p)) c 7 (nI (if f < ds (opn sq kd) sq p then ds (opn sq kd) sq p else f))) wr (fun j => if j = m then p else wa j) d x h s cl (if f < ds (opn sq kd) sq p then ds (opn sq kd) sq p else f) := by
  obtain ⟨a1, a2, a3, a4, a5, a6, a7, a8⟩ := hX
  have ec : ∀ j, (wI (wI X (c + 2) m (nI p)) c 7 (nI (if f < ds (opn sq kd) sq p then ds (opn sq kd) sq p else f))).1 c j = if j = 7 then nI (if f < ds (opn sq kd) sq p then ds (opn sq kd) sq p else f) else X.1 c j := fun j => by
    rw [wI_at, if_pos rfl, wI_at, if_neg (show ¬ c = c + 2 by omega)]
  refine ⟨fun j hj => ?_, fun j hj => ?_, ?_, ?_, ?_, ?_, ?_, ?_⟩
  · rw [wI_at, if_neg (by omega), wI_at, if_neg (by omega)]; exact a1 j hj
  · show _ = nI (if j = m then p else wa j)
    rw [wI_at, if_neg (by omega), wI_at, if_pos rfl]
    by_cases e : j = m
    · rw [if_pos e, if_pos e]
    · rw [if_neg e, if_neg e]; exact a2 j hj
  · rw [ec, if_neg (by decide)]; exact a3
  · rw [ec, if_neg (by decide)]; exact a4
  · rw [ec, if_neg (by decide)]; exact a5
  · rw [ec, if_neg (by decide)]; exact a6
  · rw [ec, if_neg (by decide)]; exact a7
  · rw [ec, if_pos rfl]
theorem CF.keep {d x s cl f : Nat} {wr wa : Nat → Nat} {h : Int32} {X X' : Mem} (hX : CF c X wr wa d x h s cl f) (h0 : X'.1 c = X.1 c) (h1 : X'.1 (c + 1) = X.1 (c + 1)) (h2 : X'.1 (c + 2) = X.1 (c + 2)) : CF c X' wr wa d x h s cl f := by
  unfold CF
  rw [h0, h1, h2]
  exact hX
theorem YF.keep {d x s cl f : Nat} {wr wa : Nat → Nat} {h : Int32} {Y Y' : Mem} (hY : YF Y wr wa d x h s cl f) (h0 : Y'.1 1 = Y.1 1) : YF Y' wr wa d x h s cl f := by
  unfold YF
  rw [h0]
  exact hY
theorem mark_Y {p m d x s cl f : Nat} {wr wa : Nat → Nat} {h : Int32} {Y : Mem} (hm : m < 60) (hY : YF Y wr wa d x h s cl f) : YF (wI Y 1 (96 + m) (nI p)) wr (fun j => if j = m then p else wa j) d x h s cl f := by
  obtain ⟨a1, a2, a3, a4, a5, a6, a7, a8⟩ := hY
  have ec : ∀ j, (wI Y 1 (96 + m) (nI p)).1 1 j = if j = 96 + m then nI p else Y.1 1 j := fun j => rfl
  refine ⟨fun j hj => ?_, fun j hj => ?_, ?_, ?_, ?_, ?_, ?_, ?_⟩
  · rw [ec, if_neg (by omega)]; exact a1 j hj
  · show _ = nI (if j = m then p else wa j)
    rw [ec]
    by_cases e : j = m
    · rw [if_pos (by omega), if_pos e]
    · rw [if_neg (by omega), if_neg e]; exact a2 j hj
  · rw [ec, if_neg (by omega)]; exact a3
  · rw [ec, if_neg (by omega)]; exact a4
  · rw [ec, if_neg (by omega)]; exact a5
  · rw [ec, if_neg (by omega)]; exact a6
  · rw [ec, if_neg (by omega)]; exact a7
  · rw [ec, if_neg (by omega)]; exact a8
/-- a step, the reference -/
def comeYm (Y : Mem) (p s v cl f : Nat) : Mem := wI (wI (wI (wI Y 1 157 (nI s)) 1 p (nI v)) 1 158 (nI cl)) 1 159 (nI f)
theorem come_Y {p d x s cl f s' cl' f' : Nat} {wr wa : Nat → Nat} {h : Int32} {Y Y1 : Mem} (hp : p < 96) (h1 : Y1.1 1 = (wI (wI (wI Y 1 157 (nI s')) 1 p (nI (up9 (wr p)))) 1 158 (nI cl')).1 1) (hY : YF Y wr wa d x h s cl f) : YF (wI Y1 1 159 (nI f')) (fun j => if j = p then up9 (wr p) else wr j) wa d x h s' cl' f' := by
  obtain ⟨a1, a2, a3, a4, a5, a6, a7, a8⟩ := hY
  have ec : ∀ j, (wI Y1 1 159 (nI f')).1 1 j = if j = 159 then nI f' else if j = 158 then nI cl' else if j = p then nI (up9 (wr p)) else if j = 157 then nI s' else Y.1 1 j := fun j => by
    show (if j = 159 then nI f' else Y1.1 1 j) = _
    rw [h1]
    rfl
  refine ⟨fun j hj => ?_, fun j hj => ?_, ?_, ?_, ?_, ?_, ?_, ?_⟩
  · show _ = nI (if j = p then up9 (wr p) else wr j)
    rw [ec, if_neg (by omega), if_neg (by omega)]
    by_cases e : j = p
    · rw [if_pos e, if_pos e]
    · rw [if_neg e, if_neg (by omega), if_neg e]; exact a1 j hj
  · rw [ec, if_neg (by omega), if_neg (by omega), if_neg (by omega), if_neg (by omega)]; exact a2 j hj
  · rw [ec, if_neg (by omega), if_neg (by omega), if_neg (by omega), if_neg (by omega)]; exact a3
  · rw [ec, if_neg (by omega), if_neg (by omega), if_neg (by omega), if_neg (by omega)]; exact a4
  · rw [ec, if_neg (by omega), if_neg (by omega), if_neg (by omega), if_neg (by omega)]; exact a5
  · rw [ec, if_neg (by omega), if_neg (by omega), if_neg (by omega), if_pos rfl]
  · rw [ec, if_neg (by omega), if_pos rfl]
  · rw [ec, if_pos rfl]
theorem hourd_loop {h d x : Nat} (hh : h < 24) (hdd : d ≤ 9999) (hc : 100 ≤ c) : ∀ (e m p nX nY : Nat) (X Y : Mem) (wr wa : Nat → Nat) (s cl f : Nat), m + e = 60 → e + 1000000 < nX → e + 1000000 < nY → GW sq kd dr X Y → At sq kd p → CF c X wr wa d x (nI h) s cl f → YF Y wr wa d x (nI h) s cl f → (∀ j, j < 96 → wr j ≤ 9999) → (∀ j, j < 60 → wa j < 96) → s ≤ m → cl < 1024 → f ≤ 95 → ds (opn sq kd) sq p ≤ f → X.1 15 0 = nI h → X.1 15 1 = nI (d % 7) → ∃ nY' X' Y' wr' wa' s' cl' f', 900000 ≤ nY' ∧ r10_goHour c nX 25 [nI p, nI m] [] X = some ((), X') ∧ r12_dayGoes nY 48 [nI h, nI p, nI m] [] Y = b12_dayGoes_190 (r12_dayGoes nY') nY' (nI h) Y' ∧ GW sq kd dr X' Y' ∧ CF c X' wr' wa' d x (nI h) s' cl' f' ∧ YF Y' wr' wa' d x (nI h) s' cl' f' ∧ (∀ j, j < 96 → wr' j ≤ 9999) ∧ (∀ j, j < 60 → wa' j < 96) ∧ s' ≤ 60 ∧ cl' < 1024 ∧ f' ≤ 95 ∧ ∀ j, Y'.1 0 j = if j = 9 then Y'.1 0 9 else Y.1 0 j := by
  intro e
  induction e with
  | zero =>
    intro m p nX nY X Y wr wa s cl f h1 h2 h3 hG hA hX hY b1 b2 b3 b4 b5 b6 x0 x1
    obtain ⟨nX, rfl⟩ : ∃ n', nX = n' + 1 := ⟨nX - 1, by omega⟩
    obtain ⟨nY, rfl⟩ : ∃ n', nY = n' + 1 := ⟨nY - 1, by omega⟩
    have : m = 60 := by omega
    subst this
    refine ⟨nY, X, Y, wr, wa, s, cl, f, by omega, ?_, ?_, hG, hX, hY, b1, b2, b3, b4, b5, fun j => ?_⟩
    · rw [e10_goHour_25]
      unfold b10_goHour_25
      rw [if_pos (by decide)]
    · rw [e12_dayGoes_48]
      unfold b12_dayGoes_48
      rw [if_pos (by decide)]
    · by_cases q : j = 9
      · rw [if_pos q, q]
      · rw [if_neg q]
  | succ e ih =>
    intro m p nX nY X Y wr wa s cl f h1 h2 h3 hG hA hX hY b1 b2 b3 b4 b5 b6 x0 x1
    obtain ⟨nX, rfl⟩ : ∃ n', nX = n' + 1 := ⟨nX - 1, by omega⟩
    obtain ⟨nY, rfl⟩ : ∃ n', nY = n' + 1 := ⟨nY - 1, by omega⟩
    have hm : m < 60 := by omega
    have hp := hA.1
    have hsq := hG.1.1
    have hbx : fZJ6_bitCount_0f7a4 nX (nI cl) X = some (nI (cnt cl), X) := by rw [bitI (by omega), cnt24 b4]; rfl
    have z2 : (2 : Int32).toNatClampNeg = 2 := by decide
    have z8 : (8 : Int32).toNatClampNeg = 8 := by decide
    generalize hX1 : wI (wI X 15 2 (nI m)) 15 8 (nI (cnt cl)) = X1
    have oX1 : ∀ k, k ≠ 15 → X1.1 k = X.1 k := fun k hk => by rw [← hX1, (wI_o k hk).1, (wI_o k hk).1]
    have hsm : f2_setMinute nX (nI m) (nI (cnt cl)) X = some ((), X1) := by
      unfold f2_setMinute b2_setMinute_0
      rw [chk_t (by decide), lt_v, chk_t (by decide), lt_v, z2, z8, hX1]
    have hs1 : SV (nI h) (nI (d % 7)) m (nI (cnt cl)) X1 := by
      rw [← hX1]
      exact ⟨x0, x1, rfl, rfl⟩
    have g1 : GW sq kd dr X1 Y := hG.x (fun k hk => oX1 k (by rintro rfl; revert hk; decide))
    have hX1c : CF c X1 wr wa d x (nI h) s cl f := hX.keep (oX1 c (by omega)) (oX1 (c + 1) (by omega)) (oX1 (c + 2) (by omega))
    have hd7 : Y.1 1 160 - Y.1 1 160 / 7 * 7 = nI (d % 7) := by
      rw [hY.2.2.1]
      exact pk_rem (d := 7) (by omega) (by decide) (by decide)
    obtain ⟨p', X2, Y2, n1, n2, n3, n4, n5, n6, n7⟩ := next_XY (c := c) (m := m) (nX := nX) (nY := nY) (hr := nI h) (dv := nI (d % 7)) (cv := nI (cnt cl)) hm hA hc (by omega) (by omega) g1 hs1 (fun j hj => by rw [hX1c.1 j hj, hY.1 j hj]) hd7 (fun n M hn => by rw [hY.2.2.2.2.2.2.1, bits_Y (by omega) (by omega)]; rfl)
    have fX2 := fr10_nextPlace n1
    have fY2 := fr12_goesTo n2
    have qY2 := fq12_goesTo n2
    have oX2 : ∀ k, k ≠ 15 → k ≠ 16 → X2.1 k = X1.1 k := fun k a b => (fX2 k (by simp [a, b]) (fun e => by cases e)).1
    have hX2 : CF c X2 wr wa d x (nI h) s cl f := hX1c.keep (oX2 c (by omega) (by omega)) (oX2 (c + 1) (by omega) (by omega)) (oX2 (c + 2) (by omega) (by omega))
    have hY2 : YF Y2 wr wa d x (nI h) s cl f := hY.keep n7
    have hp' := n3.1
    have hp95 := n3.2.2
    have h7 : X2.1 7 p' = nI (ds (opn sq kd) sq p') := n4.2.2.1 p' hp'
    have y0 : ∀ j, Y2.1 0 j = if j = 9 then Y2.1 0 9 else Y.1 0 j := fun j => by
      by_cases q : j = 9
      · rw [if_pos q, q]
      · rw [if_neg q]
        exact qY2 0 j (by decide) (by simp [q])
    have hmi : (96 : Int32) + nI m = nI (96 + m) := nI_add 96 m
    have cmi : (nI (96 + m)).toNatClampNeg = 96 + m := nI_clamp (by omega)
    have cp' : (nI p').toNatClampNeg = p' := nI_clamp (by omega)
    have c28 : ¬ nI h = (-2 : Int32) := nI_m2 (by omega)
    -- the minute's end
    have fin : ∀ (X3 Y3 : Mem) (wr3 : Nat → Nat) (s3 cl3 f3 : Nat), GW sq kd dr X3 Y3 → CF c X3 wr3 wa d x (nI h) s3 cl3 f → YF Y3 wr3 wa d x (nI h) s3 cl3 f3 → f3 = (if f < ds (opn sq kd) sq p' then ds (opn sq kd) sq p' else f) → (∀ j, j < 96 → wr3 j ≤ 9999) → s3 ≤ m + 1 → cl3 < 1024 → X3.1 15 0 = nI h → X3.1 15 1 = nI (d % 7) → (∀ j, Y3.1 0 j = if j = 9 then Y3.1 0 9 else Y.1 0 j) → ∃ nY' X' Y' wr' wa' s' cl' f', 900000 ≤ nY' ∧ b10_goHour_68 c (r10_goHour c nX) nX (nI m) (nI p') X3 = some ((), X') ∧ b12_dayGoes_171 (r12_dayGoes nY) nY (nI h) (nI m) (nI p') Y3 = b12_dayGoes_190 (r12_dayGoes nY') nY' (nI h) Y' ∧ GW sq kd dr X' Y' ∧ CF c X' wr' wa' d x (nI h) s' cl' f' ∧ YF Y' wr' wa' d x (nI h) s' cl' f' ∧ (∀ j, j < 96 → wr' j ≤ 9999) ∧ (∀ j, j < 60 → wa' j < 96) ∧ s' ≤ 60 ∧ cl' < 1024 ∧ f' ≤ 95 ∧ ∀ j, Y'.1 0 j = if j = 9 then Y'.1 0 9 else Y.1 0 j := by
      intro X3 Y3 wr3 s3 cl3 f3 q1 q2 q3 q4 q5 q6 q7 q8 q9 q10
      have m1 := mark_X (sq := sq) (kd := kd) (p := p') (m := m) hc hm q2
      have m2 := mark_Y (p := p') (m := m) hm q3
      rw [← q4] at m1
      have h73 : (wI X3 (c + 2) m (nI p')).1 7 p' = nI (ds (opn sq kd) sq p') := by rw [(wI_o 7 (by omega)).1]; exact q1.2.2.1 p' hp'
      have hc7 : (wI X3 (c + 2) m (nI p')).1 c 7 = nI f := by rw [wI_at, if_neg (by omega)]; exact q2.2.2.2.2.2.2.2
      have emax : (if nI f < nI (ds (opn sq kd) sq p') then nI (ds (opn sq kd) sq p') else nI f) = nI f3 := by
        rw [q4]
        by_cases q : f < ds (opn sq kd) sq p'
        · rw [if_pos q, if_pos (nI_lt q (by omega))]
        · rw [if_neg q, if_neg (nI_nlt (by omega) (by omega))]
      unfold b10_goHour_68 b12_dayGoes_171
      rw [chk_in hm (by decide), lt_v, nI_clamp (by omega), chk_in hp' (by decide), cp', h73, hc7, emax, lt_v, lt_v, nI_1, hmi, chk_in (by omega) (by decide), lt_v, lt_v, cmi]
      have gx : GW sq kd dr (wI (wI X3 (c + 2) m (nI p')) c 7 (nI f3)) (wI Y3 1 (96 + m) (nI p')) := (q1.x (fun k hk => by
        have : k ≤ 14 := by revert hk; revert k; decide
        rw [(wI_o k (by omega)).1, (wI_o k (by omega)).1])).o (OY.w (Or.inl rfl))
      have f95 : f3 ≤ 95 := by rw [q4]; split <;> omega
      have fds : ds (opn sq kd) sq p' ≤ f3 := by rw [q4]; split <;> omega
      have w2 : ∀ j, j < 60 → (if j = m then p' else wa j) < 96 := fun j hj => by
        split
        · exact hp'
        · exact b2 j hj
      obtain ⟨nY', X', Y', wr', wa', s', cl', f', r1, r2, r3, r4, r5, r6, r7, r8, r9, r10, r11, r12⟩ := ih (m + 1) p' nX nY _ _ wr3 _ s3 cl3 f3 (by omega) (by omega) (by omega) gx n3 m1 m2 q5 w2 q6 q7 f95 fds (by rw [(wI_o 15 (by omega)).1, (wI_o 15 (by omega)).1]; exact q8) (by rw [(wI_o 15 (by omega)).1, (wI_o 15 (by omega)).1]; exact q9)
      refine ⟨nY', X', Y', wr', wa', s', cl', f', r1, r2, r3, r4, r5, r6, r7, r8, r9, r10, r11, fun j => ?_⟩
      rw [r12 j]
      by_cases q : j = 9
      · rw [if_pos q, if_pos q]
      · rw [if_neg q, if_neg q, show (wI Y3 1 (96 + m) (nI p')).1 0 j = Y3.1 0 j from rfl, q10 j, if_neg q]
    rw [e10_goHour_25, e12_dayGoes_48]
    unfold b10_goHour_25 b12_dayGoes_48
    rw [if_neg (show ¬ (60 : Int32) ≤ nI m from nI_ge (b := 60) hm (by decide)), if_neg (show ¬ (60 : Int32) ≤ nI m from nI_ge (b := 60) hm (by decide)), hX.2.2.2.2.2.2.1, bnd_e hbx, bnd_e hsm, bnd_e n1, if_neg c28, bnd_e n2]
    by_cases ep : p' = p
    · rw [if_pos (by rw [ep]), if_pos (by rw [ep])]
      exact fin X2 Y2 wr s cl f n4 hX2 hY2 (by rw [ep, if_neg (by omega)]) b1 (by omega) b4 n5 n6 y0
    · have nep : ¬ nI p' = nI p := fun q => ep ((nI_eq (by omega) (by omega)).mp q)
      rw [if_neg nep, if_neg nep]
      obtain ⟨X3, cx1, cx2⟩ := comeX (dr := dr) (n := nX) (p := p') (by omega) hc hp' n4.2.2.2.2.1 (b1 p' hp') hX2
      have fX3 := fr10_comeTo cx1
      have oX3 : ∀ k, k ≠ c → k ≠ c + 1 → X3.1 k = X2.1 k := fun k a b => (fX3 k (by simp [a, b]) (fun e => by cases e)).1
      have e0p : (0 : Int32) + nI p' = nI p' := by rw [← nI_0, nI_add, Nat.zero_add]
      have z157 : (157 : Int32).toNatClampNeg = 157 := by decide
      have z158 : (158 : Int32).toNatClampNeg = 158 := by decide
      have z159 : (159 : Int32).toNatClampNeg = 159 := by decide
      have hw' := b1 p' hp'
      have hmin : ∀ M, f12_min nY (9999 : Int32) (nI (wr p' + 1)) M = some (nI (up9 (wr p')), M) := fun M => by
        rw [show (9999 : Int32) = nI 9999 from rfl, min_n (by decide) (by omega)]
        rfl
      generalize hYa : wI (wI Y2 1 157 (nI (s + 1))) 1 p' (nI (up9 (wr p'))) = Ya
      have oYa : OY Y2 Ya := by rw [← hYa]; exact (OY.w (Or.inl rfl)).trans (OY.w (Or.inl rfl))
      have gYa := n4.o oYa
      have a158 : Ya.1 1 158 = nI cl := by
        rw [← hYa]
        show (if 158 = p' then nI (up9 (wr p')) else Y2.1 1 158) = nI cl
        rw [if_neg (by omega)]
        exact hY2.2.2.2.2.2.2.1
      have a159 : Ya.1 1 159 = nI f := by
        rw [← hYa]
        show (if 159 = p' then nI (up9 (wr p')) else Y2.1 1 159) = nI f
        rw [if_neg (by omega)]
        exact hY2.2.2.2.2.2.2.2
      have gYb : GW sq kd dr X2 (wI Ya 1 158 (nI (cl ||| dst dr p' 10))) := gYa.o (OY.w (Or.inl rfl))
      obtain ⟨Yc, sc1, sc2, sc3⟩ := steps_Y (n := nY) (p := p') (q := sq) (by omega) gYb.2.1 hp' hsq
      have hdl := dst_lt dr p' 10 (by decide)
      have hcl : cl ||| dst dr p' 10 < 1024 := Nat.or_lt_two_pow (n := 10) b4 hdl
      have hmax : ∀ M, f12_max nY (nI f) (nI (ds (opn sq kd) sq p')) M = some (nI (if f < ds (opn sq kd) sq p' then ds (opn sq kd) sq p' else f), M) := fun M => max_n (by omega) (by omega)
      have kc1 : Yc.1 1 = (wI Ya 1 158 (nI (cl ||| dst dr p' 10))).1 1 := (sc2.1 1 (by decide)).1
      have yF := come_Y (s' := s + 1) (cl' := cl ||| dst dr p' 10) (f' := if f < ds (opn sq kd) sq p' then ds (opn sq kd) sq p' else f) (Y := Y2) (Y1 := Yc) hp' (by rw [kc1, ← hYa]) hY2
      have gF : GW sq kd dr X3 (wI Yc 1 159 (nI (if f < ds (opn sq kd) sq p' then ds (opn sq kd) sq p' else f))) := (((gYb.sm sc2 sc3).o (OY.w (Or.inl rfl))).x (fun k hk => by
        have : k ≤ 14 := by revert hk; revert k; decide
        exact oX3 k (by omega) (by omega)))
      rw [bnd_e cx1, chk_t (by decide), chk_t (by decide), z157, hY2.2.2.2.2.2.1, nI_1, lt_v, e0p, chk_in (by omega) (by decide), cp', show (wI Y2 1 157 (nI (s + 1))).1 1 p' = nI (wr p') by
        show (if p' = 157 then nI (s + 1) else Y2.1 1 p') = nI (wr p')
        rw [if_neg (by omega)]
        exact hY2.1 p' hp', nI_1, hmin, bnd_s', chk_in (by omega) (by decide), lt_v, hYa, chk_t (by decide), doors_Y (by omega) hp' gYa.2.2.2.2.2.1, bnd_s', chk_t (by decide), lt_v, z158, a158, fa_or, chk_t (by decide), gYb.2.1.1.2.1, bnd_e sc1, z159, show (wI Ya 1 158 (nI (cl ||| dst dr p' 10))).1 1 159 = nI f from a159, ds_symm _ hp' hsq, hmax, bnd_s', chk_t (by decide), lt_v]
      refine fin X3 _ _ (s + 1) (cl ||| dst dr p' 10) _ gF cx2 yF rfl (fun j hj => ?_) (by omega) hcl (by rw [oX3 15 (by omega) (by omega)]; exact n5) (by rw [oX3 15 (by omega) (by omega)]; exact n6) (fun j => ?_)
      · split
        · exact up9_le _
        · exact b1 j hj
      · by_cases q : j = 9
        · rw [if_pos q, q]
        · rw [if_neg q, show (wI Yc 1 159 (nI (if f < ds (opn sq kd) sq p' then ds (opn sq kd) sq p' else f))).1 0 j = Yc.1 0 j from rfl, sc2.2 j q, show (wI Ya 1 158 (nI (cl ||| dst dr p' 10))).1 0 j = Ya.1 0 j from rfl, ← hYa, show (wI (wI Y2 1 157 (nI (s + 1))) 1 p' (nI (up9 (wr p')))).1 0 j = Y2.1 0 j from rfl, y0 j, if_neg q]
end MI
