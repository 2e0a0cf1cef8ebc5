/-! DAYS: where he goes next -/
def GW (sq : Nat) (kd dr : Nat → Nat) (X Y : Mem) : Prop := TX sq kd X ∧ YT sq kd Y ∧ (∀ p, p < 96 → X.1 7 p = nI (ds (opn sq kd) sq p)) ∧ (∀ p, p < 96 → X.1 8 p = nI (t9 (opn sq kd) dr p)) ∧ (∀ k, 1 ≤ k → k ≤ 9 → X.1 6 k = dI (dr k)) ∧ DY dr Y ∧ Lw X Y
theorem YT.keep {sq : Nat} {kd : Nat → Nat} {Y Y' : Mem} (h : YT sq kd Y) (h5 : Y'.1 0 5 = Y.1 0 5) (h9 : Y'.1 0 9 = Y.1 0 9) (h4 : Y'.1 4 = Y.1 4) (h6 : Y'.1 6 = Y.1 6) : YT sq kd Y' := by
  obtain ⟨a1, a2⟩ := h
  refine ⟨a1.keep h5 h4, ?_⟩
  unfold LY LD at a2 ⊢
  rw [h9, h6]
  exact a2
section GWs
variable {sq : Nat} {kd dr : Nat → Nat} {X Y X' Y' : Mem}
theorem GW.x (h : GW sq kd dr X Y) (hx : ∀ k, k ∈ ([3, 4, 6, 7, 8, 11, 12, 13, 14] : List Nat) → X'.1 k = X.1 k) : GW sq kd dr X' Y := by
  obtain ⟨a1, a2, a3, a4, a5, a6, a7⟩ := h
  exact ⟨a1.keep (by rw [hx 3 (by decide)]) (hx 4 (by decide)), a2, fun p hp => by rw [hx 7 (by decide)]; exact a3 p hp, fun p hp => by rw [hx 8 (by decide)]; exact a4 p hp, fun k h1 h2 => by rw [hx 6 (by decide)]; exact a5 k h1 h2, a6, Lw.ok _ _ _ _ a7 (fun k hk => hx k (by revert hk; revert k; decide)) rfl (fun _ _ => rfl)⟩
theorem GW.y (h : GW sq kd dr X Y) (hY : YT sq kd Y') (h5 : Y'.1 5 = Y.1 5) (h20 : Y'.1 0 20 = Y.1 0 20) (hy : ∀ k, k ∈ ([15, 16, 17, 18, 19] : List Nat) → Y'.1 k = Y.1 k) : GW sq kd dr X Y' := by
  obtain ⟨a1, a2, a3, a4, a5, a6, a7⟩ := h
  exact ⟨a1, hY, a3, a4, a5, fun k h1 h2 => by rw [h5]; exact a6 k h1 h2, Lw.ok _ _ _ _ a7 (fun _ _ => rfl) h20 hy⟩
theorem GW.sm (h : GW sq kd dr X Y) (hs : Sm Y Y') (hY : YT sq kd Y') : GW sq kd dr X Y' := h.y hY (hs.1 5 (by decide)).1 (hs.2 20 (by decide)) (fun k hk => (hs.1 k (by revert hk; revert k; decide)).1)
/-- nothing of the town or the law is touched -/
def OY (Y Y' : Mem) : Prop := Y'.1 0 5 = Y.1 0 5 ∧ Y'.1 0 9 = Y.1 0 9 ∧ Y'.1 0 20 = Y.1 0 20 ∧ ∀ k, k ∈ ([4, 5, 6, 15, 16, 17, 18, 19] : List Nat) → Y'.1 k = Y.1 k
theorem GW.o (h : GW sq kd dr X Y) (hs : OY Y Y') : GW sq kd dr X Y' := h.y (h.2.1.keep hs.1 hs.2.1 (hs.2.2.2 4 (by decide)) (hs.2.2.2 6 (by decide))) (hs.2.2.2 5 (by decide)) hs.2.2.1 (fun k hk => hs.2.2.2 k (by revert hk; revert k; decide))
theorem O20.oy (h : O20 Y Y') : OY Y Y' := ⟨by rw [(h 0 (by decide)).1], by rw [(h 0 (by decide)).1], by rw [(h 0 (by decide)).1], fun k hk => (h k (by rintro rfl; revert hk; decide)).1⟩
theorem OY.w {k j : Nat} {v : Int32} (hk : k = 1 ∨ k = 21) : OY Y (wI Y k j v) := by
  have h0 : 0 ≠ k := by omega
  refine ⟨by rw [(wI_o 0 h0).1], by rw [(wI_o 0 h0).1], by rw [(wI_o 0 h0).1], fun a ha => (wI_o a (by rintro rfl; revert ha; rcases hk with rfl | rfl <;> decide)).1⟩
theorem OY.trans {Y1 : Mem} (h : OY Y Y1) (g : OY Y1 Y') : OY Y Y' := ⟨g.1.trans h.1, g.2.1.trans h.2.1, g.2.2.1.trans h.2.2.1, fun k hk => (g.2.2.2 k hk).trans (h.2.2.2 k hk)⟩
end GWs
def SV (hr dv : Int32) (m : Nat) (cv : Int32) (X : Mem) : Prop := X.1 15 0 = hr ∧ X.1 15 1 = dv ∧ X.1 15 2 = nI m ∧ X.1 15 8 = cv
section NX
variable {sq : Nat} {kd dr : Nat → Nat} {c m n : Nat} {hr dv cv : Int32}
theorem look_XY {p : Nat} {X Y : Mem} (hn : 200000 ≤ n) (hG : GW sq kd dr X Y) (hp : p < 96) (hs : SV hr dv m cv X) (hW : ∀ j, j < 96 → X.1 (c + 1) j = Y.1 1 j) (hd : Y.1 1 160 - Y.1 1 160 / 7 * 7 = dv) (hB : ∀ M, f12_bits n (Y.1 1 158) M = some (cv, M)) : ∃ X' Y', f10_lookAt n c (nI p) X = some ((), X') ∧ f12_feelsAt n hr (nI m) (nI p) Y = some ((), Y') ∧ FV X' Y' ∧ SV hr dv m cv X' ∧ GW sq kd dr X' Y' ∧ Y'.1 1 = Y.1 1 ∧ O15 X X' := by
  obtain ⟨a1, a2, a3, a4, a5, a6, a7⟩ := hG
  obtain ⟨s0, s1, s2, s8⟩ := hs
  have hsq := a1.1
  have z0 : (0 : Int32).toNatClampNeg = 0 := by decide
  have z1 : (1 : Int32).toNatClampNeg = 1 := by decide
  have z2 : (2 : Int32).toNatClampNeg = 2 := by decide
  have z3 : (3 : Int32).toNatClampNeg = 3 := by decide
  have z4 : (4 : Int32).toNatClampNeg = 4 := by decide
  have z5 : (5 : Int32).toNatClampNeg = 5 := by decide
  have z6 : (6 : Int32).toNatClampNeg = 6 := by decide
  have z7 : (7 : Int32).toNatClampNeg = 7 := by decide
  have z8 : (8 : Int32).toNatClampNeg = 8 := by decide
  have z160 : (160 : Int32).toNatClampNeg = 160 := by decide
  have z158 : (158 : Int32).toNatClampNeg = 158 := by decide
  have e0p : (0 : Int32) + nI p = nI p := by rw [← nI_0, nI_add, Nat.zero_add]
  have cp : (nI p).toNatClampNeg = p := nI_clamp (by omega)
  generalize hY5 : wI (wI (wI (wI (wI (wI Y 21 0 hr) 21 1 dv) 21 2 (nI m)) 21 3 (nI p - nI p / 12 * 12)) 21 4 (nI p / 12)) 21 5 (Y.1 1 p) = Y5
  have o5 : OY Y Y5 := by rw [← hY5]; exact ((((OY.w (Or.inr rfl)).trans (OY.w (Or.inr rfl))).trans (OY.w (Or.inr rfl))).trans (OY.w (Or.inr rfl))).trans ((OY.w (Or.inr rfl)).trans (OY.w (Or.inr rfl)))
  have k5 : Y5.1 1 = Y.1 1 := by rw [← hY5]; rfl
  have t5 : YT sq kd Y5 := a2.keep o5.1 o5.2.1 (o5.2.2.2 4 (by decide)) (o5.2.2.2 6 (by decide))
  have d5 : Y5.1 5 9 = dI (dr 9) := by rw [o5.2.2.2 5 (by decide)]; exact a6 9 (by decide) (by decide)
  obtain ⟨Y6, f6, m6, t6⟩ := nine_Y (n := n) (p := p) (by omega) t5 hp d5
  have t7 : YT sq kd (wI Y6 21 6 (nI (t9 (opn sq kd) dr p))) := t6.keep rfl rfl rfl rfl
  obtain ⟨Y7, f7, m7, t8⟩ := steps_Y (n := n) (p := p) (q := sq) (by omega) t7 hp hsq
  have h05 : (wI Y6 21 6 (nI (t9 (opn sq kd) dr p))).1 0 5 = nI sq := t7.1.2.1
  have k7 : Y7.1 1 = Y.1 1 := by rw [(m7.1 1 (by decide)).1, (wI_o 1 (by decide)).1, (m6.1 1 (by decide)).1, k5]
  refine ⟨wI (wI (wI (wI (wI X 15 3 (nI p - nI p / 12 * 12)) 15 4 (nI p / 12)) 15 5 (X.1 (c + 1) p)) 15 6 (X.1 8 p)) 15 7 (X.1 7 p), wI (wI Y7 21 7 (nI (ds (opn sq kd) p sq))) 21 8 cv, ?_, ?_, ?_, ⟨s0, s1, s2, s8⟩, ?_, ?_, ?_⟩
  · unfold f10_lookAt b10_lookAt_0 f2_setPlace b2_setPlace_0
    rw [chk_in hp (by decide), chk_in hp (by decide), chk_in hp (by decide), cp]
    rw [chk_t (by decide), lt_v, chk_t (by decide), lt_v, chk_t (by decide), lt_v, chk_t (by decide), lt_v, chk_t (by decide), lt_v, bnd_s', z3, z4, z5, z6, z7]
  · unfold f12_feelsAt b12_feelsAt_0
    rw [chk_t (by decide), lt_v, chk_t (by decide), chk_t (by decide), lt_v, chk_t (by decide), lt_v, chk_t (by decide), lt_v, chk_t (by decide), lt_v, e0p, chk_in (by omega) (by decide), chk_t (by decide), lt_v, cp, z0, z1, z2, z3, z4, z5, z160, show (wI Y 21 0 hr).1 1 160 = Y.1 1 160 from rfl, hd, show (wI (wI (wI (wI (wI Y 21 0 hr) 21 1 dv) 21 2 (nI m)) 21 3 (nI p - nI p / 12 * 12)) 21 4 (nI p / 12)).1 1 p = Y.1 1 p from rfl, hY5, bnd_e f6, chk_t (by decide), lt_v, z6, h05, bnd_e f7, chk_t (by decide), lt_v, chk_t (by decide), z7, z158, show (wI Y7 21 7 (nI (ds (opn sq kd) p sq))).1 1 158 = Y7.1 1 158 from rfl, k7, hB, bnd_s', chk_t (by decide), lt_v, z8]
  · intro j hj
    have e21 : Y7.1 21 = (wI Y6 21 6 (nI (t9 (opn sq kd) dr p))).1 21 := (m7.1 21 (by decide)).1
    have e21' : Y6.1 21 = Y5.1 21 := (m6.1 21 (by decide)).1
    have eY : (wI (wI Y7 21 7 (nI (ds (opn sq kd) p sq))) 21 8 cv).1 21 j = if j = 8 then cv else if j = 7 then nI (ds (opn sq kd) p sq) else if j = 6 then nI (t9 (opn sq kd) dr p) else Y5.1 21 j := by
      show (if j = 8 then cv else if j = 7 then nI (ds (opn sq kd) p sq) else Y7.1 21 j) = _
      rw [e21]
      show (if j = 8 then cv else if j = 7 then nI (ds (opn sq kd) p sq) else if j = 6 then nI (t9 (opn sq kd) dr p) else Y6.1 21 j) = _
      rw [e21']
    rw [eY, ← hY5]
    have hjj : j = 0 ∨ j = 1 ∨ j = 2 ∨ j = 3 ∨ j = 4 ∨ j = 5 ∨ j = 6 ∨ j = 7 ∨ j = 8 := by omega
    rcases hjj with rfl | rfl | rfl | rfl | rfl | rfl | rfl | rfl | rfl
    · exact s0
    · exact s1
    · exact s2
    · rfl
    · rfl
    · exact hW p hp
    · exact a4 p hp
    · show X.1 7 p = nI (ds (opn sq kd) p sq)
      rw [a3 p hp, ds_symm _ hsq hp]
    · exact s8
  · have g0 : GW sq kd dr X Y := ⟨a1, a2, a3, a4, a5, a6, a7⟩
    have g1 := (g0.o o5).sm m6 t6
    have g2 : GW sq kd dr X (wI Y6 21 6 (nI (t9 (opn sq kd) dr p))) := g1.o (OY.w (Or.inr rfl))
    have g3 := (g2.sm m7 t8).o ((OY.w (k := 21) (j := 7) (v := nI (ds (opn sq kd) p sq)) (Or.inr rfl)).trans (OY.w (k := 21) (j := 8) (v := cv) (Or.inr rfl)))
    refine g3.x (fun k hk => ?_)
    have hk15 : k ≠ 15 := by rintro rfl; revert hk; decide
    rw [(wI_o k hk15).1, (wI_o k hk15).1, (wI_o k hk15).1, (wI_o k hk15).1, (wI_o k hk15).1]
  · exact k7
  · intro k h15 _
    refine ⟨?_, ?_⟩
    · rw [(wI_o k h15).1, (wI_o k h15).1, (wI_o k h15).1, (wI_o k h15).1, (wI_o k h15).1]
    · rw [(wI_o k h15).2, (wI_o k h15).2, (wI_o k h15).2, (wI_o k h15).2, (wI_o k h15).2]
/-- a place where he can be -/
def At (sq : Nat) (kd : Nat → Nat) (p : Nat) : Prop := p < 96 ∧ opn sq kd p = true ∧ ds (opn sq kd) sq p ≤ 95
theorem opn_sq {sq : Nat} {kd : Nat → Nat} : opn sq kd sq = true := by
  unfold opn kof
  rw [if_pos rfl]
  rfl
theorem At.sqr {sq : Nat} {kd : Nat → Nat} (h : sq < 96) : At sq kd sq := ⟨h, opn_sq, by
  have := (ds_zero h h (opn_sq (kd := kd))).mpr rfl
  omega⟩
theorem At.go {sq : Nat} {kd : Nat → Nat} {p w : Nat} (hsq : sq < 96) (h : At sq kd p) (hw : w < 4) (hb : bes p w < 96) (ho : opn sq kd (bes p w) = true) : At sq kd (bes p w) := by
  refine ⟨hb, ho, ?_⟩
  have h1 : ds (opn sq kd) sq (bes p w) ≤ ds (opn sq kd) sq p + 1 := (ds_step hsq hb (by have := h.2.2; omega)).mpr ⟨ho, Or.inr ⟨(w + 2) % 4, Nat.mod_lt _ (by decide), by rw [bes_back p h.1 w hw hb]; exact h.1, by rw [bes_back p h.1 w hw hb]; exact Nat.le_refl _⟩⟩
  have := ds_le (opn sq kd) hsq hb
  have := h.2.2
  omega
theorem home_iff {p w : Nat} (hsq : sq < 96) (hA : At sq kd p) (hw : w < 4) (hb : bes p w < 96) (h1 : 1 ≤ ds (opn sq kd) sq p) : (opn sq kd (bes p w) = true ∧ ds (opn sq kd) sq (bes p w) < ds (opn sq kd) sq p) ↔ ds (opn sq kd) sq (bes p w) = ds (opn sq kd) sq p - 1 := by
  have h95 := hA.2.2
  constructor
  · rintro ⟨h2, h3⟩
    have : ds (opn sq kd) sq p ≤ ds (opn sq kd) sq (bes p w) + 1 := (ds_step hsq hA.1 (by omega)).mpr ⟨hA.2.1, Or.inr ⟨w, hw, hb, Nat.le_refl _⟩⟩
    omega
  · intro h2
    refine ⟨?_, by omega⟩
    exact ((ds_step hsq hb (d := 95) (by decide)).mp (by omega)).1
theorem home_ex {p : Nat} (hsq : sq < 96) (hA : At sq kd p) (h1 : 1 ≤ ds (opn sq kd) sq p) : ∃ w, w < 4 ∧ bes p w < 96 ∧ ds (opn sq kd) sq (bes p w) = ds (opn sq kd) sq p - 1 := by
  have h95 := hA.2.2
  have := (ds_step (O := opn sq kd) hsq hA.1 (d := ds (opn sq kd) sq p - 1) (by omega)).mp (by omega)
  rcases this.2 with q | ⟨w, w1, w2, w3⟩
  · omega
  · refine ⟨w, w1, w2, ?_⟩
    have : ds (opn sq kd) sq p ≤ ds (opn sq kd) sq (bes p w) + 1 := (ds_step hsq hA.1 (by omega)).mpr ⟨hA.2.1, Or.inr ⟨w, w1, w2, Nat.le_refl _⟩⟩
    omega
theorem home_loop {p : Nat} {X : Mem} (hT : TX sq kd X) (h7 : ∀ p, p < 96 → X.1 7 p = nI (ds (opn sq kd) sq p)) (hA : At sq kd p) (h1 : 1 ≤ ds (opn sq kd) sq p) : ∀ (d w nX nY : Nat) (Y : Mem), w + d = 4 → d < nX → d + 200000 < nY → YT sq kd Y → (∃ v, w ≤ v ∧ v < 4 ∧ bes p v < 96 ∧ ds (opn sq kd) sq (bes p v) = ds (opn sq kd) sq p - 1) → ∃ p' Y', r8_stepHome nX 2 [nI p, nI w] [] X = some (nI p', X) ∧ r12_goesTo nY 31 [nI p, nI (ds (opn sq kd) sq p), nI w] [] Y = some (nI p', Y') ∧ At sq kd p' ∧ Sm Y Y' ∧ YT sq kd Y' := by
  have hsq := hT.1
  intro d
  induction d with
  | zero =>
    intro w nX nY Y h2 h3 h4 hY hv
    obtain ⟨v, v1, v2, _⟩ := hv
    omega
  | succ d ih =>
    intro w nX nY Y h2 h3 h4 hY hv
    obtain ⟨nX, rfl⟩ : ∃ n', nX = n' + 1 := ⟨nX - 1, by omega⟩
    obtain ⟨nY, rfl⟩ : ∃ n', nY = n' + 1 := ⟨nY - 1, by omega⟩
    have hp := hA.1
    have h95 := hA.2.2
    have h95' : ∀ q, q < 96 → ds (opn sq kd) sq q ≤ 99 := fun q hq => by have := ds_le (opn sq kd) hsq hq; omega
    rw [e8_stepHome_2, e12_goesTo_31]
    unfold b8_stepHome_2 b8_stepHome_38 b12_goesTo_31 b12_goesTo_62
    rw [if_neg (show ¬ (4 : Int32) ≤ nI w from nI_ge (b := 4) (by omega) (by decide)), bnd_e (bes_X hp (by omega)), bnd_e (bes_Y hp (by omega))]
    simp only [lt_v, nI_1]
    have next : ∀ Y1, Sm Y Y1 → YT sq kd Y1 → ¬ (bes p w < 96 ∧ ds (opn sq kd) sq (bes p w) = ds (opn sq kd) sq p - 1) → ∃ p' Y', r8_stepHome nX 2 [nI p, nI (w + 1)] [] X = some (nI p', X) ∧ r12_goesTo nY 31 [nI p, nI (ds (opn sq kd) sq p), nI (w + 1)] [] Y1 = some (nI p', Y') ∧ At sq kd p' ∧ Sm Y Y' ∧ YT sq kd Y' := by
      intro Y1 s1 t1 hno
      obtain ⟨p', Y', q1, q2, q3, q4, q5⟩ := ih (w + 1) nX nY Y1 (by omega) (by omega) (by omega) t1 (by
        obtain ⟨v, v1, v2, v3, v4⟩ := hv
        refine ⟨v, ?_, v2, v3, v4⟩
        by_cases e : v = w
        · subst e; exact absurd ⟨v3, v4⟩ hno
        · omega)
      exact ⟨p', Y', q1, q2, q3, s1.trans q4, q5⟩
    by_cases hb : bes p w < 96
    · rw [bI_in hb, bnd_e (isOpen_X hT hb), if_neg (nI_m1 (by omega)), bnd_e (show f12_beside nY (nI p) (nI w) Y = some (nI (bes p w), Y) by rw [bes_Y hp (by omega), bI_in hb])]
      obtain ⟨Y1, f1, s1, t1⟩ := steps_Y (n := nY) (p := bes p w) (q := sq) (by omega) hY hb hsq
      rw [hY.1.2.1, bnd_e f1, ds_symm _ hb hsq, show nI (ds (opn sq kd) sq p) - (1 : Int32) = nI (ds (opn sq kd) sq p - 1) from pk_sub (b := 1) h1, nI_clamp (show p < 2 ^ 31 by omega), nI_clamp (show bes p w < 2 ^ 31 by omega), h7 p hp, h7 _ hb, chk_in hb (by decide), chk_in hp (by decide)]
      have hi := home_iff hsq hA (show w < 4 by omega) hb h1
      have l1 := h95' _ hb
      by_cases e : ds (opn sq kd) sq (bes p w) = ds (opn sq kd) sq p - 1
      · have ho := hi.mpr e
        rw [if_pos ho.1, if_neg (show ¬ (1 : Int32) = 0 by decide), if_neg (nI_ge ho.2 (by omega)), if_pos (by rw [e]), bnd_e (show f12_beside nY (nI p) (nI w) Y1 = some (nI (bes p w), Y1) by rw [bes_Y hp (by omega), bI_in hb])]
        exact ⟨_, Y1, rfl, rfl, At.go hsq hA (by omega) hb ho.1, s1, t1⟩
      · have hno : ¬ (opn sq kd (bes p w) = true ∧ ds (opn sq kd) sq (bes p w) < ds (opn sq kd) sq p) := fun q => e (hi.mp q)
        rw [if_neg (show ¬ nI (ds (opn sq kd) sq (bes p w)) = nI (ds (opn sq kd) sq p - 1) from fun q => e ((nI_eq (by omega) (by omega)).mp q))]
        have nx := next Y1 s1 t1 (fun q => e q.2)
        by_cases ho : opn sq kd (bes p w) = true
        · rw [if_pos ho, if_neg (show ¬ (1 : Int32) = 0 by decide), if_pos (nI_le (by
            refine Nat.le_of_not_lt fun q => hno ⟨ho, q⟩) (by omega))]
          exact nx
        · rw [if_neg ho, if_pos rfl]
          exact nx
    · rw [bI_out hb, isOpen_m1, bnd_s', if_pos rfl, if_pos rfl]
      exact next Y Sm.refl hY (fun q => hb q.1)
theorem like_loop {p : Nat} {r12 r158 : Nat → Int32} (hr1 : True) (hA : At sq kd p) (hc : 100 ≤ c) : ∀ (d w ans most nX nY : Nat) (X Y : Mem), w + d = 4 → d + 300000 < nX → d + 300000 < nY → GW sq kd dr X Y → SV hr dv m cv X → (∀ j, j < 96 → X.1 (c + 1) j = Y.1 1 j) → Y.1 1 160 - Y.1 1 160 / 7 * 7 = dv → (∀ n M, 100000 ≤ n → f12_bits n (Y.1 1 158) M = some (cv, M)) → At sq kd ans → most ≤ 9999 → ∃ a' X' Y', r10_nextPlace c nX 63 [nI p, nI most, nI ans, nI w] [] X = some (nI a', X') ∧ r12_goesTo nY 105 [hr, nI m, nI p, nI ans, nI most, nI w] [] Y = some (nI a', Y') ∧ At sq kd a' ∧ GW sq kd dr X' Y' ∧ X'.1 15 0 = hr ∧ X'.1 15 1 = dv ∧ Y'.1 1 = Y.1 1 := by
  have hp := hA.1
  intro d
  induction d with
  | zero =>
    intro w ans most nX nY X Y h1 h2 h3 hG hs hW hd hB ha hm
    obtain ⟨nX, rfl⟩ : ∃ n', nX = n' + 1 := ⟨nX - 1, by omega⟩
    obtain ⟨nY, rfl⟩ : ∃ n', nY = n' + 1 := ⟨nY - 1, by omega⟩
    have : w = 4 := by omega
    subst this
    rw [e10_nextPlace_63, e12_goesTo_105]
    unfold b10_nextPlace_63 b12_goesTo_105
    rw [if_pos (by decide), if_pos (by decide)]
    exact ⟨ans, X, Y, rfl, rfl, ha, hG, hs.1, hs.2.1, rfl⟩
  | succ d ih =>
    intro w ans most nX nY X Y h1 h2 h3 hG hs hW hd hB ha hm
    obtain ⟨nX, rfl⟩ : ∃ n', nX = n' + 1 := ⟨nX - 1, by omega⟩
    obtain ⟨nY, rfl⟩ : ∃ n', nY = n' + 1 := ⟨nY - 1, by omega⟩
    have hsq := hG.1.1
    rw [e10_nextPlace_63, e12_goesTo_105]
    unfold b10_nextPlace_63 b10_nextPlace_124 b10_nextPlace_135 b12_goesTo_105 b12_goesTo_174
    rw [if_neg (show ¬ (4 : Int32) ≤ nI w from nI_ge (b := 4) (by omega) (by decide)), if_neg (show ¬ (4 : Int32) ≤ nI w from nI_ge (b := 4) (by omega) (by decide)), bnd_e (bes_X hp (by omega)), bnd_e (bes_Y hp (by omega))]
    simp only [lt_v, nI_1]
    by_cases hb : bes p w < 96
    · rw [bI_in hb, bnd_e (isOpen_X hG.1 hb), if_neg (nI_m1 (by omega)), bnd_e (isOpen_Y hG.2.1.1 hb)]
      by_cases ho : opn sq kd (bes p w) = true
      · rw [if_pos ho, if_neg (show ¬ (1 : Int32) = 0 by decide), if_neg (show ¬ (1 : Int32) = 0 by decide)]
        obtain ⟨X1, Y1, l1, _, _, _, _, _, _⟩ := look_XY (c := c) (n := nX) (hr := hr) (dv := dv) (cv := cv) (m := m) (by omega) hG hb hs hW hd (fun M => hB nX M (by omega))
        obtain ⟨X2, Y2, l1', l2, l3, l4, l5, l6, l7⟩ := look_XY (c := c) (n := nY) (hr := hr) (dv := dv) (cv := cv) (m := m) (by omega) hG hb hs hW hd (fun M => hB nY M (by omega))
        have lx : f10_lookAt nX c (nI (bes p w)) X = some ((), X2) := by rw [← l1']; rfl
        obtain ⟨q, op, vl, ks, st, hf, en, hl⟩ := l5.2.2.2.2.2.2
        obtain ⟨v, X3, Y3, v1, v2, v3, v4, v5⟩ := value_XY (L := 101) (m := 9999) (nX := nX) (nY := nY) (by omega) (by omega) (by decide) (by decide) (by decide) (by decide) hl l3
        rw [bnd_e lx, bnd_e l2, bnd_e (show f2_valueOf nX (101 : Int32) (9999 : Int32) X2 = some (nI v, X3) from v1), bnd_e (show f12_byLaw nY (101 : Int32) (9999 : Int32) Y2 = some (nI v, Y3) from v2)]
        have g3 : GW sq kd dr X3 Y3 := (l5.x (fun k hk => (v4 k (by rintro rfl; revert hk; decide)).1)).o v5.oy
        have k15 : X3.1 15 = X2.1 15 := (v4 15 (by decide)).1
        have k1 : Y3.1 1 = Y.1 1 := by rw [(v5 1 (by decide)).1, l6]
        have kc : X3.1 (c + 1) = X.1 (c + 1) := by rw [(v4 (c + 1) (by omega)).1, (l7 (c + 1) (by omega) (by omega)).1]
        have s3 : SV hr dv m cv X3 := by
          unfold SV
          rw [k15]
          exact l4
        have go := fun a' mo ha' hmo => ih (w + 1) a' mo nX nY X3 Y3 (by omega) (by omega) (by omega) g3 s3 (fun j hj => by rw [kc, k1]; exact hW j hj) (by rw [k1]; exact hd) (fun n M hn => by rw [k1]; exact hB n M hn) ha' hmo
        by_cases cm : v ≤ most
        · rw [if_pos (nI_le cm (by omega)), if_neg (nI_nlt cm (by omega)), if_neg (nI_nlt cm (by omega))]
          obtain ⟨a', X', Y', q1, q2, q3, q4, q5, q6, q7⟩ := go ans most ha hm
          exact ⟨a', X', Y', q1, q2, q3, q4, q5, q6, q7.trans k1⟩
        · rw [if_neg (nI_ge (by omega) (by omega)), if_pos (nI_lt (by omega) (by omega)), if_pos (nI_lt (by omega) (by omega))]
          obtain ⟨a', X', Y', q1, q2, q3, q4, q5, q6, q7⟩ := go (bes p w) v (At.go hsq hA (by omega) hb ho) v3
          exact ⟨a', X', Y', q1, q2, q3, q4, q5, q6, q7.trans k1⟩
      · rw [if_neg ho, if_pos rfl, if_pos rfl]
        exact ih (w + 1) ans most nX nY X Y (by omega) (by omega) (by omega) hG hs hW hd hB ha hm
    · rw [bI_out hb, isOpen_m1, bnd_s', if_pos rfl, if_pos rfl]
      exact ih (w + 1) ans most nX nY X Y (by omega) (by omega) (by omega) hG hs hW hd hB ha hm
theorem next_XY {p nX nY : Nat} {X Y : Mem} (hm : m < 60) (hA : At sq kd p) (hc : 100 ≤ c) (hnX : 500000 ≤ nX) (hnY : 500000 ≤ nY) (hG : GW sq kd dr X Y) (hs : SV hr dv m cv X) (hW : ∀ j, j < 96 → X.1 (c + 1) j = Y.1 1 j) (hd : Y.1 1 160 - Y.1 1 160 / 7 * 7 = dv) (hB : ∀ n M, 100000 ≤ n → f12_bits n (Y.1 1 158) M = some (cv, M)) : ∃ p' X' Y', f10_nextPlace nX c (nI p) (nI m) X = some (nI p', X') ∧ f12_goesTo nY hr (nI m) (nI p) Y = some (nI p', Y') ∧ At sq kd p' ∧ GW sq kd dr X' Y' ∧ X'.1 15 0 = hr ∧ X'.1 15 1 = dv ∧ Y'.1 1 = Y.1 1 := by
  have hp := hA.1
  have hsq := hG.1.1
  have h95 := hA.2.2
  obtain ⟨Y1, f1, s1, t1⟩ := steps_Y (n := nY) (p := p) (q := sq) (by omega) hG.2.1 hp hsq
  have g1 := hG.sm s1 t1
  have k1 : Y1.1 1 = Y.1 1 := (s1.1 1 (by decide)).1
  have rest : ∃ p' X' Y', b10_nextPlace_36 c (r10_nextPlace c nX) nX (nI p) X = some (nI p', X') ∧ b12_goesTo_78 (r12_goesTo nY) nY hr (nI m) (nI p) Y1 = some (nI p', Y') ∧ At sq kd p' ∧ GW sq kd dr X' Y' ∧ X'.1 15 0 = hr ∧ X'.1 15 1 = dv ∧ Y'.1 1 = Y.1 1 := by
    have hW1 : ∀ j, j < 96 → X.1 (c + 1) j = Y1.1 1 j := fun j hj => by rw [k1]; exact hW j hj
    have hd1 : Y1.1 1 160 - Y1.1 1 160 / 7 * 7 = dv := by rw [k1]; exact hd
    have hB1 : ∀ n M, 100000 ≤ n → f12_bits n (Y1.1 1 158) M = some (cv, M) := fun n M hn => by rw [k1]; exact hB n M hn
    obtain ⟨X2, Y2, l1', l2, l3, l4, l5, l6, l7⟩ := look_XY (c := c) (n := nY) (hr := hr) (dv := dv) (cv := cv) (m := m) (by omega) g1 hp hs hW1 hd1 (fun M => hB1 nY M (by omega))
    have lx : f10_lookAt nX c (nI p) X = some ((), X2) := by rw [← l1']; rfl
    obtain ⟨q, op, vl, ks, st, hf, en, hl⟩ := l5.2.2.2.2.2.2
    obtain ⟨v, X3, Y3, v1, v2, v3, v4, v5⟩ := still_XY (nX := nX) (nY := nY) (by omega) (by omega) hl l3
    unfold b10_nextPlace_36 b12_goesTo_78
    rw [bnd_e lx, bnd_e l2, bnd_e v1, bnd_e v2]
    have g3 : GW sq kd dr X3 Y3 := (l5.x (fun k hk => (v4 k (by rintro rfl; revert hk; decide)).1)).o v5.oy
    have k15 : X3.1 15 = X2.1 15 := (v4 15 (by decide)).1
    have k3 : Y3.1 1 = Y1.1 1 := by rw [(v5 1 (by decide)).1, l6]
    have kc : X3.1 (c + 1) = X.1 (c + 1) := by rw [(v4 (c + 1) (by omega)).1, (l7 (c + 1) (by omega) (by omega)).1]
    have s3 : SV hr dv m cv X3 := by
      unfold SV
      rw [k15]
      exact l4
    rcases v3 with e | e
    · rw [e, if_pos rfl, if_pos rfl]
      obtain ⟨a', X', Y', q1, q2, q3, q4, q5, q6, q7⟩ := like_loop (c := c) (m := m) (hr := hr) (dv := dv) (cv := cv) (r12 := fun _ => 0) (r158 := fun _ => 0) trivial hA hc 4 0 p 0 (nX + 1) (nY + 1) X3 Y3 (by omega) (by omega) (by omega) g3 s3 (fun j hj => by rw [kc, k3]; exact hW1 j hj) (by rw [k3]; exact hd1) (fun n M hn => by rw [k3]; exact hB1 n M hn) hA (by decide)
      rw [e10_nextPlace_63, nI_0] at q1
      rw [e12_goesTo_105, nI_0] at q2
      exact ⟨a', X', Y', q1, q2, q3, q4, q5, q6, q7.trans (k3.trans k1)⟩
    · rw [e, if_neg (by decide), if_neg (by decide)]
      exact ⟨p, X3, Y3, rfl, rfl, hA, g3, s3.1, s3.2.1, k3.trans k1⟩
  unfold f10_nextPlace b10_nextPlace_0 f12_goesTo b12_goesTo_0
  rw [hG.2.1.1.2.1, bnd_e f1, hG.1.2.1, t1.1.2.1]
  by_cases e : p = sq
  · rw [if_pos (by rw [e]), if_pos (by rw [e])]
    exact rest
  · have ne : ¬ nI p = nI sq := fun q => e ((nI_eq (by omega) (by omega)).mp q)
    rw [if_neg ne, if_neg ne, chk_in hp (by decide), nI_clamp (by omega), hG.2.2.1 p hp, ds_symm _ hp hsq, show (59 : Int32) - nI m = nI (59 - m) from pk_sub (a := 59) (by omega)]
    by_cases cl : ds (opn sq kd) sq p < 59 - m
    · rw [if_pos (nI_lt cl (by omega)), if_pos (nI_lt cl (by omega))]
      exact rest
    · rw [if_neg (nI_nlt (by omega) (by omega)), if_neg (nI_nlt (by omega) (by omega))]
      have h1 : 1 ≤ ds (opn sq kd) sq p := by
        refine Nat.pos_of_ne_zero fun q => e ?_
        exact (ds_zero hsq hp (opn_sq (kd := kd))).mp (by omega)
      obtain ⟨w, w1, w2, w3⟩ := home_ex hsq hA h1
      obtain ⟨p', Y', q1, q2, q3, q4, q5⟩ := home_loop hG.1 hG.2.2.1 hA h1 4 0 (nX + 1) (nY + 1) Y1 (by omega) (by omega) (by omega) t1 ⟨w, Nat.zero_le _, w1, w2, w3⟩
      rw [e8_stepHome_2, nI_0] at q1
      rw [e12_goesTo_31, nI_0] at q2
      have q1' : f8_stepHome nX (nI p) X = some (nI p', X) := q1
      rw [bnd_e q1']
      exact ⟨p', X, Y', rfl, q2, q3, g1.sm q4 q5, hs.1, hs.2.1, ((q4.1 1 (by decide)).1).trans k1⟩
end NX
