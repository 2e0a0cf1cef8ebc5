/-! STREETS: the cuts -/
def wo (O : Nat → Bool) (x q : Nat) : Bool := O q && !decide (q = x)
noncomputable def cz (O : Nat → Bool) (sq x : Nat) : Nat := fb_ct (fun q => decide (ds (wo O x) sq q ≠ 99)) 96
theorem come_X {sq n x : Nat} {kd : Nat → Nat} {M : Mem} (hn : 1000 ≤ n) (hT : TX sq kd M) (hO : PS 10 (opn sq kd) M) (hx : x ≠ sq) (hx2 : x < 96 ∨ x = 999) : ∃ M', f6_comeToWithout n (dI x) M = some (nI (cz (opn sq kd) sq x), M') := by
  unfold f6_comeToWithout b6_comeToWithout_0
  obtain ⟨M1, e1, p1⟩ := take_X (n := n) (k := 34) hO (by decide)
  have f1 := fr4_take e1
  rw [bnd_e e1]
  have tail : ∀ M2 : Mem, M2.1 3 7 = nI sq → PS 34 (wo (opn sq kd) x) M2 → ∃ M', b6_comeToWithout_26 (fun _ _ _ _ => none) n M2 = some (nI (cz (opn sq kd) sq x), M') := by
    intro M2 h7 h34
    unfold b6_comeToWithout_26
    obtain ⟨M3, e3, p3⟩ := clear_X (n := n) (k := 33) M2
    have f3 := fr4_clear e3
    obtain ⟨M4, e4, p4⟩ := add_X (n := n) p3 hT.1
    have f4 := fr4_add e4
    have l4 : PS 34 (wo (opn sq kd) x) M4 := (h34.keep (f3 34 (by decide) (fun e => by cases e)).2).keep (f4 34 (by decide) (fun e => by cases e)).2
    have hs : wo (opn sq kd) x sq = true := by
      unfold wo opn kof
      simp
      exact fun e => hx e.symm
    obtain ⟨M5, e5, p5⟩ := flood_X (n := n) (s := sq) (by omega) (show (33 : Nat) ≠ 34 by decide) hT.1 hs p4 (fun p _ => by simp) l4
    rw [bnd_e e3, (f3 3 (by decide) (fun e => by cases e)).1, h7, bnd_e e4, bnd_e e5, bnd_e (size_X p5)]
    exact ⟨M5, rfl⟩
  have h7 : M1.1 3 7 = nI sq := by rw [(f1 3 (by decide) (fun e => by cases e)).1]; exact hT.2.1
  rcases hx2 with c | c
  · rw [dI, if_pos c, if_neg (nI_pos (by omega))]
    obtain ⟨M2, e2, p2⟩ := drop_X (n := n) p1 c
    have f2 := fr4_drop e2
    rw [bnd_e e2]
    exact tail M2 (by rw [(f2 3 (by decide) (fun e => by cases e)).1]; exact h7) p2
  · rw [dI, if_neg (show ¬ x < 96 by omega), if_pos (show (-1 : Int32) < 0 by decide)]
    refine tail M1 h7 (p1.cong fun p hp => ?_)
    unfold wo
    simp
    intro _
    omega
/-! the reference -/
def cn (D : Nat → Nat) : Nat := fb_ct (fun p => decide (D p ≠ 99)) 96
theorem cn_up {D : Nat → Nat} {x v : Nat} (hx : x < 96) (hd : D x = 99) (hv : v ≠ 99) : cn (up D x v) = cn D + 1 := by
  have e1 := fb_ct_upd (fun p => decide (D p ≠ 99)) true (i := x) (n := 96) hx
  rw [if_pos rfl] at e1
  have e2 : cn (up D x v) = fb_ct (fun k => if k = x then true else decide (D k ≠ 99)) 96 := fb_ct_cong fun k hk => by
    by_cases e : k = x
    · rw [e, up_eq, if_pos rfl]
      exact decide_eq_true hv
    · rw [up_ne e, if_neg e]
  have e3 : (if decide (D x ≠ 99) = true then 1 else 0) = 0 := by rw [if_neg (by simp [hd])]
  have e1 : fb_ct (fun k => if k = x then true else decide (D k ≠ 99)) 96 + (if decide (D x ≠ 99) = true then 1 else 0) = cn D + 1 := e1
  omega
def SN (x : Nat) (D q : Nat → Nat) (sz : Nat) (M : Mem) : Prop := (∀ p, p < 96 → M.1 31 p = if D p ≠ 99 ∨ p = x then 1 else 0) ∧ ∀ j, j < sz → M.1 7 j = nI (q j)
theorem came_loop {sq x : Nat} {kd : Nat → Nat} (hs : sq < 96) : ∀ (m : Nat) (D q : Nat → Nat) (sz i w n : Nat) (M : Mem), BI (wo (opn sq kd) x) sq D q sz i w → i < sz → w ≤ 4 → 5 * (96 - i) - w ≤ m → 2 * m < n → TY sq kd M → SN x D q sz M → cn D = sz → ∃ M', r12_cameTo n 62 [nI sz, nI i, nI w] [] M = some (nI (cz (opn sq kd) sq x), M') := by
  intro m
  induction m with
  | zero => intro D q sz i w n M h hi hw hm; have := h.1.1; omega
  | succ m ih =>
    intro D q sz i w n M h hi hw hm hn hT hS hC
    obtain ⟨n, rfl⟩ : ∃ n', n = n' + 1 := ⟨n - 1, by omega⟩
    have hsz := h.1.1
    have hqi := (h.2.1 i hi).1
    have hDi := (h.2.1 i hi).2.1
    rw [e12_cameTo_62]
    unfold b12_cameTo_62 b12_cameTo_129
    by_cases e : w = 4
    · subst e
      have h2 := h.next hi
      rw [if_pos (show (4 : Int32) ≤ nI 4 by decide), lt_v, nI_1]
      obtain ⟨n, rfl⟩ : ∃ n', n = n' + 1 := ⟨n - 1, by omega⟩
      rw [e12_cameTo_54]
      unfold b12_cameTo_54
      by_cases e2 : i + 1 < sz
      · rw [if_neg (nI_ge e2 (by omega)), ← e12_cameTo_62, ← nI_0]
        exact ih D q sz (i + 1) 0 (n + 1) M h2 e2 (by omega) (by omega) (by omega) hT hS hC
      · have : i + 1 = sz := by omega
        rw [this] at h2 ⊢
        rw [if_pos (Int32.le_refl _)]
        refine ⟨M, ?_⟩
        have hd := h2.fin hs
        have : cz (opn sq kd) sq x = sz := by
          rw [← hC]
          exact (fb_ct_cong fun p hp => by rw [hd.eq hs hp]).symm
        rw [this]
    · rw [if_neg (show ¬ (4 : Int32) ≤ nI w from nI_ge (b := 4) (by omega) (by decide)), chk_in (by omega) (by decide), nI_clamp (by omega), hS.2 i hi, bnd_e (bes_Y hqi (by omega))]
      have skip : BI (wo (opn sq kd) x) sq D q sz i (w + 1) → ∃ M', (lt (nI w + (1 : Int32)) fun v29 => r12_cameTo n 62 [nI sz, nI i, v29] [] M) = some (nI (cz (opn sq kd) sq x), M') := by
        intro h2
        rw [lt_v, nI_1]
        exact ih D q sz i (w + 1) n M h2 hi (by omega) (by omega) (by omega) hT hS hC
      by_cases hb : bes (q i) w < 96
      · rw [bI_in hb, if_neg (nI_m1 (by omega)), bnd_e (isOpen_Y hT hb)]
        by_cases ho : opn sq kd (bes (q i) w) = true
        · rw [if_pos ho, if_neg (by decide), chk_in hb (by decide), nI_clamp (by omega), hS.1 _ hb]
          by_cases hd : D (bes (q i) w) ≠ 99 ∨ bes (q i) w = x
          · rw [if_pos hd, if_neg (by decide)]
            refine skip (h.pass hi ?_)
            rcases hd with hd | hd
            · exact Or.inr (Or.inr hd)
            · exact Or.inr (Or.inl (by simp [wo, hd]))
          · have hd1 : D (bes (q i) w) = 99 := Decidable.byContradiction fun e => hd (Or.inl e)
            have hd2 : bes (q i) w ≠ x := fun e => hd (Or.inr e)
            have hr := h.room hb hd1
            rw [if_neg hd, if_pos rfl, chk_in hb (by decide), lt_v, chk_in (by omega) (by decide), lt_v, lt_v, lt_v, nI_clamp (by omega), nI_1, nI_1]
            refine ih (up D (bes (q i) w) (D (q i) + 1)) (up q sz (bes (q i) w)) (sz + 1) i (w + 1) n _ (h.take hi (by omega) hb (by simp [wo, ho, hd2]) hd1) (by omega) (by omega) (by omega) (by omega) (hT.keep rfl rfl) ⟨fun p hp => ?_, fun j hj => ?_⟩ (by rw [cn_up hb hd1 (by omega), hC])
            · rw [wI_at, if_neg (by decide), wI_at, if_pos rfl]
              unfold up
              by_cases e3 : p = bes (q i) w
              · rw [if_pos e3, if_pos e3, if_pos (Or.inl (by omega))]
                rfl
              · rw [if_neg e3, if_neg e3]; exact hS.1 p hp
            · rw [wI_at, if_pos rfl]
              unfold up
              by_cases e3 : j = sz
              · rw [if_pos e3, if_pos e3]
              · rw [if_neg e3, if_neg e3, wI_at, if_neg (by decide)]; exact hS.2 j (by omega)
        · rw [if_neg ho, if_pos rfl]
          exact skip (h.pass hi (Or.inr (Or.inl (by simp [wo, ho]))))
      · rw [bI_out hb, if_pos rfl]
        exact skip (h.pass hi (Or.inl hb))
theorem came_fill (x : Nat) (hx : x < 96 ∨ x = 999) : ∀ (d i n : Nat) (M : Mem), i + d = 96 → d < n → ∃ n' M', n' + d + 1 = n ∧ r12_cameTo n 2 [dI x, nI i] [] M = r12_cameTo (n' + 1) 2 [dI x, nI 96] [] M' ∧ (∀ j, M'.1 31 j = if i ≤ j ∧ j < 96 then (if j = x then 1 else 0) else M.1 31 j) ∧ (∀ k, k ≠ 31 → M'.1 k = M.1 k) := by
  intro d
  induction d with
  | zero =>
    intro i n M h1 h2
    obtain ⟨n, rfl⟩ : ∃ n', n = n' + 1 := ⟨n - 1, by omega⟩
    have : i = 96 := by omega
    subst this
    exact ⟨n, M, rfl, rfl, fun j => by rw [if_neg (by omega)], fun k _ => rfl⟩
  | succ d ih =>
    intro i n M h1 h2
    obtain ⟨n, rfl⟩ : ∃ n', n = n' + 1 := ⟨n - 1, by omega⟩
    rw [e12_cameTo_2]
    unfold b12_cameTo_2 b12_cameTo_23
    have key : (if nI i = dI x then (1 : Int32) else 0) = if i = x then 1 else 0 := by
      unfold dI
      by_cases c : x < 96
      · rw [if_pos c]
        by_cases e : i = x
        · rw [e, if_pos rfl, if_pos rfl]
        · rw [if_neg (fun q => e ((nI_eq (by omega) (by omega)).mp q)), if_neg e]
      · rw [if_neg c, if_neg (nI_m1 (by omega)), if_neg (by omega)]
    obtain ⟨n', M', g1, g2, g3, g4⟩ := ih (i + 1) n (wI M 31 i (if i = x then 1 else 0)) (by omega) (by omega)
    refine ⟨n', M', by omega, ?_, fun j => ?_, fun k hk => ?_⟩
    · rw [if_neg (show ¬ (96 : Int32) ≤ nI i from nI_ge (b := 96) (by omega) (by decide)), ← g2, ← key]
      by_cases c : nI i = dI x
      · rw [if_pos c, if_pos c, chk_in (by omega) (by decide), lt_v, lt_v, nI_1, nI_clamp (by omega)]
        rfl
      · rw [if_neg c, if_neg c, chk_in (by omega) (by decide), lt_v, lt_v, nI_1, nI_clamp (by omega)]
        rfl
    · rw [g3 j, wI_at, if_pos rfl]
      by_cases e1 : j = i
      · rw [if_neg (show ¬ (i + 1 ≤ j ∧ j < 96) by omega), if_pos e1, if_pos (show i ≤ j ∧ j < 96 by omega), e1]
      · rw [if_neg e1]
        by_cases e2 : i + 1 ≤ j ∧ j < 96
        · rw [if_pos e2, if_pos (show i ≤ j ∧ j < 96 by omega)]
        · rw [if_neg e2, if_neg (show ¬ (i ≤ j ∧ j < 96) by omega)]
    · rw [g4 k hk, (wI_o k hk).1]
theorem came_Y {sq n x : Nat} {kd : Nat → Nat} {M : Mem} (hn : 10000 ≤ n) (hY : YT sq kd M) (hx : x ≠ sq) (hx2 : x < 96 ∨ x = 999) : ∃ M', f12_cameTo n (dI x) M = some (nI (cz (opn sq kd) sq x), M') ∧ YT sq kd M' := by
  have hT := hY.1
  have key : ∃ M', f12_cameTo n (dI x) M = some (nI (cz (opn sq kd) sq x), M') := by
    unfold f12_cameTo b12_cameTo_0
    obtain ⟨n', M1, g1, g2, g3, g4⟩ := came_fill x hx2 96 0 (n + 1) M (by omega) (by omega)
    rw [nI_0, e12_cameTo_2] at g2
    rw [g2, e12_cameTo_2]
    have hT1 : TY sq kd M1 := hT.keep (by rw [g4 0 (by decide)]) (g4 4 (by decide))
    unfold b12_cameTo_2
    have z0 : (0 : Int32).toNatClampNeg = 0 := by decide
    have hs : wo (opn sq kd) x sq = true := by
      unfold wo opn kof
      simp
      exact fun e => hx e.symm
    rw [if_pos (show (96 : Int32) ≤ nI 96 by decide), chk_t (b := inb 0 96) (by decide), lt_v, z0, hT1.2.1, show (wI M1 7 0 (nI sq)).1 0 5 = nI sq from hT1.2.1, chk_in hT.1 (by decide), lt_v, nI_clamp (by have := hT.1; omega)]
    unfold b12_cameTo_54
    rw [if_neg (by decide)]
    have g := came_loop (sq := sq) (kd := kd) (x := x) hT.1 480 (fun p => if p = sq then 0 else 99) (fun _ => sq) 1 0 0 (n' + 1) (wI (wI M1 7 0 (nI sq)) 31 sq (vp_nar .boolean 1)) (BI.init hT.1 hs rfl) (by decide) (by decide) (by decide) (by omega) (hT1.keep rfl rfl) ⟨fun p hp => by
        rw [wI_at, if_pos rfl]
        by_cases e3 : p = sq
        · rw [if_pos e3, if_pos (Or.inl (by show (if p = sq then 0 else 99) ≠ 99; rw [if_pos e3]; decide))]
          rfl
        · rw [if_neg e3, wI_at, if_neg (by decide), g3, if_pos (by omega)]
          by_cases e4 : p = x
          · rw [if_pos e4, if_pos (Or.inr e4)]
          · rw [if_neg e4, if_neg]
            rintro (e | e)
            · exact e (if_neg e3)
            · exact e4 e, fun j hj => by
        have : j = 0 := by omega
        subst this
        rw [wI_at, if_neg (by decide), wI_at, if_pos rfl, if_pos rfl]⟩ (by
        have e1 : (fun p => if p = sq then 0 else 99) = up (fun _ => 99) sq 0 := rfl
        rw [e1, cn_up hT.1 rfl (by decide)]
        have : cn (fun _ => 99) = 0 := fb_ct_zero.mpr (fun k _ => by simp)
        rw [this])
    obtain ⟨M', g⟩ := g
    rw [e12_cameTo_62] at g
    exact ⟨M', g⟩
  obtain ⟨M', g⟩ := key
  have f1 := fr12_cameTo g
  refine ⟨M', g, hT.keep (by rw [(f1 0 (by decide) (fun e => by cases e)).1]) (f1 4 (by decide) (fun e => by cases e)).1, ?_⟩
  unfold LY LD
  rw [(f1 0 (by decide) (fun e => by cases e)).1, (f1 6 (by decide) (fun e => by cases e)).1]
  exact hY.2
theorem cz_pos {O : Nat → Bool} {sq x : Nat} (hs : sq < 96) (ho : O sq = true) (hx : x ≠ sq) : 1 ≤ cz O sq x := by
  refine fb_ct_pos.mpr ⟨sq, hs, ?_⟩
  have h1 : wo O x sq = true := by
    simp [wo, ho]
    exact fun e => hx e.symm
  have := (ds_zero hs hs h1).mpr rfl
  simp
  omega
noncomputable def cutP (O : Nat → Bool) (sq p : Nat) : Bool := !decide (p = sq) && (!decide (ds O sq p = 99) && decide (cz O sq p < cz O sq 999 - 1))
/-- the lowest -/
def lowC (f : Nat → Bool) (a b : Nat) (r : Int32) : Prop := (r = -2 ∧ ∀ p, a ≤ p → p < b → f p = false) ∨ ∃ p, a ≤ p ∧ p < b ∧ f p = true ∧ (∀ j, a ≤ j → j < p → f j = false) ∧ r = nI p
theorem lowC.one {f : Nat → Bool} {a b : Nat} {r r' : Int32} (h : lowC f a b r) (g : lowC f a b r') : r = r' := by
  rcases h with ⟨h1, h2⟩ | ⟨p, h1, h2, h3, h4, h5⟩
  · rcases g with ⟨g1, g2⟩ | ⟨q, g1, g2, g3, g4, g5⟩
    · rw [h1, g1]
    · rw [h2 q g1 g2] at g3; cases g3
  · rcases g with ⟨g1, g2⟩ | ⟨q, g1, g2, g3, g4, g5⟩
    · rw [g2 p h1 h2] at h3; cases h3
    · have : p = q := by
        rcases Nat.lt_trichotomy p q with e | e | e
        · rw [g4 p h1 e] at h3; cases h3
        · exact e
        · rw [h4 q g1 e] at g3; cases g3
      rw [h5, g5, this]
theorem cuts_loop {sq : Nat} {kd : Nat → Nat} (hall : 1 ≤ cz (opn sq kd) sq 999) : ∀ (d i n : Nat) (M : Mem) (r : Int32), i + d = 96 → d + 2000 < n → TX sq kd M → PS 10 (opn sq kd) M → (∀ p, p < 96 → M.1 7 p = nI (ds (opn sq kd) sq p)) → M.1 27 11 = nI (fb_ct (cutP (opn sq kd) sq) i) → M.1 27 12 = r → lowC (cutP (opn sq kd) sq) 0 i r → ∃ M' r', r6_findCuts n 19 [nI (cz (opn sq kd) sq 999), nI i] [] M = some ((), M') ∧ M'.1 27 11 = nI (fb_ct (cutP (opn sq kd) sq) 96) ∧ M'.1 27 12 = r' ∧ lowC (cutP (opn sq kd) sq) 0 96 r' := by
  intro d
  induction d with
  | zero =>
    intro i n M r h1 h2 hT hO hH h11 h12 hl
    obtain ⟨n, rfl⟩ : ∃ n', n = n' + 1 := ⟨n - 1, by omega⟩
    have : i = 96 := by omega
    subst this
    rw [e6_findCuts_19]
    unfold b6_findCuts_19
    rw [if_pos (by decide)]
    exact ⟨M, r, rfl, h11, h12, hl⟩
  | succ d ih =>
    intro i n M r h1 h2 hT hO hH h11 h12 hl
    obtain ⟨n, rfl⟩ : ∃ n', n = n' + 1 := ⟨n - 1, by omega⟩
    have hi : i < 96 := by omega
    have skip : ∀ M1 : Mem, cutP (opn sq kd) sq i = false → M1.1 3 = M.1 3 → M1.1 4 = M.1 4 → M1.2 10 = M.2 10 → M1.1 7 = M.1 7 → M1.1 27 = M.1 27 → ∃ M' r', (lt (nI i + (1 : Int32)) fun v18 => r6_findCuts n 19 [nI (cz (opn sq kd) sq 999), v18] [] M1) = some ((), M') ∧ M'.1 27 11 = nI (fb_ct (cutP (opn sq kd) sq) 96) ∧ M'.1 27 12 = r' ∧ lowC (cutP (opn sq kd) sq) 0 96 r' := by
      intro M1 hc k3 k4 k10 k7 k27
      rw [lt_v, nI_1]
      refine ih (i + 1) n M1 r (by omega) (by omega) (hT.keep (by rw [k3]) k4) (hO.keep k10) (by rw [k7]; exact hH) ?_ (by rw [k27]; exact h12) ?_
      · rw [k27, h11, fb_ct_succ, if_neg (by rw [hc]; decide), Nat.add_zero]
      · rcases hl with ⟨a, b⟩ | ⟨p, a1, a2, a3, a4, a5⟩
        · exact Or.inl ⟨a, fun p hp hp2 => by
            by_cases e : p = i
            · rw [e]; exact hc
            · exact b p hp (by omega)⟩
        · exact Or.inr ⟨p, a1, by omega, a3, a4, a5⟩
    rw [e6_findCuts_19]
    unfold b6_findCuts_19 b6_findCuts_54 b6_findCuts_55 b6_findCuts_87 b6_findCuts_100
    rw [if_neg (show ¬ (96 : Int32) ≤ nI i from nI_ge (b := 96) (by omega) (by decide)), hT.2.1]
    have hsq := hT.1
    by_cases c1 : i = sq
    · rw [if_pos (by rw [c1]), if_pos rfl]
      exact skip M (by simp [cutP, c1]) rfl rfl rfl rfl rfl
    · rw [if_neg (fun q => c1 ((nI_eq (by omega) (by omega)).mp q)), chk_in hi (by decide), nI_clamp (by omega), hH i hi]
      have l := ds_le (opn sq kd) hsq hi
      by_cases c2 : ds (opn sq kd) sq i = 99
      · rw [c2, if_pos (show nI 99 = (99 : Int32) from rfl), if_pos rfl]
        exact skip M (by simp [cutP, c2]) rfl rfl rfl rfl rfl
      · rw [if_neg (show ¬ nI (ds (opn sq kd) sq i) = (99 : Int32) from fun e => c2 ((nI_eq (b := 99) (by omega) (by decide)).mp e)), if_neg (show ¬ (1 : Int32) = 0 by decide)]
        obtain ⟨M1, e1⟩ := come_X (n := n) (x := i) (by omega) hT hO c1 (Or.inl hi)
        rw [dI, if_pos hi] at e1
        have f1 := fr6_comeToWithout e1
        have b1 : cz (opn sq kd) sq i ≤ 96 := fb_ct_le _ _
        have b2 : cz (opn sq kd) sq 999 ≤ 96 := fb_ct_le _ _
        rw [bnd_e e1, show nI (cz (opn sq kd) sq 999) - (1 : Int32) = nI (cz (opn sq kd) sq 999 - 1) from pk_sub (b := 1) hall]
        by_cases c3 : cz (opn sq kd) sq i < cz (opn sq kd) sq 999 - 1
        · have hcut : cutP (opn sq kd) sq i = true := by simp [cutP, c1, c2, c3]
          rw [if_neg (nI_ge c3 (by omega)), (f1 27 (by decide) (fun e => by cases e)).1, h11]
          have k3 : M1.1 3 = M.1 3 := (f1 3 (by decide) (fun e => by cases e)).1
          have k4 : M1.1 4 = M.1 4 := (f1 4 (by decide) (fun e => by cases e)).1
          have k7 : M1.1 7 = M.1 7 := (f1 7 (by decide) (fun e => by cases e)).1
          have k10 : M1.2 10 = M.2 10 := (f1 10 (by decide) (fun e => by cases e)).2
          have k27 : M1.1 27 = M.1 27 := (f1 27 (by decide) (fun e => by cases e)).1
          have put : ∀ s : Int32, lowC (cutP (opn sq kd) sq) 0 (i + 1) s → ∃ M' r', (lt (wI M1 27 12 s) fun M16 => lt (wI M16 27 11 ((M16.1 27 11) + (1 : Int32))) fun M17 => lt (nI i + (1 : Int32)) fun v18 => r6_findCuts n 19 [nI (cz (opn sq kd) sq 999), v18] [] M17) = some ((), M') ∧ M'.1 27 11 = nI (fb_ct (cutP (opn sq kd) sq) 96) ∧ M'.1 27 12 = r' ∧ lowC (cutP (opn sq kd) sq) 0 96 r' := by
            intro s hs
            rw [lt_v, lt_v, lt_v, nI_1]
            refine ih (i + 1) n _ s (by omega) (by omega) (hT.keep (by show M1.1 3 7 = _; rw [k3]) (by show M1.1 4 = _; exact k4)) (hO.keep k10) (fun p hp => by show M1.1 7 p = _; rw [k7]; exact hH p hp) ?_ rfl hs
            rw [wI_at, if_pos rfl, if_pos rfl, wI_at, if_pos rfl, if_neg (by decide), k27, h11, nI_1, fb_ct_succ, if_pos hcut]
          have b3 := fb_ct_le (cutP (opn sq kd) sq) i
          rcases hl with ⟨a, b⟩ | ⟨p, a1, a2, a3, a4, a5⟩
          · have z : fb_ct (cutP (opn sq kd) sq) i = 0 := fb_ct_zero.mpr (fun k hk => b k (Nat.zero_le _) hk)
            rw [z, if_pos nI_0]
            exact put (nI i) (Or.inr ⟨i, Nat.zero_le _, by omega, hcut, fun j h1 h2 => b j h1 h2, rfl⟩)
          · have z : 0 < fb_ct (cutP (opn sq kd) sq) i := fb_ct_pos.mpr ⟨p, a2, a3⟩
            rw [if_neg (nI_ne0 z (by omega)), h12, a5]
            exact put (nI p) (Or.inr ⟨p, a1, by omega, a3, a4, rfl⟩)
        · rw [if_pos (nI_le (by omega) (by omega))]
          exact skip M1 (by simp [cutP, c3]) (f1 3 (by decide) (fun e => by cases e)).1 (f1 4 (by decide) (fun e => by cases e)).1 (f1 10 (by decide) (fun e => by cases e)).2 (f1 7 (by decide) (fun e => by cases e)).1 (f1 27 (by decide) (fun e => by cases e)).1
theorem cuts_X {sq n : Nat} {kd : Nat → Nat} {M : Mem} (hn : 5000 ≤ n) (hT : TX sq kd M) (hO : PS 10 (opn sq kd) M) (hH : ∀ p, p < 96 → M.1 7 p = nI (ds (opn sq kd) sq p)) : ∃ M' r', f6_findCuts n M = some ((), M') ∧ M'.1 27 11 = nI (fb_ct (cutP (opn sq kd) sq) 96) ∧ M'.1 27 12 = r' ∧ lowC (cutP (opn sq kd) sq) 0 96 r' := by
  unfold f6_findCuts b6_findCuts_0
  rw [lt_v, lt_v]
  have hs := hT.1
  have ho : opn sq kd sq = true := by simp [opn, kof]
  have hT2 : TX sq kd (wI (wI M 27 11 0) 27 12 (-2)) := hT.keep rfl rfl
  have hO2 : PS 10 (opn sq kd) (wI (wI M 27 11 0) 27 12 (-2)) := hO
  obtain ⟨M1, e1⟩ := come_X (n := n) (x := 999) (by omega) hT2 hO2 (by omega) (Or.inr rfl)
  rw [dI, if_neg (by decide)] at e1
  have f1 := fr6_comeToWithout e1
  rw [bnd_e e1]
  have k27 : M1.1 27 = (wI (wI M 27 11 0) 27 12 (-2)).1 27 := (f1 27 (by decide) (fun e => by cases e)).1
  obtain ⟨M', r', g1, g2⟩ := cuts_loop (sq := sq) (kd := kd) (cz_pos hs ho (by omega)) 96 0 (n + 1) M1 (-2) (by omega) (by omega) (hT2.keep (by rw [(f1 3 (by decide) (fun e => by cases e)).1]) (f1 4 (by decide) (fun e => by cases e)).1) (hO2.keep (f1 10 (by decide) (fun e => by cases e)).2) (fun p hp => by rw [(f1 7 (by decide) (fun e => by cases e)).1]; exact hH p hp) (by rw [k27]; rfl) (by rw [k27]; rfl) (Or.inl ⟨rfl, fun p _ hp => by omega⟩)
  rw [nI_0, e6_findCuts_19] at g1
  exact ⟨M', r', g1, g2⟩
/-! the reference's cuts -/
theorem isCut_Y {sq n p : Nat} {kd : Nat → Nat} {M : Mem} (hn : 200000 ≤ n) (hY : YT sq kd M) (hp : p < 96) (hall : 1 ≤ cz (opn sq kd) sq 999) : ∃ M', f12_isCut n (nI p) (nI (cz (opn sq kd) sq 999)) M = some (if cutP (opn sq kd) sq p = true then 1 else 0, M') ∧ YT sq kd M' := by
  have hs := hY.1.1
  unfold f12_isCut b12_isCut_0 b12_isCut_37
  rw [hY.1.2.1]
  by_cases c1 : p = sq
  · rw [if_pos (by rw [c1]), if_neg (by simp [cutP, c1])]
    exact ⟨M, rfl, hY⟩
  · rw [if_neg (fun q => c1 ((nI_eq (by omega) (by omega)).mp q))]
    obtain ⟨M1, g1, g2, g3⟩ := steps_Y (n := n) (p := p) (q := sq) (by omega) hY hp hs
    have l := ds_le (opn sq kd) hp hs
    rw [bnd_e g1]
    rw [ds_symm _ hp hs] at l ⊢
    by_cases c2 : ds (opn sq kd) sq p = 99
    · rw [c2, if_pos (show nI 99 = (99 : Int32) from rfl), if_neg (by simp [cutP, c2])]
      exact ⟨M1, rfl, g3⟩
    · rw [if_neg (show ¬ nI (ds (opn sq kd) sq p) = (99 : Int32) from fun e => c2 ((nI_eq (b := 99) (by omega) (by decide)).mp e))]
      obtain ⟨M2, e1, e2⟩ := came_Y (n := n) (x := p) (by omega) g3 c1 (Or.inl hp)
      rw [dI, if_pos hp] at e1
      have b1 : cz (opn sq kd) sq p ≤ 96 := fb_ct_le _ _
      have b2 : cz (opn sq kd) sq 999 ≤ 96 := fb_ct_le _ _
      rw [bnd_e e1, show nI (cz (opn sq kd) sq 999) - (1 : Int32) = nI (cz (opn sq kd) sq 999 - 1) from pk_sub (b := 1) hall]
      by_cases c3 : cz (opn sq kd) sq p < cz (opn sq kd) sq 999 - 1
      · rw [if_neg (nI_ge c3 (by omega)), if_pos (by simp [cutP, c1, c2, c3])]
        exact ⟨M2, rfl, e2⟩
      · rw [if_pos (nI_le (by omega) (by omega)), if_neg (by simp [cutP, c3])]
        exact ⟨M2, rfl, e2⟩
theorem cutsY_loop {sq : Nat} {kd : Nat → Nat} (hall : 1 ≤ cz (opn sq kd) sq 999) (w : Int32) : ∀ (i c n : Nat) (M : Mem) (r : Int32), i ≤ 96 → i + 200000 < n → YT sq kd M → c + fb_ct (cutP (opn sq kd) sq) i = fb_ct (cutP (opn sq kd) sq) 96 → lowC (cutP (opn sq kd) sq) i 96 r → ∃ M' r', r12_streets n 99 [w, nI (cz (opn sq kd) sq 999), nI c, r, nI i + (-1)] [] M = some ((if w = 5 then nI (fb_ct (cutP (opn sq kd) sq) 96) else r'), M') ∧ lowC (cutP (opn sq kd) sq) 0 96 r' ∧ YT sq kd M' := by
  intro i
  induction i with
  | zero =>
    intro c n M r h1 h2 hY hc hl
    obtain ⟨n, rfl⟩ : ∃ n', n = n' + 1 := ⟨n - 1, by omega⟩
    rw [e12_streets_99]
    unfold b12_streets_99
    rw [if_pos (by decide)]
    have hc : c = fb_ct (cutP (opn sq kd) sq) 96 := hc
    refine ⟨M, r, ?_, hl, hY⟩
    by_cases cw : w = 5
    · rw [if_pos cw, if_pos cw, hc]
    · rw [if_neg cw, if_neg cw]
  | succ i ih =>
    intro c n M r h1 h2 hY hc hl
    obtain ⟨n, rfl⟩ : ∃ n', n = n' + 1 := ⟨n - 1, by omega⟩
    rw [pk_m1, e12_streets_99]
    unfold b12_streets_99 b12_streets_125
    obtain ⟨M1, g1, g2⟩ := isCut_Y (n := n) (p := i) (by omega) hY (by omega) hall
    rw [fb_ct_succ] at hc
    rw [if_neg (nI_pos (by omega)), bnd_e g1]
    by_cases e : cutP (opn sq kd) sq i = true
    · rw [if_pos e] at hc
      rw [if_pos e, if_neg (by decide), lt_v, lt_v, nI_1]
      exact ih (c + 1) n M1 (nI i) (by omega) (by omega) g2 (by omega) (Or.inr ⟨i, Nat.le_refl _, by omega, e, fun j a b => by omega, rfl⟩)
    · rw [if_neg e] at hc
      rw [if_neg e, if_pos rfl, lt_v]
      refine ih c n M1 r (by omega) (by omega) g2 (by omega) ?_
      rcases hl with ⟨a, b⟩ | ⟨p, a1, a2, a3, a4, a5⟩
      · exact Or.inl ⟨a, fun p hp hp2 => by
          by_cases e2 : p = i
          · rw [e2]; exact ts_nt e
          · exact b p (by omega) hp2⟩
      · exact Or.inr ⟨p, by omega, a2, a3, fun j hj hj2 => by
          by_cases e2 : j = i
          · rw [e2]; exact ts_nt e
          · exact a4 j (by omega) hj2, a5⟩
/-- PROMISE 24: streets -/
theorem st_streets {Lw : Mem → Mem → Prop} (hL : LwOk Lw) {FU : Nat} (hFU : 10000000 ≤ FU) (t : Nat) (Mx My : Mem) (a0 : Int32) (ht : t < 3072) (h : Inv Lw t Mx My) : ∃ (r : Int32) (Mx' My' : Mem), f11_streets FU a0 Mx = some (r, Mx') ∧ f12_streets FU a0 My = some (r, My') ∧ Inv Lw (t + 6) Mx' My' := by
  have h0 := h
  obtain ⟨⟨⟨sq, kd, dr, h1⟩, h2⟩, h3, h4, h5⟩ := h
  have hs := h1.1.1
  have ho : opn sq kd sq = true := by simp [opn, kof]
  have hall := cz_pos hs ho (show 999 ≠ sq by omega)
  have key : ∃ r X' Y', f11_streets FU a0 Mx = some (r, X') ∧ f12_streets FU a0 My = some (r, Y') ∧ YT sq kd Y' := by
    obtain ⟨Y1, y1, y2⟩ := came_Y (n := FU) (x := 999) (by omega) h1.2.1 (by omega) (Or.inr rfl)
    rw [dI, if_neg (by decide)] at y1
    unfold f11_streets b11_streets_0 f12_streets b12_streets_0
    rw [bnd_e y1]
    by_cases c0 : a0 = 0
    · obtain ⟨X1, x1⟩ := islands_X (n := FU) (by omega) h1.2.2.1.1
      obtain ⟨Y2, y3, y4⟩ := islands_Y (n := FU) (by omega) y2
      rw [if_pos c0, if_pos c0, bnd_e x1, bnd_e y3]
      exact ⟨_, _, _, rfl, rfl, y4⟩
    rw [if_neg c0, if_neg c0]
    by_cases c1 : a0 = 1
    · rw [if_pos c1, if_pos c1]
      unfold f6_deadEnds b6_deadEnds_0
      rw [show (0 : Int32) = nI 0 from nI_0.symm, bnd_e (openWith_X (by omega) (by decide) h1.1), show (1 : Int32) = nI 1 from rfl, bnd_e (openWith_X (by omega) (by decide) h1.1), bnd_s', bnd_e (withNeighbours_Y (by omega) (by decide) (by decide) y2.1), nI_add, nb_dead]
      exact ⟨_, _, _, rfl, rfl, y2⟩
    rw [if_neg c1, if_neg c1]
    by_cases c2 : a0 = 2
    · obtain ⟨X1, x1⟩ := islands_X (n := FU) (by omega) h1.2.2.1.1
      obtain ⟨Y2, y3, y4⟩ := islands_Y (n := FU) (by omega) y2
      have bs := fb_sm_bound (f := nbS (opn sq kd)) (c := 4) (n := 96) (fun k _ => nbS_le _ k)
      have hx : f6_rings FU Mx = some (nI (fb_sm (nbS (opn sq kd)) 96 / 2) - nI (fb_ct (opn sq kd) 96) + nI (fb_ct (low (opn sq kd)) 96), X1) := by
        unfold f6_rings b6_rings_0
        rw [bnd_e (show f6_openPlacesWith FU 1 Mx = _ from openWith_X (k := 1) (by omega) (by decide) h1.1), bnd_e (show f6_openPlacesWith FU 2 Mx = _ from openWith_X (k := 2) (by omega) (by decide) h1.1), bnd_e (show f6_openPlacesWith FU 3 Mx = _ from openWith_X (k := 3) (by omega) (by decide) h1.1), bnd_e (show f6_openPlacesWith FU 4 Mx = _ from openWith_X (k := 4) (by omega) (by decide) h1.1), lt_v, bnd_e (size_X h1.2.2.1.1), bnd_e x1]
        rw [show (2 : Int32) * nI (fb_ct (nbK (opn sq kd) 2) 96) = nI (2 * fb_ct (nbK (opn sq kd) 2) 96) from pk_mul 2 _, show (3 : Int32) * nI (fb_ct (nbK (opn sq kd) 3) 96) = nI (3 * fb_ct (nbK (opn sq kd) 3) 96) from pk_mul 3 _, show (4 : Int32) * nI (fb_ct (nbK (opn sq kd) 4) 96) = nI (4 * fb_ct (nbK (opn sq kd) 4) 96) from pk_mul 4 _, nI_add, nI_add, nI_add, ← nb_sum, show nI (fb_sm (nbS (opn sq kd)) 96) / (2 : Int32) = nI (fb_sm (nbS (opn sq kd)) 96 / 2) from pk_div (d := 2) (by omega) (by decide) (by decide)]
      rw [if_pos c2, if_pos c2, bnd_e hx, bnd_e (twos_Y (by omega) y2.1), bnd_e (openPlaces_Y (by omega) y2.1), bnd_e y3]
      exact ⟨_, _, _, rfl, rfl, y4⟩
    rw [if_neg c2, if_neg c2]
    by_cases c3 : a0 = 3
    · rw [if_pos c3, if_pos c3]
      unfold f6_crossings b6_crossings_0
      rw [show (4 : Int32) = nI 4 from rfl, bnd_e (openWith_X (by omega) (by decide) h1.1), bnd_s', bnd_e (withNeighbours_Y (by omega) (by decide) (by decide) y2.1), nb_four]
      exact ⟨_, _, _, rfl, rfl, y2⟩
    rw [if_neg c3, if_neg c3]
    by_cases c4 : a0 = 4
    · rw [if_pos c4, if_pos c4, bnd_e (size_X h1.2.2.1.1), bnd_e (openPlaces_Y (by omega) y2.1)]
      exact ⟨_, _, _, rfl, rfl, y2⟩
    rw [if_neg c4, if_neg c4]
    obtain ⟨X1, r1, x1, x2, x3, x4⟩ := cuts_X (n := FU) (by omega) h1.1 h1.2.2.1.1 h1.2.2.1.2.1
    obtain ⟨Y2, r2, y3, y4, y5⟩ := cutsY_loop (sq := sq) (kd := kd) hall a0 96 0 (FU + 1) Y1 (-2) (by omega) (by omega) y2 (by omega) (Or.inl ⟨rfl, fun p a b => by omega⟩)
    rw [show nI 96 + (-1) = 95 by decide, nI_0, e12_streets_99] at y3
    by_cases c5 : a0 = 5
    · rw [if_pos c5, if_pos c5, bnd_e x1, x2, y3, if_pos c5]
      exact ⟨_, _, _, rfl, rfl, y5⟩
    rw [if_neg c5, if_neg c5]
    by_cases c6 : a0 = 6
    · rw [if_pos c6, if_pos c6, bnd_e x1, x3, y3, if_neg c5, x4.one y4]
      exact ⟨_, _, _, rfl, rfl, y5⟩
    rw [if_neg c6, if_neg c6]
    exact ⟨_, _, _, rfl, rfl, y2⟩
  obtain ⟨r, X', Y', x, y, hY⟩ := key
  have fx := fr11_streets x
  have fy := fr12_streets y
  have qy := fq12_streets y
  exact ⟨r, X', Y', x, y, Inv.ask hL h1 h2 (h3.keep (by rw [(fx 1 (by decide) (fun e => by cases e)).1]) (fx 2 (by decide) (fun e => by cases e)).1 (qy 0 11 (by decide) (by decide)) (fy 8 (by decide) (fun e => by cases e)).1) h4 h5 (QXt.of fx (by decide)) (h1.2.2.1.1.keep (fx 10 (by decide) (fun e => by cases e)).2) (QXr.of fx (by decide)) (QY.of fy qy (by decide) (by decide)) hY (fy 5 (by decide) (fun e => by cases e)).1⟩
