/-! CHASE -/
def trB (O : Nat → Bool) (C : Nat → Nat → Bool) (k t : Nat) : Bool := (O t && !gr (fun x => O x && !C k x) t) || decide (t = k)
def jn (O : Nat → Bool) (C : Nat → Nat → Bool) (k : Nat) : Nat → Nat → Bool
  | 0, t => C k t || trB O C k t
  | w + 1, t => jn O C k w t || (decide (bes k w < 96) && (O (bes k w) && trB O C (bes k w) t))
def nxB (O : Nat → Bool) (C : Nat → Nat → Bool) (k t : Nat) : Bool := if O k = true then jn O C k 4 t else C k t
def Cm (O : Nat → Bool) : Nat → Nat → Nat → Bool
  | 0 => fun k t => decide (t = k)
  | m + 1 => nxB O (Cm O m)
theorem jn_sub {O : Nat → Bool} {C : Nat → Nat → Bool} {k t : Nat} (h : C k t = true) : ∀ w, jn O C k w t = true
  | 0 => by simp [jn, h]
  | w + 1 => by simp [jn, jn_sub h w]
theorem nxB_sub {O : Nat → Bool} {C : Nat → Nat → Bool} {k t : Nat} (h : C k t = true) : nxB O C k t = true := by
  unfold nxB
  split
  · exact jn_sub h 4
  · exact h
/-- one set's traps -/
theorem trap_one {n i : Nat} {O : Nat → Bool} {C : Nat → Nat → Bool} {M : Mem} (hi : i < 96) (hO : PS 10 O M) (hC : PS (134 + 2 * i) (C i) M) : ∃ M1 M2 M3 M4 M', f4_take n (135 + 2 * i) (134 + 2 * i) M = some ((), M1) ∧ f4_turnWithin n (135 + 2 * i) 10 M1 = some ((), M2) ∧ f4_grow n (135 + 2 * i) M2 = some ((), M3) ∧ f4_turnWithin n (135 + 2 * i) 10 M3 = some ((), M4) ∧ f4_add n (135 + 2 * i) (nI i) M4 = some ((), M') ∧ PS (135 + 2 * i) (trB O C i) M' ∧ ∀ k, k ≠ 135 + 2 * i → M'.1 k = M.1 k ∧ M'.2 k = M.2 k := by
  have nk : ∀ k, k ≠ 135 + 2 * i → k ∉ [135 + 2 * i] := fun k hk => by simpa using hk
  have h10 : (10 : Nat) ≠ 135 + 2 * i := by omega
  obtain ⟨M1, e1, p1⟩ := take_X (n := n) (k := 135 + 2 * i) hC (by omega)
  have f1 := fr4_take e1
  have o1 := hO.keep (f1 10 (nk _ h10) (fun e => by cases e)).2
  obtain ⟨M2, e2, p2⟩ := turn_X (n := n) p1 o1 (fun e => h10 e.symm)
  have f2 := fr4_turnWithin e2
  have o2 := o1.keep (f2 10 (nk _ h10) (fun e => by cases e)).2
  obtain ⟨M3, e3, p3⟩ := grow_X (n := n) p2
  have f3 := fr4_grow e3
  have o3 := o2.keep (f3 10 (nk _ h10) (fun e => by cases e)).2
  obtain ⟨M4, e4, p4⟩ := turn_X (n := n) p3 o3 (fun e => h10 e.symm)
  have f4 := fr4_turnWithin e4
  obtain ⟨M5, e5, p5⟩ := add_X (n := n) p4 hi
  have f5 := fr4_add e5
  refine ⟨M1, M2, M3, M4, M5, e1, e2, e3, e4, e5, p5, fun k hk => ?_⟩
  have nl : ∀ (M M' : Mem), Fr [135 + 2 * i] false M M' → M'.1 k = M.1 k ∧ M'.2 k = M.2 k := fun M M' f => f k (nk k hk) (fun e => by cases e)
  exact ⟨(nl _ _ f5).1.trans ((nl _ _ f4).1.trans ((nl _ _ f3).1.trans ((nl _ _ f2).1.trans (nl _ _ f1).1))), (nl _ _ f5).2.trans ((nl _ _ f4).2.trans ((nl _ _ f3).2.trans ((nl _ _ f2).2.trans (nl _ _ f1).2)))⟩
theorem trap_loop {O : Nat → Bool} {C : Nat → Nat → Bool} : ∀ (d i n : Nat) (M : Mem), i + d = 96 → d < n → PS 10 O M → (∀ p, p < 96 → PS (134 + 2 * p) (C p) M) → (∀ p, p < i → PS (135 + 2 * p) (trB O C p) M) → ∃ M', r1_trapThief n 2 [nI i] [] M = some ((), M') ∧ PS 10 O M' ∧ (∀ p, p < 96 → PS (134 + 2 * p) (C p) M') ∧ ∀ p, p < 96 → PS (135 + 2 * p) (trB O C p) M' := by
  intro d
  induction d with
  | zero =>
    intro i n M h1 h2 hO hC hT
    obtain ⟨n, rfl⟩ : ∃ n', n = n' + 1 := ⟨n - 1, by omega⟩
    have : i = 96 := by omega
    subst this
    rw [e1_trapThief_2]
    unfold b1_trapThief_2
    rw [if_pos (by decide)]
    exact ⟨M, rfl, hO, hC, hT⟩
  | succ d ih =>
    intro i n M h1 h2 hO hC hT
    obtain ⟨n, rfl⟩ : ∃ n', n = n' + 1 := ⟨n - 1, by omega⟩
    have hi : i < 96 := by omega
    obtain ⟨M1, M2, M3, M4, M', e1, e2, e3, e4, e5, p, q⟩ := trap_one (n := n) hi hO (hC i hi)
    rw [e1_trapThief_2]
    unfold b1_trapThief_2
    rw [if_neg (show ¬ (96 : Int32) ≤ nI i from nI_ge (b := 96) (by omega) (by decide)), chk_in hi (by decide), chk_in hi (by decide), nI_clamp (by omega), bnd_e e1, bnd_e e2, bnd_e e3, bnd_e e4, bnd_e e5, lt_v, nI_1]
    refine ih (i + 1) n M' (by omega) (by omega) (hO.keep (q 10 (by omega)).2) (fun p hp => (hC p hp).keep (q _ (by omega)).2) (fun p' hp => ?_)
    by_cases e : p' = i
    · subst e; exact p
    · exact (hT p' (by omega)).keep (q _ (by omega)).2
theorem trap_X {n : Nat} {O : Nat → Bool} {C : Nat → Nat → Bool} {M : Mem} (hn : 200 ≤ n) (hO : PS 10 O M) (hC : ∀ p, p < 96 → PS (134 + 2 * p) (C p) M) : ∃ M', f1_trapThief n M = some ((), M') ∧ PS 10 O M' ∧ (∀ p, p < 96 → PS (134 + 2 * p) (C p) M') ∧ ∀ p, p < 96 → PS (135 + 2 * p) (trB O C p) M' := by
  obtain ⟨M', g, h⟩ := trap_loop (O := O) (C := C) 96 0 (n + 1) M (by omega) (by omega) hO hC (fun p hp => by omega)
  rw [nI_0, e1_trapThief_2] at g
  exact ⟨M', g, h⟩
theorem ct_same {p q : Nat → Bool} : ∀ {n : Nat}, (∀ k, k < n → p k = true → q k = true) → fb_ct q n ≤ fb_ct p n → ∀ k, k < n → q k = p k := by
  intro n
  induction n with
  | zero => intro _ _ k hk; omega
  | succ n ih =>
    intro h1 h2 k hk
    have s := fb_ct_sub (p := p) (q := q) (n := n) (fun k hk => h1 k (by omega))
    rw [fb_ct_succ, fb_ct_succ] at h2
    have hn := h1 n (by omega)
    have last : q n = p n := by
      cases hp : p n with
      | true => exact hn hp
      | false =>
        cases hq : q n with
        | false => rfl
        | true =>
          rw [hp, hq] at h2
          simp at h2
          omega
    by_cases e : k = n
    · rw [e]; exact last
    · refine ih (fun k hk => h1 k (by omega)) ?_ k (by omega)
      rw [last] at h2
      omega
/-- the king's moves: sets p < i are new -/
def KS (O : Nat → Bool) (C : Nat → Nat → Bool) (i : Nat) (M : Mem) : Prop := PS 10 O M ∧ (∀ p, p < i → PS (134 + 2 * p) (nxB O C p) M) ∧ (∀ p, i < p → p < 96 → PS (134 + 2 * p) (C p) M) ∧ ∀ p, p < 96 → PS (135 + 2 * p) (trB O C p) M
theorem KS.put {O : Nat → Bool} {C : Nat → Nat → Bool} {i : Nat} {M M' : Mem} (h : KS O C i M) (f : Fr [134 + 2 * i] false M M') : KS O C i M' := by
  have nl : ∀ k, k ≠ 134 + 2 * i → M'.2 k = M.2 k := fun k hk => (f k (by simpa using hk) (fun e => by cases e)).2
  exact ⟨h.1.keep (nl _ (by omega)), fun p hp => (h.2.1 p hp).keep (nl _ (by omega)), fun p hp hp2 => (h.2.2.1 p hp hp2).keep (nl _ (by omega)), fun p hp => (h.2.2.2 p hp).keep (nl _ (by omega))⟩
theorem ways_loop {sq i : Nat} {kd : Nat → Nat} {C : Nat → Nat → Bool} (hi : i < 96) (ho : opn sq kd i = true) (g b : Int32) : ∀ (d w n : Nat) (M : Mem), w + d = 4 → d + 5 < n → TX sq kd M → KS (opn sq kd) C i M → PS (134 + 2 * i) (jn (opn sq kd) C i w) M → ∃ n' M', n' + d = n ∧ r1_moveKing n 49 [g, nI i, b, nI w] [] M = r1_moveKing n' 49 [g, nI i, b, nI 4] [] M' ∧ TX sq kd M' ∧ KS (opn sq kd) C i M' ∧ PS (134 + 2 * i) (nxB (opn sq kd) C i) M' := by
  intro d
  induction d with
  | zero =>
    intro w n M h1 h2 hT hK hP
    have : w = 4 := by omega
    subst this
    exact ⟨n, M, rfl, rfl, hT, hK, hP.cong fun t _ => by unfold nxB; rw [if_pos ho]⟩
  | succ d ih =>
    intro w n M h1 h2 hT hK hP
    obtain ⟨n, rfl⟩ : ∃ n', n = n' + 1 := ⟨n - 1, by omega⟩
    have go : ∀ M1 : Mem, TX sq kd M1 → KS (opn sq kd) C i M1 → PS (134 + 2 * i) (jn (opn sq kd) C i (w + 1)) M1 → ∃ n' M', n' + (d + 1) = n + 1 ∧ (lt (nI w + (1 : Int32)) fun v36 => r1_moveKing n 49 [g, nI i, b, v36] [] M1) = r1_moveKing n' 49 [g, nI i, b, nI 4] [] M' ∧ TX sq kd M' ∧ KS (opn sq kd) C i M' ∧ PS (134 + 2 * i) (nxB (opn sq kd) C i) M' := by
      intro M1 hT hK hP
      rw [lt_v, nI_1]
      obtain ⟨n', M', a1, a2⟩ := ih (w + 1) n M1 (by omega) (by omega) hT hK hP
      exact ⟨n', M', by omega, a2⟩
    rw [e1_moveKing_49]
    unfold b1_moveKing_49 b1_moveKing_96
    rw [if_neg (show ¬ (4 : Int32) ≤ nI w from nI_ge (b := 4) (by omega) (by decide)), bnd_e (bes_X hi (by omega))]
    by_cases hb : bes i w < 96
    · rw [bI_in hb, if_neg (nI_pos (by omega)), bnd_e (isOpen_X hT hb)]
      by_cases hbo : opn sq kd (bes i w) = true
      · rw [if_pos hbo, if_neg (by decide), chk_in hi (by decide), chk_in hb (by decide), nI_clamp (show i < 2 ^ 31 by omega), nI_clamp (show bes i w < 2 ^ 31 by omega)]
        obtain ⟨M1, e1, p1⟩ := join_X (n := n) hP (hK.2.2.2 _ hb) (by omega)
        have f1 := fr4_join e1
        rw [bnd_e e1]
        refine go M1 (hT.keep (by rw [(f1 3 (by simp; omega) (fun e => by cases e)).1]) (f1 4 (by simp; omega) (fun e => by cases e)).1) (hK.put f1) (p1.cong fun t _ => ?_)
        show (jn (opn sq kd) C i w t || trB (opn sq kd) C (bes i w) t) = jn (opn sq kd) C i (w + 1) t
        simp [jn, hb, hbo]
      · rw [if_neg hbo, if_pos rfl]
        refine go M hT hK (hP.cong fun t _ => ?_)
        simp [jn, hbo]
    · rw [bI_out hb, if_pos (by decide)]
      refine go M hT hK (hP.cong fun t _ => ?_)
      simp [jn, hb]
theorem king_loop {sq : Nat} {kd : Nat → Nat} {C : Nat → Nat → Bool} : ∀ (d i g n : Nat) (M : Mem), i + d = 96 → 10 * d + 20 < n → TX sq kd M → KS (opn sq kd) C i M → (i < 96 → PS (134 + 2 * i) (C i) M) → (g = 0 ∨ g = 1) → (g = 0 → ∀ p, p < i → ∀ t, t < 96 → nxB (opn sq kd) C p t = C p t) → ∃ g' M', r1_moveKing n 4 [nI g, nI i] [] M = some (nI g', M') ∧ TX sq kd M' ∧ PS 10 (opn sq kd) M' ∧ (∀ p, p < 96 → PS (134 + 2 * p) (nxB (opn sq kd) C p) M') ∧ (g' = 0 ∨ g' = 1) ∧ (g' = 0 → ∀ p, p < 96 → ∀ t, t < 96 → nxB (opn sq kd) C p t = C p t) := by
  intro d
  induction d with
  | zero =>
    intro i g n M h1 h2 hT hK hP hg hg2
    obtain ⟨n, rfl⟩ : ∃ n', n = n' + 1 := ⟨n - 1, by omega⟩
    have : i = 96 := by omega
    subst this
    rw [e1_moveKing_4]
    unfold b1_moveKing_4
    rw [if_pos (by decide), chk_t (by rcases hg with e | e <;> rw [e] <;> decide)]
    exact ⟨g, M, rfl, hT, hK.1, hK.2.1, hg, hg2⟩
  | succ d ih =>
    intro i g n M h1 h2 hT hK hP hg hg2
    obtain ⟨n, rfl⟩ : ∃ n', n = n' + 1 := ⟨n - 1, by omega⟩
    have hi : i < 96 := by omega
    have hP := hP hi
    have go : ∀ (g : Nat) (n : Nat) (M : Mem), 10 * d + 20 < n → TX sq kd M → KS (opn sq kd) C i M → PS (134 + 2 * i) (nxB (opn sq kd) C i) M → (g = 0 ∨ g = 1) → (g = 0 → ∀ p, p < i + 1 → ∀ t, t < 96 → nxB (opn sq kd) C p t = C p t) → ∃ g' M', r1_moveKing n 4 [nI g, nI (i + 1)] [] M = some (nI g', M') ∧ TX sq kd M' ∧ PS 10 (opn sq kd) M' ∧ (∀ p, p < 96 → PS (134 + 2 * p) (nxB (opn sq kd) C p) M') ∧ (g' = 0 ∨ g' = 1) ∧ (g' = 0 → ∀ p, p < 96 → ∀ t, t < 96 → nxB (opn sq kd) C p t = C p t) := by
      intro g n M hn hT hK hP hg hg2
      refine ih (i + 1) g n M (by omega) hn hT ⟨hK.1, fun p hp => ?_, fun p hp hp2 => hK.2.2.1 p (by omega) hp2, hK.2.2.2⟩ (fun h => hK.2.2.1 (i + 1) (by omega) h) hg hg2
      by_cases e : p = i
      · subst e; exact hP
      · exact hK.2.1 p (by omega)
    rw [e1_moveKing_4]
    unfold b1_moveKing_4 b1_moveKing_125
    rw [if_neg (show ¬ (96 : Int32) ≤ nI i from nI_ge (b := 96) (by omega) (by decide)), bnd_e (isOpen_X hT hi)]
    by_cases ho : opn sq kd i = true
    · rw [if_pos ho, if_neg (by decide), chk_in hi (by decide), nI_clamp (by omega), bnd_e (size_X hP), chk_in hi (by decide), chk_in hi (by decide)]
      obtain ⟨M1, e1, p1⟩ := join_X (n := n) hP (hK.2.2.2 i hi) (by omega)
      have f1 := fr4_join e1
      rw [bnd_e e1]
      obtain ⟨n', M2, a1, a2, a3, a4, a5⟩ := ways_loop (sq := sq) (kd := kd) (C := C) hi ho (nI g) (nI (fb_ct (C i) 96)) 4 0 (n + 1) M1 (by omega) (by omega) (hT.keep (by rw [(f1 3 (by simp; omega) (fun e => by cases e)).1]) (f1 4 (by simp; omega) (fun e => by cases e)).1) (hK.put f1) p1
      rw [nI_0, e1_moveKing_49] at a2
      obtain ⟨n', rfl⟩ : ∃ n1, n' = n1 + 1 := ⟨n' - 1, by omega⟩
      rw [a2, e1_moveKing_49]
      unfold b1_moveKing_49 b1_moveKing_124 b1_moveKing_119 b1_moveKing_124 b1_moveKing_125
      rw [if_pos (show (4 : Int32) ≤ nI 4 by decide)]
      rcases hg with rfl | rfl
      · rw [if_pos nI_0, chk_in hi (by decide), nI_clamp (by omega), bnd_e (size_X a5)]
        have b1 : fb_ct (C i) 96 ≤ 96 := fb_ct_le _ _
        have b2 : fb_ct (nxB (opn sq kd) C i) 96 ≤ 96 := fb_ct_le _ _
        by_cases c : fb_ct (nxB (opn sq kd) C i) 96 ≤ fb_ct (C i) 96
        · rw [if_pos (nI_le c (by omega)), lt_v, nI_1]
          refine go 0 n' M2 (by omega) a3 a4 a5 (Or.inl rfl) (fun _ p hp => ?_)
          by_cases e : p = i
          · subst e
            exact fun t ht => ct_same (fun k _ => nxB_sub) c t ht
          · exact hg2 rfl p (by omega)
        · rw [if_neg (nI_ge (by omega) (by omega)), lt_v, nI_1]
          exact go 1 n' M2 (by omega) a3 a4 a5 (Or.inr rfl) (fun e => by cases e)
      · rw [if_neg (show ¬ nI 1 = 0 by decide), lt_v, nI_1]
        exact go 1 n' M2 (by omega) a3 a4 a5 (Or.inr rfl) (fun e => by cases e)
    · have e : ∀ t, nxB (opn sq kd) C i t = C i t := fun t => by unfold nxB; rw [if_neg ho]
      rw [if_neg ho, if_pos rfl, lt_v, nI_1]
      refine go g n M (by omega) hT hK (hP.cong fun t _ => (e t).symm) hg (fun h p hp t ht => ?_)
      by_cases e2 : p = i
      · subst e2; exact e t
      · exact hg2 h p (by omega) t ht
theorem king_X {sq n : Nat} {kd : Nat → Nat} {C : Nat → Nat → Bool} {M : Mem} (hn : 2000 ≤ n) (hT : TX sq kd M) (hO : PS 10 (opn sq kd) M) (hC : ∀ p, p < 96 → PS (134 + 2 * p) (C p) M) (hR : ∀ p, p < 96 → PS (135 + 2 * p) (trB (opn sq kd) C p) M) : ∃ g' M', f1_moveKing n M = some (nI g', M') ∧ TX sq kd M' ∧ PS 10 (opn sq kd) M' ∧ (∀ p, p < 96 → PS (134 + 2 * p) (nxB (opn sq kd) C p) M') ∧ (g' = 0 ∨ g' = 1) ∧ (g' = 0 → ∀ p, p < 96 → ∀ t, t < 96 → nxB (opn sq kd) C p t = C p t) := by
  obtain ⟨g', M', e, h⟩ := king_loop (sq := sq) (kd := kd) (C := C) 96 0 0 (n + 1) M (by omega) (by omega) hT ⟨hO, fun p hp => by omega, fun p _ hp => hC p hp, hR⟩ (fun h => hC 0 h) (Or.inl rfl) (fun _ p hp => by omega)
  rw [nI_0, e1_moveKing_4] at e
  exact ⟨g', M', e, h⟩
/-! the answer -/
def AnsC (O : Nat → Bool) (k t : Nat) (r : Int32) : Prop := (∃ m, m ≤ 60 ∧ Cm O m k t = true ∧ (∀ j, j < m → Cm O j k t = false) ∧ r = nI m) ∨ (r = -2 ∧ ∀ m, m ≤ 60 → Cm O m k t = false)
theorem AnsC.one {O : Nat → Bool} {k t : Nat} {r r' : Int32} (h : AnsC O k t r) (g : AnsC O k t r') : r = r' := by
  rcases h with ⟨m, h1, h2, h3, h4⟩ | ⟨h1, h2⟩
  · rcases g with ⟨j, g1, g2, g3, g4⟩ | ⟨g1, g2⟩
    · have : m = j := by
        rcases Nat.lt_trichotomy m j with e | e | e
        · rw [g3 m e] at h2; cases h2
        · exact e
        · rw [h3 j e] at g2; cases g2
      rw [h4, g4, this]
    · rw [g2 m h1] at h2; cases h2
  · rcases g with ⟨j, g1, g2, g3, g4⟩ | ⟨g1, g2⟩
    · rw [h2 j g1] at g2; cases g2
    · rw [h1, g1]
theorem gr_cong {S T : Nat → Bool} {p : Nat} (hp : p < 96) (h : ∀ q, q < 96 → S q = T q) : gr S p = gr T p := by
  rw [Bool.eq_iff_iff, gr_iff hp, gr_iff hp, h p hp]
  constructor
  · rintro (e | ⟨w, h1, h2, h3⟩)
    · exact Or.inl e
    · exact Or.inr ⟨w, h1, h2, by rw [← h _ h2]; exact h3⟩
  · rintro (e | ⟨w, h1, h2, h3⟩)
    · exact Or.inl e
    · exact Or.inr ⟨w, h1, h2, by rw [h _ h2]; exact h3⟩
theorem nxB_cong {O : Nat → Bool} {C D : Nat → Nat → Bool} (h : ∀ p, p < 96 → ∀ t, t < 96 → C p t = D p t) {k t : Nat} (hk : k < 96) (ht : t < 96) : nxB O C k t = nxB O D k t := by
  have tr : ∀ x, x < 96 → trB O C x t = trB O D x t := fun x hx => by
    unfold trB
    rw [gr_cong ht (fun q hq => by rw [h x hx q hq])]
  have j : ∀ w, jn O C k w t = jn O D k w t := by
    intro w
    induction w with
    | zero => simp only [jn]; rw [h k hk t ht, tr k hk]
    | succ w ih =>
      simp only [jn]
      rw [ih]
      by_cases hb : bes k w < 96
      · rw [tr _ hb]
      · simp [hb]
  unfold nxB
  rw [j 4, h k hk t ht]
theorem Cm_stop {O : Nat → Bool} {m : Nat} (h : ∀ p, p < 96 → ∀ t, t < 96 → Cm O (m + 1) p t = Cm O m p t) : ∀ j p t, p < 96 → t < 96 → Cm O (m + j) p t = Cm O m p t := by
  intro j
  induction j with
  | zero => intro p t _ _; rfl
  | succ j ih =>
    intro p t hp ht
    show nxB O (Cm O (m + j)) p t = _
    rw [nxB_cong (fun p hp t ht => ih p t hp ht) hp ht]
    exact h p hp t ht
theorem catch_loop {sq k t : Nat} {kd : Nat → Nat} (hk : k < 96) (ht : t < 96) : ∀ (d m g n : Nat) (M : Mem), m + d = 61 → d + 3000 < n → TX sq kd M → PS 10 (opn sq kd) M → (∀ p, p < 96 → PS (134 + 2 * p) (Cm (opn sq kd) m p) M) → (∀ j, j < m → Cm (opn sq kd) j k t = false) → (g = 0 ∨ g = 1) → (g = 0 → ∀ j, Cm (opn sq kd) j k t = false) → ∃ r M', r1_movesToCatch n 38 [nI k, nI t, nI g, nI m] [] M = some (r, M') ∧ AnsC (opn sq kd) k t r ∧ PS 10 (opn sq kd) M' := by
  intro d
  induction d with
  | zero =>
    intro m g n M h1 h2 hT hO hC hj hg hg2
    obtain ⟨n, rfl⟩ : ∃ n', n = n' + 1 := ⟨n - 1, by omega⟩
    have : m = 61 := by omega
    subst this
    rw [e1_movesToCatch_38]
    unfold b1_movesToCatch_38 b1_movesToCatch_80
    rw [if_pos (by decide)]
    exact ⟨_, M, rfl, Or.inr ⟨rfl, fun j hj2 => hj j (by omega)⟩, hO⟩
  | succ d ih =>
    intro m g n M h1 h2 hT hO hC hj hg hg2
    obtain ⟨n, rfl⟩ : ∃ n', n = n' + 1 := ⟨n - 1, by omega⟩
    rw [e1_movesToCatch_38]
    unfold b1_movesToCatch_38 b1_movesToCatch_80
    rw [if_neg (show ¬ (60 : Int32) < nI m from nI_nlt (a := 60) (by omega) (by decide))]
    rcases hg with rfl | rfl
    · rw [if_pos nI_0]
      exact ⟨_, M, rfl, Or.inr ⟨rfl, fun j _ => hg2 rfl j⟩, hO⟩
    · rw [if_neg (show ¬ nI 1 = 0 by decide), chk_in hk (by decide), nI_clamp (by omega), bnd_e (has_X (hC k hk) ht)]
      by_cases c : Cm (opn sq kd) m k t = true
      · rw [if_pos c, if_neg (by decide)]
        exact ⟨_, M, rfl, Or.inl ⟨m, by omega, c, hj, rfl⟩, hO⟩
      · rw [if_neg c, if_pos rfl]
        obtain ⟨M1, e1, o1, c1, t1⟩ := trap_X (n := n) (by omega) hO hC
        have f1 := fr1_trapThief e1
        have hT1 : TX sq kd M1 := hT.keep (by rw [(f1 3 (by decide) (fun _ => by decide)).1]) (f1 4 (by decide) (fun _ => by decide)).1
        obtain ⟨g', M2, e2, a1, a2, a3, a4, a5⟩ := king_X (n := n) (by omega) hT1 o1 c1 t1
        rw [bnd_e e1, bnd_e e2, lt_v, nI_1]
        have hjm : ∀ j, j < m + 1 → Cm (opn sq kd) j k t = false := fun j hj2 => by
          by_cases e : j = m
          · rw [e]; exact ts_nt c
          · exact hj j (by omega)
        refine ih (m + 1) g' n M2 (by omega) (by omega) a1 a2 a3 hjm a4 (fun e j => ?_)
        have st := Cm_stop (O := opn sq kd) (m := m) (a5 e)
        by_cases e2 : j < m
        · exact hj j e2
        · have := st (j - m) k t hk ht
          rw [show m + (j - m) = j by omega] at this
          rw [this]; exact ts_nt c
theorem catch_fill {O : Nat → Bool} {k t : Int32} : ∀ (d i n : Nat) (M : Mem), i + d = 96 → d < n → PS 10 O M → (∀ p, p < i → PS (134 + 2 * p) (Cm O 0 p) M) → ∃ n' M', n' + d + 1 = n ∧ r1_movesToCatch n 2 [k, t, nI i] [] M = r1_movesToCatch (n' + 1) 2 [k, t, nI 96] [] M' ∧ PS 10 O M' ∧ (∀ p, p < 96 → PS (134 + 2 * p) (Cm O 0 p) M') ∧ M'.1 3 = M.1 3 ∧ M'.1 4 = M.1 4 := by
  intro d
  induction d with
  | zero =>
    intro i n M h1 h2 hO hC
    obtain ⟨n, rfl⟩ : ∃ n', n = n' + 1 := ⟨n - 1, by omega⟩
    have : i = 96 := by omega
    subst this
    exact ⟨n, M, rfl, rfl, hO, hC, rfl, rfl⟩
  | succ d ih =>
    intro i n M h1 h2 hO hC
    obtain ⟨n, rfl⟩ : ∃ n', n = n' + 1 := ⟨n - 1, by omega⟩
    have hi : i < 96 := by omega
    obtain ⟨M1, e1, p1⟩ := clear_X (n := n) (k := 134 + 2 * i) M
    have f1 := fr4_clear e1
    obtain ⟨M2, e2, p2⟩ := add_X (n := n) p1 hi
    have f2 := fr4_add e2
    have nl : ∀ k, k ≠ 134 + 2 * i → M2.1 k = M.1 k ∧ M2.2 k = M.2 k := fun k hk => ⟨(f2 k (by simpa using hk) (fun e => by cases e)).1.trans (f1 k (by simpa using hk) (fun e => by cases e)).1, (f2 k (by simpa using hk) (fun e => by cases e)).2.trans (f1 k (by simpa using hk) (fun e => by cases e)).2⟩
    rw [e1_movesToCatch_2]
    unfold b1_movesToCatch_2
    rw [if_neg (show ¬ (96 : Int32) ≤ nI i from nI_ge (b := 96) (by omega) (by decide)), chk_in hi (by decide), nI_clamp (by omega), bnd_e e1, chk_in hi (by decide), bnd_e e2, lt_v, nI_1]
    obtain ⟨n', M', a1, a2, a3, a4, a5, a6⟩ := ih (i + 1) n M2 (by omega) (by omega) (hO.keep (nl 10 (by omega)).2) (fun p hp => by
      by_cases e : p = i
      · subst e
        exact p2.cong fun q _ => by simp [Cm]
      · exact (hC p (by omega)).keep (nl _ (by omega)).2)
    exact ⟨n', M', by omega, a2, a3, a4, by rw [a5, (nl 3 (by omega)).1], by rw [a6, (nl 4 (by omega)).1]⟩
theorem catch_X {sq n k t : Nat} {kd : Nat → Nat} {M : Mem} (hn : 10000 ≤ n) (hk : k < 96) (ht : t < 96) (hT : TX sq kd M) (hO : PS 10 (opn sq kd) M) : ∃ r M', f1_movesToCatch n (nI k) (nI t) M = some (r, M') ∧ AnsC (opn sq kd) k t r ∧ PS 10 (opn sq kd) M' := by
  unfold f1_movesToCatch b1_movesToCatch_0
  obtain ⟨n', M1, a1, a2, a3, a4, a5, a6⟩ := catch_fill (O := opn sq kd) (k := nI k) (t := nI t) 96 0 (n + 1) M (by omega) (by omega) hO (fun p hp => by omega)
  rw [nI_0, e1_movesToCatch_2] at a2
  rw [a2, e1_movesToCatch_2]
  unfold b1_movesToCatch_2
  rw [if_pos (show (96 : Int32) ≤ nI 96 by decide), ← e1_movesToCatch_38]
  exact catch_loop hk ht 61 0 1 (n' + 1) M1 (by omega) (by omega) (hT.keep (by rw [a5]) a6) a3 a4 (fun j hj => by omega) (Or.inr rfl) (fun e => by cases e)
