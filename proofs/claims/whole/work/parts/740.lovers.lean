/-! LOVERS -/
theorem isOpen_big {n p : Nat} {M : Mem} (h : 96 ≤ p) (h2 : p < 2 ^ 31) : f8_isOpen n (nI p) M = some (0, M) := by
  unfold f8_isOpen b8_isOpen_0 f8_kindOf b8_kindOf_0 b8_kindOf_10
  rw [if_neg (nI_pos h2), if_neg (show ¬ nI p < (96 : Int32) from nI_nlt (b := 96) h h2), bnd_s', if_neg (by decide)]
noncomputable def sS (O : Nat → Bool) (b : Nat → Nat) (c p : Nat) : Nat → Nat
  | 0 => 0
  | k + 1 => sS O b c p k + (if ds O (b k) p = 99 then c else ds O (b k) p)
noncomputable def mS (O : Nat → Bool) (b : Nat → Nat) (p : Nat) : Nat → Nat
  | 0 => 0
  | k + 1 => if mS O b p k < ds O (b k) p then ds O (b k) p else mS O b p k
theorem sS_le {O : Nat → Bool} {b : Nat → Nat} {c p m : Nat} (hc : 99 ≤ c) (hp : p < 96) (hb : ∀ k, k < m → b k < 96) : ∀ k, k ≤ m → sS O b c p k ≤ c * k := by
  intro k
  induction k with
  | zero => intro _; exact Nat.zero_le _
  | succ k ih =>
    intro hk
    have := ih (by omega)
    have := ds_le O (hb k (by omega)) hp
    simp only [sS]
    rw [Nat.mul_succ]
    split <;> omega
theorem sS_cases {O : Nat → Bool} {b : Nat → Nat} {p m : Nat} (hp : p < 96) (hb : ∀ k, k < m → b k < 96) : ∀ k, k ≤ m → (sS O b 1000 p k ≤ 95 * k ∧ sS O b 1000000 p k = sS O b 1000 p k ∧ mS O b p k ≤ 95) ∨ (1000 ≤ sS O b 1000 p k ∧ 1000000 ≤ sS O b 1000000 p k ∧ mS O b p k = 99) := by
  intro k
  induction k with
  | zero => intro _; exact Or.inl ⟨Nat.le_refl _, rfl, Nat.zero_le _⟩
  | succ k ih =>
    intro hk
    have i := ih (by omega)
    have l := ds_le O (hb k (by omega)) hp
    simp only [sS, mS]
    by_cases c : ds O (b k) p = 99
    · rw [c, if_pos rfl, if_pos rfl]
      refine Or.inr ⟨by omega, by omega, ?_⟩
      split <;> omega
    · rw [if_neg c, if_neg c]
      rcases i with ⟨i1, i2, i3⟩ | ⟨i1, i2, i3⟩
      · refine Or.inl ⟨by omega, by omega, ?_⟩
        split <;> omega
      · refine Or.inr ⟨by omega, by omega, ?_⟩
        rw [i3, if_neg (by omega)]
/-- one lover more -/
theorem add_loop2 {O : Nat → Bool} {s : Nat} (hs : s < 96) (A B : Nat → Nat) (hA : ∀ p, p < 96 → A p ≤ 4000) (hB : ∀ p, p < 96 → B p ≤ 99) : ∀ (d i n : Nat) (M : Mem), i + d = 96 → d < n → (∀ p, p < 96 → M.1 28 p = nI (ds O s p)) → (∀ p, p < 96 → M.1 30 p = nI (A p + if p < i then (if ds O s p = 99 then 1000 else ds O s p) else 0)) → (∀ p, p < 96 → M.1 31 p = nI (if p < i ∧ B p < ds O s p then ds O s p else B p)) → ∃ M', r6_addLover n 15 [nI i] [] M = some ((), M') ∧ (∀ p, p < 96 → M'.1 30 p = nI (A p + (if ds O s p = 99 then 1000 else ds O s p))) ∧ ∀ p, p < 96 → M'.1 31 p = nI (if B p < ds O s p then ds O s p else B p) := by
  intro d
  induction d with
  | zero =>
    intro i n M h1 h2 h3 h4 h5
    obtain ⟨n, rfl⟩ : ∃ n', n = n' + 1 := ⟨n - 1, by omega⟩
    have : i = 96 := by omega
    subst this
    rw [e6_addLover_15]
    unfold b6_addLover_15
    rw [if_pos (by decide)]
    exact ⟨M, rfl, fun p hp => by rw [h4 p hp, if_pos hp], fun p hp => by rw [h5 p hp]; simp only [hp, true_and]⟩
  | succ d ih =>
    intro i n M h1 h2 h3 h4 h5
    obtain ⟨n, rfl⟩ : ∃ n', n = n' + 1 := ⟨n - 1, by omega⟩
    have hi : i < 96 := by omega
    have l := ds_le O hs hi
    have key : r6_addLover (n + 1) 15 [nI i] [] M = b6_addLover_51 (r6_addLover n) n (nI i) (nI i) (nI (A i)) (nI (if ds O s i = 99 then 1000 else ds O s i)) M := by
      rw [e6_addLover_15]
      unfold b6_addLover_15
      have e30 := h4 i hi
      rw [if_neg (Nat.lt_irrefl _), Nat.add_zero] at e30
      rw [if_neg (show ¬ (96 : Int32) ≤ nI i from nI_ge (b := 96) (by omega) (by decide)), chk_in hi (by decide), chk_in hi (by decide), nI_clamp (by omega), h3 i hi, e30]
      by_cases c : ds O s i = 99
      · rw [c, if_pos (show nI 99 = (99 : Int32) from rfl), if_pos rfl]
        rfl
      · rw [if_neg (show ¬ nI (ds O s i) = (99 : Int32) from fun e => c ((nI_eq (b := 99) (by omega) (by decide)).mp e)), if_neg c, chk_in hi (by decide)]
    rw [key]
    unfold b6_addLover_51
    rw [chk_in hi (by decide), lt_v, chk_in hi (by decide), chk_in hi (by decide), chk_in hi (by decide), lt_v, lt_v, nI_1, nI_clamp (by omega), nI_add]
    have e28 : (wI M 30 i (nI (A i + if ds O s i = 99 then 1000 else ds O s i))).1 28 i = nI (ds O s i) := h3 i hi
    have e31 : (wI M 30 i (nI (A i + if ds O s i = 99 then 1000 else ds O s i))).1 31 i = nI (B i) := by
      have := h5 i hi
      rw [if_neg (fun e => Nat.lt_irrefl _ e.1)] at this
      exact this
    have hBi := hB i hi
    rw [e28, e31]
    have em : (if nI (B i) < nI (ds O s i) then nI (ds O s i) else nI (B i)) = nI (if B i < ds O s i then ds O s i else B i) := by
      by_cases c : B i < ds O s i
      · rw [if_pos c, if_pos (nI_lt c (by omega))]
      · rw [if_neg c, if_neg (nI_nlt (by omega) (by omega))]
    rw [em]
    refine ih (i + 1) n _ (by omega) (by omega) (fun p hp => h3 p hp) (fun p hp => ?_) (fun p hp => ?_)
    · rw [wI_at, if_neg (by decide), wI_at, if_pos rfl]
      by_cases e : p = i
      · subst e
        rw [if_pos rfl, if_pos (show p < p + 1 by omega)]
      · rw [if_neg e, h4 p hp]
        by_cases e2 : p < i
        · rw [if_pos e2, if_pos (show p < i + 1 by omega)]
        · rw [if_neg e2, if_neg (show ¬ p < i + 1 by omega)]
    · rw [wI_at, if_pos rfl]
      by_cases e : p = i
      · subst e
        rw [if_pos rfl]
        simp only [Nat.lt_succ_self, true_and]
      · rw [if_neg e, wI_at, if_neg (by decide), h5 p hp]
        by_cases e2 : p < i
        · simp only [e2, show p < i + 1 by omega, true_and]
        · simp only [e2, show ¬ p < i + 1 by omega, false_and]
theorem addLover_X {sq n s : Nat} {kd : Nat → Nat} {M : Mem} (hn : 20000 ≤ n) (hs : s < 96) (A B : Nat → Nat) (hA : ∀ p, p < 96 → A p ≤ 4000) (hB : ∀ p, p < 96 → B p ≤ 99) (hT : TX sq kd M) (h4 : ∀ p, p < 96 → M.1 30 p = nI (A p)) (h5 : ∀ p, p < 96 → M.1 31 p = nI (B p)) : ∃ M', f6_addLover n (nI s) M = some ((), M') ∧ (∀ p, p < 96 → M'.1 30 p = nI (A p + (if ds (opn sq kd) s p = 99 then 1000 else ds (opn sq kd) s p))) ∧ ∀ p, p < 96 → M'.1 31 p = nI (if B p < ds (opn sq kd) s p then ds (opn sq kd) s p else B p) := by
  unfold f6_addLover b6_addLover_0
  obtain ⟨M1, g1, a1⟩ := spread_spec (n := n) (k0 := 28) (f := 2) (by omega) (by decide) (by decide) hs hT
  have f1 := fr8_spread g1
  rw [bnd_e (show f8_spread n 28 (nI s) (2 : Int32) M = some ((), M1) from g1)]
  obtain ⟨M', e1, e2, e3⟩ := add_loop2 (O := opn sq kd) hs A B hA hB 96 0 (n + 1) M1 (by omega) (by omega) (fun p hp => by rw [a1 p hp, ds_cong (fl2 hT) hs hp]) (fun p hp => by rw [(f1 30 (by decide) (fun e => by cases e)).1, h4 p hp, if_neg (Nat.not_lt_zero _), Nat.add_zero]) (fun p hp => by rw [(f1 31 (by decide) (fun e => by cases e)).1, h5 p hp, if_neg (fun e => Nat.not_lt_zero _ e.1)])
  rw [nI_0, e6_addLover_15] at e1
  exact ⟨M', e1, e2, e3⟩
/-- the reference's inner loop: sum and most of one place -/
theorem max_n {n a b : Nat} {M : Mem} (ha : a < 2 ^ 31) (hb : b < 2 ^ 31) : f12_max n (nI a) (nI b) M = some (nI (if a < b then b else a), M) := by
  unfold f12_max b12_max_0
  by_cases h : a < b
  · rw [if_pos h, if_pos (nI_le (by omega) hb)]
  · by_cases e : a = b
    · subst e
      rw [if_pos (Int32.le_refl _), if_neg h]
    · rw [if_neg h, if_neg (nI_ge (by omega) ha)]
theorem sum_loop {sq m p : Nat} {kd b : Nat → Nat} (hp : p < 96) (hm : m ≤ 4) (hb : ∀ k, k < m → b k < 96) (w x y : Int32) : ∀ (d k n : Nat) (M : Mem), k + d = m → d + 100000 < n → YT sq kd M → (∀ k, k < m → M.1 8 k &&& 255 = nI (b k)) → ∃ n' M', n' + d = n ∧ r12_lovers n 98 [nI m, w, x, y, nI p, nI (sS (opn sq kd) b 1000000 p k), nI (mS (opn sq kd) b p k), nI k] [] M = r12_lovers n' 98 [nI m, w, x, y, nI p, nI (sS (opn sq kd) b 1000000 p m), nI (mS (opn sq kd) b p m), nI m] [] M' ∧ YT sq kd M' ∧ (∀ k, k < m → M'.1 8 k &&& 255 = nI (b k)) ∧ M'.1 0 11 = M.1 0 11 := by
  intro d
  induction d with
  | zero =>
    intro k n M h1 h2 hY hM
    have : k = m := by omega
    subst this
    exact ⟨n, M, rfl, rfl, hY, hM, rfl⟩
  | succ d ih =>
    intro k n M h1 h2 hY hM
    obtain ⟨n, rfl⟩ : ∃ n', n = n' + 1 := ⟨n - 1, by omega⟩
    have hk : k < m := by omega
    have l := ds_le (opn sq kd) (hb k hk) hp
    obtain ⟨M1, g1, g2, g3⟩ := steps_Y (n := n) (p := b k) (q := p) (by omega) hY (hb k hk) hp
    have hM1 : ∀ k, k < m → M1.1 8 k &&& 255 = nI (b k) := fun j hj => by rw [(g2.1 8 (by decide)).1]; exact hM j hj
    have c1 := sS_le (O := opn sq kd) (c := 1000000) (by decide) hp hb k (by omega)
    have c2 := sS_cases (O := opn sq kd) hp hb k (by omega)
    rw [e12_lovers_98]
    unfold b12_lovers_98
    rw [if_neg (nI_ge hk (by omega)), bnd_e (octet_e (by omega) M), hM k hk, bnd_e g1]
    obtain ⟨n', M', a1, a2, a3, a4, a5⟩ := ih (k + 1) n M1 (by omega) (by omega) g3 hM1
    refine ⟨n', M', by omega, ?_, a3, a4, by rw [a5, g2.2 11 (by decide)]⟩
    rw [← a2]
    simp only [sS, mS]
    unfold b12_lovers_135
    by_cases c : ds (opn sq kd) (b k) p = 99
    · rw [c, if_pos (show nI 99 = (99 : Int32) from rfl), if_pos rfl, lt_v, max_n (by omega) (by omega), bnd_s', lt_v, nI_1, show (1000000 : Int32) = nI 1000000 from rfl, nI_add]
    · rw [if_neg (show ¬ nI (ds (opn sq kd) (b k) p) = (99 : Int32) from fun e => c ((nI_eq (b := 99) (by omega) (by decide)).mp e)), if_neg c, lt_v, max_n (by omega) (by omega), bnd_s', lt_v, nI_1, nI_add]
def StL (O : Nat → Bool) (b : Nat → Nat) (m : Nat) (ans bst : Int32) (few lea lst : Nat) : Prop := (ans = -2 ∧ few = 1000 ∧ lea = 99 ∧ bst = -2 ∧ lst = 1000000) ∨ ∃ q, q < 96 ∧ ans = nI q ∧ bst = nI q ∧ few = sS O b 1000 q m ∧ few ≤ 380 ∧ lea ≤ 95 ∧ lst = 100 * few + lea
theorem meet_loop {sq m : Nat} {kd b : Nat → Nat} {Mx : Mem} {w : Int32} (hm : m ≤ 4) (hb : ∀ k, k < m → b k < 96) (h30 : ∀ p, p < 96 → Mx.1 30 p = nI (sS (opn sq kd) b 1000 p m)) (h31 : ∀ p, p < 96 → Mx.1 31 p = nI (mS (opn sq kd) b p m)) : ∀ (d p nX nY : Nat) (ans bst : Int32) (few lea lst : Nat) (M : Mem), p + d = 96 → d < nX → 10 * d + 100010 < nY → StL (opn sq kd) b m ans bst few lea lst → YT sq kd M → (∀ k, k < m → M.1 8 k &&& 255 = nI (b k)) → ∃ (a : Int32) (v : Nat) (M' : Mem), r6_meetingPlace nX 13 [ans, nI few, nI lea, nI p] [] Mx = some (a, Mx) ∧ r12_lovers nY 82 [nI m, w, bst, nI lst, nI p] [] M = some ((if w = 0 ∨ a = -2 then a else nI v), M') ∧ (a = -2 ∨ ∃ q, q < 96 ∧ a = nI q ∧ v = sS (opn sq kd) b 1000 q m) ∧ YT sq kd M' ∧ M'.1 0 11 = M.1 0 11 := by
  intro d
  induction d with
  | zero =>
    intro p nX nY ans bst few lea lst M h1 h2 h2' hS hY hM
    obtain ⟨nX, rfl⟩ : ∃ n', nX = n' + 1 := ⟨nX - 1, by omega⟩
    obtain ⟨nY, rfl⟩ : ∃ n', nY = n' + 1 := ⟨nY - 1, by omega⟩
    have : p = 96 := by omega
    subst this
    rw [e6_meetingPlace_13, e12_lovers_82]
    unfold b6_meetingPlace_13 b12_lovers_82 b12_lovers_206
    rw [if_pos (by decide), if_pos (by decide)]
    rcases hS with ⟨rfl, rfl, rfl, rfl, rfl⟩ | ⟨q, hq, rfl, rfl, e1, e2, e3, e4⟩
    · refine ⟨-2, 0, M, rfl, ?_, Or.inl rfl, hY, rfl⟩
      rw [if_pos (Or.inr rfl)]
      by_cases c : w = 0
      · rw [if_pos c]
      · rw [if_neg c, if_pos rfl]
    · refine ⟨nI q, few, M, rfl, ?_, Or.inr ⟨q, hq, rfl, e1⟩, hY, rfl⟩
      by_cases c : w = 0
      · rw [if_pos c, if_pos (Or.inl c)]
      · rw [if_neg c, if_neg (nI_m2 (by omega)), if_neg (fun e => e.elim c (nI_m2 (by omega))), show nI lst / (100 : Int32) = nI (lst / 100) from pk_div (d := 100) (by omega) (by decide) (by decide), show lst / 100 = few by omega]
  | succ d ih =>
    intro p nX nY ans bst few lea lst M h1 h2 h2' hS hY hM
    obtain ⟨nX, rfl⟩ : ∃ n', nX = n' + 1 := ⟨nX - 1, by omega⟩
    obtain ⟨nY, rfl⟩ : ∃ n', nY = n' + 1 := ⟨nY - 1, by omega⟩
    have hp : p < 96 := by omega
    rw [e6_meetingPlace_13, e12_lovers_82]
    unfold b6_meetingPlace_13 b12_lovers_82
    obtain ⟨n', M1, a1, a2, a3, a4, a5⟩ := sum_loop (sq := sq) (kd := kd) hp hm hb w bst (nI lst) m 0 (nY + 1) M (by omega) (by omega) hY hM
    rw [show sS (opn sq kd) b 1000000 p 0 = 0 from rfl, show mS (opn sq kd) b p 0 = 0 from rfl, nI_0, e12_lovers_98] at a2
    obtain ⟨n', rfl⟩ : ∃ n1, n' = n1 + 1 := ⟨n' - 1, by omega⟩
    rw [e12_lovers_98] at a2
    rw [if_neg (show ¬ (96 : Int32) ≤ nI p from nI_ge (b := 96) (by omega) (by decide)), if_neg (show ¬ (96 : Int32) ≤ nI p from nI_ge (b := 96) (by omega) (by decide)), a2, chk_in hp (by decide), nI_clamp (by omega), h30 p hp]
    unfold b12_lovers_98 b12_lovers_190 b6_meetingPlace_46 b6_meetingPlace_47 b6_meetingPlace_65 b6_meetingPlace_84
    have ck : ∀ {α : Type} (k : Option α), chk (inb (nI p) 96) k = k := fun k => chk_in hp (by decide)
    rw [if_pos (Int32.le_refl _)]
    simp only [lt_v, ck, nI_clamp (show p < 2 ^ 31 by omega), h31 p hp, h30 p hp, nI_1]
    rw [← a5]
    have cs := sS_cases (O := opn sq kd) hp hb m (Nat.le_refl _)
    have cl := sS_le (O := opn sq kd) (c := 1000) (by decide) hp hb m (Nat.le_refl _)
    have cl2 := sS_le (O := opn sq kd) (c := 1000000) (by decide) hp hb m (Nat.le_refl _)
    generalize hs1 : sS (opn sq kd) b 1000 p m = s1 at *
    generalize hs2 : sS (opn sq kd) b 1000000 p m = s2 at *
    generalize hs3 : mS (opn sq kd) b p m = s3 at *
    have bf : few ≤ 1000 ∧ lea ≤ 99 ∧ lst ≤ 1000000 := by
      rcases hS with ⟨_, e1, e2, _, e3⟩ | ⟨q, _, _, _, _, e1, e2, e3⟩ <;> omega
    have keepS : ∃ (a : Int32) (v : Nat) (M' : Mem), r6_meetingPlace nX 13 [ans, nI few, nI lea, nI (p + 1)] [] Mx = some (a, Mx) ∧ r12_lovers n' 82 [nI m, w, bst, nI lst, nI (p + 1)] [] M1 = some ((if w = 0 ∨ a = -2 then a else nI v), M') ∧ (a = -2 ∨ ∃ q, q < 96 ∧ a = nI q ∧ v = sS (opn sq kd) b 1000 q m) ∧ YT sq kd M' ∧ M'.1 0 11 = M1.1 0 11 := ih (p + 1) nX n' ans bst few lea lst M1 (by omega) (by omega) (by omega) hS a3 a4
    rcases cs with ⟨c1, c2, c3⟩ | ⟨c1, c2, c3⟩
    · have newS : ∃ (a : Int32) (v : Nat) (M' : Mem), r6_meetingPlace nX 13 [nI p, nI s1, nI s3, nI (p + 1)] [] Mx = some (a, Mx) ∧ r12_lovers n' 82 [nI m, w, nI p, nI (100 * s2 + s3), nI (p + 1)] [] M1 = some ((if w = 0 ∨ a = -2 then a else nI v), M') ∧ (a = -2 ∨ ∃ q, q < 96 ∧ a = nI q ∧ v = sS (opn sq kd) b 1000 q m) ∧ YT sq kd M' ∧ M'.1 0 11 = M1.1 0 11 := ih (p + 1) nX n' (nI p) (nI p) s1 s3 (100 * s2 + s3) M1 (by omega) (by omega) (by omega) (Or.inr ⟨p, hp, rfl, rfl, hs1.symm, by omega, c3, by rw [c2]⟩) a3 a4
      rw [show (100 : Int32) * nI s2 + nI s3 = nI (100 * s2 + s3) by rw [show (100 : Int32) = nI 100 from rfl, pk_mul, nI_add]]
      rw [if_neg (show ¬ (1000000 : Int32) ≤ nI s2 from nI_ge (b := 1000000) (by omega) (by decide))]
      by_cases better : s1 < few ∨ (s1 = few ∧ s3 < lea)
      · have hlt : 100 * s2 + s3 < lst := by
          rcases hS with ⟨_, e1, e2, _, e3⟩ | ⟨q, _, _, _, _, e1, e2, e3⟩ <;> omega
        rw [if_pos (nI_lt hlt (by omega))]
        rcases better with bt | ⟨bt1, bt2⟩
        · rw [if_neg (fun e => by rw [nI_eq (by omega) (by omega)] at e; omega), if_pos (nI_lt bt (by omega))]
          exact newS
        · rw [if_pos (by rw [bt1]), if_neg (nI_ge bt2 (by omega)), if_neg (nI_nlt (by omega) (by omega)), if_neg (show ¬ (1 : Int32) = 0 by decide)]
          exact newS
      · have hlt : ¬ 100 * s2 + s3 < lst := by
          rcases hS with ⟨_, e1, e2, _, e3⟩ | ⟨q, _, _, _, _, e1, e2, e3⟩ <;> omega
        rw [if_neg (nI_nlt (by omega) (by omega))]
        by_cases e1 : s1 = few
        · rw [if_pos (by rw [e1]), if_pos (nI_le (by omega) (by omega)), if_neg (nI_nlt (by omega) (by omega)), if_pos trivial]
          exact keepS
        · rw [if_neg (fun e => by rw [nI_eq (by omega) (by omega)] at e; omega), if_neg (nI_nlt (by omega) (by omega)), if_pos trivial]
          exact keepS
    · rw [if_pos (show (1000000 : Int32) ≤ nI s2 from nI_le (a := 1000000) c2 (by omega))]
      by_cases e1 : s1 = few
      · rw [if_pos (by rw [e1]), if_pos (nI_le (by omega) (by omega)), if_neg (nI_nlt (by omega) (by omega)), if_pos trivial]
        exact keepS
      · rw [if_neg (fun e => by rw [nI_eq (by omega) (by omega)] at e; omega), if_neg (nI_nlt (by omega) (by omega)), if_pos trivial]
        exact keepS
theorem lov_loop {sq m : Nat} {kd b : Nat → Nat} {w : Int32} (hm : m ≤ 4) : ∀ (d i nX nY : Nat) (X Y : Mem), i + d = m → d + 100000 < nX → 10 * d + 200000 < nY → (∀ k, k < m → b k < 256) → (∀ k, k < i → b k < 96) → TX sq kd X → YT sq kd Y → (∀ k, k < m → X.1 2 k = nI (b k)) → (∀ k, k < m → Y.1 8 k &&& 255 = nI (b k)) → (∀ p, p < 96 → X.1 30 p = nI (sS (opn sq kd) b 1000 p i)) → (∀ p, p < 96 → X.1 31 p = nI (mS (opn sq kd) b p i)) → ∃ r X' Y', r11_lovers nX 41 [nI m, w, nI i] [] X = some (r, X') ∧ r12_lovers nY 35 [nI m, w, nI i] [] Y = some (r, Y') ∧ YT sq kd Y' ∧ X'.1 1 = X.1 1 ∧ Y'.1 0 11 = Y.1 0 11 := by
  intro d
  induction d with
  | zero =>
    intro i nX nY X Y h1 h2 h2' hb hb2 hT hY hx hy h30 h31
    obtain ⟨nX, rfl⟩ : ∃ n', nX = n' + 1 := ⟨nX - 1, by omega⟩
    obtain ⟨nY, rfl⟩ : ∃ n', nY = n' + 1 := ⟨nY - 1, by omega⟩
    have : i = m := by omega
    subst this
    rw [e11_lovers_41, e12_lovers_35]
    unfold b11_lovers_41 b12_lovers_35 b11_lovers_105
    rw [if_pos (Int32.le_refl _), if_pos (Int32.le_refl _)]
    obtain ⟨a, v, M', e1, e2, e3, e4, e5⟩ := meet_loop (sq := sq) (kd := kd) (w := w) hm hb2 h30 h31 96 0 (nX + 1) (nY + 1) (-2) (-2) 1000 99 1000000 Y (by omega) (by omega) (by omega) (Or.inl ⟨rfl, rfl, rfl, rfl, rfl⟩) hY hy
    rw [nI_0, e6_meetingPlace_13] at e1
    rw [nI_0, e12_lovers_82] at e2
    have e1 : f6_meetingPlace nX X = some (a, X) := e1
    have e2 : b12_lovers_82 (r12_lovers nY) nY (nI i) w (-2) 1000000 0 Y = some ((if w = 0 ∨ a = -2 then a else nI v), M') := e2
    rw [bnd_e e1, e2]
    by_cases c1 : a = -2
    · rw [if_pos c1, if_pos (Or.inr c1)]
      exact ⟨_, _, _, rfl, rfl, e4, rfl, e5⟩
    · rw [if_neg c1]
      obtain ⟨q, hq, rfl, rfl⟩ := e3.resolve_left c1
      by_cases c2 : w = 0
      · rw [if_pos c2, if_pos (Or.inl c2)]
        exact ⟨_, _, _, rfl, rfl, e4, rfl, e5⟩
      · rw [if_neg c2, if_neg (fun e => e.elim c2 c1), chk_in hq (by decide), nI_clamp (by omega), h30 q hq]
        exact ⟨_, _, _, rfl, rfl, e4, rfl, e5⟩
  | succ d ih =>
    intro i nX nY X Y h1 h2 h2' hb hb2 hT hY hx hy h30 h31
    obtain ⟨nX, rfl⟩ : ∃ n', nX = n' + 1 := ⟨nX - 1, by omega⟩
    obtain ⟨nY, rfl⟩ : ∃ n', nY = n' + 1 := ⟨nY - 1, by omega⟩
    have hi : i < m := by omega
    have hbi := hb i hi
    rw [e11_lovers_41, e12_lovers_35]
    unfold b11_lovers_41 b12_lovers_35 b12_lovers_62
    rw [if_neg (nI_ge hi (by omega)), if_neg (nI_ge hi (by omega)), chk_in (by omega) (by decide), lt_v, nI_clamp (by omega), hx i hi, bnd_e (octet_e (by omega) Y), hy i hi]
    by_cases c : 96 ≤ b i
    · rw [if_pos (show (96 : Int32) ≤ nI (b i) from nI_le (a := 96) c (by omega)), bnd_e (isOpen_big c (by omega)), if_pos rfl]
      exact ⟨_, _, _, rfl, rfl, hY, rfl, rfl⟩
    · rw [if_neg (show ¬ (96 : Int32) ≤ nI (b i) from nI_ge (b := 96) (by omega) (by decide)), bnd_e (octet_e (by omega) Y), hy i hi, bnd_e (isOpen_X hT (by omega)), bnd_e (isOpen_Y hY.1 (by omega))]
      by_cases ho : opn sq kd (b i) = true
      · rw [if_pos ho, if_neg (by decide), if_neg (by decide)]
        have hbb : ∀ k, k < i → b k < 96 := hb2
        obtain ⟨X1, g1, g2, g3⟩ := addLover_X (n := nX) (by omega) (show b i < 96 by omega) (fun p => sS (opn sq kd) b 1000 p i) (fun p => mS (opn sq kd) b p i) (fun p hp => by
          have := sS_le (O := opn sq kd) (c := 1000) (by decide) hp hbb i (Nat.le_refl _)
          show sS (opn sq kd) b 1000 p i ≤ 4000
          omega) (fun p hp => by
          have := sS_cases (O := opn sq kd) hp hbb i (Nat.le_refl _)
          show mS (opn sq kd) b p i ≤ 99
          omega) hT h30 h31
        have f1 := fr6_addLover g1
        rw [bnd_e g1, lt_v, lt_v, nI_1]
        rw [← (f1 1 (by decide) (fun e => by cases e)).1]
        refine ih (i + 1) nX nY X1 Y (by omega) (by omega) (by omega) hb (fun k hk => ?_) (hT.keep (by rw [(f1 3 (by decide) (fun e => by cases e)).1]) (f1 4 (by decide) (fun e => by cases e)).1) hY (fun k hk => by rw [(f1 2 (by decide) (fun e => by cases e)).1]; exact hx k hk) hy (fun p hp => g2 p hp) (fun p hp => g3 p hp)
        by_cases e : k = i
        · subst e; omega
        · exact hb2 k (by omega)
      · rw [if_neg ho, if_pos rfl, if_pos rfl]
        exact ⟨_, _, _, rfl, rfl, hY, rfl, rfl⟩
/-- PROMISE 21: lovers -/
theorem st_lovers {Lw : Mem → Mem → Prop} (hL : LwOk Lw) {FU : Nat} (hFU : 10000000 ≤ FU) (t : Nat) (Mx My : Mem) (a0 a1 : Int32) (ht : t < 3072) (h : Inv Lw t Mx My) : ∃ (r : Int32) (Mx' My' : Mem), f11_lovers FU a0 a1 Mx = some (r, Mx') ∧ f12_lovers FU a0 a1 My = some (r, My') ∧ Inv Lw (t + 6) Mx' My' := by
  have h0 := h
  obtain ⟨⟨⟨sq, kd, dr, h1⟩, h2⟩, ⟨n, b1, b2, b3, b4⟩, h4, h5⟩ := h
  by_cases g : a1 < 0 ∨ 1 < a1 ∨ a0 < 2 ∨ 4 < a0 ∨ nI n < a0
  · refine ⟨-1, Mx, My, ?_, ?_, h0.same hL⟩
    · unfold f11_lovers b11_lovers_0 b11_lovers_22
      rw [canGive_e, bnd_s', b2]
      by_cases g1 : a1 < 0
      · rw [if_pos g1]
      · by_cases g2 : 1 < a1
        · rw [if_neg g1, if_pos g2]
        · rw [if_neg g1, if_neg g2, if_pos ((g.resolve_left g1).resolve_left g2), if_pos rfl]
    · unfold f12_lovers b12_lovers_0 b12_lovers_26
      rw [in_e, bnd_s', in_e, bnd_s', b3]
      by_cases g1 : a0 < 2 ∨ 4 < a0
      · rw [if_pos g1, if_pos rfl]
      · rw [if_neg g1, if_neg (show ¬ (1 : Int32) = 0 by decide)]
        by_cases g2 : a1 < 0 ∨ 1 < a1
        · rw [if_pos g2, if_pos rfl]
        · rw [if_neg g2, if_neg (show ¬ (1 : Int32) = 0 by decide), if_neg]
          intro e
          rcases g with g | g | g | g | g
          · exact g2 (Or.inl g)
          · exact g2 (Or.inr g)
          · exact g1 (Or.inl g)
          · exact g1 (Or.inr g)
          · exact Int32.lt_irrefl (Int32.lt_of_le_of_lt e g)
  · have g1 : ¬ a1 < 0 := fun e => g (Or.inl e)
    have g2 : ¬ 1 < a1 := fun e => g (Or.inr (Or.inl e))
    have g3 : ¬ a0 < 2 := fun e => g (Or.inr (Or.inr (Or.inl e)))
    have g4 : ¬ 4 < a0 := fun e => g (Or.inr (Or.inr (Or.inr (Or.inl e))))
    have g5 : ¬ nI n < a0 := fun e => g (Or.inr (Or.inr (Or.inr (Or.inr e))))
    obtain ⟨m, hm, rfl⟩ : ∃ m : Nat, m ≤ 4 ∧ a0 = nI m := by
      have c0 : ¬ a0 < 0 := fun e => g3 (Int32.lt_trans e (by decide))
      obtain ⟨k, hk, rfl⟩ := nI_of c0
      refine ⟨k, Nat.le_of_not_lt fun e => g4 ?_, rfl⟩
      exact nI_lt (a := 4) e hk
    have hbd : ∀ k, ∃ j, j < 256 ∧ My.1 8 k &&& 255 = nI j := fun k => pk_andE _ 8 (by decide)
    obtain ⟨b, hb⟩ := Classical.axiomOfChoice hbd
    have fe1 := fill_spec (n := FU) 30 96 0 (wI Mx 1 1 0) (by omega) (by decide)
    have fe2 := fill_spec (n := FU) 31 96 0 (wR (wI Mx 1 1 0) 30 (fun j => if j < 96 then 0 else (wI Mx 1 1 0).1 30 j)) (by omega) (by decide)
    generalize hX : wR (wR (wI Mx 1 1 0) 30 (fun j => if j < 96 then 0 else (wI Mx 1 1 0).1 30 j)) 31 (fun j => if j < 96 then 0 else (wR (wI Mx 1 1 0) 30 (fun j => if j < 96 then 0 else (wI Mx 1 1 0).1 30 j)).1 31 j) = X at fe2
    have ff : f6_forgetLovers FU (wI Mx 1 1 0) = some ((), X) := by
      unfold f6_forgetLovers b6_forgetLovers_0
      rw [bnd_e fe1, bnd_e fe2]
    obtain ⟨r, X', Y', x, y, hY, tx, ty⟩ := lov_loop (sq := sq) (kd := kd) (b := b) (w := a1) hm m 0 (FU + 1) (FU + 1) X (wI My 0 11 0) (by omega) (by omega) (by omega) (fun k _ => (hb k).1) (fun k hk => by omega) (by rw [← hX]; exact h1.1.keep rfl rfl) ⟨h1.2.1.1.keep rfl rfl, h1.2.1.2⟩ (fun k hk => by rw [← hX]; show Mx.1 2 k = _; rw [b4 k (by omega)]; exact (hb k).2) (fun k hk => (hb k).2) (fun p hp => by rw [← hX, wR_at, if_neg (by decide), wR_at, if_pos rfl, if_pos hp]; rfl) (fun p hp => by rw [← hX, wR_at, if_pos rfl, if_pos hp]; rfl)
    rw [nI_0, e11_lovers_41] at x
    rw [nI_0, e12_lovers_35] at y
    have x : f11_lovers FU (nI m) a1 Mx = some (r, X') := by
      unfold f11_lovers b11_lovers_0
      rw [if_neg g1, if_neg g2, canGive_e, bnd_s', b2, if_neg (show ¬ (nI m < 2 ∨ 4 < nI m ∨ nI n < nI m) from fun e => e.elim g3 (fun e => e.elim g4 g5)), if_neg (show ¬ (1 : Int32) = 0 by decide), lt_v, bnd_e ff]
      exact x
    have y : f12_lovers FU (nI m) a1 My = some (r, Y') := by
      unfold f12_lovers b12_lovers_0
      rw [in_e, bnd_s', if_neg (show ¬ (nI m < 2 ∨ 4 < nI m) from fun e => e.elim g3 g4), if_neg (show ¬ (1 : Int32) = 0 by decide), in_e, bnd_s', if_neg (show ¬ (a1 < 0 ∨ 1 < a1) from fun e => e.elim g1 g2), if_neg (show ¬ (1 : Int32) = 0 by decide), b3, if_pos (Int32.not_lt.mp g5), lt_v]
      exact y
    have fx := fr11_lovers x
    have fy := fr12_lovers y
    have qy := fq12_lovers y
    have tz : X'.1 1 1 = nI 0 ∧ Y'.1 0 11 = nI 0 := ⟨by rw [tx, ← hX]; rfl, by rw [ty]; rfl⟩
    refine ⟨_, X', Y', x, y, Inv.ask hL h1 h2 ⟨0, by decide, tz.1, tz.2, fun j hj => ?_⟩ h4 h5 (QXt.of fx (by decide)) (h1.2.2.1.1.keep (fx 10 (by decide) (fun e => by cases e)).2) (QXr.of fx (by decide)) (QY.of fy qy (by decide) (by decide)) hY (fy 5 (by decide) (fun e => by cases e)).1⟩
    rw [(fx 2 (by decide) (fun e => by cases e)).1, (fy 8 (by decide) (fun e => by cases e)).1]
    exact b4 j hj
