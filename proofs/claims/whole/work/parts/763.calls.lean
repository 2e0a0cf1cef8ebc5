/-! CALLS: the row, and both side by side -/
def aI (a : Nat) : Int32 := if a = 0 then -1 else nI (a - 1)
/-- the same but for steps and the row -/
def Sr (M M' : Mem) : Prop := (∀ k, k ∉ ([0, 6, 7, 25] : List Nat) → M'.1 k = M.1 k) ∧ ∀ j, j ≠ 9 → M'.1 0 j = M.1 0 j
theorem Sr.refl {M : Mem} : Sr M M := ⟨fun _ _ => rfl, fun _ _ => rfl⟩
theorem Sr.trans {M M1 M2 : Mem} (h : Sr M M1) (h2 : Sr M1 M2) : Sr M M2 := ⟨fun k hk => (h2.1 k hk).trans (h.1 k hk), fun j hj => (h2.2 j hj).trans (h.2 j hj)⟩
theorem Sm.sr {M M' : Mem} (h : Sm M M') : Sr M M' := ⟨fun k hk => (h.1 k (by
  intro e
  refine hk ?_
  simp only [List.mem_cons, List.not_mem_nil, or_false] at e ⊢
  rcases e with e | e | e <;> simp [e])).1, h.2⟩
theorem way_Y {sq n a k : Nat} {kd dr : Nat → Nat} {M : Mem} (hn : 100000 ≤ n) (hY : YT sq kd M) (hD : DY dr M) (ha : a < 10) (hk : k < 9) (rc : Nat → List Int32 → List Int64 → Mem → Option (Unit × Mem)) (l r f nn : Int32) : ∃ M', (if aI a = (-1 : Int32) then (bnd (f12_squareWay n (nI k) M) fun r11 M12 => b12_mayBeRow_61 rc n l (aI a) r f nn (nI k) r11 M12) else (bnd (f12_doorWay n (aI a) (nI k) M) fun r8 M9 => b12_mayBeRow_61 rc n l (aI a) r f nn (nI k) r8 M9)) = b12_mayBeRow_61 rc n l (aI a) r f nn (nI k) (nI (ydw (bw (opn sq kd) sq dr) a (k + 1))) M' ∧ Sm M M' ∧ YT sq kd M' := by
  by_cases c : a = 0
  · subst c
    obtain ⟨M1, g1, g2, g3⟩ := square_Y (n := n) hn hY hD hk
    rw [if_pos (show aI 0 = -1 from rfl), bnd_e g1]
    exact ⟨M1, rfl, g2, g3⟩
  · have e : aI a = nI (a - 1) := if_neg c
    obtain ⟨M1, g1, g2, g3⟩ := door_Y (n := n) (k := a - 1) hn hY hD (by omega) hk
    rw [show a - 1 + 1 = a by omega] at g1
    rw [if_neg (by rw [e]; exact nI_m1 (by omega)), e, bnd_e g1]
    exact ⟨M1, rfl, g2, g3⟩
theorem find_loop {sq L left a b : Nat} {kd dr : Nat → Nat} {f nn : Int32} (hl : left < 512) (ha : a < 10) (hp : pcn left = L + 1) (hc : csN (bw (opn sq kd) sq dr) (L + 1) left a < 99) (hb : b ≤ 9) (hmin : ∀ b', 1 ≤ b' → b' < b → left.testBit (b' - 1) = true → csN (bw (opn sq kd) sq dr) (L + 1) left a ≠ bw (opn sq kd) sq dr a b' + csN (bw (opn sq kd) sq dr) L (left ^^^ 2 ^ (b' - 1)) b') : ∀ (d k n : Nat) (M : Mem), k + 1 + d = b → d + 100000 < n → YT sq kd M → DY dr M → BY (bw (opn sq kd) sq dr) 512 M → ∃ n' M', n' + d = n ∧ r12_mayBeRow n 29 [nI left, aI a, nI (csN (bw (opn sq kd) sq dr) (L + 1) left a), f, nn, nI k] [] M = r12_mayBeRow n' 29 [nI left, aI a, nI (csN (bw (opn sq kd) sq dr) (L + 1) left a), f, nn, nI (b - 1)] [] M' ∧ Sm M M' ∧ YT sq kd M' := by
  have hw : ∀ a b, bw (opn sq kd) sq dr a b ≤ 99 := bw_le
  intro d
  induction d with
  | zero =>
    intro k n M h1 h2 hY hD hB
    have : k = b - 1 := by omega
    subst this
    exact ⟨n, M, rfl, rfl, Sm.refl, hY⟩
  | succ d ih =>
    intro k n M h1 h2 hY hD hB
    obtain ⟨n, rfl⟩ : ∃ n', n = n' + 1 := ⟨n - 1, by omega⟩
    have go : ∀ M1, Sm M M1 → YT sq kd M1 → ∃ n' M', n' + (d + 1) = n + 1 ∧ (lt (nI k + (1 : Int32)) fun v27 => r12_mayBeRow n 29 [nI left, aI a, nI (csN (bw (opn sq kd) sq dr) (L + 1) left a), f, nn, v27] [] M1) = r12_mayBeRow n' 29 [nI left, aI a, nI (csN (bw (opn sq kd) sq dr) (L + 1) left a), f, nn, nI (b - 1)] [] M' ∧ Sm M M' ∧ YT sq kd M' := by
      intro M1 hS hY1
      rw [lt_v, nI_1]
      obtain ⟨n', M', a1, a2, a3, a4⟩ := ih (k + 1) n M1 (by omega) (by omega) hY1 (hS.dy hD) (fun s h k h2 => by rw [(hS.1 24 (by decide)).1]; exact hB s h k h2)
      exact ⟨n', M', by omega, a2, hS.trans a3, a4⟩
    rw [e12_mayBeRow_29]
    unfold b12_mayBeRow_29 b12_mayBeRow_86
    rw [bnd_e (has_Y (by omega) (by omega))]
    by_cases c : left.testBit k = true
    · rw [if_pos c, if_neg (by decide)]
      obtain ⟨M1, g1, g2, g3⟩ := way_Y (n := n) (by omega) hY hD ha (show k < 9 by omega) (r12_mayBeRow n) (nI left) (nI (csN (bw (opn sq kd) sq dr) (L + 1) left a)) f nn
      rw [g1]
      unfold b12_mayBeRow_61 b12_mayBeRow_86
      have hfl := flip_lt (j := k) hl (by omega)
      have hpc := pcn_flip (show k < 9 by omega) c
      have h24 : M1.1 24 (9 * (left ^^^ 2 ^ k) + k) = nI (yv (bw (opn sq kd) sq dr) L (left ^^^ 2 ^ k) (k + 1)) := by
        rw [(g2.1 24 (by decide)).1, hB _ hfl k (by omega), show pcn (left ^^^ 2 ^ k) = L by omega]
      have l1 := ydw_le hw a (k + 1)
      have l2 := yv_le hw L (left ^^^ 2 ^ k) (k + 1)
      rw [shl1 (by omega), drop_bit (by omega) c, show (9 : Int32) * nI (left ^^^ 2 ^ k) + nI k = nI (9 * (left ^^^ 2 ^ k) + k) by rw [show (9 : Int32) = nI 9 from rfl, pk_mul, nI_add], chk_in (by omega) (by decide), nI_clamp (by omega), h24, nI_add, if_neg]
      · exact go M1 g2 g3
      · rw [nI_eq (by omega) (by omega)]
        intro e
        have e2 := yv_cs hw L (left ^^^ 2 ^ k) (k + 1) hfl (by omega) (Or.inr (by omega))
        have e3 : ydw (bw (opn sq kd) sq dr) a (k + 1) = bw (opn sq kd) sq dr a (k + 1) := by
          unfold ydw at e ⊢
          by_cases q : bw (opn sq kd) sq dr a (k + 1) = 99
          · rw [if_pos q] at e; omega
          · rw [if_neg q]
        have := hmin (k + 1) (by omega) (by omega) (by rw [show k + 1 - 1 = k by omega]; exact c)
        rw [show k + 1 - 1 = k by omega] at this
        omega
    · rw [if_neg c, if_pos rfl]
      exact go M Sm.refl hY
def pick (f R R0 : Nat) : Nat := if f = 1 ∨ R < R0 then R else R0
theorem row_loop {sq mm : Nat} {kd dr : Nat → Nat} (hmm : mm ≤ 9) : ∀ (L left a nn f R0 n : Nat) (M : Mem), pcn left = L → left < 512 → a < 10 → nn + L = mm → csN (bw (opn sq kd) sq dr) L left a < 99 → 20 * L + 100100 < n → YT sq kd M → DY dr M → BY (bw (opn sq kd) sq dr) 512 M → M.1 0 45 = nI mm → (f = 0 ∨ f = 1) → R0 < 10 ^ L → (f = 0 → ∀ i, i < L → M.1 25 (nn + i) = nI (dg L R0 i)) → ∃ M', r12_mayBeRow n 17 [nI left, aI a, nI (csN (bw (opn sq kd) sq dr) L left a), nI f, nI nn] [] M = some ((), M') ∧ Sr M M' ∧ YT sq kd M' ∧ (∀ j, j < nn → M'.1 25 j = M.1 25 j) ∧ ∀ i, i < L → M'.1 25 (nn + i) = nI (dg L (pick f (rwN (bw (opn sq kd) sq dr) L left a) R0) i) := by
  have hw : ∀ a b, bw (opn sq kd) sq dr a b ≤ 99 := bw_le
  intro L
  induction L with
  | zero =>
    intro left a nn f R0 n M hp hl ha hn hc hf hY hD hB h45 hff hR0 hdg
    obtain ⟨n, rfl⟩ : ∃ n', n = n' + 1 := ⟨n - 1, by omega⟩
    rw [e12_mayBeRow_17]
    unfold b12_mayBeRow_17
    rw [h45, show mm = nn by omega, if_pos (Int32.le_refl _)]
    exact ⟨M, rfl, Sr.refl, hY, fun j _ => rfl, fun i hi => by omega⟩
  | succ L ih =>
    intro left a nn f R0 n M hp hl ha hn hc hf hY hD hB h45 hff hR0 hdg
    obtain ⟨n, rfl⟩ : ∃ n', n = n' + 1 := ⟨n - 1, by omega⟩
    obtain ⟨s1, b, b1, b2, b3, b4, b5, b6⟩ := bv_step hw (a := a) hl hp
    have hpc := pcn_flip (show b - 1 < 9 by omega) b3
    have hfl := flip_lt (j := b - 1) hl (by omega)
    have hV := bv_split hw (a := b) hfl (show pcn (left ^^^ 2 ^ (b - 1)) = L by omega)
    obtain ⟨n1, M1, f1, f2, f3, f4⟩ := find_loop (sq := sq) (kd := kd) (dr := dr) (f := nI f) (nn := nI nn) hl ha hp hc b2 b6 (b - 1) 0 (n + 1) M (by omega) (by omega) hY hD hB
    rw [nI_0, e12_mayBeRow_29] at f2
    obtain ⟨n1, rfl⟩ : ∃ n', n1 = n' + 1 := ⟨n1 - 1, by omega⟩
    rw [e12_mayBeRow_17]
    unfold b12_mayBeRow_17
    rw [h45, if_neg (nI_ge (show nn < mm by omega) (by omega)), f2, e12_mayBeRow_29]
    unfold b12_mayBeRow_29
    rw [bnd_e (has_Y (by omega) (by omega)), if_pos b3, if_neg (by decide)]
    have hB1 : BY (bw (opn sq kd) sq dr) 512 M1 := fun s h k h2 => by rw [(f3.1 24 (by decide)).1]; exact hB s h k h2
    obtain ⟨M2, g1, g2, g3⟩ := way_Y (n := n1) (by omega) f4 (f3.dy hD) ha (show b - 1 < 9 by omega) (r12_mayBeRow n1) (nI left) (nI (csN (bw (opn sq kd) sq dr) (L + 1) left a)) (nI f) (nI nn)
    have hS2 := f3.trans g2
    have hB2 : BY (bw (opn sq kd) sq dr) 512 M2 := fun s h k h2 => by rw [(hS2.1 24 (by decide)).1]; exact hB s h k h2
    have h24 : M2.1 24 (9 * (left ^^^ 2 ^ (b - 1)) + (b - 1)) = nI (yv (bw (opn sq kd) sq dr) L (left ^^^ 2 ^ (b - 1)) b) := by
      rw [hB2 _ hfl (b - 1) (by omega), show pcn (left ^^^ 2 ^ (b - 1)) = L by omega, show b - 1 + 1 = b by omega]
    have e2 := yv_cs hw L (left ^^^ 2 ^ (b - 1)) b hfl (by omega) (Or.inl (by omega))
    have e3 : ydw (bw (opn sq kd) sq dr) a (b - 1 + 1) = bw (opn sq kd) sq dr a b := by
      rw [show b - 1 + 1 = b by omega]
      unfold ydw
      rw [if_neg (by omega)]
    rw [g1, e3]
    -- the rest, once the door is written
    have rest : ∀ f' : Nat, (f' = 0 ∨ f' = 1) → (f' = 0 → ∀ i, i < L → M2.1 25 (nn + 1 + i) = nI (dg L (R0 % 10 ^ L) i)) → pick f (rwN (bw (opn sq kd) sq dr) (L + 1) left a) R0 = b * 10 ^ L + pick f' (rwN (bw (opn sq kd) sq dr) L (left ^^^ 2 ^ (b - 1)) b) (R0 % 10 ^ L) → ∃ M', b12_mayBeRow_132 (r12_mayBeRow n1) n1 (nI left) (nI f') (nI nn) (nI (b - 1)) M2 = some ((), M') ∧ Sr M M' ∧ YT sq kd M' ∧ (∀ j, j < nn → M'.1 25 j = M.1 25 j) ∧ ∀ i, i < L + 1 → M'.1 25 (nn + i) = nI (dg (L + 1) (pick f (rwN (bw (opn sq kd) sq dr) (L + 1) left a) R0) i) := by
      intro f' hf' hd' hpk
      unfold b12_mayBeRow_132
      rw [shl1 (by omega), drop_bit (by omega) b3, lt_v, show (9 : Int32) * nI (left ^^^ 2 ^ (b - 1)) + nI (b - 1) = nI (9 * (left ^^^ 2 ^ (b - 1)) + (b - 1)) by rw [show (9 : Int32) = nI 9 from rfl, pk_mul, nI_add], chk_in (by omega) (by decide), lt_v, chk_in (by omega) (by decide), lt_v, lt_v, nI_1, nI_1, nI_clamp (by omega), nI_clamp (by omega), h24, e2, show b - 1 + 1 = b by omega]
      have haI : nI (b - 1) = aI b := by unfold aI; rw [if_neg (by omega)]
      rw [haI]
      have hpos : 0 < 10 ^ L := Nat.pow_pos (by decide)
      obtain ⟨M', r1, r2, r3, r4, r5⟩ := ih (left ^^^ 2 ^ (b - 1)) b (nn + 1) f' (R0 % 10 ^ L) n1 (wI M2 25 nn (nI b)) (by omega) hfl (by omega) (by omega) (by omega) (by omega) ⟨g3.1.keep rfl rfl, g3.2⟩ (hS2.dy hD) hB2 (by show M2.1 0 45 = _; rw [hS2.2 45 (by decide)]; exact h45) hf' (Nat.mod_lt _ hpos) (fun e i hi => by
        rw [wI_at, if_pos rfl, if_neg (by omega)]
        exact hd' e i hi)
      have hSw : Sr M (wI M2 25 nn (nI b)) := ⟨fun k hk => by
        have : k ≠ 25 := fun e => hk (by simp [e])
        rw [(wI_o k this).1]; exact hS2.sr.1 k hk, fun j hj => by rw [wI_at, if_neg (by decide)]; exact hS2.2 j hj⟩
      refine ⟨M', r1, hSw.trans r2, r3, fun j hj => ?_, fun i hi => ?_⟩
      · rw [r4 j (by omega), wI_at, if_pos rfl, if_neg (by omega), (hS2.1 25 (by decide)).1]
      · rw [hpk]
        cases i with
        | zero =>
          have hlt : pick f' (rwN (bw (opn sq kd) sq dr) L (left ^^^ 2 ^ (b - 1)) b) (R0 % 10 ^ L) < 10 ^ L := by
            unfold pick
            split
            · exact hV.2.1
            · exact Nat.mod_lt _ hpos
          rw [dg_0 b2 hlt, Nat.add_zero, r4 nn (by omega), wI_at, if_pos rfl, if_pos rfl]
        | succ i =>
          rw [dg_s (by omega), show nn + (i + 1) = nn + 1 + i by omega]
          exact r5 i (by omega)
    unfold b12_mayBeRow_61 b12_mayBeRow_115
    rw [shl1 (by omega), drop_bit (by omega) b3, show (9 : Int32) * nI (left ^^^ 2 ^ (b - 1)) + nI (b - 1) = nI (9 * (left ^^^ 2 ^ (b - 1)) + (b - 1)) by rw [show (9 : Int32) = nI 9 from rfl, pk_mul, nI_add], chk_in (by omega) (by decide), nI_clamp (by omega), h24, e2, nI_add, if_pos (by rw [b4]), nI_1, show b - 1 + 1 = b by omega]
    have hck : ∀ {α : Type} (x : Option α), chk (inb (nI nn) 9) x = x := fun x => chk_in (by omega) (by decide)
    simp only [hck, nI_clamp (show nn < 2 ^ 31 by omega)]
    obtain ⟨q1, q2⟩ := dg_front hR0
    have q3 := dg_le (L + 1) R0 0
    have q4 := hV.2.1
    rcases hff with rfl | rfl
    · have h0 := hdg rfl 0 (by omega)
      rw [Nat.add_zero] at h0
      rw [if_pos nI_0, (hS2.1 25 (by decide)).1, h0]
      have tl : ∀ i, i < L → M2.1 25 (nn + 1 + i) = nI (dg L (R0 % 10 ^ L) i) := fun i hi => by
        have := hdg rfl (i + 1) (by omega)
        rw [(hS2.1 25 (by decide)).1, show nn + 1 + i = nn + (i + 1) by omega, this]
        have e := dg_s (L := L) (b := dg (L + 1) R0 0) (R := R0 % 10 ^ L) (i := i) hi
        rw [← q1] at e
        rw [e]
      rcases Nat.lt_trichotomy b (dg (L + 1) R0 0) with c | c | c
      · rw [if_pos (nI_le (by omega) (by omega)), if_neg (fun e => by rw [nI_eq (by omega) (by omega)] at e; omega)]
        have hlt : rwN (bw (opn sq kd) sq dr) (L + 1) left a < R0 := by
          have : (b + 1) * 10 ^ L ≤ dg (L + 1) R0 0 * 10 ^ L := Nat.mul_le_mul_right _ c
          rw [Nat.add_mul] at this
          omega
        refine rest 1 (Or.inr rfl) (fun e => by cases e) ?_
        unfold pick
        rw [if_pos (Or.inr hlt), if_pos (Or.inl rfl), b5]
      · rw [if_pos (by rw [c]; exact Int32.le_refl _), if_pos (by rw [c])]
        refine rest 0 (Or.inl rfl) (fun _ => tl) ?_
        unfold pick
        rw [← c] at q1
        by_cases c2 : rwN (bw (opn sq kd) sq dr) L (left ^^^ 2 ^ (b - 1)) b < R0 % 10 ^ L
        · rw [if_pos (Or.inr (by omega)), if_pos (Or.inr c2), b5]
        · rw [if_neg (fun e => by rcases e with e | e <;> omega), if_neg (fun e => by rcases e with e | e <;> omega)]
          exact q1
      · rw [if_neg (nI_ge c (by omega))]
        refine ⟨M2, rfl, hS2.sr, g3, fun j _ => by rw [(hS2.1 25 (by decide)).1], fun i hi => ?_⟩
        have hlt : ¬ rwN (bw (opn sq kd) sq dr) (L + 1) left a < R0 := by
          have : (dg (L + 1) R0 0 + 1) * 10 ^ L ≤ b * 10 ^ L := Nat.mul_le_mul_right _ c
          rw [Nat.add_mul] at this
          omega
        unfold pick
        rw [if_neg (fun e => by rcases e with e | e <;> omega), (hS2.1 25 (by decide)).1]
        exact hdg rfl i hi
    · rw [if_neg (show ¬ nI 1 = 0 by decide)]
      have hr := rest 1 (Or.inr rfl) (fun e => by cases e) (by
        unfold pick
        rw [if_pos (Or.inl rfl), if_pos (Or.inl rfl), b5])
      by_cases c : nI b = M2.1 25 nn
      · rw [if_pos c]; exact hr
      · rw [if_neg c]; exact hr
