/-! CALLS: the reference's steps back and rows -/
theorem has_Y {n v k : Nat} {M : Mem} (hv : v < 2 ^ 31) (hk : k < 31) : f12_has n (nI v) (nI k) M = some (if v.testBit k = true then 1 else 0, M) := by
  unfold f12_has b12_has_0
  rw [pk_shrN hv _ k (s_l k (by omega)), show (1 : Int32) = nI (2 ^ 1 - 1) from rfl, fa_mask, Nat.testBit_eq_decide_div_mod_eq]
  have : v / 2 ^ k % 2 = 0 ∨ v / 2 ^ k % 2 = 1 := by omega
  rw [show (2 : Nat) ^ 1 = 2 from rfl]
  rcases this with e | e <;> rw [e]
  · rw [if_neg (by decide), if_neg (by decide)]
  · rw [if_pos (by decide), if_pos (by decide)]
theorem bits_loop {v : Nat} {M : Mem} (hv : v < 2 ^ 31) : ∀ (d k n : Nat), k + d = 24 → d < n → r12_bits n 4 [nI v, nI (fb_ct (fun i => v.testBit i) k), nI k] [] M = some (nI (fb_ct (fun i => v.testBit i) 24), M) := by
  intro d
  induction d with
  | zero =>
    intro k n h1 h2
    obtain ⟨n, rfl⟩ : ∃ n', n = n' + 1 := ⟨n - 1, by omega⟩
    have : k = 24 := by omega
    subst this
    rw [e12_bits_4]
    unfold b12_bits_4
    rw [if_pos (by decide)]
  | succ d ih =>
    intro k n h1 h2
    obtain ⟨n, rfl⟩ : ∃ n', n = n' + 1 := ⟨n - 1, by omega⟩
    have g := ih (k + 1) n (by omega) (by omega)
    rw [fb_ct_succ] at g
    rw [e12_bits_4]
    unfold b12_bits_4
    rw [if_neg (show ¬ (24 : Int32) ≤ nI k from nI_ge (b := 24) (by omega) (by decide)), pk_shrN hv _ k (s_l k (by omega)), lt_v, lt_v, nI_1, show (1 : Int32) = nI (2 ^ 1 - 1) from rfl, fa_mask, nI_add, ← g]
    congr 4
    rw [Nat.testBit_eq_decide_div_mod_eq]
    have : v / 2 ^ k % 2 = 0 ∨ v / 2 ^ k % 2 = 1 := by omega
    rw [show (2 : Nat) ^ 1 = 2 from rfl]
    rcases this with e | e <;> rw [e] <;> rfl
theorem bits_Y {n v : Nat} {M : Mem} (hn : 50 ≤ n) (hv : v < 2 ^ 31) : f12_bits n (nI v) M = some (nI (fb_ct (fun i => v.testBit i) 24), M) := by
  have g := bits_loop (M := M) hv 24 0 (n + 1) (by omega) (by omega)
  rw [show fb_ct (fun i => v.testBit i) 0 = 0 from rfl, nI_0, e12_bits_4] at g
  exact g
theorem min_n {n a b : Nat} {M : Mem} (ha : a < 2 ^ 31) (hb : b < 2 ^ 31) : f12_min n (nI a) (nI b) M = some (nI (if b < a then b else a), M) := by
  rw [min_e]
  by_cases c : b < a
  · rw [if_pos c, if_neg (show ¬ nI a < nI b from nI_nlt (by omega) ha)]
  · rw [if_neg c]
    by_cases e : a = b
    · rw [if_neg (by rw [e]; exact Int32.lt_irrefl), e]
    · rw [if_pos (nI_lt (by omega) hb)]
theorem Sm.dy {dr : Nat → Nat} {M M' : Mem} (h : Sm M M') (hD : DY dr M) : DY dr M' := fun k a b => by rw [(h.1 5 (by decide)).1]; exact hD k a b
theorem square_Y {sq n k : Nat} {kd dr : Nat → Nat} {M : Mem} (hn : 100000 ≤ n) (hY : YT sq kd M) (hD : DY dr M) (hk : k < 9) : ∃ M', f12_squareWay n (nI k) M = some (nI (ydw (bw (opn sq kd) sq dr) 0 (k + 1)), M') ∧ Sm M M' ∧ YT sq kd M' := by
  unfold f12_squareWay b12_squareWay_0
  have hs := hY.1.1
  have p0 : pl sq dr 0 = sq := rfl
  have p1 : pl sq dr (k + 1) = dr (k + 1) := rfl
  rw [nI_1, chk_in (by omega) (by decide), nI_clamp (by omega), hD (k + 1) (by omega) (by omega), hY.1.2.1]
  unfold dI
  by_cases c : dr (k + 1) < 96
  · have eb : bw (opn sq kd) sq dr 0 (k + 1) = ds (opn sq kd) sq (dr (k + 1)) := by unfold bw; rw [p0, p1, if_pos ⟨hs, c⟩]
    rw [if_pos c, if_neg (nI_m1 (by omega)), chk_in (by omega) (by decide), ydw, eb]
    obtain ⟨M1, g1, g2, g3⟩ := steps_Y (n := n) hn hY hs c
    have l := ds_le (opn sq kd) hs c
    rw [bnd_e g1]
    by_cases e : ds (opn sq kd) sq (dr (k + 1)) = 99
    · rw [e, if_pos (show nI 99 = (99 : Int32) from rfl), if_pos rfl]
      exact ⟨M1, rfl, g2, g3⟩
    · rw [if_neg (show ¬ nI (ds (opn sq kd) sq (dr (k + 1))) = (99 : Int32) from fun q => e ((nI_eq (b := 99) (by omega) (by decide)).mp q)), if_neg e]
      exact ⟨M1, rfl, g2, g3⟩
  · have eb : bw (opn sq kd) sq dr 0 (k + 1) = 99 := by unfold bw; rw [p0, p1, if_neg (fun e => c e.2)]
    rw [if_neg c, if_pos rfl, ydw, eb, if_pos rfl]
    exact ⟨M, rfl, Sm.refl, hY⟩
theorem door_Y {sq n k j : Nat} {kd dr : Nat → Nat} {M : Mem} (hn : 100000 ≤ n) (hY : YT sq kd M) (hD : DY dr M) (hk : k < 9) (hj : j < 9) : ∃ M', f12_doorWay n (nI k) (nI j) M = some (nI (ydw (bw (opn sq kd) sq dr) (k + 1) (j + 1)), M') ∧ Sm M M' ∧ YT sq kd M' := by
  unfold f12_doorWay b12_doorWay_0 b12_doorWay_24
  have p0 : pl sq dr (k + 1) = dr (k + 1) := rfl
  have p1 : pl sq dr (j + 1) = dr (j + 1) := rfl
  have ckk : ∀ {α : Type} (x : Option α), chk (inb (nI (k + 1)) 10) x = x := fun x => chk_in (by omega) (by decide)
  have ckj : ∀ {α : Type} (x : Option α), chk (inb (nI (j + 1)) 10) x = x := fun x => chk_in (by omega) (by decide)
  simp only [nI_1, ckk, ckj, nI_clamp (show k + 1 < 2 ^ 31 by omega), nI_clamp (show j + 1 < 2 ^ 31 by omega), hD (k + 1) (by omega) (by omega), hD (j + 1) (by omega) (by omega)]
  unfold dI
  by_cases c : dr (k + 1) < 96
  · rw [if_pos c, if_neg (nI_m1 (by omega))]
    by_cases c2 : dr (j + 1) < 96
    · have eb : bw (opn sq kd) sq dr (k + 1) (j + 1) = ds (opn sq kd) (dr (k + 1)) (dr (j + 1)) := by unfold bw; rw [p0, p1, if_pos ⟨c, c2⟩]
      rw [if_pos c2, if_neg (nI_m1 (by omega)), ydw, eb]
      obtain ⟨M1, g1, g2, g3⟩ := steps_Y (n := n) hn hY c c2
      have l := ds_le (opn sq kd) c c2
      rw [bnd_e g1]
      by_cases e : ds (opn sq kd) (dr (k + 1)) (dr (j + 1)) = 99
      · rw [e, if_pos (show nI 99 = (99 : Int32) from rfl), if_pos rfl]
        exact ⟨M1, rfl, g2, g3⟩
      · rw [if_neg (show ¬ nI (ds (opn sq kd) (dr (k + 1)) (dr (j + 1))) = (99 : Int32) from fun q => e ((nI_eq (b := 99) (by omega) (by decide)).mp q)), if_neg e]
        exact ⟨M1, rfl, g2, g3⟩
    · have eb : bw (opn sq kd) sq dr (k + 1) (j + 1) = 99 := by unfold bw; rw [p0, p1, if_neg (fun e => c2 e.2)]
      rw [if_neg c2, if_pos rfl, ydw, eb, if_pos rfl]
      exact ⟨M, rfl, Sm.refl, hY⟩
  · have eb : bw (opn sq kd) sq dr (k + 1) (j + 1) = 99 := by unfold bw; rw [p0, p1, if_neg (fun e => c e.1)]
    rw [if_neg c, if_pos rfl, ydw, eb, if_pos rfl]
    exact ⟨M, rfl, Sm.refl, hY⟩
theorem mnf_cong {z : Nat} {f g : Nat → Nat} {set : Nat} : ∀ {j : Nat}, (∀ b, 1 ≤ b → b ≤ j → set.testBit (b - 1) = true → f b = g b) → mnf z f set j = mnf z g set j := by
  intro j
  induction j with
  | zero => intro _; rfl
  | succ j ih =>
    intro h
    simp only [mnf]
    rw [ih (fun b h1 h2 h3 => h b h1 (by omega) h3)]
    by_cases c : set.testBit j = true
    · rw [if_pos c, if_pos c, h (j + 1) (by omega) (by omega) (by rw [show j + 1 - 1 = j by omega]; exact c)]
    · rw [if_neg c, if_neg c]
theorem mnf_none {z : Nat} {f : Nat → Nat} : ∀ j, mnf z f 0 j = z := by
  intro j
  induction j with
  | zero => rfl
  | succ j ih => simp only [mnf]; rw [if_neg (by simp), ih]
def BY (w : Nat → Nat → Nat) (m : Nat) (M : Mem) : Prop := ∀ set, set < m → ∀ k, k < 9 → M.1 24 (9 * set + k) = nI (yv w (pcn set) set (k + 1))
def fY (w : Nat → Nat → Nat) (a set b : Nat) : Nat := ydw w a b + yv w (pcn (set ^^^ 2 ^ (b - 1))) (set ^^^ 2 ^ (b - 1)) b
theorem ydw_le {w : Nat → Nat → Nat} (hw : ∀ a b, w a b ≤ 99) (a b : Nat) : ydw w a b ≤ 1000000 := by
  have := hw a b
  unfold ydw
  split <;> omega
theorem fY_le {w : Nat → Nat → Nat} (hw : ∀ a b, w a b ≤ 99) (a set b : Nat) : fY w a set b ≤ 2000000 := by
  have := ydw_le hw a b
  have := yv_le hw (pcn (set ^^^ 2 ^ (b - 1))) (set ^^^ 2 ^ (b - 1)) b
  unfold fY
  omega
theorem fY_yv {w : Nat → Nat → Nat} {set a m : Nat} (hp : pcn set = m + 1) : mnf 1000000 (fY w a set) set 9 = yv w (pcn set) set a := by
  rw [hp]
  refine mnf_cong fun b h1 h2 h3 => ?_
  have := pcn_flip (show b - 1 < 9 by omega) h3
  unfold fY
  rw [show pcn (set ^^^ 2 ^ (b - 1)) = m by omega]
theorem pcn0 {set : Nat} (hs : set < 512) (h : pcn set = 0) : set = 0 := by
  refine Nat.eq_of_testBit_eq fun i => ?_
  rw [Nat.zero_testBit]
  by_cases c : i < 9
  · exact fb_ct_zero.mp h i c
  · exact Nat.testBit_lt_two_pow (Nat.lt_of_lt_of_le hs (Nat.pow_le_pow_right (n := 2) (by decide) (show 9 ≤ i by omega)))
theorem back_in {sq set k z : Nat} {kd dr : Nat → Nat} (hs : set < 512) (hk : k < 9) (hz : z ≤ 1000000) : ∀ (d j n : Nat) (M : Mem), j + d = 9 → d + 100000 < n → YT sq kd M → DY dr M → BY (bw (opn sq kd) sq dr) set M → (∀ e, e < k → M.1 24 (9 * set + e) = nI (yv (bw (opn sq kd) sq dr) (pcn set) set (e + 1))) → mnf z (fY (bw (opn sq kd) sq dr) (k + 1) set) set 9 = yv (bw (opn sq kd) sq dr) (pcn set) set (k + 1) → ∃ n' M', n' + d + 1 = n ∧ r12_laysBack n 36 [nI set, nI k, nI (mnf z (fY (bw (opn sq kd) sq dr) (k + 1) set) set j), nI j] [] M = r12_laysBack n' 11 [nI set, nI (k + 1)] [] M' ∧ YT sq kd M' ∧ DY dr M' ∧ BY (bw (opn sq kd) sq dr) set M' ∧ ∀ e, e < k + 1 → M'.1 24 (9 * set + e) = nI (yv (bw (opn sq kd) sq dr) (pcn set) set (e + 1)) := by
  have hw : ∀ a b, bw (opn sq kd) sq dr a b ≤ 99 := bw_le
  intro d
  induction d with
  | zero =>
    intro j n M h1 h2 hY hD hB hE hv
    obtain ⟨n, rfl⟩ : ∃ n', n = n' + 1 := ⟨n - 1, by omega⟩
    have : j = 9 := by omega
    subst this
    have hl := yv_le hw (pcn set) set (k + 1)
    rw [e12_laysBack_36]
    unfold b12_laysBack_36
    rw [hv, if_pos (by decide), show (1000000 : Int32) = nI 1000000 from rfl, min_n (by decide) (by omega), bnd_s', show (9 : Int32) * nI set + nI k = nI (9 * set + k) by rw [show (9 : Int32) = nI 9 from rfl, pk_mul, nI_add], chk_in (by omega) (by decide), lt_v, lt_v, nI_1, nI_clamp (by omega)]
    have e : (if yv (bw (opn sq kd) sq dr) (pcn set) set (k + 1) < 1000000 then yv (bw (opn sq kd) sq dr) (pcn set) set (k + 1) else 1000000) = yv (bw (opn sq kd) sq dr) (pcn set) set (k + 1) := by
      split <;> omega
    rw [e]
    refine ⟨n, _, rfl, rfl, ⟨hY.1.keep rfl rfl, hY.2⟩, hD, fun s hs2 c hc => ?_, fun c hc => ?_⟩
    · rw [wI_at, if_pos rfl, if_neg (by omega)]
      exact hB s hs2 c hc
    · rw [wI_at, if_pos rfl]
      by_cases q : c = k
      · rw [if_pos (by omega), q]
      · rw [if_neg (by omega)]; exact hE c (by omega)
  | succ d ih =>
    intro j n M h1 h2 hY hD hB hE hv
    obtain ⟨n, rfl⟩ : ∃ n', n = n' + 1 := ⟨n - 1, by omega⟩
    have hmz := mnf_z (z := z) (f := fY (bw (opn sq kd) sq dr) (k + 1) set) (set := set) j
    rw [e12_laysBack_36]
    unfold b12_laysBack_36 b12_laysBack_84
    rw [if_neg (show ¬ (9 : Int32) ≤ nI j from nI_ge (b := 9) (by omega) (by decide)), bnd_e (has_Y (by omega) (by omega))]
    by_cases c : set.testBit j = true
    · obtain ⟨M1, g1, g2, g3⟩ := door_Y (n := n) (by omega) hY hD hk (show j < 9 by omega)
      have hD1 := g2.dy hD
      have hB1 : BY (bw (opn sq kd) sq dr) set M1 := fun s h k h2 => by rw [(g2.1 24 (by decide)).1]; exact hB s h k h2
      have hE1 : ∀ e, e < k → M1.1 24 (9 * set + e) = nI (yv (bw (opn sq kd) sq dr) (pcn set) set (e + 1)) := fun e he => by rw [(g2.1 24 (by decide)).1]; exact hE e he
      have hfl := flip_lt (j := j) hs (by omega)
      have h24 := hB1 (set ^^^ 2 ^ j) (flip_less c) j (by omega)
      have hf := fY_le hw (k + 1) set (j + 1)
      have hfe : ydw (bw (opn sq kd) sq dr) (k + 1) (j + 1) + yv (bw (opn sq kd) sq dr) (pcn (set ^^^ 2 ^ j)) (set ^^^ 2 ^ j) (j + 1) = fY (bw (opn sq kd) sq dr) (k + 1) set (j + 1) := rfl
      rw [if_pos c, if_neg (by decide), bnd_e g1, shl1 (by omega), drop_bit (by omega) c, show (9 : Int32) * nI (set ^^^ 2 ^ j) + nI j = nI (9 * (set ^^^ 2 ^ j) + j) by rw [show (9 : Int32) = nI 9 from rfl, pk_mul, nI_add], chk_in (by omega) (by decide), nI_clamp (by omega), h24, nI_add, hfe, min_n (by omega) (by omega), bnd_s', lt_v, nI_1]
      obtain ⟨n', M', a1, a2⟩ := ih (j + 1) n M1 (by omega) (by omega) g3 hD1 hB1 hE1 hv
      simp only [mnf] at a2
      rw [if_pos c] at a2
      exact ⟨n', M', by omega, a2⟩
    · rw [if_neg c, if_pos rfl, lt_v, nI_1]
      obtain ⟨n', M', a1, a2⟩ := ih (j + 1) n M (by omega) (by omega) hY hD hB hE hv
      simp only [mnf] at a2
      rw [if_neg c] at a2
      exact ⟨n', M', by omega, a2⟩
theorem back_mid {sq set : Nat} {kd dr : Nat → Nat} (hs : set < 512) : ∀ (d k n : Nat) (M : Mem), k + d = 9 → 20 * d + 100050 < n → YT sq kd M → DY dr M → BY (bw (opn sq kd) sq dr) set M → (∀ e, e < k → M.1 24 (9 * set + e) = nI (yv (bw (opn sq kd) sq dr) (pcn set) set (e + 1))) → ∃ n' M', n ≤ n' + 20 * d + 1 ∧ r12_laysBack n 11 [nI set, nI k] [] M = r12_laysBack n' 2 [nI (set + 1)] [] M' ∧ YT sq kd M' ∧ DY dr M' ∧ BY (bw (opn sq kd) sq dr) (set + 1) M' := by
  have hw : ∀ a b, bw (opn sq kd) sq dr a b ≤ 99 := bw_le
  intro d
  induction d with
  | zero =>
    intro k n M h1 h2 hY hD hB hE
    obtain ⟨n, rfl⟩ : ∃ n', n = n' + 1 := ⟨n - 1, by omega⟩
    have : k = 9 := by omega
    subst this
    rw [e12_laysBack_11]
    unfold b12_laysBack_11
    rw [if_pos (by decide), lt_v, nI_1]
    refine ⟨n, M, by omega, rfl, hY, hD, fun s h2 c hc => ?_⟩
    by_cases e : s = set
    · subst e; exact hE c hc
    · exact hB s (by omega) c hc
  | succ d ih =>
    intro k n M h1 h2 hY hD hB hE
    obtain ⟨n, rfl⟩ : ∃ n', n = n' + 1 := ⟨n - 1, by omega⟩
    have hk : k < 9 := by omega
    rw [e12_laysBack_11]
    unfold b12_laysBack_11 b12_laysBack_32
    rw [if_neg (show ¬ (9 : Int32) ≤ nI k from nI_ge (b := 9) (by omega) (by decide))]
    by_cases c : set = 0
    · subst c
      obtain ⟨M1, g1, g2, g3⟩ := square_Y (n := n) (by omega) hY hD hk
      have hl := ydw_le hw 0 (k + 1)
      have hv : mnf (ydw (bw (opn sq kd) sq dr) 0 (k + 1)) (fY (bw (opn sq kd) sq dr) (k + 1) 0) 0 9 = yv (bw (opn sq kd) sq dr) (pcn 0) 0 (k + 1) := by
        rw [mnf_none, show pcn 0 = 0 by decide]
        show ydw _ 0 (k + 1) = ydw _ (k + 1) 0
        unfold ydw
        rw [bw_symm 0 (k + 1)]
      obtain ⟨n1, M2, a1, a2, a3, a4, a5, a6⟩ := back_in (sq := sq) (kd := kd) (dr := dr) (set := 0) (k := k) (z := ydw (bw (opn sq kd) sq dr) 0 (k + 1)) (by decide) hk hl 9 0 (n + 1) M1 (by omega) (by omega) g3 (g2.dy hD) (fun s h => by omega) (fun e he => by rw [(g2.1 24 (by decide)).1]; exact hE e he) hv
      rw [show mnf (ydw (bw (opn sq kd) sq dr) 0 (k + 1)) (fY (bw (opn sq kd) sq dr) (k + 1) 0) 0 0 = ydw (bw (opn sq kd) sq dr) 0 (k + 1) from rfl, e12_laysBack_36] at a2
      rw [if_pos nI_0, bnd_e g1, show (0 : Int32) = nI 0 from nI_0.symm, a2]
      obtain ⟨n', M', b1, b2⟩ := ih (k + 1) n1 M2 (by omega) (by omega) a3 a4 a5 a6
      exact ⟨n', M', by omega, b2⟩
    · obtain ⟨m, hm⟩ : ∃ m, pcn set = m + 1 := ⟨pcn set - 1, by
        have : pcn set ≠ 0 := fun e => c (pcn0 hs e)
        omega⟩
      obtain ⟨n1, M2, a1, a2, a3, a4, a5, a6⟩ := back_in (sq := sq) (kd := kd) (dr := dr) (z := 1000000) hs hk (Nat.le_refl _) 9 0 (n + 1) M (by omega) (by omega) hY hD hB hE (fY_yv hm)
      rw [show mnf 1000000 (fY (bw (opn sq kd) sq dr) (k + 1) set) set 0 = 1000000 from rfl, nI_0, e12_laysBack_36] at a2
      rw [if_neg (nI_ne0 (by omega) (by omega)), show (1000000 : Int32) = nI 1000000 from rfl, a2]
      obtain ⟨n', M', b1, b2⟩ := ih (k + 1) n1 M2 (by omega) (by omega) a3 a4 a5 a6
      exact ⟨n', M', by omega, b2⟩
theorem back_loop {sq : Nat} {kd dr : Nat → Nat} : ∀ (d set n : Nat) (M : Mem), set + d = 512 → 200 * d + 100500 < n → YT sq kd M → DY dr M → BY (bw (opn sq kd) sq dr) set M → ∃ M', r12_laysBack n 2 [nI set] [] M = some ((), M') ∧ YT sq kd M' ∧ DY dr M' ∧ BY (bw (opn sq kd) sq dr) 512 M' := by
  intro d
  induction d with
  | zero =>
    intro set n M h1 h2 hY hD hB
    obtain ⟨n, rfl⟩ : ∃ n', n = n' + 1 := ⟨n - 1, by omega⟩
    have : set = 512 := by omega
    subst this
    rw [e12_laysBack_2]
    unfold b12_laysBack_2
    rw [if_pos (by decide)]
    exact ⟨M, rfl, hY, hD, hB⟩
  | succ d ih =>
    intro set n M h1 h2 hY hD hB
    obtain ⟨n, rfl⟩ : ∃ n', n = n' + 1 := ⟨n - 1, by omega⟩
    rw [e12_laysBack_2]
    unfold b12_laysBack_2
    obtain ⟨n', M', a1, a2, a3, a4, a5⟩ := back_mid (sq := sq) (kd := kd) (dr := dr) (show set < 512 by omega) 9 0 (n + 1) M (by omega) (by omega) hY hD hB (fun e he => by omega)
    rw [nI_0, e12_laysBack_11] at a2
    rw [if_neg (show ¬ (512 : Int32) ≤ nI set from nI_ge (b := 512) (by omega) (by decide)), a2]
    exact ih (set + 1) n' M' (by omega) (by omega) a3 a4 a5
theorem back_Y {sq n : Nat} {kd dr : Nat → Nat} {M : Mem} (hn : 300000 ≤ n) (hY : YT sq kd M) (hD : DY dr M) : ∃ M', f12_laysBack n M = some ((), M') ∧ YT sq kd M' ∧ DY dr M' ∧ BY (bw (opn sq kd) sq dr) 512 M' := by
  obtain ⟨M', g, h⟩ := back_loop (sq := sq) (kd := kd) (dr := dr) 512 0 (n + 1) M (by omega) (by omega) hY hD (fun s h => by omega)
  rw [nI_0, e12_laysBack_2] at g
  exact ⟨M', g, h⟩
theorem round_loop {sq set : Nat} {kd dr : Nat → Nat} (hs : set < 512) : ∀ (d k n : Nat) (M : Mem), k + d = 9 → d + 100000 < n → YT sq kd M → DY dr M → BY (bw (opn sq kd) sq dr) 512 M → ∃ M', r12_roundBy n 12 [nI set, nI (mnf 1000000 (fY (bw (opn sq kd) sq dr) 0 set) set k), nI k] [] M = some (nI (mnf 1000000 (fY (bw (opn sq kd) sq dr) 0 set) set 9), M') ∧ Sm M M' ∧ YT sq kd M' := by
  have hw : ∀ a b, bw (opn sq kd) sq dr a b ≤ 99 := bw_le
  intro d
  induction d with
  | zero =>
    intro k n M h1 h2 hY hD hB
    obtain ⟨n, rfl⟩ : ∃ n', n = n' + 1 := ⟨n - 1, by omega⟩
    have : k = 9 := by omega
    subst this
    rw [e12_roundBy_12]
    unfold b12_roundBy_12
    rw [if_pos (by decide)]
    exact ⟨M, rfl, Sm.refl, hY⟩
  | succ d ih =>
    intro k n M h1 h2 hY hD hB
    obtain ⟨n, rfl⟩ : ∃ n', n = n' + 1 := ⟨n - 1, by omega⟩
    have hmz := mnf_z (z := 1000000) (f := fY (bw (opn sq kd) sq dr) 0 set) (set := set) k
    rw [e12_roundBy_12]
    unfold b12_roundBy_12 b12_roundBy_54
    rw [if_neg (show ¬ (9 : Int32) ≤ nI k from nI_ge (b := 9) (by omega) (by decide)), bnd_e (has_Y (by omega) (by omega))]
    by_cases c : set.testBit k = true
    · obtain ⟨M1, g1, g2, g3⟩ := square_Y (n := n) (by omega) hY hD (show k < 9 by omega)
      have hB1 : BY (bw (opn sq kd) sq dr) 512 M1 := fun s h k h2 => by rw [(g2.1 24 (by decide)).1]; exact hB s h k h2
      have hfl := flip_lt (j := k) hs (by omega)
      have h24 := hB1 (set ^^^ 2 ^ k) hfl k (by omega)
      have hf := fY_le hw 0 set (k + 1)
      have hfe : ydw (bw (opn sq kd) sq dr) 0 (k + 1) + yv (bw (opn sq kd) sq dr) (pcn (set ^^^ 2 ^ k)) (set ^^^ 2 ^ k) (k + 1) = fY (bw (opn sq kd) sq dr) 0 set (k + 1) := rfl
      rw [if_pos c, if_neg (by decide), bnd_e g1, shl1 (by omega), drop_bit (by omega) c, show (9 : Int32) * nI (set ^^^ 2 ^ k) + nI k = nI (9 * (set ^^^ 2 ^ k) + k) by rw [show (9 : Int32) = nI 9 from rfl, pk_mul, nI_add], chk_in (by omega) (by decide), nI_clamp (by omega), h24, nI_add, hfe, min_n (by omega) (by omega), bnd_s', lt_v, nI_1]
      obtain ⟨M', a2, a3, a4⟩ := ih (k + 1) n M1 (by omega) (by omega) g3 (g2.dy hD) hB1
      simp only [mnf] at a2
      rw [if_pos c] at a2
      exact ⟨M', a2, g2.trans a3, a4⟩
    · rw [if_neg c, if_pos rfl, lt_v, nI_1]
      obtain ⟨M', a2, a3, a4⟩ := ih (k + 1) n M (by omega) (by omega) hY hD hB
      simp only [mnf] at a2
      rw [if_neg c] at a2
      exact ⟨M', a2, a3, a4⟩
theorem round_Y {sq n set m : Nat} {kd dr : Nat → Nat} {M : Mem} (hn : 200000 ≤ n) (hs : set < 512) (hp : pcn set = m + 1) (hY : YT sq kd M) (hD : DY dr M) (hB : BY (bw (opn sq kd) sq dr) 512 M) : ∃ M', f12_roundBy n (nI set) M = some (nI (yv (bw (opn sq kd) sq dr) (pcn set) set 0), M') ∧ Sm M M' ∧ YT sq kd M' := by
  unfold f12_roundBy b12_roundBy_0
  have h0 : set ≠ 0 := fun e => by rw [e, show pcn 0 = 0 by decide] at hp; omega
  obtain ⟨M', a1, a2⟩ := round_loop (sq := sq) (kd := kd) (dr := dr) hs 9 0 (n + 1) M (by omega) (by omega) hY hD hB
  rw [show mnf 1000000 (fY (bw (opn sq kd) sq dr) 0 set) set 0 = 1000000 from rfl, nI_0, e12_roundBy_12, fY_yv hp] at a1
  rw [if_neg (nI_ne0 (by omega) (by omega))]
  exact ⟨M', a1, a2⟩
