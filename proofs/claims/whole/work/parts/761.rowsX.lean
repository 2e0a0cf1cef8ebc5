/-! CALLS: the class's table of rows -/
theorem bw_le {O : Nat → Bool} {sq : Nat} {dr : Nat → Nat} (a b : Nat) : bw O sq dr a b ≤ 99 := by
  unfold bw
  split
  · rename_i h
    have := ds_le O h.1 h.2
    omega
  · exact Nat.le_refl _
theorem bw_symm {O : Nat → Bool} {sq : Nat} {dr : Nat → Nat} (a b : Nat) : bw O sq dr a b = bw O sq dr b a := by
  unfold bw
  by_cases h : pl sq dr a < 96 ∧ pl sq dr b < 96
  · rw [if_pos h, if_pos ⟨h.2, h.1⟩, ds_symm O h.1 h.2]
  · rw [if_neg h, if_neg (fun e => h ⟨e.2, e.1⟩)]
theorem bt_nI (n i : Nat) : bt (nI n) i = (decide (i < 32) && n.testBit i) := by
  unfold bt
  show (BitVec.ofNat 32 n).getLsbD i = _
  rw [BitVec.getLsbD_ofNat]
theorem placeOf_X {sq n k : Nat} {kd dr : Nat → Nat} {M : Mem} (hT : TX sq kd M) (hD : DX dr M) (hk : k < 10) : f5_placeOf n (nI k) M = some (dI (pl sq dr k), M) := by
  unfold f5_placeOf b5_placeOf_0 pl
  by_cases e : k = 0
  · subst e
    rw [if_pos nI_0, if_pos rfl, hT.2.1, dI, if_pos hT.1]
  · rw [if_neg (nI_ne0 (by omega) (by omega)), if_neg e, chk_in hk (by decide), nI_clamp (by omega), hD.1 k (by omega) (by omega)]
theorem DX.keep {dr : Nat → Nat} {M M' : Mem} (h : DX dr M) (h6 : M'.1 6 = M.1 6) (h3 : M'.1 3 8 = M.1 3 8) : DX dr M' := ⟨fun k a b => by rw [h6]; exact h.1 k a b, by rw [h3]; exact h.2⟩
/-- measure -/
theorem meas_in {sq a : Nat} {kd dr : Nat → Nat} (ha : a < 10) : ∀ (d b n : Nat) (M : Mem), b + d = 10 → d + 5 < n → TX sq kd M → DX dr M → (∀ p, p < 96 → M.1 329 p = nI (if pl sq dr a < 96 then ds (opn sq kd) (pl sq dr a) p else 99)) → (∀ c e, c < 10 → e < 10 → (c < a ∨ c = a ∧ e < b) → M.1 328 (10 * c + e) = nI (bw (opn sq kd) sq dr c e)) → ∃ n' M', n' + d + 1 = n ∧ r5_measure n 27 [nI a, nI b] [] M = r5_measure n' 2 [nI (a + 1)] [] M' ∧ TX sq kd M' ∧ DX dr M' ∧ ∀ c e, c < 10 → e < 10 → c < a + 1 → M'.1 328 (10 * c + e) = nI (bw (opn sq kd) sq dr c e) := by
  intro d
  induction d with
  | zero =>
    intro b n M h1 h2 hT hD h9 h8
    obtain ⟨n, rfl⟩ : ∃ n', n = n' + 1 := ⟨n - 1, by omega⟩
    have : b = 10 := by omega
    subst this
    rw [e5_measure_27]
    unfold b5_measure_27
    rw [if_pos (by decide), lt_v, nI_1]
    exact ⟨n, M, rfl, rfl, hT, hD, fun c e hc he hca => h8 c e hc he (by omega)⟩
  | succ d ih =>
    intro b n M h1 h2 hT hD h9 h8
    obtain ⟨n, rfl⟩ : ∃ n', n = n' + 1 := ⟨n - 1, by omega⟩
    have put : ∀ v : Int32, v = nI (bw (opn sq kd) sq dr a b) → ∃ n' M', n' + (d + 1) + 1 = n + 1 ∧ b5_measure_64 (r5_measure n) n (nI a) (nI b) (nI (10 * a + b)) v M = r5_measure n' 2 [nI (a + 1)] [] M' ∧ TX sq kd M' ∧ DX dr M' ∧ ∀ c e, c < 10 → e < 10 → c < a + 1 → M'.1 328 (10 * c + e) = nI (bw (opn sq kd) sq dr c e) := by
      intro v hv
      unfold b5_measure_64
      rw [chk_in (by omega) (by decide), lt_v, lt_v, nI_1, nI_clamp (by omega)]
      obtain ⟨n', M', a1, a2⟩ := ih (b + 1) n (wI M 328 (10 * a + b) v) (by omega) (by omega) (hT.keep rfl rfl) (hD.keep rfl rfl) (fun p hp => h9 p hp) (fun c e hc he hce => by
        rw [wI_at, if_pos rfl]
        by_cases q : 10 * c + e = 10 * a + b
        · rw [if_pos q, hv, show c = a by omega, show e = b by omega]
        · rw [if_neg q]; exact h8 c e hc he (by omega))
      exact ⟨n', M', by omega, a2⟩
    rw [e5_measure_27]
    unfold b5_measure_27
    rw [if_neg (show ¬ (10 : Int32) ≤ nI b from nI_ge (b := 10) (by omega) (by decide)), bnd_e (placeOf_X hT hD (by omega)), show nI a * (10 : Int32) + nI b = nI (10 * a + b) by rw [show (10 : Int32) = nI 10 from rfl, pk_mul, nI_add, Nat.mul_comm]]
    unfold dI
    by_cases c : pl sq dr b < 96
    · rw [if_pos c, if_pos (nI_pos' (by omega)), chk_in c (by decide), nI_clamp (by omega), h9 _ c]
      refine put _ ?_
      unfold bw
      by_cases c2 : pl sq dr a < 96
      · rw [if_pos c2, if_pos ⟨c2, c⟩]
      · rw [if_neg c2, if_neg (fun e => c2 e.1)]
    · rw [if_neg c, if_neg (by decide)]
      refine put _ ?_
      unfold bw
      rw [if_neg (fun e => c e.2)]
      rfl
theorem meas_loop {sq : Nat} {kd dr : Nat → Nat} : ∀ (d a n : Nat) (M : Mem), a + d = 10 → 20 * d + 20000 < n → TX sq kd M → DX dr M → (∀ c e, c < 10 → e < 10 → c < a → M.1 328 (10 * c + e) = nI (bw (opn sq kd) sq dr c e)) → ∃ M', r5_measure n 2 [nI a] [] M = some ((), M') ∧ ∀ c e, c < 10 → e < 10 → M'.1 328 (10 * c + e) = nI (bw (opn sq kd) sq dr c e) := by
  intro d
  induction d with
  | zero =>
    intro a n M h1 h2 hT hD h8
    obtain ⟨n, rfl⟩ : ∃ n', n = n' + 1 := ⟨n - 1, by omega⟩
    have : a = 10 := by omega
    subst this
    rw [e5_measure_2]
    unfold b5_measure_2
    rw [if_pos (by decide)]
    exact ⟨M, rfl, fun c e hc he => h8 c e hc he hc⟩
  | succ d ih =>
    intro a n M h1 h2 hT hD h8
    obtain ⟨n, rfl⟩ : ∃ n', n = n' + 1 := ⟨n - 1, by omega⟩
    have key : ∃ M1, f8_spread n 329 (dI (pl sq dr a)) (2 : Int32) M = some ((), M1) ∧ ∀ p, p < 96 → M1.1 329 p = nI (if pl sq dr a < 96 then ds (opn sq kd) (pl sq dr a) p else 99) := by
      unfold dI
      by_cases c : pl sq dr a < 96
      · obtain ⟨M2, g2, a2⟩ := spread_spec (n := n) (k0 := 329) (f := 2) (by omega) (by decide) (by decide) c hT
        rw [if_pos c]
        exact ⟨M2, g2, fun p hp => by rw [if_pos c, a2 p hp, ds_cong (fl2 hT) c hp]⟩
      · obtain ⟨M2, g2, a2⟩ := spread_m1 (n := n) (k0 := 329) (f := 2) (M := M) (by omega)
        rw [if_neg c]
        exact ⟨M2, g2, fun p hp => by rw [if_neg c, a2 p hp]⟩
    obtain ⟨M1, g1, g2⟩ := key
    have f1 := fr8_spread g1
    rw [e5_measure_2]
    unfold b5_measure_2
    rw [if_neg (show ¬ (10 : Int32) ≤ nI a from nI_ge (b := 10) (by omega) (by decide)), bnd_e (placeOf_X hT hD (by omega)), bnd_e g1]
    obtain ⟨n', M', a1, a2, a3, a4, a5⟩ := meas_in (sq := sq) (kd := kd) (dr := dr) (show a < 10 by omega) 10 0 (n + 1) M1 (by omega) (by omega) (hT.keep (by rw [(f1 3 (by decide) (fun e => by cases e)).1]) (f1 4 (by decide) (fun e => by cases e)).1) (hD.keep (f1 6 (by decide) (fun e => by cases e)).1 (by rw [(f1 3 (by decide) (fun e => by cases e)).1])) g2 (fun c e hc he hce => by rw [(f1 328 (by decide) (fun e => by cases e)).1]; exact h8 c e hc he (by omega))
    rw [nI_0, e5_measure_27] at a2
    rw [a2]
    exact ih (a + 1) n' M' (by omega) (by omega) a3 a4 a5
theorem measure_X {sq n : Nat} {kd dr : Nat → Nat} {M : Mem} (hn : 30000 ≤ n) (hT : TX sq kd M) (hD : DX dr M) : ∃ M', f5_measure n M = some ((), M') ∧ ∀ c e, c < 10 → e < 10 → M'.1 328 (10 * c + e) = nI (bw (opn sq kd) sq dr c e) := by
  obtain ⟨M', g, h⟩ := meas_loop (sq := sq) (kd := kd) (dr := dr) 10 0 (n + 1) M (by omega) (by omega) hT hD (fun c e _ _ h => by omega)
  rw [nI_0, e5_measure_2] at g
  exact ⟨M', g, h⟩
/-- isTold -/
theorem told_iff {dr : Nat → Nat} {M : Mem} {set : Nat} (hD : DX dr M) (hs : set < 512) : ((nI set <<< ((1 : Int32) &&& 31)) &&& ((M.1 3 8) ^^^ (-1 : Int32))) = 0 ↔ tld dr set := by
  obtain ⟨w, w1, w2, w3⟩ := hD.2
  have key : ∀ i, i < 32 → bt ((nI set <<< ((1 : Int32) &&& 31)) &&& ((M.1 3 8) ^^^ (-1 : Int32))) i = ((decide (1 ≤ i) && set.testBit (i - 1)) && !(decide (1 ≤ i) && (decide (i ≤ 9) && decide (dr i < 96)))) := by
    intro i hi
    rw [b_and, b_xor, b_m1 i hi, show (1 : Int32) = nI 1 from rfl, b_shl 1 (by decide) _ hi, w2, bt_nI, bt_nI, w3 i]
    simp [hi, show i - 1 < 32 by omega]
  constructor
  · intro h j hj hb
    have := key (j + 1) (by omega)
    rw [h, b_0, show j + 1 - 1 = j by omega, hb] at this
    simp only [show 1 ≤ j + 1 by omega, show j + 1 ≤ 9 by omega, decide_true, Bool.true_and, Bool.false_eq, Bool.not_eq_false', decide_eq_true_eq] at this
    exact this
  · intro h
    refine b_ext fun i hi => ?_
    rw [key i hi, b_0]
    by_cases c1 : 1 ≤ i
    · by_cases c2 : set.testBit (i - 1) = true
      · have c3 : i - 1 < 9 := by
          refine Nat.lt_of_not_le fun e => ?_
          rw [Nat.testBit_lt_two_pow (Nat.lt_of_lt_of_le hs (Nat.pow_le_pow_right (n := 2) (by decide) e))] at c2
          cases c2
        have := h (i - 1) c3 c2
        rw [show i - 1 + 1 = i by omega] at this
        simp [c1, c2, this, show i ≤ 9 by omega]
      · simp [c2]
    · simp [c1]
theorem told_t {n set : Nat} {dr : Nat → Nat} {M : Mem} (hD : DX dr M) (hs : set < 512) (h : tld dr set) : f5_isTold n (nI set) M = some (1, M) := by
  unfold f5_isTold b5_isTold_0
  rw [if_pos ((told_iff hD hs).mpr h)]
theorem told_f {n set : Nat} {dr : Nat → Nat} {M : Mem} (hD : DX dr M) (hs : set < 512) (h : ¬ tld dr set) : f5_isTold n (nI set) M = some (0, M) := by
  unfold f5_isTold b5_isTold_0
  rw [if_neg (fun e => h ((told_iff hD hs).mp e))]
theorem pcn_bits {set k : Nat} (hs : set < 512) : fb_ct (fun i => set.testBit i) (9 + k) = pcn set := by
  have hz : fb_ct (fun i => set.testBit (9 + i)) k = 0 := fb_ct_zero.mpr (fun i hi => Nat.testBit_lt_two_pow (Nat.lt_of_lt_of_le hs (Nat.pow_le_pow_right (n := 2) (by decide) (show 9 ≤ 9 + i by omega))))
  rw [fb_ct_split, hz]
  rfl
theorem count_X {n set : Nat} {M : Mem} (hs : set < 512) : fZJ6_bitCount_0f7a4 n (nI set) M = some (nI (pcn set), M) := by
  rw [bitI (by omega), show (32 : Nat) = 9 + 23 from rfl, pcn_bits hs]
theorem shl1 {k : Nat} (hk : k < 31) : (1 : Int32) <<< (nI k &&& 31) = nI (2 ^ k) := by
  rw [show (1 : Int32) = nI 1 from rfl, pk_shlN _ k (s_l k (by omega)) (by rw [Nat.one_mul]; exact Nat.pow_lt_pow_right (by decide) (by omega)), Nat.one_mul]
theorem drop_bit {set k : Nat} (hk : k < 31) (h : set.testBit k = true) : nI set &&& (nI (2 ^ k) ^^^ (-1 : Int32)) = nI (set ^^^ 2 ^ k) := by
  refine b_ext fun i hi => ?_
  rw [b_and, b_xor, b_m1 i hi, bt_nI, bt_nI, bt_nI, flip_bit _ _ _ h, Nat.testBit_two_pow]
  simp only [hi, decide_true, Bool.true_and, Bool.xor_true]
  congr 2
  exact decide_eq_decide.mpr (by omega)
theorem tens_e : ∀ i, i < 9 → tensL.getD i 0 = nI (10 ^ i) := by decide
/-- the best row of a set -/
def RT (w : Nat → Nat → Nat) (dr : Nat → Nat) (m : Nat) (M : Mem) : Prop := ∀ set, set < m → tld dr set → ∀ a, a < 10 → M.2 327 (10 * set + a) = lN (bvN w (pcn set) set a)
theorem tld_flip {dr : Nat → Nat} {set j : Nat} (h : tld dr set) (hb : set.testBit j = true) : tld dr (set ^^^ 2 ^ j) := fun i hi hi2 => by
  rw [flip_bit _ _ _ hb] at hi2
  simp only [Bool.and_eq_true] at hi2
  exact h i hi hi2.1
theorem best_loop {w : Nat → Nat → Nat} {dr : Nat → Nat} {set a m : Nat} {M : Mem} (hw : ∀ a b, w a b ≤ 99) (hs : set < 512) (ha : a < 10) (hp : pcn set = m + 1) (ht : tld dr set) (h8 : ∀ c e, c < 10 → e < 10 → M.1 328 (10 * c + e) = nI (w c e)) (hR : RT w dr set M) : ∀ (d b n : Nat), b + d = 9 → d < n → r5_bestRow n 38 [nI set, nI a, nI (m + 1), nI (b + 1)] [lN (mnf 1000000000000000 (fun b => w a b * 1000000000 + b * 10 ^ m + bvN w m (set ^^^ 2 ^ (b - 1)) b) set b)] M = some (lN (bvN w (m + 1) set a), M) := by
  intro d
  induction d with
  | zero =>
    intro b n h1 h2
    obtain ⟨n, rfl⟩ : ∃ n', n = n' + 1 := ⟨n - 1, by omega⟩
    have : b = 9 := by omega
    subst this
    rw [e5_bestRow_38]
    unfold b5_bestRow_38
    rw [if_pos (by decide)]
    rfl
  | succ d ih =>
    intro b n h1 h2
    obtain ⟨n, rfl⟩ : ∃ n', n = n' + 1 := ⟨n - 1, by omega⟩
    have hm : m + 1 ≤ 9 := by rw [← hp]; exact pcn_le set
    have g := ih (b + 1) n (by omega) (by omega)
    rw [e5_bestRow_38]
    unfold b5_bestRow_38 b5_bestRow_119
    rw [if_neg (show ¬ (10 : Int32) ≤ nI (b + 1) from nI_ge (b := 10) (by omega) (by decide)), nI_pred, shl1 (by omega), lt_v]
    by_cases c : set.testBit b = true
    · have hc := pcn_flip (show b < 9 by omega) c
      have hfl := flip_lt (j := b) hs (by omega)
      obtain ⟨C, R, e1, e2, e3⟩ := bv_form hw m (set ^^^ 2 ^ b) (b + 1) hfl (by omega)
      have hp10 : 10 ^ m ≤ 100000000 := Nat.le_trans (Nat.pow_le_pow_right (by decide) (show m ≤ 8 by omega)) (by decide)
      have hwa := hw a (b + 1)
      have hb9 : (b + 1) * 10 ^ m ≤ 9 * 10 ^ m := Nat.mul_le_mul_right _ (by omega)
      have hz := mnf_z (z := 1000000000000000) (f := fun b => w a b * 1000000000 + b * 10 ^ m + bvN w m (set ^^^ 2 ^ (b - 1)) b) (set := set) b
      have row : M.2 327 (10 * (set ^^^ 2 ^ b) + (b + 1)) = lN (bvN w m (set ^^^ 2 ^ b) (b + 1)) := by
        have := hR (set ^^^ 2 ^ b) (flip_less c) (tld_flip ht c) (b + 1) (by omega)
        rw [show pcn (set ^^^ 2 ^ b) = m by omega] at this
        exact this
      rw [if_neg (fun e => by rw [fa_bit (by omega)] at e; rw [e] at c; cases c), drop_bit (by omega) c]
      rw [show nI a * (10 : Int32) + nI (b + 1) = nI (10 * a + (b + 1)) by rw [show (10 : Int32) = nI 10 from rfl, pk_mul, nI_add, Nat.mul_comm], show nI (set ^^^ 2 ^ b) * (10 : Int32) + nI (b + 1) = nI (10 * (set ^^^ 2 ^ b) + (b + 1)) by rw [show (10 : Int32) = nI 10 from rfl, pk_mul, nI_add, Nat.mul_comm]]
      rw [chk_in (by omega) (by decide), nI_pred, chk_in (by omega) (by decide), lt_v, chk_in (by omega) (by decide), lt_v, lt_v, nI_1, nI_clamp (by omega), nI_clamp (by omega), nI_clamp (by omega), row, h8 a (b + 1) ha (by omega), tens_e m (by omega), nI_l (by omega), nI_l (by omega), nI_l (by omega), show (1000000000 : Int64) = lN 1000000000 from rfl, lN_mul, lN_mul, lN_add, lN_add]
      rw [← g]
      simp only [mnf]
      rw [if_pos c, show b + 1 - 1 = b by omega]
      congr 2
      by_cases cl : w a (b + 1) * 1000000000 + (b + 1) * 10 ^ m + bvN w m (set ^^^ 2 ^ b) (b + 1) < mnf 1000000000000000 (fun b => w a b * 1000000000 + b * 10 ^ m + bvN w m (set ^^^ 2 ^ (b - 1)) b) set b
      · rw [if_pos ((pk_lLT (by omega) (by omega)).mpr cl), if_pos cl]
      · rw [if_neg (fun e => cl ((pk_lLT (by omega) (by omega)).mp e)), if_neg cl]
    · rw [if_pos ((fa_bit (by omega)).mpr (ts_nt c)), lt_v, nI_1, ← g]
      simp only [mnf]
      rw [if_neg c]
theorem best_X {w : Nat → Nat → Nat} {dr : Nat → Nat} {n set a : Nat} {M : Mem} (hn : 100 ≤ n) (hw : ∀ a b, w a b ≤ 99) (hs : set < 512) (ha : a < 10) (ht : tld dr set) (h8 : ∀ c e, c < 10 → e < 10 → M.1 328 (10 * c + e) = nI (w c e)) (hR : RT w dr set M) : f5_bestRow n (nI set) (nI a) M = some (lN (bvN w (pcn set) set a), M) := by
  unfold f5_bestRow b5_bestRow_0 b5_bestRow_15
  have hl := pcn_le set
  rw [bnd_e (count_X hs)]
  by_cases c : pcn set = 0
  · have h0 := h8 a 0 ha (by decide)
    have := hw a 0
    rw [c, if_pos nI_0, show nI a * (10 : Int32) = nI (10 * a) by rw [show (10 : Int32) = nI 10 from rfl, pk_mul, Nat.mul_comm], chk_in (by omega) (by decide), nI_clamp (by omega)]
    rw [Nat.add_zero] at h0
    rw [h0, nI_l (by omega), show (1000000000 : Int64) = lN 1000000000 from rfl, lN_mul]
    rfl
  · obtain ⟨m, hm⟩ : ∃ m, pcn set = m + 1 := ⟨pcn set - 1, by omega⟩
    have g := best_loop hw hs ha hm ht h8 hR 9 0 (n + 1) (by omega) (by omega)
    rw [e5_bestRow_38] at g
    rw [hm, if_neg (nI_ne0 (by omega) (by omega)), if_pos (show nI (m + 1) ≤ (9 : Int32) from nI_le (b := 9) (by omega) (by decide))]
    exact g
theorem rows_loop {w : Nat → Nat → Nat} {dr : Nat → Nat} {set : Nat} (hw : ∀ a b, w a b ≤ 99) (hs : set < 512) (ht : tld dr set) : ∀ (d a n : Nat) (M : Mem), a + d = 10 → d + 100 < n → (∀ c e, c < 10 → e < 10 → M.1 328 (10 * c + e) = nI (w c e)) → RT w dr set M → (∀ e, e < a → M.2 327 (10 * set + e) = lN (bvN w (pcn set) set e)) → ∃ M', r5_findRows n 11 [nI set, nI a] [] M = some ((), M') ∧ RT w dr (set + 1) M' := by
  intro d
  induction d with
  | zero =>
    intro a n M h1 h2 h8 hR hE
    obtain ⟨n, rfl⟩ : ∃ n', n = n' + 1 := ⟨n - 1, by omega⟩
    have : a = 10 := by omega
    subst this
    rw [e5_findRows_11]
    unfold b5_findRows_11
    rw [if_pos (by decide)]
    refine ⟨M, rfl, fun s h h2 e he => ?_⟩
    by_cases c : s = set
    · subst c; exact hE e he
    · exact hR s (by omega) h2 e he
  | succ d ih =>
    intro a n M h1 h2 h8 hR hE
    obtain ⟨n, rfl⟩ : ∃ n', n = n' + 1 := ⟨n - 1, by omega⟩
    rw [e5_findRows_11]
    unfold b5_findRows_11
    rw [if_neg (show ¬ (10 : Int32) ≤ nI a from nI_ge (b := 10) (by omega) (by decide)), bnd_e (best_X (by omega) hw hs (by omega) ht h8 hR), show nI set * (10 : Int32) + nI a = nI (10 * set + a) by rw [show (10 : Int32) = nI 10 from rfl, pk_mul, nI_add, Nat.mul_comm], chk_in (by omega) (by decide), lt_v, lt_v, nI_1, nI_clamp (by omega)]
    refine ih (a + 1) n _ (by omega) (by omega) (fun c e hc he => h8 c e hc he) (fun s h h2 e he => ?_) (fun e he => ?_)
    · rw [wJ_at, if_pos rfl, if_neg (by omega)]
      exact hR s h h2 e he
    · rw [wJ_at, if_pos rfl]
      by_cases c : e = a
      · rw [if_pos (by omega), c]
      · rw [if_neg (by omega)]
        exact hE e (by omega)
theorem findRows_X {w : Nat → Nat → Nat} {dr : Nat → Nat} {n set : Nat} {M : Mem} (hn : 300 ≤ n) (hw : ∀ a b, w a b ≤ 99) (hs : set < 512) (hD : DX dr M) (h8 : ∀ c e, c < 10 → e < 10 → M.1 328 (10 * c + e) = nI (w c e)) (hR : RT w dr set M) : ∃ M', f5_findRows n (nI set) M = some ((), M') ∧ RT w dr (set + 1) M' := by
  unfold f5_findRows b5_findRows_0
  by_cases ht : tld dr set
  · rw [bnd_e (told_t hD hs ht), if_neg (by decide)]
    obtain ⟨M', g, h⟩ := rows_loop hw hs ht 10 0 (n + 1) M (by omega) (by omega) h8 hR (fun e he => by omega)
    rw [nI_0, e5_findRows_11] at g
    exact ⟨M', g, h⟩
  · rw [bnd_e (told_f hD hs ht), if_pos rfl]
    refine ⟨M, rfl, fun s h h2 e he => ?_⟩
    by_cases c : s = set
    · subst c; exact absurd h2 ht
    · exact hR s (by omega) h2 e he
theorem table_loop {w : Nat → Nat → Nat} {dr : Nat → Nat} {mi : Int32} (hw : ∀ a b, w a b ≤ 99) : ∀ (d set n : Nat) (M : Mem), set + d = 512 → d + 1000 < n → DX dr M → (∀ c e, c < 10 → e < 10 → M.1 328 (10 * c + e) = nI (w c e)) → RT w dr set M → ∃ n' M', n' + d + 1 = n ∧ r5_choose n 20 [mi, nI set] [] M = b5_choose_49 (r5_choose n') n' mi (wI M' 326 4 (M'.1 3 9)) ∧ RT w dr 512 M' ∧ ∀ k, k ≠ 327 → M'.1 k = M.1 k ∧ M'.2 k = M.2 k := by
  intro d
  induction d with
  | zero =>
    intro set n M h1 h2 hD h8 hR
    obtain ⟨n, rfl⟩ : ∃ n', n = n' + 1 := ⟨n - 1, by omega⟩
    have : set = 512 := by omega
    subst this
    rw [e5_choose_20]
    unfold b5_choose_20
    rw [if_pos (by decide), lt_v]
    exact ⟨n, M, rfl, rfl, hR, fun _ _ => ⟨rfl, rfl⟩⟩
  | succ d ih =>
    intro set n M h1 h2 hD h8 hR
    obtain ⟨n, rfl⟩ : ∃ n', n = n' + 1 := ⟨n - 1, by omega⟩
    obtain ⟨M1, e1, r1⟩ := findRows_X (n := n) (by omega) hw (show set < 512 by omega) hD h8 hR
    have f1 := fr5_findRows e1
    have nl : ∀ k, k ≠ 327 → M1.1 k = M.1 k ∧ M1.2 k = M.2 k := fun k hk => f1 k (by simpa using hk) (fun e => by cases e)
    rw [e5_choose_20]
    unfold b5_choose_20
    rw [if_neg (show ¬ (512 : Int32) ≤ nI set from nI_ge (b := 512) (by omega) (by decide)), bnd_e e1, lt_v, nI_1]
    obtain ⟨n', M', a1, a2, a3, a4⟩ := ih (set + 1) n M1 (by omega) (by omega) (hD.keep (nl 6 (by decide)).1 (by rw [(nl 3 (by decide)).1])) (fun c e hc he => by rw [(nl 328 (by decide)).1]; exact h8 c e hc he) r1
    exact ⟨n', M', by omega, a2, a3, fun k hk => ⟨(a4 k hk).1.trans (nl k hk).1, (a4 k hk).2.trans (nl k hk).2⟩⟩
