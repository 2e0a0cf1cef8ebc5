/-! bitCount, sizes of sets, flood -/
theorem rp85 : rep 85 8 = 6148914691236517205 := by decide
theorem rp51 : rep 51 8 = 3689348814741910323 := by decide
theorem rp15 : rep 15 8 = 1085102592571150095 := by decide
theorem bitJ {n X : Nat} (hX : X < 2 ^ 64) (M : Mem) : fZJ13_bitCount_95d88 n (lN X) M = some (nI (fb_ct (fun i => X.testBit i) 64), M) := by
  obtain ⟨a, b, c, d, e, f, g, h, H, h1, h2⟩ := bits8 X
  have hv1 : pv1 8 X ≤ X := Nat.sub_le _ _
  have hle : (X / 2 &&& rep 85 8) ≤ X := Nat.le_trans Nat.and_le_left (by omega)
  have hv2 : pv2 8 (pv1 8 X) ≤ 7378697629483820646 := by
    unfold pv2
    have x1 : (pv1 8 X &&& rep 51 8) ≤ rep 51 8 := Nat.and_le_right
    have x2 : (pv1 8 X / 4 &&& rep 51 8) ≤ rep 51 8 := Nat.and_le_right
    rw [rp51] at x1 x2 ⊢
    omega
  have hv3 : pv 8 X ≤ 1085102592571150095 := by
    unfold pv pv3
    rw [← rp15]
    exact Nat.and_le_right
  have ht := tail8 H h1
  unfold fZJ13_bitCount_95d88 bZJ13_bitCount_95d88_0
  rw [show (1 : Int32) = nI 1 from rfl, wb_shr hX (by decide), show (6148914691236517205 : Int64) = lN (rep 85 8) from by rw [rp85]; rfl, fb_andL, show (2 : Nat) ^ 1 = 2 from rfl, lN_sub hle, lt_v]
  rw [show X - (X / 2 &&& rep 85 8) = pv1 8 X from rfl]
  generalize hq1 : pv1 8 X = v1 at hv1 hv2 ⊢
  rw [show (2 : Int32) = nI 2 from rfl, wb_shr (show v1 < 2 ^ 64 by omega) (by decide), show (3689348814741910323 : Int64) = lN (rep 51 8) from by rw [rp51]; rfl, fb_andL, fb_andL, show (2 : Nat) ^ 2 = 4 from rfl, lN_add, lt_v]
  rw [show (v1 &&& rep 51 8) + (v1 / 4 &&& rep 51 8) = pv2 8 v1 from rfl]
  have hv3' : pv3 8 (pv2 8 v1) = pv 8 X := by unfold pv; rw [hq1]
  generalize pv2 8 v1 = v2 at hv2 hv3' ⊢
  rw [show (4 : Int32) = nI 4 from rfl, wb_shr (show v2 < 2 ^ 64 by omega) (by decide), lN_add, show (1085102592571150095 : Int64) = lN (rep 15 8) from by rw [rp15]; rfl, fb_andL, show (2 : Nat) ^ 4 = 16 from rfl, lt_v]
  rw [show (v2 + v2 / 16 &&& rep 15 8) = pv 8 X from hv3']
  generalize pv 8 X = v at hv3 h1 ht ⊢
  rw [show (8 : Int32) = nI 8 from rfl, wb_shr (show v < 2 ^ 64 by omega) (by decide), lN_add, show (2 : Nat) ^ 8 = 256 from rfl, lt_v]
  have hw : v + v / 256 ≤ 2 * 1085102592571150095 := by omega
  generalize v + v / 256 = w at hw ht ⊢
  rw [show (16 : Int32) = nI 16 from rfl, wb_shr (show w < 2 ^ 64 by omega) (by decide), lN_add, show (2 : Nat) ^ 16 = 65536 from rfl, lt_v]
  have hu : w + w / 65536 ≤ 4 * 1085102592571150095 := by omega
  generalize w + w / 65536 = u at hu ht ⊢
  rw [show (32 : Int32) = nI 32 from rfl, wb_shr (show u < 2 ^ 64 by omega) (by decide), lN_add, show (2 : Nat) ^ 32 = 4294967296 from rfl, lt_v, lN_i, show (127 : Int32) = nI (2 ^ 7 - 1) from rfl, fa_mask, show (2 : Nat) ^ 7 = 128 from rfl, ht, h2]
theorem rq85 : rep 85 4 = 1431655765 := by decide
theorem rq51 : rep 51 4 = 858993459 := by decide
theorem rq15 : rep 15 4 = 252645135 := by decide
theorem bitI {n X : Nat} (hX : X < 2 ^ 32) (M : Mem) : fZJ6_bitCount_0f7a4 n (nI X) M = some (nI (fb_ct (fun i => X.testBit i) 32), M) := by
  obtain ⟨a, b, c, d, H, h1, h2⟩ := bits4 X
  have hv1 : pv1 4 X ≤ X := Nat.sub_le _ _
  have hle : (X / 2 &&& rep 85 4) ≤ X := Nat.le_trans Nat.and_le_left (by omega)
  have hv2 : pv2 4 (pv1 4 X) ≤ 1717986918 := by
    unfold pv2
    have x1 : (pv1 4 X &&& rep 51 4) ≤ rep 51 4 := Nat.and_le_right
    have x2 : (pv1 4 X / 4 &&& rep 51 4) ≤ rep 51 4 := Nat.and_le_right
    rw [rq51] at x1 x2 ⊢
    omega
  have hv3 : pv 4 X ≤ 252645135 := by
    unfold pv pv3
    rw [← rq15]
    exact Nat.and_le_right
  have ht := tail4 H h1
  unfold fZJ6_bitCount_0f7a4 bZJ6_bitCount_0f7a4_0
  rw [pk_ushrN hX 1 1 (by decide), show (1431655765 : Int32) = nI (rep 85 4) from by rw [rq85]; rfl, fa_and, show (2 : Nat) ^ 1 = 2 from rfl, pk_sub hle, lt_v]
  rw [show X - (X / 2 &&& rep 85 4) = pv1 4 X from rfl]
  generalize hq1 : pv1 4 X = v1 at hv1 hv2 ⊢
  rw [pk_ushrN (show v1 < 2 ^ 32 by omega) 2 2 (by decide), show (858993459 : Int32) = nI (rep 51 4) from by rw [rq51]; rfl, fa_and, fa_and, show (2 : Nat) ^ 2 = 4 from rfl, nI_add, lt_v]
  rw [show (v1 &&& rep 51 4) + (v1 / 4 &&& rep 51 4) = pv2 4 v1 from rfl]
  have hv3' : pv3 4 (pv2 4 v1) = pv 4 X := by unfold pv; rw [hq1]
  generalize pv2 4 v1 = v2 at hv2 hv3' ⊢
  rw [pk_ushrN (show v2 < 2 ^ 32 by omega) 4 4 (by decide), nI_add, show (252645135 : Int32) = nI (rep 15 4) from by rw [rq15]; rfl, fa_and, show (2 : Nat) ^ 4 = 16 from rfl, lt_v]
  rw [show (v2 + v2 / 16 &&& rep 15 4) = pv 4 X from hv3']
  generalize pv 4 X = v at hv3 h1 ht ⊢
  rw [pk_ushrN (show v < 2 ^ 32 by omega) 8 8 (by decide), nI_add, show (2 : Nat) ^ 8 = 256 from rfl, lt_v]
  have hw : v + v / 256 ≤ 2 * 252645135 := by omega
  generalize v + v / 256 = w at hw ht ⊢
  rw [pk_ushrN (show w < 2 ^ 32 by omega) 16 16 (by decide), nI_add, show (2 : Nat) ^ 16 = 65536 from rfl, lt_v, show (63 : Int32) = nI (2 ^ 6 - 1) from rfl, fa_mask, show (2 : Nat) ^ 6 = 64 from rfl, ht, h2]
theorem bl_lN (X i : Nat) : bl (lN X) i = (decide (i < 64) && X.testBit i) := by
  unfold bl
  rw [wb_tb, BitVec.getLsbD_ofNat]
theorem wd_ct {S : Nat → Bool} {o : Nat} {x : Int64} (h : wd S o x) : ∃ X, X < 2 ^ 64 ∧ x = lN X ∧ fb_ct (fun i => X.testBit i) 64 = fb_ct (fun i => S (o + i)) 48 := by
  obtain ⟨X, hX, rfl⟩ := wb_of x
  refine ⟨X, hX, rfl, ?_⟩
  have hb : ∀ i, i < 64 → X.testBit i = (decide (i < 48) && S (o + i)) := fun i hi => by
    have := h i
    rw [bl_lN] at this
    simpa [hi] using this
  have hz : fb_ct (fun k => X.testBit (48 + k)) 16 = 0 := fb_ct_zero.mpr (fun k hk => by rw [hb _ (by omega)]; simp only [Bool.and_eq_false_iff, decide_eq_false_iff_not]; exact Or.inl (by omega))
  rw [show 64 = 48 + 16 from rfl, fb_ct_split, hz, Nat.add_zero]
  exact fb_ct_cong fun k hk => by rw [hb _ (by omega)]; simp [hk]
theorem size2 {n : Nat} {S : Nat → Bool} {x y : Int64} (h : wd S 0 x) (g : wd S 48 y) (M : Mem) : (bnd (fZJ13_bitCount_95d88 n x M) fun r1 M2 => bnd (fZJ13_bitCount_95d88 n y M2) fun r4 M5 => some ((r1 + r4), M5)) = some (nI (fb_ct S 96), M) := by
  obtain ⟨X, hX, rfl, h1⟩ := wd_ct h
  obtain ⟨Y, hY, rfl, h2⟩ := wd_ct g
  rw [bnd_e (bitJ hX M), bnd_e (bitJ hY M), nI_add, h1, h2, show 96 = 48 + 48 from rfl, fb_ct_split]
  simp only [Nat.zero_add]
theorem size_X {n k : Nat} {S : Nat → Bool} {M : Mem} (h : PS k S M) : f4_size n k M = some (nI (fb_ct S 96), M) := by
  unfold f4_size b4_size_0
  obtain ⟨X, hX, e, h1⟩ := wd_ct h.1
  have := size2 (n := n) h.1 h.2 M
  rw [e, bnd_e (bitJ hX M)] at this ⊢
  exact this
theorem sizeWith_X {n k l : Nat} {S T : Nat → Bool} {M : Mem} (h : PS k S M) (g : PS l T M) : f4_sizeWith n k l M = some (nI (fb_ct (fun i => S i || T i) 96), M) := by
  unfold f4_sizeWith b4_sizeWith_0
  have w1 : wd (fun i => S i || T i) 0 (M.2 k 0 ||| M.2 l 0) := fun i => by rw [bl_or, h.1 i, g.1 i, Bool.and_or_distrib_left]
  have w2 : wd (fun i => S i || T i) 48 (M.2 k 1 ||| M.2 l 1) := fun i => by rw [bl_or, h.2 i, g.2 i, Bool.and_or_distrib_left]
  obtain ⟨X, hX, e, h1⟩ := wd_ct w1
  have := size2 (n := n) w1 w2 M
  rw [e, bnd_e (bitJ hX M)] at this ⊢
  exact this
/-! steps: by walks -/
theorem ds_iff {O : Nat → Bool} {s p d : Nat} (hs : s < 96) (hp : p < 96) (hd : d ≤ 98) : ds O s p ≤ d ↔ ∃ e, e ≤ d ∧ wk O s e p := by
  rcases ds_dis O hs p hp with ⟨h1, h2, h3⟩ | ⟨h1, h2⟩
  · exact ⟨fun h => ⟨_, h, h2⟩, fun ⟨e, h, g⟩ => Nat.le_trans (h3 e g) h⟩
  · exact ⟨fun h => by omega, fun ⟨e, h, g⟩ => absurd g (h2 e)⟩
theorem ds_wk {O : Nat → Bool} {s p : Nat} (hs : s < 96) (hp : p < 96) (h : ds O s p ≠ 99) : wk O s (ds O s p) p := by
  rcases ds_dis O hs p hp with ⟨h1, h2, h3⟩ | ⟨h1, h2⟩
  · exact h2
  · exact absurd h1 h
theorem ds_min {O : Nat → Bool} {s p e : Nat} (hs : s < 96) (h : wk O s e p) : ds O s p ≤ e ∧ ds O s p ≤ 95 := by
  rcases ds_dis O hs p (wk_in h).1 with ⟨h1, h2, h3⟩ | ⟨h1, h2⟩
  · exact ⟨h3 e h, h1⟩
  · exact absurd h (h2 e)
theorem ds_zero {O : Nat → Bool} {s p : Nat} (hs : s < 96) (hp : p < 96) (ho : O s = true) : ds O s p ≤ 0 ↔ p = s := by
  rw [ds_iff hs hp (by decide)]
  constructor
  · rintro ⟨e, he, h⟩
    have : e = 0 := by omega
    subst this
    exact h.1
  · rintro rfl
    exact ⟨0, Nat.le_refl _, rfl, ho, hs⟩
theorem ds_step {O : Nat → Bool} {s p d : Nat} (hs : s < 96) (hp : p < 96) (hd : d ≤ 97) : ds O s p ≤ d + 1 ↔ O p = true ∧ (ds O s p ≤ d ∨ ∃ w, w < 4 ∧ bes p w < 96 ∧ ds O s (bes p w) ≤ d) := by
  constructor
  · intro h
    obtain ⟨e, he, hw⟩ := (ds_iff hs hp (by omega)).mp h
    refine ⟨(wk_in hw).2, ?_⟩
    cases e with
    | zero => exact Or.inl (Nat.le_trans (ds_min hs hw).1 (Nat.zero_le _))
    | succ e =>
      obtain ⟨q, v, h1, h2, h3, h4, h5⟩ := hw
      have hq := wk_in h2
      have hb := bes_back q hq.1 v h1 (by rw [h3]; exact h4)
      rw [h3] at hb
      exact Or.inr ⟨(v + 2) % 4, Nat.mod_lt _ (by decide), by rw [hb]; exact hq.1, by rw [hb]; exact Nat.le_trans (ds_min hs h2).1 (by omega)⟩
  · rintro ⟨ho, h | ⟨w, h1, h2, h3⟩⟩
    · omega
    · obtain ⟨e, he, hw⟩ := (ds_iff hs h2 (by omega)).mp h3
      have hb := bes_back p hp w h1 h2
      exact (ds_iff hs hp (by omega)).mpr ⟨e + 1, by omega, bes p w, (w + 2) % 4, Nat.mod_lt _ (by decide), hw, hb, hp, ho⟩
theorem wk_cong {O O' : Nat → Bool} {s : Nat} (h : ∀ p, p < 96 → O p = O' p) : ∀ {d p : Nat}, wk O s d p → wk O' s d p := by
  intro d
  induction d with
  | zero => intro p hw; exact ⟨hw.1, by rw [← h s hw.2.2]; exact hw.2.1, hw.2.2⟩
  | succ d ih =>
    intro p hw
    obtain ⟨q, v, h1, h2, h3, h4, h5⟩ := hw
    exact ⟨q, v, h1, ih h2, h3, h4, by rw [← h p h4]; exact h5⟩
theorem ds_cong {O O' : Nat → Bool} {s p : Nat} (h : ∀ p, p < 96 → O p = O' p) (hs : s < 96) (hp : p < 96) : ds O s p = ds O' s p := by
  refine Dis.eq (D := ds O s) ?_ hs hp
  intro q hq
  rcases ds_dis O hs q hq with ⟨h1, h2, h3⟩ | ⟨h1, h2⟩
  · exact Or.inl ⟨h1, wk_cong h h2, fun e he => h3 e (wk_cong (fun p hp => (h p hp).symm) he)⟩
  · exact Or.inr ⟨h1, fun e he => h2 e (wk_cong (fun p hp => (h p hp).symm) he)⟩
/-- a set, grown within the whole -/
theorem gr_ds {O : Nat → Bool} {s p d : Nat} (hs : s < 96) (hp : p < 96) (hd : d ≤ 97) : (gr (fun q => decide (ds O s q ≤ d)) p && O p) = decide (ds O s p ≤ d + 1) := by
  rw [Bool.eq_iff_iff]
  simp only [Bool.and_eq_true, decide_eq_true_eq, gr_iff hp, ds_step hs hp hd]
  exact And.comm
theorem flood_loop {k l s : Nat} {W : Nat → Bool} (hk : k ≠ l) (hs : s < 96) : ∀ (d i n : Nat) (g : Int32) (M : Mem), i + d = 96 → d < n → PS k (fun q => decide (ds W s q ≤ i)) M → PS l W M → (g = 0 → ∀ q, q < 96 → ds W s q ≤ i ∨ ds W s q = 99) → ∃ M', r4_flood k l n 4 [g, nI i] [] M = some ((), M') ∧ PS k (fun q => decide (ds W s q ≠ 99)) M' := by
  intro d
  induction d with
  | zero =>
    intro i n g M h1 h2 h3 h4 h5
    obtain ⟨n, rfl⟩ : ∃ n', n = n' + 1 := ⟨n - 1, by omega⟩
    have : i = 96 := by omega
    subst this
    rw [e4_flood_4]
    unfold b4_flood_4
    rw [if_pos (by decide)]
    refine ⟨M, rfl, h3.cong fun p hp => decide_eq_decide.mpr ?_⟩
    rcases ds_le W hs hp with e | e <;> omega
  | succ d ih =>
    intro i n g M h1 h2 h3 h4 h5
    obtain ⟨n, rfl⟩ : ∃ n', n = n' + 1 := ⟨n - 1, by omega⟩
    rw [e4_flood_4]
    unfold b4_flood_4
    rw [if_neg (show ¬ (96 : Int32) ≤ nI i from nI_ge (b := 96) (by omega) (by decide))]
    by_cases hg : g = 0
    · rw [if_pos hg]
      refine ⟨M, rfl, h3.cong fun p hp => decide_eq_decide.mpr ?_⟩
      rcases h5 hg p hp with e | e <;> omega
    · rw [if_neg hg, lt_v, lt_v]
      obtain ⟨M1, e1, p1⟩ := grow_X (n := n) h3
      have f1 := fr4_grow e1
      obtain ⟨M2, e2, p2⟩ := meet_X (n := n) p1 (h4.keep (f1 l (by simpa using fun e => hk e.symm) (fun e => by cases e)).2) hk
      have f2 := fr4_meet e2
      have p3 : PS k (fun q => decide (ds W s q ≤ i + 1)) M2 := p2.cong fun p hp => gr_ds hs hp (by omega)
      have p4 : PS l W M2 := (h4.keep (f1 l (by simpa using fun e => hk e.symm) (fun e => by cases e)).2).keep (f2 l (by simpa using fun e => hk e.symm) (fun e => by cases e)).2
      rw [bnd_e e1, bnd_e e2]
      unfold b4_flood_55 b4_flood_60
      simp only [lt_v, nI_1, lg_e]
      by_cases c1 : M.2 k 0 = M2.2 k 0
      · rw [if_pos c1]
        by_cases c2 : M.2 k 1 = M2.2 k 1
        · rw [if_pos c2]
          refine ih (i + 1) n 0 M2 (by omega) (by omega) p3 p4 (fun _ => ?_)
          have same := h3.inj p3 c1 c2
          have all : ∀ j, ∀ q, q < 96 → ds W s q ≤ i + j → i + j ≤ 98 → ds W s q ≤ i := by
            intro j
            induction j with
            | zero => intro q _ h _; exact h
            | succ j ihj =>
              intro q hq h hj
              obtain ⟨ho, h7⟩ := (ds_step hs hq (show i + j ≤ 97 by omega)).mp h
              have s1 : ds W s q ≤ i + 1 := by
                refine (ds_step hs hq (by omega)).mpr ⟨ho, ?_⟩
                rcases h7 with h7 | ⟨w, a1, a2, a3⟩
                · exact Or.inl (ihj q hq h7 (by omega))
                · exact Or.inr ⟨w, a1, a2, ihj _ a2 a3 (by omega)⟩
              have := same q hq
              rw [decide_eq_decide] at this
              exact this.mpr s1
          intro q hq
          rcases ds_le W hs hq with e | e
          · by_cases hi : i ≤ 95
            · have := all (95 - i) q hq (by omega) (by omega)
              exact Or.inl (by omega)
            · exact Or.inl (by omega)
          · exact Or.inr e
        · rw [if_neg c2]
          exact ih (i + 1) n 1 M2 (by omega) (by omega) p3 p4 (fun e => absurd e (by decide))
      · rw [if_neg c1]
        exact ih (i + 1) n 1 M2 (by omega) (by omega) p3 p4 (fun e => absurd e (by decide))
theorem flood_X {n k l s : Nat} {S W : Nat → Bool} {M : Mem} (hn : 100 ≤ n) (hk : k ≠ l) (hs : s < 96) (ho : W s = true) (h : PS k S M) (hS : ∀ p, p < 96 → S p = decide (p = s)) (g : PS l W M) : ∃ M', f4_flood n k l M = some ((), M') ∧ PS k (fun q => decide (ds W s q ≠ 99)) M' := by
  obtain ⟨M', e, p⟩ := flood_loop (W := W) hk hs 96 0 (n + 1) 1 M (by omega) (by omega) (h.cong fun p hp => by rw [hS p hp]; exact decide_eq_decide.mpr (ds_zero hs hp ho).symm) g (fun e => absurd e (by decide))
  rw [nI_0, e4_flood_4] at e
  exact ⟨M', e, p⟩
