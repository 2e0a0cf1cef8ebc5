/-! BENCHES -/
noncomputable def vS (O wn : Nat → Bool) (a b : Nat) : Nat := fb_ct (fun q => nearS O wn a q || nearS O wn b q) 96
def BR (two : Bool) (O wn : Nat → Bool) (v : Nat) (fX sX ms fY sY : Int32) : Prop := (v = 0 ∧ fX = -2 ∧ sX = -2 ∧ (ms = -1 ∨ ms = 0)) ∨ (1 ≤ v ∧ v ≤ 96 ∧ ms = nI v ∧ fY = fX ∧ sY = sX ∧ (two = false → sX = -2) ∧ ∃ a b, a < 96 ∧ b < 96 ∧ O a = true ∧ O b = true ∧ (two = true → a < b) ∧ v = vS O wn a b)
theorem BR.step {two : Bool} {O wn : Nat → Bool} {v a b : Nat} {fX sX ms fY sY sc : Int32} (h : BR two O wn v fX sX ms fY sY) (ha : a < 96) (hb : b < 96) (oa : O a = true) (ob : O b = true) (ht : two = true → a < b) (hs : two = false → sc = -2) : (vS O wn a b ≤ v → (ms < nI (vS O wn a b) → BR two O wn v fX sX (nI (vS O wn a b)) (nI a) sc) ∧ (¬ ms < nI (vS O wn a b) → BR two O wn v fX sX ms fY sY)) ∧ (v < vS O wn a b → ms < nI (vS O wn a b) ∧ BR two O wn (vS O wn a b) (nI a) sc (nI (vS O wn a b)) (nI a) sc) := by
  have hl : vS O wn a b ≤ 96 := fb_ct_le _ _
  refine ⟨fun hu => ⟨fun hm => ?_, fun _ => h⟩, fun hu => ⟨?_, Or.inr ⟨by omega, hl, rfl, rfl, rfl, hs, a, b, ha, hb, oa, ob, ht, rfl⟩⟩⟩
  · rcases h with ⟨h1, h2, h3, h4⟩ | ⟨h1, h2, h3, h4⟩
    · have e : vS O wn a b = 0 := by omega
      rw [e]
      exact Or.inl ⟨h1, h2, h3, Or.inr nI_0⟩
    · rw [h3, nI_ltI (by omega) (by omega)] at hm
      omega
  · rcases h with ⟨h1, h2, h3, h4⟩ | ⟨h1, h2, h3, h4⟩
    · rcases h4 with h4 | h4 <;> rw [h4]
      · exact Int32.lt_of_lt_of_le (show (-1 : Int32) < 0 by decide) (nI_pos' (by omega))
      · exact nI_lt (a := 0) (by omega) (by omega)
    · rw [h3]; exact nI_lt hu (by omega)
def ansB (w : Int32) (v : Nat) (f s : Int32) : Int32 := if v = 0 then -2 else if w = 0 then f else if w = 1 then s else nI v
theorem bits_pair {sq n a b : Nat} {kd : Nat → Nat} {wn : Nat → Bool} {M : Mem} (hn : 100 ≤ n) (hN : NY (fun p => nearS (opn sq kd) wn p) 96 M) (ha : a < 96) (hb : b < 96) : ∃ x y, f12_bitsOf n (M.2 29 a ||| M.2 29 b) M = some (nI x, M) ∧ f12_bitsOf n (M.2 30 a ||| M.2 30 b) M = some (nI y, M) ∧ x + y = vS (opn sq kd) wn a b := by
  have w1 : wd (fun i => nearS (opn sq kd) wn a i || nearS (opn sq kd) wn b i) 0 (M.2 29 a ||| M.2 29 b) := fun i => by rw [bl_or, (hN a ha).1 i, (hN b hb).1 i, Bool.and_or_distrib_left]
  have w2 : wd (fun i => nearS (opn sq kd) wn a i || nearS (opn sq kd) wn b i) 48 (M.2 30 a ||| M.2 30 b) := fun i => by rw [bl_or, (hN a ha).2 i, (hN b hb).2 i, Bool.and_or_distrib_left]
  refine ⟨_, _, bitsOf_Y hn w1, bitsOf_Y hn w2, ?_⟩
  unfold vS
  rw [show 96 = 48 + 48 from rfl, fb_ct_split]
  simp only [Nat.zero_add]
theorem last_Y {two : Bool} {O wn : Nat → Bool} {v : Nat} {w i1 fX sX ms fY sY : Int32} {n : Nat} {M : Mem} (h : BR two O wn v fX sX ms fY sY) : r12_benches (n + 1) 57 [i1, w, fY, sY, ms, nI 96] [] M = some (ansB w v fX sX, M) := by
  rw [e12_benches_57]
  unfold b12_benches_57 ansB
  rw [if_pos (by decide)]
  rcases h with ⟨h1, h2, h3, h4⟩ | ⟨h1, h2, h3, h4, h5, h6⟩
  · rw [if_pos h1, if_neg (by rcases h4 with h4 | h4 <;> rw [h4] <;> decide)]
  · rw [if_neg (show ¬ v = 0 by omega), h3, if_pos (show (1 : Int32) ≤ nI v from nI_le (a := 1) h1 (by omega)), h4, h5]
    by_cases c : w = 0
    · rw [if_pos c, if_pos c]
    · rw [if_neg c, if_neg c]
      by_cases c1 : w = 1
      · rw [if_pos c1, if_pos c1]
      · rw [if_neg c1, if_neg c1]
def XB (v : Nat) (f s : Int32) (X : Mem) : Prop := X.1 27 8 = f ∧ X.1 27 9 = s ∧ X.1 27 10 = nI v
def okB (two : Bool) (O wn : Nat → Bool) (v : Nat) : Prop := v = 0 ∨ ∃ a b, a < 96 ∧ b < 96 ∧ O a = true ∧ O b = true ∧ (two = true → a < b) ∧ v = vS O wn a b
theorem BR.ok {two : Bool} {O wn : Nat → Bool} {v : Nat} {fX sX ms fY sY : Int32} (h : BR two O wn v fX sX ms fY sY) : okB two O wn v := by
  rcases h with ⟨h1, _⟩ | ⟨_, _, _, _, _, _, h⟩
  · exact Or.inl h1
  · exact Or.inr h
theorem BR.le {two : Bool} {O wn : Nat → Bool} {v : Nat} {fX sX ms fY sY : Int32} (h : BR two O wn v fX sX ms fY sY) : v ≤ 96 := by
  rcases h with ⟨h1, _⟩ | ⟨_, h2, _⟩ <;> omega
theorem one_loop {sq : Nat} {kd : Nat → Nat} {wn : Nat → Bool} {w : Int32} {My : Mem} (hY : TY sq kd My) (hN : NY (fun p => nearS (opn sq kd) wn p) 96 My) : ∀ (d i nX nY v : Nat) (fX sX ms fY sY : Int32) (X : Mem), i + d = 96 → d + 100 < nX → 3 * d + 200 < nY → TX sq kd X → (∀ p, p < 96 → PS (35 + p) (nearS (opn sq kd) wn p) X) → XB v fX sX X → (sX = -2) → BR false (opn sq kd) wn v fX sX ms fY sY → ∃ X' v' f' s', r6_setOneBench nX 2 [nI i] [] X = some ((), X') ∧ r12_benches nY 57 [1, w, fY, sY, ms, nI i] [] My = some (ansB w v' f' s', My) ∧ XB v' f' s' X' ∧ okB false (opn sq kd) wn v' ∧ v' ≤ 96 := by
  intro d
  induction d with
  | zero =>
    intro i nX nY v fX sX ms fY sY X h1 h2 h2' hT hP hX hs hB
    obtain ⟨nX, rfl⟩ : ∃ n', nX = n' + 1 := ⟨nX - 1, by omega⟩
    obtain ⟨nY, rfl⟩ : ∃ n', nY = n' + 1 := ⟨nY - 1, by omega⟩
    have : i = 96 := by omega
    subst this
    rw [e6_setOneBench_2, last_Y hB]
    unfold b6_setOneBench_2
    rw [if_pos (by decide)]
    exact ⟨X, v, fX, sX, rfl, rfl, hX, hB.ok, hB.le⟩
  | succ d ih =>
    intro i nX nY v fX sX ms fY sY X h1 h2 h2' hT hP hX hs hB
    obtain ⟨nX, rfl⟩ : ∃ n', nX = n' + 1 := ⟨nX - 1, by omega⟩
    obtain ⟨nY, rfl⟩ : ∃ n', nY = n' + 1 := ⟨nY - 1, by omega⟩
    obtain ⟨nY, rfl⟩ : ∃ n', nY = n' + 1 := ⟨nY - 1, by omega⟩
    have hi : i < 96 := by omega
    have back : ∀ (f s m : Int32), r12_benches (nY + 1) 80 [1, w, f, s, m, nI i, nI (i + 1)] [] My = r12_benches nY 57 [1, w, f, s, m, nI (i + 1)] [] My := by
      intro f s m
      rw [e12_benches_80]
      unfold b12_benches_80 b12_benches_96
      rw [if_pos rfl, nI_1, if_pos (Int32.le_refl _), lt_v]
    rw [e6_setOneBench_2, e12_benches_57]
    unfold b6_setOneBench_2 b6_setOneBench_53 b12_benches_57 b12_benches_78 b12_benches_80 b12_benches_96
    rw [if_neg (show ¬ (96 : Int32) ≤ nI i from nI_ge (b := 96) (by omega) (by decide)), if_neg (show ¬ (96 : Int32) ≤ nI i from nI_ge (b := 96) (by omega) (by decide)), if_pos rfl, if_pos rfl, nI_1, if_neg (nI_ge (show i < i + 1 by omega) (by omega)), bnd_e (isOpen_X hT hi), bnd_e (isOpen_Y hY hi)]
    unfold b12_benches_190 b12_benches_188
    by_cases ho : opn sq kd i = true
    · rw [if_pos ho, if_neg (by decide), if_neg (by decide), bnd_e (isOpen_Y hY hi), if_pos ho, if_neg (by decide), chk_in hi (by decide), chk_in hi (by decide), chk_in hi (by decide), nI_clamp (by omega)]
      obtain ⟨x, y, x1, y1, xy⟩ := bits_pair (n := nY + 1) (by omega) hN hi hi
      rw [bnd_e x1, chk_in hi (by decide), chk_in hi (by decide), bnd_e y1, lt_v, nI_add, xy]
      have hsz : fb_ct (nearS (opn sq kd) wn i) 96 = vS (opn sq kd) wn i i := by
        unfold vS
        exact fb_ct_cong fun k _ => by rw [Bool.or_self]
      have hu : vS (opn sq kd) wn i i ≤ 96 := fb_ct_le _ _
      have hv := hB.le
      rw [bnd_e (size_X (hP i hi)), hX.2.2, hsz]
      obtain ⟨s1, s2⟩ := hB.step (sc := -2) hi hi ho ho (fun e => by cases e) (fun _ => rfl)
      unfold b12_benches_190
      by_cases c : vS (opn sq kd) wn i i ≤ v
      · rw [if_pos (nI_le c (by omega)), lt_v, nI_1]
        by_cases c2 : ms < nI (vS (opn sq kd) wn i i)
        · rw [if_pos c2, if_pos rfl, lt_v, back]
          exact ih (i + 1) nX nY v fX sX _ _ _ X (by omega) (by omega) (by omega) hT hP hX hs ((s1 c).1 c2)
        · rw [if_neg c2, lt_v, back]
          exact ih (i + 1) nX nY v fX sX _ _ _ X (by omega) (by omega) (by omega) hT hP hX hs ((s1 c).2 c2)
      · obtain ⟨t1, t2⟩ := s2 (by omega)
        rw [if_neg (nI_ge (by omega) (by omega)), chk_in hi (by decide), bnd_e (size_X (hP i hi)), lt_v, lt_v, lt_v, nI_1, if_pos t1, if_pos rfl, lt_v, back, hsz]
        refine ih (i + 1) nX nY _ (nI i) (-2) _ _ _ _ (by omega) (by omega) (by omega) (hT.keep rfl rfl) (fun p hp => hP p hp) ⟨rfl, ?_, rfl⟩ rfl t2
        show X.1 27 9 = -2
        rw [hX.2.1, hs]
    · rw [if_neg ho, if_pos rfl, if_pos rfl, lt_v, lt_v, nI_1, back]
      exact ih (i + 1) nX nY v fX sX _ _ _ X (by omega) (by omega) (by omega) hT hP hX hs hB
theorem skip_Y {sq i : Nat} {kd : Nat → Nat} {w f s m : Int32} {My : Mem} (hY : TY sq kd My) (hi : i < 96) (hc : ¬ opn sq kd i = true) : ∀ (d j n : Nat), j + d = 96 → d < n → ∃ n', n' + d + 1 = n ∧ r12_benches n 80 [2, w, f, s, m, nI i, nI j] [] My = r12_benches n' 57 [2, w, f, s, m, nI (i + 1)] [] My := by
  intro d
  induction d with
  | zero =>
    intro j n h1 h2
    obtain ⟨n, rfl⟩ : ∃ n', n = n' + 1 := ⟨n - 1, by omega⟩
    have : j = 96 := by omega
    subst this
    rw [e12_benches_80]
    unfold b12_benches_80 b12_benches_96
    rw [if_neg (by decide), if_pos (by decide), lt_v, nI_1]
    exact ⟨n, rfl, rfl⟩
  | succ d ih =>
    intro j n h1 h2
    obtain ⟨n, rfl⟩ : ∃ n', n = n' + 1 := ⟨n - 1, by omega⟩
    rw [e12_benches_80]
    unfold b12_benches_80 b12_benches_96 b12_benches_190
    rw [if_neg (by decide), if_neg (show ¬ (96 : Int32) ≤ nI j from nI_ge (b := 96) (by omega) (by decide)), bnd_e (isOpen_Y hY hi), if_neg hc, if_pos rfl, lt_v, nI_1]
    obtain ⟨n', a1, a2⟩ := ih (j + 1) n (by omega) (by omega)
    exact ⟨n', by omega, a2⟩
theorem pair_loop {sq i : Nat} {kd : Nat → Nat} {wn : Nat → Bool} {w : Int32} {My : Mem} (hY : TY sq kd My) (hN : NY (fun p => nearS (opn sq kd) wn p) 96 My) (hi : i < 96) (ho : opn sq kd i = true) : ∀ (d j nX nY v : Nat) (fX sX ms fY sY : Int32) (X : Mem), i < j → j + d = 96 → d + 200 < nX → d + 200 < nY → TX sq kd X → (∀ p, p < 96 → PS (35 + p) (nearS (opn sq kd) wn p) X) → XB v fX sX X → BR true (opn sq kd) wn v fX sX ms fY sY → ∃ nX' nY' X' v' f' s' ms' fY' sY', nX' + d + 1 = nX ∧ nY' + d + 1 = nY ∧ r6_setTwoBenches nX 12 [nI i, nI j] [] X = r6_setTwoBenches nX' 2 [nI (i + 1)] [] X' ∧ r12_benches nY 80 [2, w, fY, sY, ms, nI i, nI j] [] My = r12_benches nY' 57 [2, w, fY', sY', ms', nI (i + 1)] [] My ∧ TX sq kd X' ∧ (∀ p, p < 96 → PS (35 + p) (nearS (opn sq kd) wn p) X') ∧ XB v' f' s' X' ∧ BR true (opn sq kd) wn v' f' s' ms' fY' sY' := by
  intro d
  induction d with
  | zero =>
    intro j nX nY v fX sX ms fY sY X h0 h1 h2 h2' hT hP hX hB
    obtain ⟨nX, rfl⟩ : ∃ n', nX = n' + 1 := ⟨nX - 1, by omega⟩
    obtain ⟨nY, rfl⟩ : ∃ n', nY = n' + 1 := ⟨nY - 1, by omega⟩
    have : j = 96 := by omega
    subst this
    rw [e6_setTwoBenches_12, e12_benches_80]
    unfold b6_setTwoBenches_12 b6_setTwoBenches_97 b12_benches_80 b12_benches_96
    rw [if_pos (by decide), lt_v, nI_1, if_neg (by decide), if_pos (by decide), lt_v]
    exact ⟨nX, nY, X, v, fX, sX, ms, fY, sY, rfl, rfl, rfl, rfl, hT, hP, hX, hB⟩
  | succ d ih =>
    intro j nX nY v fX sX ms fY sY X h0 h1 h2 h2' hT hP hX hB
    obtain ⟨nX, rfl⟩ : ∃ n', nX = n' + 1 := ⟨nX - 1, by omega⟩
    obtain ⟨nY, rfl⟩ : ∃ n', nY = n' + 1 := ⟨nY - 1, by omega⟩
    have hj : j < 96 := by omega
    have go : ∀ (v : Nat) (fX sX ms fY sY : Int32) (X : Mem), TX sq kd X → (∀ p, p < 96 → PS (35 + p) (nearS (opn sq kd) wn p) X) → XB v fX sX X → BR true (opn sq kd) wn v fX sX ms fY sY → ∃ nX' nY' X' v' f' s' ms' fY' sY', nX' + (d + 1) + 1 = nX + 1 ∧ nY' + (d + 1) + 1 = nY + 1 ∧ r6_setTwoBenches nX 12 [nI i, nI (j + 1)] [] X = r6_setTwoBenches nX' 2 [nI (i + 1)] [] X' ∧ r12_benches nY 80 [2, w, fY, sY, ms, nI i, nI (j + 1)] [] My = r12_benches nY' 57 [2, w, fY', sY', ms', nI (i + 1)] [] My ∧ TX sq kd X' ∧ (∀ p, p < 96 → PS (35 + p) (nearS (opn sq kd) wn p) X') ∧ XB v' f' s' X' ∧ BR true (opn sq kd) wn v' f' s' ms' fY' sY' := by
      intro v fX sX ms fY sY X hT hP hX hB
      obtain ⟨nX', nY', X', v', f', s', ms', fY', sY', a1, a2, a3⟩ := ih (j + 1) nX nY v fX sX ms fY sY X (by omega) (by omega) (by omega) (by omega) hT hP hX hB
      exact ⟨nX', nY', X', v', f', s', ms', fY', sY', by omega, by omega, a3⟩
    rw [e6_setTwoBenches_12, e12_benches_80]
    unfold b6_setTwoBenches_12 b6_setTwoBenches_91 b12_benches_80 b12_benches_96
    rw [if_neg (show ¬ (96 : Int32) ≤ nI j from nI_ge (b := 96) (by omega) (by decide)), if_neg (show ¬ (2 : Int32) = 1 by decide), if_neg (show ¬ (96 : Int32) ≤ nI j from nI_ge (b := 96) (by omega) (by decide)), bnd_e (isOpen_X hT hi), bnd_e (isOpen_Y hY hi), if_pos ho, if_neg (show ¬ (1 : Int32) = 0 by decide), if_neg (show ¬ (1 : Int32) = 0 by decide), bnd_e (isOpen_X hT hj), bnd_e (isOpen_Y hY hj)]
    unfold b12_benches_190 b12_benches_188
    by_cases hoj : opn sq kd j = true
    · rw [if_pos hoj, if_neg (show ¬ (1 : Int32) = 0 by decide), if_neg (show ¬ (1 : Int32) = 0 by decide), chk_in hi (by decide), chk_in hj (by decide), chk_in hi (by decide), chk_in hj (by decide), nI_clamp (show i < 2 ^ 31 by omega), nI_clamp (show j < 2 ^ 31 by omega)]
      obtain ⟨x, y, x1, y1, xy⟩ := bits_pair (n := nY) (by omega) hN hi hj
      rw [bnd_e x1, chk_in hi (by decide), chk_in hj (by decide), bnd_e y1, lt_v, nI_add, xy]
      have hu : vS (opn sq kd) wn i j ≤ 96 := fb_ct_le _ _
      have hv := hB.le
      have hsz := sizeWith_X (n := nX) (hP i hi) (hP j hj)
      rw [show fb_ct (fun q => nearS (opn sq kd) wn i q || nearS (opn sq kd) wn j q) 96 = vS (opn sq kd) wn i j from rfl] at hsz
      rw [bnd_e hsz, hX.2.2]
      obtain ⟨s1, s2⟩ := hB.step (sc := nI j) hi hj ho hoj (fun _ => h0) (fun e => by cases e)
      unfold b12_benches_190
      by_cases c : vS (opn sq kd) wn i j ≤ v
      · rw [if_pos (nI_le c (by omega)), lt_v, nI_1]
        by_cases c2 : ms < nI (vS (opn sq kd) wn i j)
        · rw [if_pos c2, if_neg (show ¬ (2 : Int32) = 1 by decide), lt_v]
          exact go v fX sX _ _ _ X hT hP hX ((s1 c).1 c2)
        · rw [if_neg c2, lt_v]
          exact go v fX sX _ _ _ X hT hP hX ((s1 c).2 c2)
      · obtain ⟨t1, t2⟩ := s2 (by omega)
        rw [if_neg (nI_ge (by omega) (by omega)), chk_in hi (by decide), chk_in hj (by decide), bnd_e hsz, lt_v, lt_v, lt_v, lt_v, nI_1, if_pos t1, if_neg (show ¬ (2 : Int32) = 1 by decide), lt_v]
        exact go _ (nI i) (nI j) _ _ _ _ (hT.keep rfl rfl) (fun p hp => hP p hp) ⟨rfl, rfl, rfl⟩ t2
    · rw [if_neg hoj, if_pos rfl, if_pos rfl, lt_v, lt_v, nI_1]
      exact go v fX sX _ _ _ X hT hP hX hB
theorem two_loop {sq : Nat} {kd : Nat → Nat} {wn : Nat → Bool} {w : Int32} {My : Mem} (hY : TY sq kd My) (hN : NY (fun p => nearS (opn sq kd) wn p) 96 My) : ∀ (d i nX nY v : Nat) (fX sX ms fY sY : Int32) (X : Mem), i + d = 96 → 100 * d + 500 < nX → 100 * d + 500 < nY → TX sq kd X → (∀ p, p < 96 → PS (35 + p) (nearS (opn sq kd) wn p) X) → XB v fX sX X → BR true (opn sq kd) wn v fX sX ms fY sY → ∃ X' v' f' s', r6_setTwoBenches nX 2 [nI i] [] X = some ((), X') ∧ r12_benches nY 57 [2, w, fY, sY, ms, nI i] [] My = some (ansB w v' f' s', My) ∧ XB v' f' s' X' ∧ okB true (opn sq kd) wn v' ∧ v' ≤ 96 := by
  intro d
  induction d with
  | zero =>
    intro i nX nY v fX sX ms fY sY X h1 h2 h2' hT hP hX hB
    obtain ⟨nX, rfl⟩ : ∃ n', nX = n' + 1 := ⟨nX - 1, by omega⟩
    obtain ⟨nY, rfl⟩ : ∃ n', nY = n' + 1 := ⟨nY - 1, by omega⟩
    have : i = 96 := by omega
    subst this
    rw [e6_setTwoBenches_2, last_Y hB]
    unfold b6_setTwoBenches_2
    rw [if_pos (by decide)]
    exact ⟨X, v, fX, sX, rfl, rfl, hX, hB.ok, hB.le⟩
  | succ d ih =>
    intro i nX nY v fX sX ms fY sY X h1 h2 h2' hT hP hX hB
    obtain ⟨nX, rfl⟩ : ∃ n', nX = n' + 1 := ⟨nX - 1, by omega⟩
    obtain ⟨nY, rfl⟩ : ∃ n', nY = n' + 1 := ⟨nY - 1, by omega⟩
    have hi : i < 96 := by omega
    rw [e6_setTwoBenches_2, e12_benches_57]
    unfold b6_setTwoBenches_2 b12_benches_57 b12_benches_78
    rw [if_neg (show ¬ (96 : Int32) ≤ nI i from nI_ge (b := 96) (by omega) (by decide)), if_neg (show ¬ (96 : Int32) ≤ nI i from nI_ge (b := 96) (by omega) (by decide)), if_neg (show ¬ (2 : Int32) = 1 by decide), lt_v, nI_1, ← e6_setTwoBenches_12, ← e12_benches_80]
    by_cases ho : opn sq kd i = true
    · obtain ⟨nX', nY', X', v', f', s', ms', fY', sY', a1, a2, a3, a4, a5, a6, a7, a8⟩ := pair_loop (w := w) hY hN hi ho d (i + 1) (nX + 1) (nY + 1) v fX sX ms fY sY X (by omega) (by omega) (by omega) (by omega) hT hP hX hB
      rw [a3, a4]
      exact ih (i + 1) nX' nY' v' f' s' ms' fY' sY' X' (by omega) (by omega) (by omega) a5 a6 a7 a8
    · obtain ⟨nY', a1, a2⟩ := skip_Y (w := w) (f := fY) (s := sY) (m := ms) hY hi ho d (i + 1) (nY + 1) (by omega) (by omega)
      rw [a2, e6_setTwoBenches_12]
      unfold b6_setTwoBenches_12 b6_setTwoBenches_97
      have hc : (if (96 : Int32) ≤ nI (i + 1) then (lt (nI i + (1 : Int32)) fun v27 => r6_setTwoBenches nX 2 [v27] [] X) else (bnd (f8_isOpen nX (nI i) X) fun r4 M5 => if r4 = 0 then (lt (nI i + (1 : Int32)) fun v27 => r6_setTwoBenches nX 2 [v27] [] M5) else (none : Option (Unit × Mem)))) = r6_setTwoBenches nX 2 [nI (i + 1)] [] X := by
        rw [bnd_e (isOpen_X hT hi), if_neg ho, if_pos rfl, lt_v, nI_1]
        split <;> rfl
      by_cases ce : (96 : Int32) ≤ nI (i + 1)
      · rw [if_pos ce, lt_v, nI_1]
        exact ih (i + 1) nX nY' v fX sX ms fY sY X (by omega) (by omega) (by omega) hT hP hX hB
      · rw [if_neg ce, bnd_e (isOpen_X hT hi), if_neg ho, if_pos rfl, lt_v, nI_1]
        exact ih (i + 1) nX nY' v fX sX ms fY sY X (by omega) (by omega) (by omega) hT hP hX hB
theorem wornY_loop {w : Nat → Nat} {M : Mem} (hw : ∀ q, q < 96 → w q ≤ 9999) (hx : ∀ q, q < 96 → M.1 1 q = nI (w q)) : ∀ (d i n : Nat) (a m : Int32), i + d = 96 → d < n → ((a = -2 ∧ m = 0 ∧ ∀ q, q < i → w q = 0) ∨ ∃ p, p < 96 ∧ a = nI p) → ∃ r, r12_worn n 7 [a, m, nI i] [] M = some (r, M) ∧ (r = -2 → ∀ q, q < 96 → w q = 0) := by
  intro d
  induction d with
  | zero =>
    intro i n a m h1 h2 h
    obtain ⟨n, rfl⟩ : ∃ n', n = n' + 1 := ⟨n - 1, by omega⟩
    have : i = 96 := by omega
    subst this
    rw [e12_worn_7]
    unfold b12_worn_7
    rw [if_pos (by decide)]
    refine ⟨a, rfl, fun e => ?_⟩
    rcases h with ⟨_, _, h⟩ | ⟨p, hp, h⟩
    · exact h
    · rw [h] at e; exact absurd e (nI_m2 (by omega))
  | succ d ih =>
    intro i n a m h1 h2 h
    obtain ⟨n, rfl⟩ : ∃ n', n = n' + 1 := ⟨n - 1, by omega⟩
    have hi : i < 96 := by omega
    have := hw i hi
    rw [e12_worn_7]
    unfold b12_worn_7 b12_worn_39
    rw [if_neg (show ¬ (96 : Int32) ≤ nI i from nI_ge (b := 96) (by omega) (by decide)), Int32.zero_add, chk_in (by omega) (by decide), nI_clamp (by omega), hx i hi]
    by_cases c : nI (w i) ≤ m
    · rw [if_neg (Int32.not_lt.mpr c), lt_v, nI_1]
      refine ih (i + 1) n a m (by omega) (by omega) (h.imp (fun ⟨e1, e2, e3⟩ => ⟨e1, e2, fun q hq => ?_⟩) id)
      by_cases e : q = i
      · subst e
        refine Decidable.byContradiction fun g => ?_
        rw [e2] at c
        exact nI_nle (by omega) (by omega) c
      · exact e3 q (by omega)
    · rw [if_pos (Int32.not_le.mp c), chk_in (by omega) (by decide), lt_v, lt_v, nI_1]
      exact ih (i + 1) n _ _ (by omega) (by omega) (Or.inr ⟨i, hi, rfl⟩)
/-- PROMISE 22: benches -/
theorem st_benches {Lw : Mem → Mem → Prop} (hL : LwOk Lw) {FU : Nat} (hFU : 10000000 ≤ FU) (t : Nat) (Mx My : Mem) (a0 a1 : Int32) (ht : t < 3072) (h : Inv Lw t Mx My) : ∃ (r : Int32) (Mx' My' : Mem), f11_benches FU a0 a1 Mx = some (r, Mx') ∧ f12_benches FU a0 a1 My = some (r, My') ∧ Inv Lw (t + 6) Mx' My' := by
  have h0 := h
  obtain ⟨⟨⟨sq, kd, dr, h1⟩, h2⟩, h3, h4, h5⟩ := h
  by_cases g : a0 < 1 ∨ 2 < a0 ∨ a1 < 0 ∨ 2 < a1
  · refine ⟨-1, Mx, My, ?_, ?_, h0.same hL⟩
    · unfold f11_benches b11_benches_0 b11_benches_19
      by_cases g1 : a0 < 1
      · rw [if_pos g1]
      · by_cases g2 : 2 < a0
        · rw [if_neg g1, if_pos g2]
        · by_cases g3 : a1 < 0
          · rw [if_neg g1, if_neg g2, if_pos g3]
          · rw [if_neg g1, if_neg g2, if_neg g3, if_neg (Int32.not_le.mpr (((g.resolve_left g1).resolve_left g2).resolve_left g3))]
    · unfold f12_benches b12_benches_0 b12_benches_18
      rw [in_e, bnd_s', in_e, bnd_s']
      by_cases g1 : a0 < 1 ∨ 2 < a0
      · rw [if_pos g1, if_pos rfl]
      · have g2 : a1 < 0 ∨ 2 < a1 := (g.resolve_left (fun e => g1 (Or.inl e))).resolve_left (fun e => g1 (Or.inr e))
        rw [if_neg g1, if_neg (show ¬ (1 : Int32) = 0 by decide), if_pos g2, if_pos rfl]
  · have g1 : ¬ a0 < 1 := fun e => g (Or.inl e)
    have g2 : ¬ 2 < a0 := fun e => g (Or.inr (Or.inl e))
    have g3 : ¬ a1 < 0 := fun e => g (Or.inr (Or.inr (Or.inl e)))
    have g4 : ¬ 2 < a1 := fun e => g (Or.inr (Or.inr (Or.inr e)))
    have ga : a0 = 1 ∨ a0 = 2 := by
      have d1 := g1
      have d2 := g2
      simp only [fa_lt, fa_eq, lt_lit (show 1 < 2 ^ 31 by decide), lt_lit (show 2 < 2 ^ 31 by decide)] at d1 d2 ⊢
      omega
    obtain ⟨w, hw⟩ : ∃ w : Nat → Nat, ∀ q, q < 96 → w q ≤ 9999 ∧ Mx.1 331 q = nI (w q) := by
      refine ⟨fun q => (Mx.1 331 q).toNatClampNeg, fun q hq => ?_⟩
      obtain ⟨v, v1, v2⟩ := h5.2.1.1 q hq
      show (Mx.1 331 q).toNatClampNeg ≤ 9999 ∧ Mx.1 331 q = nI (Mx.1 331 q).toNatClampNeg
      rw [show Mx.1 331 q = nI v from v2, nI_clamp (by omega)]
      exact ⟨v1, rfl⟩
    have hy : ∀ q, q < 96 → My.1 1 q = nI (w q) := fun q hq => by rw [← h5.1.1 q hq]; exact (hw q hq).2
    have hs := h1.1.1
    obtain ⟨X1, x1, x2, x3, x4, x5⟩ := look_X (n := FU) (by omega) (fun q hq => (hw q hq).1) h1.2.2.1.1 (fun q hq => (hw q hq).2)
    obtain ⟨Y1, y1, y2, y3⟩ := near_Y (n := FU) (by omega) (fun q hq => (hw q hq).1) h1.2.1 hy
    have hT1 : TX sq kd X1 := h1.1.keep (by rw [x5 3 (by decide) (by decide)]) (x5 4 (by decide) (by decide))
    obtain ⟨rw0, e1, e2⟩ := wornY_loop (M := My) (fun q hq => (hw q hq).1) hy 96 0 (FU + 1) (-2) 0 (by omega) (by omega) (Or.inl ⟨rfl, rfl, fun q hq => by omega⟩)
    rw [nI_0, e12_worn_7] at e1
    have e1 : f12_worn FU My = some (rw0, My) := e1
    have hop := openPlaces_Y (n := FU) (by omega) h1.2.1.1
    have ho1 : 1 ≤ fb_ct (opn sq kd) 96 := fb_ct_pos.mpr ⟨sq, hs, by simp [opn, kof]⟩
    have hol : fb_ct (opn sq kd) 96 ≤ 96 := fb_ct_le _ _
    -- the answer of the class out of its benches
    have tailX : ∀ (v : Nat) (f s : Int32) (X' : Mem), XB v f s X' → v ≤ 96 → b11_benches_57 (fun _ _ _ _ => none) FU a1 X' = some (ansB a1 v f s, X') := by
      intro v f s X' hX hv
      unfold b11_benches_57 ansB
      rw [hX.1, hX.2.1, hX.2.2]
      by_cases c : v = 0
      · rw [if_pos c, c, if_pos nI_0]
      · rw [if_neg c, if_neg (nI_ne0 (by omega) (by omega))]
        by_cases c0 : a1 = 0
        · rw [if_pos c0, if_pos c0]
        · rw [if_neg c0, if_neg c0]
          by_cases c1 : a1 = 1
          · rw [if_pos c1, if_pos c1]
          · rw [if_neg c1, if_neg c1]
    have nothing : rw0 = -2 → ∀ a b, vS (opn sq kd) (fun q => decide (0 < w q)) a b = 0 := fun e a b => fb_ct_zero.mpr (fun k hk => by
      have := e2 e k hk
      simp [nearS, this])
    have key : ∃ r X' Y', f11_benches FU a0 a1 Mx = some (r, X') ∧ f12_benches FU a0 a1 My = some (r, Y') ∧ YT sq kd Y' ∧ PS 10 (opn sq kd) X' := by
      rcases ga with rfl | rfl
      · obtain ⟨X', v, f, s, b1, b2, b3, b4, b5⟩ := one_loop (w := a1) y2.1 y3 96 0 (FU + 1) (FU + 1) 0 (-2) (-2) (-1) (-2) (-2) X1 (by omega) (by omega) (by omega) hT1 x3 ⟨x4.1, x4.2.1, by rw [x4.2.2]; rfl⟩ rfl (Or.inl ⟨rfl, rfl, rfl, Or.inl rfl⟩)
        rw [nI_0, e6_setOneBench_2] at b1
        rw [nI_0, e12_benches_57] at b2
        have b1 : f6_setOneBench FU X1 = some ((), X') := b1
        have fx := fr6_setOneBench b1
        have hx : f11_benches FU 1 a1 Mx = some (ansB a1 v f s, X') := by
          unfold f11_benches b11_benches_0
          rw [if_neg g1, if_neg g2, if_neg g3, if_pos (Int32.not_lt.mp g4), bnd_e x1, if_pos rfl, bnd_e b1, tailX v f s X' b3 b5]
        have px := x2.keep (fx 10 (by decide) (fun e => by cases e)).2
        unfold f12_benches b12_benches_0 b12_benches_37
        rw [in_e, bnd_s', if_neg (show ¬ ((1 : Int32) < 1 ∨ (2 : Int32) < 1) from fun e => e.elim g1 g2), if_neg (show ¬ (1 : Int32) = 0 by decide), in_e, bnd_s', if_neg (show ¬ (a1 < 0 ∨ 2 < a1) from fun e => e.elim g3 g4), if_neg (show ¬ (1 : Int32) = 0 by decide), bnd_e e1]
        by_cases cw : rw0 = -2
        · rw [if_pos cw]
          have : v = 0 := by
            rcases b4 with b4 | ⟨a, b, _, _, _, _, _, b4⟩
            · exact b4
            · rw [b4, nothing cw]
          refine ⟨_, X', My, hx, ?_, h1.2.1, px⟩
          rw [this]
          rfl
        · rw [if_neg cw, bnd_e hop, if_pos (show (1 : Int32) ≤ nI (fb_ct (opn sq kd) 96) from nI_le (a := 1) ho1 (by omega)), bnd_e y1]
          exact ⟨_, X', Y1, hx, b2, y2, px⟩
      · obtain ⟨X', v, f, s, b1, b2, b3, b4, b5⟩ := two_loop (w := a1) y2.1 y3 96 0 (FU + 1) (FU + 1) 0 (-2) (-2) (-1) (-2) (-2) X1 (by omega) (by omega) (by omega) hT1 x3 ⟨x4.1, x4.2.1, by rw [x4.2.2]; rfl⟩ (Or.inl ⟨rfl, rfl, rfl, Or.inl rfl⟩)
        rw [nI_0, e6_setTwoBenches_2] at b1
        rw [nI_0, e12_benches_57] at b2
        have b1 : f6_setTwoBenches FU X1 = some ((), X') := b1
        have fx := fr6_setTwoBenches b1
        have hx : f11_benches FU 2 a1 Mx = some (ansB a1 v f s, X') := by
          unfold f11_benches b11_benches_0
          rw [if_neg g1, if_neg g2, if_neg g3, if_pos (Int32.not_lt.mp g4), bnd_e x1, if_neg (by decide), bnd_e b1, tailX v f s X' b3 b5]
        have px := x2.keep (fx 10 (by decide) (fun e => by cases e)).2
        unfold f12_benches b12_benches_0 b12_benches_37
        rw [in_e, bnd_s', if_neg (show ¬ ((2 : Int32) < 1 ∨ (2 : Int32) < 2) from fun e => e.elim g1 g2), if_neg (show ¬ (1 : Int32) = 0 by decide), in_e, bnd_s', if_neg (show ¬ (a1 < 0 ∨ 2 < a1) from fun e => e.elim g3 g4), if_neg (show ¬ (1 : Int32) = 0 by decide), bnd_e e1]
        by_cases cw : rw0 = -2
        · rw [if_pos cw]
          have : v = 0 := by
            rcases b4 with b4 | ⟨a, b, _, _, _, _, _, b4⟩
            · exact b4
            · rw [b4, nothing cw]
          refine ⟨_, X', My, hx, ?_, h1.2.1, px⟩
          rw [this]
          rfl
        · rw [if_neg cw, bnd_e hop]
          by_cases c2 : 2 ≤ fb_ct (opn sq kd) 96
          · rw [if_pos (show (2 : Int32) ≤ nI (fb_ct (opn sq kd) 96) from nI_le (a := 2) c2 (by omega)), bnd_e y1]
            exact ⟨_, X', Y1, hx, b2, y2, px⟩
          · rw [if_neg (show ¬ (2 : Int32) ≤ nI (fb_ct (opn sq kd) 96) from nI_ge (b := 2) (by omega) (by decide))]
            have : v = 0 := by
              rcases b4 with b4 | ⟨a, b, ha, hb, oa, ob, hab, b4⟩
              · exact b4
              · exfalso
                have hab := hab rfl
                have c3 : 0 < fb_ct (opn sq kd) (a + 1) := fb_ct_pos.mpr ⟨a, by omega, oa⟩
                have c4 := fb_ct_mono (opn sq kd) (show a + 1 ≤ b by omega)
                have c5 := fb_ct_mono (opn sq kd) (show b + 1 ≤ 96 by omega)
                rw [fb_ct_succ, if_pos ob] at c5
                omega
            refine ⟨_, X', My, hx, ?_, h1.2.1, px⟩
            rw [this]
            rfl
    obtain ⟨r, X', Y', x, y, hY, px⟩ := key
    have fx := fr11_benches x
    have fy := fr12_benches y
    have qy := fq12_benches y
    exact ⟨r, X', Y', x, y, Inv.ask hL h1 h2 (h3.keep (by rw [(fx 1 (by decide) (fun _ => by decide)).1]) (fx 2 (by decide) (fun _ => by decide)).1 (qy 0 11 (by decide) (by decide)) (fy 8 (by decide) (fun e => by cases e)).1) h4 h5 (QXt.of fx (by decide)) px (QXr.of fx (by decide)) (QY.of fy qy (by decide) (by decide)) hY (fy 5 (by decide) (fun e => by cases e)).1⟩
