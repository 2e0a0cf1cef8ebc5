/-! sets of places: bits of two longs -/
def bl (x : Int64) (i : Nat) : Bool := x.toBitVec.getLsbD i
theorem bl_ext {x y : Int64} (h : ∀ i, i < 64 → bl x i = bl y i) : x = y := Int64.toBitVec_inj.mp (BitVec.eq_of_getLsbD_eq (fun i hi => h i hi))
theorem bl_or (x y : Int64) (i : Nat) : bl (x ||| y) i = (bl x i || bl y i) := by unfold bl; rw [Int64.toBitVec_or, BitVec.getLsbD_or]
theorem bl_and (x y : Int64) (i : Nat) : bl (x &&& y) i = (bl x i && bl y i) := by unfold bl; rw [Int64.toBitVec_and, BitVec.getLsbD_and]
theorem bl_xor (x y : Int64) (i : Nat) : bl (x ^^^ y) i = (bl x i ^^ bl y i) := by unfold bl; rw [Int64.toBitVec_xor, BitVec.getLsbD_xor]
theorem bl_big {x : Int64} {i : Nat} (h : 64 ≤ i) : bl x i = false := BitVec.getLsbD_of_ge _ _ h
theorem bl_m1 : ∀ i, i < 64 → bl (-1) i = true := by decide +kernel
theorem bl_0 (i : Nat) : bl 0 i = false := BitVec.getLsbD_zero
theorem bl_sl : ∀ n, n < 64 → (((nI n).toInt64 &&& 63).toBitVec.smod 64).toNat = n := by decide +kernel
theorem bl_su : ∀ n, n < 64 → (((nI n).toInt64.toUInt64 &&& Int64.toUInt64 63).toBitVec % 64).toNat = n := by decide +kernel
theorem bl_shl (n : Nat) (hn : n < 64) (x : Int64) {i : Nat} (hi : i < 64) : bl (x <<< ((nI n).toInt64 &&& 63)) i = (decide (n ≤ i) && bl x (i - n)) := by
  unfold bl
  rw [Int64.toBitVec_shiftLeft]
  show (x.toBitVec <<< (((nI n).toInt64 &&& 63).toBitVec.smod 64).toNat).getLsbD i = _
  rw [bl_sl n hn, BitVec.getLsbD_shiftLeft]
  rcases Nat.lt_or_ge i n with h | h
  · simp [h, Nat.not_le.mpr h]
  · simp [hi, h, Nat.not_lt.mpr h]
theorem bl_ushr (n : Nat) (hn : n < 64) (x : Int64) (i : Nat) : bl ((x.toUInt64 >>> ((nI n).toInt64.toUInt64 &&& Int64.toUInt64 63)).toInt64) i = bl x (n + i) := by
  show (x.toUInt64 >>> ((nI n).toInt64.toUInt64 &&& Int64.toUInt64 63)).toBitVec.getLsbD i = x.toUInt64.toBitVec.getLsbD (n + i)
  rw [UInt64.toBitVec_shiftRight]
  show (x.toUInt64.toBitVec >>> (((nI n).toInt64.toUInt64 &&& Int64.toUInt64 63).toBitVec % 64).toNat).getLsbD i = _
  rw [bl_su n hn, BitVec.getLsbD_ushiftRight]
theorem bl_one : ∀ n, n < 64 → ∀ i, i < 64 → bl ((1 : Int64) <<< ((nI n).toInt64 &&& 63)) i = decide (i = n) := by decide +kernel
theorem bl_mL : ∀ i, i < 64 → bl (-140771856484353) i = !(decide (i < 48) && decide (i % 12 = 11)) := by decide +kernel
theorem bl_mF : ∀ i, i < 64 → bl (-68736258050) i = !(decide (i < 48) && decide (i % 12 = 0)) := by decide +kernel
theorem bl_mA : ∀ i, i < 64 → bl 281474976710655 i = decide (i < 48) := by decide +kernel
theorem bl_mR : ∀ i, i < 64 → bl 4095 i = decide (i < 12) := by decide +kernel
/-- a word that holds 48 places of a set, from o on -/
def wd (S : Nat → Bool) (o : Nat) (x : Int64) : Prop := ∀ i, bl x i = (decide (i < 48) && S (o + i))
theorem wd_of {S : Nat → Bool} {o : Nat} {x : Int64} (h : ∀ i, i < 64 → bl x i = (decide (i < 48) && S (o + i))) : wd S o x := fun i => by
  by_cases hi : i < 64
  · exact h i hi
  · rw [bl_big (by omega), decide_eq_false (by omega), Bool.false_and]
/-- cell k holds the set S -/
def PS (k : Nat) (S : Nat → Bool) (M : Mem) : Prop := wd S 0 (M.2 k 0) ∧ wd S 48 (M.2 k 1)
theorem PS.cong {k : Nat} {S T : Nat → Bool} {M : Mem} (h : PS k S M) (e : ∀ p, p < 96 → S p = T p) : PS k T M := by
  refine ⟨fun i => ?_, fun i => ?_⟩
  · rw [h.1 i]
    by_cases hi : i < 48
    · rw [e _ (by omega)]
    · simp [hi]
  · rw [h.2 i]
    by_cases hi : i < 48
    · rw [e _ (by omega)]
    · simp [hi]
theorem PS.uniq {k k' : Nat} {S T : Nat → Bool} {M M' : Mem} (h : PS k S M) (h' : PS k' T M') (e : ∀ p, p < 96 → S p = T p) : M.2 k 0 = M'.2 k' 0 ∧ M.2 k 1 = M'.2 k' 1 := by
  have h2 := h.cong e
  exact ⟨bl_ext fun i _ => by rw [h2.1 i, h'.1 i], bl_ext fun i _ => by rw [h2.2 i, h'.2 i]⟩
theorem PS.inj {k k' : Nat} {S T : Nat → Bool} {M M' : Mem} (h : PS k S M) (h' : PS k' T M') (e1 : M.2 k 0 = M'.2 k' 0) (e2 : M.2 k 1 = M'.2 k' 1) : ∀ p, p < 96 → S p = T p := by
  intro p hp
  by_cases h48 : p < 48
  · have a := h.1 p
    have b := h'.1 p
    rw [e1, b] at a
    simpa [h48] using a.symm
  · have a := h.2 (p - 48)
    have b := h'.2 (p - 48)
    rw [e2, b] at a
    simpa [show p - 48 < 48 by omega, show 48 + (p - 48) = p by omega] using a.symm
theorem PS.keep {k : Nat} {S : Nat → Bool} {M M' : Mem} (h : PS k S M) (e : M'.2 k = M.2 k) : PS k S M' := by unfold PS; rw [e]; exact h
theorem clear_X {n k : Nat} (M : Mem) : ∃ M', f4_clear n k M = some ((), M') ∧ PS k (fun _ => false) M' := by
  unfold f4_clear b4_clear_0
  rw [lt_v, lt_v]
  refine ⟨_, rfl, wd_of fun i hi => ?_, wd_of fun i hi => ?_⟩
  · simp only [wJ_at, if_true, if_neg (show ¬ (0 : Nat) = 1 by decide), bl_0, Bool.and_false]
  · simp only [wJ_at, if_true, bl_0, Bool.and_false]
theorem add_X {n k p : Nat} {S : Nat → Bool} {M : Mem} (h : PS k S M) (hp : p < 96) : ∃ M', f4_add n k (nI p) M = some ((), M') ∧ PS k (fun i => S i || decide (i = p)) M' := by
  unfold f4_add b4_add_0
  by_cases h48 : 48 ≤ p
  · rw [if_pos (show (48 : Int32) ≤ nI p from nI_le (a := 48) h48 (by omega)), lt_v, show nI p - (48 : Int32) = nI (p - 48) from pk_sub (b := 48) h48]
    refine ⟨_, rfl, wd_of fun i hi => ?_, wd_of fun i hi => ?_⟩
    · simp only [wJ_at, if_true, if_neg (show ¬ (0 : Nat) = 1 by decide), h.1 i]
      by_cases h1 : i < 48
      · simp [h1, show ¬ i = p by omega]
      · simp [h1]
    · simp only [wJ_at, if_true]
      rw [bl_or, h.2 i, bl_one _ (by omega) _ hi]
      by_cases h1 : i < 48
      · simp only [h1, decide_true, Bool.true_and]
        congr 1
        exact decide_eq_decide.mpr (by omega)
      · simp [h1, show ¬ i = p - 48 by omega]
  · rw [if_neg (show ¬ (48 : Int32) ≤ nI p from nI_ge (b := 48) (by omega) (by decide)), lt_v]
    refine ⟨_, rfl, wd_of fun i hi => ?_, wd_of fun i hi => ?_⟩
    · simp only [wJ_at, if_true]
      rw [bl_or, h.1 i, bl_one _ (by omega) _ hi]
      by_cases h1 : i < 48
      · simp [h1]
      · simp [h1, show ¬ i = p by omega]
    · simp only [wJ_at, if_true, if_neg (show ¬ (1 : Nat) = 0 by decide), h.2 i]
      by_cases h1 : i < 48
      · simp [h1, show ¬ 48 + i = p by omega]
      · simp [h1]
theorem drop_X {n k p : Nat} {S : Nat → Bool} {M : Mem} (h : PS k S M) (hp : p < 96) : ∃ M', f4_drop n k (nI p) M = some ((), M') ∧ PS k (fun i => S i && !decide (i = p)) M' := by
  unfold f4_drop b4_drop_0
  by_cases h48 : 48 ≤ p
  · rw [if_pos (show (48 : Int32) ≤ nI p from nI_le (a := 48) h48 (by omega)), lt_v, show nI p - (48 : Int32) = nI (p - 48) from pk_sub (b := 48) h48]
    refine ⟨_, rfl, wd_of fun i hi => ?_, wd_of fun i hi => ?_⟩
    · simp only [wJ_at, if_true, if_neg (show ¬ (0 : Nat) = 1 by decide), h.1 i]
      by_cases h1 : i < 48
      · simp [h1, show ¬ i = p by omega]
      · simp [h1]
    · simp only [wJ_at, if_true]
      rw [bl_and, h.2 i, bl_xor, bl_one _ (by omega) _ hi, bl_m1 i hi]
      by_cases h1 : i < 48
      · have e : decide (i = p - 48) = decide (48 + i = p) := decide_eq_decide.mpr (by omega)
        simp [h1, e]
      · simp [h1]
  · rw [if_neg (show ¬ (48 : Int32) ≤ nI p from nI_ge (b := 48) (by omega) (by decide)), lt_v]
    refine ⟨_, rfl, wd_of fun i hi => ?_, wd_of fun i hi => ?_⟩
    · simp only [wJ_at, if_true]
      rw [bl_and, h.1 i, bl_xor, bl_one _ (by omega) _ hi, bl_m1 i hi]
      by_cases h1 : i < 48
      · simp [h1]
      · simp [h1]
    · simp only [wJ_at, if_true, if_neg (show ¬ (1 : Nat) = 0 by decide), h.2 i]
      by_cases h1 : i < 48
      · simp [h1, show ¬ 48 + i = p by omega]
      · simp [h1]
theorem lg_e (a b : Int64) : lg_cmp a b = 0 ↔ a = b := by
  unfold lg_cmp
  by_cases h : a = b
  · subst h
    simp [Int64.lt_irrefl]
  · simp only [h, if_false, iff_false]
    split <;> decide
theorem lg_bit (x : Int64) : lg_cmp (x &&& 1) 0 = 0 ↔ bl x 0 = false := by
  have h1 : lg_cmp (x &&& 1) 0 = 0 ↔ x &&& 1 = 0 := lg_e _ _
  rw [h1]
  constructor
  · intro h
    have := congrArg (fun y => bl y 0) h
    simp only [bl_and, bl_0] at this
    simpa [show bl 1 0 = true by decide] using this
  · intro h
    refine bl_ext fun i hi => ?_
    rw [bl_and, bl_0]
    by_cases e : i = 0
    · rw [e, h, Bool.false_and]
    · rw [(by decide +kernel : ∀ i, i < 64 → ¬ i = 0 → bl 1 i = false) i hi e, Bool.and_false]
theorem has_X {n k p : Nat} {S : Nat → Bool} {M : Mem} (h : PS k S M) (hp : p < 96) : f4_has n k (nI p) M = some (if S p then 1 else 0, M) := by
  unfold f4_has b4_has_0 b4_has_24
  by_cases h48 : 48 ≤ p
  · rw [if_pos (show (48 : Int32) ≤ nI p from nI_le (a := 48) h48 (by omega)), show nI p - (48 : Int32) = nI (p - 48) from pk_sub (b := 48) h48]
    have e := lg_bit (((M.2 k 1).toUInt64 >>> ((nI (p - 48)).toInt64.toUInt64 &&& Int64.toUInt64 63)).toInt64)
    rw [bl_ushr _ (by omega), h.2, show p - 48 + 0 = p - 48 from rfl, show 48 + (p - 48) = p by omega] at e
    simp only [show p - 48 < 48 by omega, decide_true, Bool.true_and] at e
    by_cases hc : S p = true
    · rw [if_neg (fun q => by rw [e.mp q] at hc; cases hc), if_pos hc]
    · rw [if_pos (e.mpr (by simpa using hc)), if_neg hc]
  · rw [if_neg (show ¬ (48 : Int32) ≤ nI p from nI_ge (b := 48) (by omega) (by decide))]
    have e := lg_bit (((M.2 k 0).toUInt64 >>> ((nI p).toInt64.toUInt64 &&& Int64.toUInt64 63)).toInt64)
    rw [bl_ushr _ (by omega), h.1, Nat.add_zero, Nat.zero_add] at e
    simp only [show p < 48 by omega, decide_true, Bool.true_and] at e
    by_cases hc : S p = true
    · rw [if_neg (fun q => by rw [e.mp q] at hc; cases hc), if_pos hc]
    · rw [if_pos (e.mpr (by simpa using hc)), if_neg hc]
theorem take_X {n k l : Nat} {S : Nat → Bool} {M : Mem} (h : PS l S M) (hk : k ≠ l) : ∃ M', f4_take n k l M = some ((), M') ∧ PS k S M' := by
  unfold f4_take b4_take_0
  rw [lt_v, lt_v]
  refine ⟨_, rfl, fun i => ?_, fun i => ?_⟩
  · simp only [wJ_at, if_true, if_neg (show ¬ (0 : Nat) = 1 by decide)]; exact h.1 i
  · simp only [wJ_at, if_true, if_neg (fun e : l = k => hk e.symm)]; exact h.2 i
theorem join_X {n k l : Nat} {S T : Nat → Bool} {M : Mem} (h : PS k S M) (g : PS l T M) (hk : k ≠ l) : ∃ M', f4_join n k l M = some ((), M') ∧ PS k (fun i => S i || T i) M' := by
  unfold f4_join b4_join_0
  rw [lt_v, lt_v]
  refine ⟨_, rfl, fun i => ?_, fun i => ?_⟩
  · simp only [wJ_at, if_true, if_neg (show ¬ (0 : Nat) = 1 by decide)]
    rw [bl_or, h.1 i, g.1 i, Bool.and_or_distrib_left]
  · simp only [wJ_at, if_true, if_neg (fun e : l = k => hk e.symm), if_neg (show ¬ (1 : Nat) = 0 by decide)]
    rw [bl_or, h.2 i, g.2 i, Bool.and_or_distrib_left]
theorem meet_X {n k l : Nat} {S T : Nat → Bool} {M : Mem} (h : PS k S M) (g : PS l T M) (hk : k ≠ l) : ∃ M', f4_meet n k l M = some ((), M') ∧ PS k (fun i => S i && T i) M' := by
  unfold f4_meet b4_meet_0
  rw [lt_v, lt_v]
  refine ⟨_, rfl, fun i => ?_, fun i => ?_⟩
  · simp only [wJ_at, if_true, if_neg (show ¬ (0 : Nat) = 1 by decide)]
    rw [bl_and, h.1 i, g.1 i]
    cases decide (i < 48) <;> simp
  · simp only [wJ_at, if_true, if_neg (fun e : l = k => hk e.symm), if_neg (show ¬ (1 : Nat) = 0 by decide)]
    rw [bl_and, h.2 i, g.2 i]
    cases decide (i < 48) <;> simp
theorem turn_X {n k l : Nat} {S T : Nat → Bool} {M : Mem} (h : PS k S M) (g : PS l T M) (hk : k ≠ l) : ∃ M', f4_turnWithin n k l M = some ((), M') ∧ PS k (fun i => T i && !S i) M' := by
  unfold f4_turnWithin b4_turnWithin_0
  rw [lt_v, lt_v]
  refine ⟨_, rfl, wd_of fun i hi => ?_, wd_of fun i hi => ?_⟩
  · simp only [wJ_at, if_true, if_neg (show ¬ (0 : Nat) = 1 by decide)]
    rw [bl_and, bl_xor, h.1 i, g.1 i, bl_m1 i hi]
    cases decide (i < 48) <;> simp
  · simp only [wJ_at, if_true, if_neg (fun e : l = k => hk e.symm), if_neg (show ¬ (1 : Nat) = 0 by decide)]
    rw [bl_and, bl_xor, h.2 i, g.2 i, bl_m1 i hi]
    cases decide (i < 48) <;> simp
/-- a set and all that is beside it -/
def gr (S : Nat → Bool) (p : Nat) : Bool := S p || (decide (12 ≤ p) && S (p - 12)) || (decide (p % 12 < 11) && S (p + 1)) || (decide (p < 84) && S (p + 12)) || (decide (0 < p % 12) && S (p - 1))
theorem gr_iff {S : Nat → Bool} {p : Nat} (hp : p < 96) : gr S p = true ↔ S p = true ∨ ∃ w, w < 4 ∧ bes p w < 96 ∧ S (bes p w) = true := by
  unfold gr
  simp only [Bool.or_eq_true, Bool.and_eq_true, decide_eq_true_eq]
  constructor
  · rintro ((((h | h) | h) | h) | h)
    · exact Or.inl h
    · exact Or.inr ⟨0, by decide, by simp only [bes, if_true, h.1]; omega, by simp only [bes, if_true, h.1]; exact h.2⟩
    · exact Or.inr ⟨1, by decide, by simp [bes, h.1]; omega, by simp [bes, h.1, h.2]⟩
    · exact Or.inr ⟨2, by decide, by simp [bes, h.1]; omega, by simp [bes, h.1, h.2]⟩
    · exact Or.inr ⟨3, by decide, by simp [bes, h.1]; omega, by simp [bes, h.1, h.2]⟩
  · rintro (h | ⟨w, hw, hb, h⟩)
    · exact Or.inl (Or.inl (Or.inl (Or.inl h)))
    · have hw : w = 0 ∨ w = 1 ∨ w = 2 ∨ w = 3 := by omega
      rcases hw with rfl | rfl | rfl | rfl
      · by_cases c : 12 ≤ p
        · simp [bes, c] at h; simp [c, h]
        · simp [bes, c] at hb
      · by_cases c : p % 12 < 11
        · simp [bes, c] at h; simp [c, h]
        · simp [bes, c] at hb
      · by_cases c : p < 84
        · simp [bes, c] at h; simp [c, h]
        · simp [bes, c] at hb
      · by_cases c : 0 < p % 12
        · simp [bes, c] at h; simp [c, h]
        · simp [bes, c] at hb
theorem rows_X (n : Nat) (x : Int64) (M : Mem) : ∃ r, f4_besideInRows n x M = some (r, M) ∧ ∀ i, i < 64 → bl r i = ((decide (1 ≤ i) && (bl x (i - 1) && !(decide (i - 1 < 48) && decide ((i - 1) % 12 = 11)))) || (bl x (1 + i) && !(decide (1 + i < 48) && decide ((1 + i) % 12 = 0)))) := by
  refine ⟨_, rfl, fun i hi => ?_⟩
  rw [bl_or, show (1 : Int32) = nI 1 from rfl, bl_shl 1 (by decide) _ hi, bl_ushr 1 (by decide), bl_and, bl_and, bl_mL _ (by omega)]
  by_cases h : 1 + i < 64
  · rw [bl_mF _ h]
  · rw [bl_big (show 64 ≤ 1 + i by omega)]; simp
theorem grow_X {n k : Nat} {S : Nat → Bool} {M : Mem} (h : PS k S M) : ∃ M', f4_grow n k M = some ((), M') ∧ PS k (gr S) M' := by
  unfold f4_grow b4_grow_0
  rw [lt_v, lt_v]
  obtain ⟨r1, e1, b1⟩ := rows_X n (M.2 k 0) M
  rw [bnd_e e1, lt_v]
  obtain ⟨r2, e2, b2⟩ := rows_X n (M.2 k 1) (wJ M k 0 (((((M.2 k 0) ||| r1) ||| ((M.2 k 0).toUInt64 >>> ((12 : Int32).toInt64.toUInt64 &&& Int64.toUInt64 63)).toInt64) ||| (((M.2 k 0) <<< ((12 : Int32).toInt64 &&& 63)) &&& (281474976710655 : Int64))) ||| (((M.2 k 1) &&& (4095 : Int64)) <<< ((36 : Int32).toInt64 &&& 63))))
  rw [bnd_e e2, lt_v]
  refine ⟨_, rfl, wd_of fun i hi => ?_, wd_of fun i hi => ?_⟩
  · simp only [wJ_at, if_true, if_neg (show ¬ (0 : Nat) = 1 by decide)]
    rw [bl_or, bl_or, bl_or, bl_or, b1 i hi, show (12 : Int32) = nI 12 from rfl, show (36 : Int32) = nI 36 from rfl, bl_ushr 12 (by decide), bl_and, bl_shl 12 (by decide) _ hi, bl_mA i hi, bl_shl 36 (by decide) _ hi, bl_and, bl_mR _ (by omega), h.1, h.1, h.1, h.1, h.1, h.2]
    unfold gr
    simp only [Nat.zero_add]
    by_cases c1 : i < 48
    · simp only [c1, decide_true, Bool.true_and, show i - 1 < 48 by omega, show i - 12 < 48 by omega, show i < 84 by omega, show i - 36 < 48 by omega, show i - 36 < 12 by omega, Bool.and_true, Nat.add_comm 1 i, Nat.add_comm 12 i]
      have x1 : ((decide (i + 12 < 48) && S (i + 12)) || (decide (36 ≤ i) && S (48 + (i - 36)))) = S (i + 12) := by
        by_cases c2 : 36 ≤ i
        · rw [show 48 + (i - 36) = i + 12 by omega]; simp [c2, show ¬ i + 12 < 48 by omega]
        · simp [c2, show i + 12 < 48 by omega]
      have x2 : (decide (1 ≤ i) && (S (i - 1) && !decide ((i - 1) % 12 = 11))) = (decide (0 < i % 12) && S (i - 1)) := by
        by_cases c2 : 0 < i % 12
        · simp [c2, show 1 ≤ i by omega, show ¬ (i - 1) % 12 = 11 by omega]
        · by_cases c3 : 1 ≤ i
          · simp [c2, show (i - 1) % 12 = 11 by omega]
          · simp [c2, c3]
      have x3 : ((decide (i + 1 < 48) && S (i + 1)) && !(decide (i + 1 < 48) && decide ((i + 1) % 12 = 0))) = (decide (i % 12 < 11) && S (i + 1)) := by
        by_cases c2 : i % 12 < 11
        · simp [c2, show i + 1 < 48 by omega, show ¬ (i + 1) % 12 = 0 by omega]
        · by_cases c3 : i + 1 < 48
          · simp [c2, c3, show (i + 1) % 12 = 0 by omega]
          · simp [c2, c3]
      rw [x2, x3]
      generalize (decide (i + 12 < 48) && S (i + 12)) = A at x1 ⊢
      generalize (decide (36 ≤ i) && S (48 + (i - 36))) = B at x1 ⊢
      rw [← x1]
      generalize (decide (0 < i % 12) && S (i - 1)) = C
      generalize (decide (i % 12 < 11) && S (i + 1)) = E
      generalize (decide (12 ≤ i) && S (i - 12)) = F
      generalize S i = G
      clear x1 x2 x3
      revert A B C E F G
      decide
    · simp only [c1, decide_false, Bool.false_and, Bool.and_false, Bool.false_or, Bool.or_false, show ¬ 1 + i < 48 by omega, show ¬ 12 + i < 48 by omega]
      by_cases c2 : i - 1 < 48
      · simp [show i - 1 = 47 by omega, show ¬ i - 36 < 12 by omega]
      · simp [c2, show ¬ i - 36 < 12 by omega]
  · simp only [wJ_at, if_true]
    rw [bl_or, bl_or, bl_or, bl_or, b2 i hi, show (12 : Int32) = nI 12 from rfl, show (36 : Int32) = nI 36 from rfl, bl_ushr 12 (by decide), bl_and, bl_shl 12 (by decide) _ hi, bl_mA i hi, bl_ushr 36 (by decide), h.2, h.2, h.2, h.2, h.2, h.1]
    unfold gr
    simp only [Nat.zero_add]
    by_cases c1 : i < 48
    · simp only [c1, decide_true, Bool.true_and, show i - 1 < 48 by omega, show i - 12 < 48 by omega, Bool.and_true, show 12 ≤ 48 + i by omega]
      have x1 : ((decide (12 ≤ i) && S (48 + (i - 12))) || (decide (36 + i < 48) && S (36 + i))) = S (48 + i - 12) := by
        by_cases c2 : 12 ≤ i
        · rw [show 48 + (i - 12) = 48 + i - 12 by omega]; simp [c2, show ¬ 36 + i < 48 by omega]
        · rw [show 36 + i = 48 + i - 12 by omega]; simp [c2, show 48 + i - 12 < 48 by omega]
      have x2 : (decide (1 ≤ i) && (S (48 + (i - 1)) && !decide ((i - 1) % 12 = 11))) = (decide (0 < (48 + i) % 12) && S (48 + i - 1)) := by
        by_cases c2 : 0 < (48 + i) % 12
        · rw [show 48 + (i - 1) = 48 + i - 1 by omega]; simp [c2, show 1 ≤ i by omega, show ¬ (i - 1) % 12 = 11 by omega]
        · by_cases c3 : 1 ≤ i
          · simp [c2, show (i - 1) % 12 = 11 by omega]
          · simp [c2, c3]
      have x3 : ((decide (1 + i < 48) && S (48 + (1 + i))) && !(decide (1 + i < 48) && decide ((1 + i) % 12 = 0))) = (decide ((48 + i) % 12 < 11) && S (48 + i + 1)) := by
        rw [show 48 + (1 + i) = 48 + i + 1 by omega]
        by_cases c2 : (48 + i) % 12 < 11
        · simp [c2, show 1 + i < 48 by omega, show ¬ (1 + i) % 12 = 0 by omega]
        · by_cases c3 : 1 + i < 48
          · simp [c2, c3, show (1 + i) % 12 = 0 by omega]
          · simp [c2, c3]
      have x4 : (decide (12 + i < 48) && S (48 + (12 + i))) = (decide (48 + i < 84) && S (48 + i + 12)) := by
        rw [show 48 + (12 + i) = 48 + i + 12 by omega]
        congr 1
        exact decide_eq_decide.mpr (by omega)
      rw [x2, x3, x4]
      generalize (decide (36 + i < 48) && S (36 + i)) = F at x1 ⊢
      generalize (decide (12 ≤ i) && S (48 + (i - 12))) = B at x1 ⊢
      rw [← x1]
      generalize (decide (48 + i < 84) && S (48 + i + 12)) = A
      generalize (decide (0 < (48 + i) % 12) && S (48 + i - 1)) = C
      generalize (decide ((48 + i) % 12 < 11) && S (48 + i + 1)) = E
      generalize S (48 + i) = G
      clear x1 x2 x3 x4
      revert A B C E F G
      decide
    · simp only [c1, decide_false, Bool.false_and, Bool.and_false, Bool.false_or, Bool.or_false, show ¬ 1 + i < 48 by omega, show ¬ 12 + i < 48 by omega, show ¬ 36 + i < 48 by omega]
      by_cases c2 : i - 1 < 48
      · simp [show i - 1 = 47 by omega]
      · simp [c2]
