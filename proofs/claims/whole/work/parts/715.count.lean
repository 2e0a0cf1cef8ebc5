/-! how many bits: Integer.bitCount, Long.bitCount -/
def rep (m : Nat) : Nat → Nat
  | 0 => 0
  | k + 1 => m + 256 * rep m k
theorem dv {a k R : Nat} (h : a < k) : (a + k * R) / k = R := by rw [Nat.add_mul_div_left _ _ (by omega), Nat.div_eq_of_lt h, Nat.zero_add]
theorem and_sp (x y : Nat) : x &&& y = (x % 256 &&& y % 256) + 256 * ((x / 256) &&& (y / 256)) := by
  have h1 := Nat.and_mod_two_pow (a := x) (b := y) (n := 8)
  have h2 := Nat.and_div_two_pow (a := x) (b := y) (n := 8)
  have h3 := Nat.mod_add_div (x &&& y) 256
  rw [show (2 : Nat) ^ 8 = 256 from rfl] at h1 h2
  rw [← h1, ← h2]
  exact h3.symm
theorem and_rep {m : Nat} (hm : m < 256) (x k : Nat) : x &&& rep m (k + 1) = (x % 256 &&& m) + 256 * ((x / 256) &&& rep m k) := by
  rw [and_sp, show rep m (k + 1) = m + 256 * rep m k from rfl, show (m + 256 * rep m k) % 256 = m by omega, show (m + 256 * rep m k) / 256 = rep m k by omega]
def pv1 (k X : Nat) : Nat := X - ((X / 2) &&& rep 85 k)
def pv2 (k v : Nat) : Nat := (v &&& rep 51 k) + ((v / 4) &&& rep 51 k)
def pv3 (k v : Nat) : Nat := (v + v / 16) &&& rep 15 k
def pb1 (b : Nat) : Nat := b - ((b / 2) &&& 85)
def pb2 (b : Nat) : Nat := (pb1 b &&& 51) + ((pb1 b / 4) &&& 51)
def pb (b : Nat) : Nat := (pb2 b + pb2 b / 16) &&& 15
theorem pb_a : ∀ b, b < 256 → ∀ e, e < 2 → (b / 2 + 128 * e) &&& 85 = (b / 2) &&& 85 := by decide +kernel
theorem pb_b : ∀ b, b < 256 → ∀ e, e < 4 → (pb1 b / 4 + 64 * e) &&& 51 = (pb1 b / 4) &&& 51 := by decide +kernel
theorem pb_c : ∀ b, b < 256 → (b / 2 &&& 85) ≤ b ∧ pb1 b < 256 ∧ pb2 b ≤ 68 ∧ pb2 b % 16 ≤ 4 ∧ pb b ≤ 8 := by decide +kernel
theorem pb_d : ∀ b, b < 256 → fb_ct (fun i => b.testBit i) 8 = pb b := by decide +kernel
theorem pv1_s (k X : Nat) : pv1 (k + 1) X = pb1 (X % 256) + 256 * pv1 k (X / 256) := by
  unfold pv1
  rw [and_rep (by decide)]
  have e1 : X / 2 % 256 = X % 256 / 2 + 128 * (X / 256 % 2) := by omega
  have e2 : X / 2 / 256 = X / 256 / 2 := by omega
  rw [e1, e2, pb_a (X % 256) (by omega) (X / 256 % 2) (by omega)]
  have c := (pb_c (X % 256) (by omega)).1
  have d : (X / 256 / 2 &&& rep 85 k) ≤ X / 256 := Nat.le_trans Nat.and_le_left (by omega)
  unfold pb1
  omega
theorem pv2_s (k X : Nat) : pv2 (k + 1) (pv1 (k + 1) X) = pb2 (X % 256) + 256 * pv2 k (pv1 k (X / 256)) := by
  unfold pv2
  rw [pv1_s, and_rep (by decide), and_rep (by decide)]
  have c := (pb_c (X % 256) (by omega)).2.1
  have e1 : (pb1 (X % 256) + 256 * pv1 k (X / 256)) % 256 = pb1 (X % 256) := by omega
  have e2 : (pb1 (X % 256) + 256 * pv1 k (X / 256)) / 256 = pv1 k (X / 256) := by omega
  have e3 : (pb1 (X % 256) + 256 * pv1 k (X / 256)) / 4 % 256 = pb1 (X % 256) / 4 + 64 * (pv1 k (X / 256) % 4) := by omega
  have e4 : (pb1 (X % 256) + 256 * pv1 k (X / 256)) / 4 / 256 = pv1 k (X / 256) / 4 := by omega
  rw [e1, e2, e3, e4, pb_b (X % 256) (by omega) _ (by omega)]
  unfold pb2
  omega
theorem pv2_m (k X : Nat) : pv2 k (pv1 k X) % 16 ≤ 4 := by
  cases k with
  | zero => simp [pv2, rep]
  | succ k =>
    rw [pv2_s]
    have c := (pb_c (X % 256) (by omega)).2.2.2.1
    omega
def pv (k X : Nat) : Nat := pv3 k (pv2 k (pv1 k X))
theorem pv_s (k X : Nat) : pv (k + 1) X = pb (X % 256) + 256 * pv k (X / 256) := by
  unfold pv pv3
  rw [pv2_s, and_rep (by decide)]
  have cc := (pb_c (X % 256) (by omega)).2.2.1
  have d := pv2_m k (X / 256)
  generalize pv2 k (pv1 k (X / 256)) = C at d ⊢
  generalize hc : pb2 (X % 256) = c at cc ⊢
  have e0 : c + 256 * C + (c + 256 * C) / 16 = (c + c / 16 + 16 * (C % 16)) + 256 * (C + C / 16) := by
    have x1 : (c + 256 * C) / 16 = c / 16 + 16 * C := by
      rw [show 256 * C = 16 * (16 * C) by omega, Nat.add_mul_div_left _ _ (by decide)]
    rw [x1]
    omega
  have lo : c + c / 16 + 16 * (C % 16) < 256 := by omega
  have e1 : (c + 256 * C + (c + 256 * C) / 16) % 256 = c + c / 16 + 16 * (C % 16) := by
    rw [e0, Nat.add_mul_mod_self_left, Nat.mod_eq_of_lt lo]
  have e2 : (c + 256 * C + (c + 256 * C) / 16) / 256 = C + C / 16 := by
    rw [e0, dv lo]
  rw [e1, e2]
  unfold pb
  rw [hc]
  congr 1
  have e3 : ∀ z : Nat, z &&& 15 = z % 16 := fun z => Nat.and_two_pow_sub_one_eq_mod z 4
  rw [e3, e3]
  omega
theorem ct_s (X k : Nat) : fb_ct (fun i => X.testBit i) (8 + k) = pb (X % 256) + fb_ct (fun i => (X / 256).testBit i) k := by
  rw [fb_ct_split, ← pb_d (X % 256) (by omega)]
  congr 1
  · refine fb_ct_cong fun i hi => ?_
    rw [show (256 : Nat) = 2 ^ 8 from rfl, Nat.testBit_mod_two_pow]
    simp [hi]
  · refine fb_ct_cong fun i hi => ?_
    rw [show (256 : Nat) = 2 ^ 8 from rfl, Nat.testBit_div_two_pow, Nat.add_comm]
theorem bits8 (X : Nat) : ∃ a b c d e f g h, (a ≤ 8 ∧ b ≤ 8 ∧ c ≤ 8 ∧ d ≤ 8 ∧ e ≤ 8 ∧ f ≤ 8 ∧ g ≤ 8 ∧ h ≤ 8) ∧ pv 8 X = a + 256 * (b + 256 * (c + 256 * (d + 256 * (e + 256 * (f + 256 * (g + 256 * h)))))) ∧ fb_ct (fun i => X.testBit i) 64 = a + b + c + d + e + f + g + h := by
  refine ⟨_, _, _, _, _, _, _, _, ⟨(pb_c (X % 256) (Nat.mod_lt _ (by decide))).2.2.2.2, (pb_c (X / 256 % 256) (Nat.mod_lt _ (by decide))).2.2.2.2, (pb_c (X / 256 / 256 % 256) (Nat.mod_lt _ (by decide))).2.2.2.2, (pb_c (X / 256 / 256 / 256 % 256) (Nat.mod_lt _ (by decide))).2.2.2.2, (pb_c (X / 256 / 256 / 256 / 256 % 256) (Nat.mod_lt _ (by decide))).2.2.2.2, (pb_c (X / 256 / 256 / 256 / 256 / 256 % 256) (Nat.mod_lt _ (by decide))).2.2.2.2, (pb_c (X / 256 / 256 / 256 / 256 / 256 / 256 % 256) (Nat.mod_lt _ (by decide))).2.2.2.2, (pb_c (X / 256 / 256 / 256 / 256 / 256 / 256 / 256 % 256) (Nat.mod_lt _ (by decide))).2.2.2.2⟩, ?_, ?_⟩
  · rw [pv_s, pv_s, pv_s, pv_s, pv_s, pv_s, pv_s, pv_s]
    simp [pv, pv3, rep]
  · rw [show 64 = 8 + 56 from rfl, ct_s, show 56 = 8 + 48 from rfl, ct_s, show 48 = 8 + 40 from rfl, ct_s, show 40 = 8 + 32 from rfl, ct_s, show 32 = 8 + 24 from rfl, ct_s, show 24 = 8 + 16 from rfl, ct_s, show 16 = 8 + 8 from rfl, ct_s, show 8 = 8 + 0 from rfl, ct_s]
    simp only [fb_ct]
    omega
theorem bits4 (X : Nat) : ∃ a b c d, (a ≤ 8 ∧ b ≤ 8 ∧ c ≤ 8 ∧ d ≤ 8) ∧ pv 4 X = a + 256 * (b + 256 * (c + 256 * d)) ∧ fb_ct (fun i => X.testBit i) 32 = a + b + c + d := by
  refine ⟨_, _, _, _, ⟨(pb_c (X % 256) (Nat.mod_lt _ (by decide))).2.2.2.2, (pb_c (X / 256 % 256) (Nat.mod_lt _ (by decide))).2.2.2.2, (pb_c (X / 256 / 256 % 256) (Nat.mod_lt _ (by decide))).2.2.2.2, (pb_c (X / 256 / 256 / 256 % 256) (Nat.mod_lt _ (by decide))).2.2.2.2⟩, ?_, ?_⟩
  · rw [pv_s, pv_s, pv_s, pv_s]
    simp [pv, pv3, rep]
  · rw [show 32 = 8 + 24 from rfl, ct_s, show 24 = 8 + 16 from rfl, ct_s, show 16 = 8 + 8 from rfl, ct_s, show 8 = 8 + 0 from rfl, ct_s]
    simp only [fb_ct]
    omega
theorem tail8 {v a b c d e f g h : Nat} (H : a ≤ 8 ∧ b ≤ 8 ∧ c ≤ 8 ∧ d ≤ 8 ∧ e ≤ 8 ∧ f ≤ 8 ∧ g ≤ 8 ∧ h ≤ 8) (hv : v = a + 256 * (b + 256 * (c + 256 * (d + 256 * (e + 256 * (f + 256 * (g + 256 * h))))))) : (v + v / 256 + (v + v / 256) / 65536 + (v + v / 256 + (v + v / 256) / 65536) / 4294967296) % 128 = a + b + c + d + e + f + g + h := by
  obtain ⟨h1, h2, h3, h4, h5, h6, h7, h8⟩ := H
  have q1 : v / 256 = b + 256 * (c + 256 * (d + 256 * (e + 256 * (f + 256 * (g + 256 * h))))) := by rw [hv, dv (by omega)]
  rw [q1]
  have q3 : v + (b + 256 * (c + 256 * (d + 256 * (e + 256 * (f + 256 * (g + 256 * h)))))) = ((a + b) + 256 * (b + c)) + 65536 * ((c + d) + 256 * ((d + e) + 256 * ((e + f) + 256 * ((f + g) + 256 * ((g + h) + 256 * h))))) := by rw [hv]; clear hv q1 h1 h2 h3 h4 h5 h6 h7 h8; omega
  rw [q3, dv (by clear hv q1 q3; omega)]
  have q4 : ((a + b) + 256 * (b + c)) + 65536 * ((c + d) + 256 * ((d + e) + 256 * ((e + f) + 256 * ((f + g) + 256 * ((g + h) + 256 * h))))) + ((c + d) + 256 * ((d + e) + 256 * ((e + f) + 256 * ((f + g) + 256 * ((g + h) + 256 * h))))) = ((a + b + c + d) + 256 * (b + c + d + e) + 65536 * (c + d + e + f) + 16777216 * (d + e + f + g)) + 4294967296 * ((e + f + g + h) + 256 * ((f + g + h) + 256 * ((g + h) + 256 * h))) := by clear hv q1 q3 h1 h2 h3 h4 h5 h6 h7 h8; omega
  rw [q4, dv (by clear hv q1 q3 q4; omega)]
  have q5 : ((a + b + c + d) + 256 * (b + c + d + e) + 65536 * (c + d + e + f) + 16777216 * (d + e + f + g)) + 4294967296 * ((e + f + g + h) + 256 * ((f + g + h) + 256 * ((g + h) + 256 * h))) + ((e + f + g + h) + 256 * ((f + g + h) + 256 * ((g + h) + 256 * h))) = (a + b + c + d + e + f + g + h) + 128 * (2 * (b + c + d + e) + 512 * (c + d + e + f) + 131072 * (d + e + f + g) + 33554432 * ((e + f + g + h) + 256 * ((f + g + h) + 256 * ((g + h) + 256 * h))) + 2 * ((f + g + h) + 256 * ((g + h) + 256 * h))) := by clear hv q1 q3 q4 h1 h2 h3 h4 h5 h6 h7 h8; omega
  rw [q5, Nat.add_mul_mod_self_left, Nat.mod_eq_of_lt (by clear hv q1 q3 q4 q5; omega)]
theorem tail4 {v a b c d : Nat} (H : a ≤ 8 ∧ b ≤ 8 ∧ c ≤ 8 ∧ d ≤ 8) (hv : v = a + 256 * (b + 256 * (c + 256 * d))) : (v + v / 256 + (v + v / 256) / 65536) % 64 = a + b + c + d := by
  obtain ⟨h1, h2, h3, h4⟩ := H
  have q1 : v / 256 = b + 256 * (c + 256 * d) := by rw [hv, dv (by omega)]
  rw [q1]
  have q3 : v + (b + 256 * (c + 256 * d)) = ((a + b) + 256 * (b + c)) + 65536 * ((c + d) + 256 * d) := by rw [hv]; clear hv q1 h1 h2 h3 h4; omega
  rw [q3, dv (by clear hv q1 q3; omega)]
  have q5 : ((a + b) + 256 * (b + c)) + 65536 * ((c + d) + 256 * d) + ((c + d) + 256 * d) = (a + b + c + d) + 64 * (4 * (b + c) + 1024 * ((c + d) + 256 * d) + 4 * d) := by clear hv q1 q3 h1 h2 h3 h4; omega
  rw [q5, Nat.add_mul_mod_self_left, Nat.mod_eq_of_lt (by clear hv q1 q3 q5; omega)]
