/-! THE LAW: its code, and what it comes to -/
def LStp (op vl dep : Nat → Nat) (isB : Nat → Bool) (e i : Nat) : Prop := (op i ≤ 1 ∧ isB i = false ∧ isB (i + 1) = false ∧ dep (i + 1) = dep i + 1 ∧ dep i ≤ 60 ∧ (op i = 1 → vl i < 9)) ∨ (2 ≤ op i ∧ op i ≤ 6 ∧ isB i = false ∧ isB (i + 1) = false ∧ 2 ≤ dep i ∧ dep (i + 1) + 1 = dep i ∧ dep i ≤ 61) ∨ (7 ≤ op i ∧ op i ≤ 9 ∧ isB i = false ∧ isB (i + 1) = true ∧ dep i = 2 ∧ dep (i + 1) = 1) ∨ (op i = 10 ∧ isB i = true ∧ isB (i + 1) = true ∧ dep i = 1 ∧ dep (i + 1) = 1) ∨ ((op i = 11 ∨ op i = 12) ∧ isB i = true ∧ isB (i + 1) = false ∧ dep i = 1 ∧ dep (i + 1) = 0 ∧ i + 1 ≤ vl i ∧ vl i ≤ e ∧ isB (vl i) = true ∧ dep (vl i) = 1)
def Typ (op vl : Nat → Nat) (a e : Nat) (t : Bool) : Prop := ∃ (dep : Nat → Nat) (isB : Nat → Bool), dep a = 0 ∧ isB a = false ∧ dep e = 1 ∧ isB e = t ∧ ∀ i, a ≤ i → i < e → LStp op vl dep isB e i
def LawOf (q : Nat) (op vl kd st hf en : Nat → Nat) (Mx My : Mem) : Prop := q ≤ 16 ∧ Mx.1 11 3 = nI q ∧ My.1 0 20 = nI q ∧ ∀ r, r < q → (kd r < 256 ∧ Mx.1 14 r = nI (kd r) ∧ My.1 16 r = nI (kd r)) ∧ (st r ≤ hf r ∧ hf r ≤ en r ∧ en r ≤ 240) ∧ (Mx.1 13 (2 * r) = nI (st r) ∧ Mx.1 13 (2 * r + 1) = nI (hf r) ∧ Mx.1 13 (2 * r + 2) = nI (en r)) ∧ (My.1 17 r = nI (st r) ∧ My.1 18 r = nI (hf r) ∧ My.1 19 r = nI (en r)) ∧ (∀ i, st r ≤ i → i < en r → op i ≤ 12 ∧ vl i < 1048576 ∧ Mx.1 12 i = nI (op i + 16 * vl i) ∧ My.1 15 i = nI (1048576 * op i + vl i)) ∧ (kd r ≠ 115 → Typ op vl (st r) (hf r) false) ∧ Typ op vl (hf r) (en r) true
def Lw (Mx My : Mem) : Prop := ∃ q op vl kd st hf en, LawOf q op vl kd st hf en Mx My
theorem Lw.ok : LwOk Lw := by
  intro Mx My Mx' My' h hx h20 hy
  obtain ⟨q, op, vl, kd, st, hf, en, h1, h2, h3, h4⟩ := h
  refine ⟨q, op, vl, kd, st, hf, en, h1, by rw [hx 11 (by decide)]; exact h2, by rw [h20]; exact h3, fun r hr => ?_⟩
  rw [hx 14 (by decide), hx 13 (by decide), hx 12 (by decide), hy 16 (by decide), hy 17 (by decide), hy 18 (by decide), hy 19 (by decide), hy 15 (by decide)]
  exact h4 r hr
def gJ (o : Nat) (a b : Int32) : Int32 := if o = 2 then a + b else if o = 3 then a - b else if o = 4 then a * b else if o = 5 then (if b = 0 then 0 else a / b) else if o = 6 then (if b = 0 then 0 else a - a / b * b) else if o = 7 then (if b ≤ a then 0 else 1) else if o = 8 then (if a ≤ b then 0 else 1) else (if a = b then 1 else 0)
theorem opl (o k : Nat) (ho : o ≤ 12) (hk : k ≤ 15) : (nI o = nI k) = (o = k) := propext (nI_eq (by omega) (by omega))
theorem joined_e {n o : Nat} {a b : Int32} {M : Mem} (ho : o ≤ 12) : f2_joined n (nI o) a b M = some (gJ o a b, M) := by
  unfold f2_joined b2_joined_0 gJ
  simp only [show (nI o = (2 : Int32)) = (o = 2) from opl o 2 ho (by decide), show (nI o = (3 : Int32)) = (o = 3) from opl o 3 ho (by decide), show (nI o = (4 : Int32)) = (o = 4) from opl o 4 ho (by decide), show (nI o = (5 : Int32)) = (o = 5) from opl o 5 ho (by decide), show (nI o = (6 : Int32)) = (o = 6) from opl o 6 ho (by decide), show (nI o = (7 : Int32)) = (o = 7) from opl o 7 ho (by decide), show (nI o = (8 : Int32)) = (o = 8) from opl o 8 ho (by decide)]
  by_cases hb : b = 0
  · subst hb
    simp only [if_true]
    repeat' split
    all_goals rfl
  · simp only [hb, not_false_eq_true, decide_true, chk_t, if_false]
    repeat' split
    all_goals rfl
theorem reckon_e {n o : Nat} {a b : Int32} {M : Mem} (ho : o ≤ 12) (hb : (o ≠ 5 ∧ o ≠ 6) ∨ ¬ b = 0) : f12_reckon n (nI o) a b M = some (gJ o a b, M) := by
  unfold f12_reckon b12_reckon_0 gJ
  simp only [show (nI o = (2 : Int32)) = (o = 2) from opl o 2 ho (by decide), show (nI o = (3 : Int32)) = (o = 3) from opl o 3 ho (by decide), show (nI o = (4 : Int32)) = (o = 4) from opl o 4 ho (by decide), show (nI o = (5 : Int32)) = (o = 5) from opl o 5 ho (by decide), show (nI o = (6 : Int32)) = (o = 6) from opl o 6 ho (by decide), show (nI o = (7 : Int32)) = (o = 7) from opl o 7 ho (by decide), show (nI o = (8 : Int32)) = (o = 8) from opl o 8 ho (by decide)]
  rcases hb with ⟨h5, h6⟩ | hb
  · simp only [h5, h6, if_false]
    repeat' split
    all_goals rfl
  · simp only [hb, not_false_eq_true, decide_true, chk_t, if_false]
    repeat' split
    all_goals rfl
theorem gJ_bool {o : Nat} {a b : Int32} (h : 7 ≤ o) : gJ o a b = 0 ∨ gJ o a b = 1 := by
  unfold gJ
  rw [if_neg (by omega), if_neg (by omega), if_neg (by omega), if_neg (by omega), if_neg (by omega)]
  repeat' split
  all_goals simp
theorem code_X {o v : Nat} (ho : o ≤ 12) (hv : v < 1048576) : nI (o + 16 * v) &&& (15 : Int32) = nI o ∧ ((nI (o + 16 * v)).toUInt32 >>> ((4 : Int32).toUInt32 &&& Int32.toUInt32 31)).toInt32 = nI v := by
  constructor
  · rw [show (15 : Int32) = nI (2 ^ 4 - 1) from rfl, fa_mask]
    congr 1
    omega
  · rw [pk_ushrN (by omega) 4 4 (by decide)]
    congr 1
    omega
theorem code_Y {o v : Nat} (ho : o ≤ 12) (hv : v < 1048576) : nI (1048576 * o + v) / (1048576 : Int32) = nI o ∧ nI (1048576 * o + v) - nI (1048576 * o + v) / (1048576 : Int32) * (1048576 : Int32) = nI v := by
  constructor
  · rw [show (1048576 : Int32) = nI 1048576 from rfl, pk_div (by omega) (by decide) (by decide)]
    congr 1
    omega
  · rw [show (1048576 : Int32) = nI 1048576 from rfl, pk_rem (by omega) (by decide) (by decide)]
    congr 1
    omega
/-- the same but for the stack -/
def O16 (X X' : Mem) : Prop := ∀ k, k ≠ 16 → X'.1 k = X.1 k ∧ X'.2 k = X.2 k
def O20 (Y Y' : Mem) : Prop := ∀ k, k ≠ 20 → Y'.1 k = Y.1 k ∧ Y'.2 k = Y.2 k
theorem O16.refl {X : Mem} : O16 X X := fun _ _ => ⟨rfl, rfl⟩
theorem O20.refl {X : Mem} : O20 X X := fun _ _ => ⟨rfl, rfl⟩
theorem O16.trans {X X1 X2 : Mem} (h : O16 X X1) (g : O16 X1 X2) : O16 X X2 := fun c hc => ⟨(g c hc).1.trans (h c hc).1, (g c hc).2.trans (h c hc).2⟩
theorem O20.trans {X X1 X2 : Mem} (h : O20 X X1) (g : O20 X1 X2) : O20 X X2 := fun c hc => ⟨(g c hc).1.trans (h c hc).1, (g c hc).2.trans (h c hc).2⟩
theorem O16.w {X : Mem} {j : Nat} {v : Int32} : O16 X (wI X 16 j v) := fun c hc => wI_o c hc
theorem O20.w {X : Mem} {j : Nat} {v : Int32} : O20 X (wI X 20 j v) := fun c hc => wI_o c hc
def SE (d : Nat) (X Y : Mem) : Prop := ∀ j, j < d → X.1 16 j = Y.1 20 j
theorem SE.put {d p : Nat} {X Y : Mem} {v : Int32} (h : SE p X Y) (hd : d ≤ p + 1) : SE d (wI X 16 p v) (wI Y 20 p v) := fun j hj => by
  rw [wI_at, if_pos rfl, wI_at, if_pos rfl]
  by_cases e : j = p
  · rw [if_pos e, if_pos e]
  · rw [if_neg e, if_neg e]; exact h j (by omega)
theorem SE.less {d p : Nat} {X Y : Mem} (h : SE d X Y) (hp : p ≤ d) : SE p X Y := fun j hj => h j (by omega)
def CodeR (op vl : Nat → Nat) (a e : Nat) (X Y : Mem) : Prop := ∀ i, a ≤ i → i < e → op i ≤ 12 ∧ vl i < 1048576 ∧ X.1 12 i = nI (op i + 16 * vl i) ∧ Y.1 15 i = nI (1048576 * op i + vl i)
theorem eval_loop {op vl dep : Nat → Nat} {isB : Nat → Bool} {a e : Nat} (he : e ≤ 240) (h1 : dep e = 1) (hst : ∀ i, a ≤ i → i < e → LStp op vl dep isB e i) : ∀ (m i nX nY : Nat) (X Y : Mem), e - i ≤ m → a ≤ i → i ≤ e → m + 10 < nX → m + 10 < nY → CodeR op vl a e X Y → (∀ j, j < 9 → X.1 15 j = Y.1 21 j) → SE (dep i) X Y → (isB i = true → X.1 16 0 = 0 ∨ X.1 16 0 = 1) → ∃ r X' Y', r2_reckon nX 25 [nI (dep i), nI e, nI i] [] X = some (r, X') ∧ r12_comesTo nY 16 [nI e, nI (dep i), 0, nI i] [] Y = some (r, Y') ∧ (isB e = true → r = 0 ∨ r = 1) ∧ O16 X X' ∧ O20 Y Y' := by
  intro m
  induction m with
  | zero =>
    intro i nX nY X Y hm ha hi hnX hnY hC hv hS hB
    obtain ⟨nX, rfl⟩ : ∃ n', nX = n' + 1 := ⟨nX - 1, by omega⟩
    obtain ⟨nY, rfl⟩ : ∃ n', nY = n' + 1 := ⟨nY - 1, by omega⟩
    have : i = e := by omega
    subst this
    rw [e2_reckon_25, e12_comesTo_16]
    unfold b2_reckon_25 b12_comesTo_16
    have z0 : (0 : Int32).toNatClampNeg = 0 := by decide
    rw [h1, if_pos (Int32.le_refl _), if_pos (Int32.le_refl _), if_neg (show ¬ nI 1 ≤ 0 by decide), chk_t (b := inb 0 64) (by decide), chk_t (b := inb 0 260) (by decide), z0, ← hS 0 (by omega)]
    exact ⟨_, X, Y, rfl, rfl, hB, O16.refl, O20.refl⟩
  | succ m ih =>
    intro i nX nY X Y hm ha hi hnX hnY hC hv hS hB
    by_cases ei : i = e
    · obtain ⟨nX, rfl⟩ : ∃ n', nX = n' + 1 := ⟨nX - 1, by omega⟩
      obtain ⟨nY, rfl⟩ : ∃ n', nY = n' + 1 := ⟨nY - 1, by omega⟩
      subst ei
      rw [e2_reckon_25, e12_comesTo_16]
      unfold b2_reckon_25 b12_comesTo_16
      have z0 : (0 : Int32).toNatClampNeg = 0 := by decide
      rw [h1, if_pos (Int32.le_refl _), if_pos (Int32.le_refl _), if_neg (show ¬ nI 1 ≤ 0 by decide), chk_t (b := inb 0 64) (by decide), chk_t (b := inb 0 260) (by decide), z0, ← hS 0 (by omega)]
      exact ⟨_, X, Y, rfl, rfl, hB, O16.refl, O20.refl⟩
    · obtain ⟨nX, rfl⟩ : ∃ n', nX = n' + 1 := ⟨nX - 1, by omega⟩
      obtain ⟨nY, rfl⟩ : ∃ n', nY = n' + 1 := ⟨nY - 1, by omega⟩
      have hlt : i < e := by omega
      obtain ⟨c1, c2, c3, c4⟩ := hC i ha hlt
      have go : ∀ (X1 Y1 : Mem) (i' : Nat), i < i' → i' ≤ e → O16 X X1 → O20 Y Y1 → SE (dep i') X1 Y1 → (isB i' = true → X1.1 16 0 = 0 ∨ X1.1 16 0 = 1) → ∃ r X' Y', r2_reckon nX 25 [nI (dep i'), nI e, nI i'] [] X1 = some (r, X') ∧ r12_comesTo nY 16 [nI e, nI (dep i'), 0, nI i'] [] Y1 = some (r, Y') ∧ (isB e = true → r = 0 ∨ r = 1) ∧ O16 X X' ∧ O20 Y Y' := by
        intro X1 Y1 i' g1 g2 g3 g4 g5 g6
        obtain ⟨r, X', Y', q1, q2, q3, q4, q5⟩ := ih i' nX nY X1 Y1 (by omega) (by omega) g2 (by omega) (by omega) (fun j h1 h2 => by rw [(g3 12 (by decide)).1, (g4 15 (by decide)).1]; exact hC j h1 h2) (fun j hj => by rw [(g3 15 (by decide)).1, (g4 21 (by decide)).1]; exact hv j hj) g5 g6
        exact ⟨r, X', Y', q1, q2, q3, g3.trans q4, g4.trans q5⟩
      obtain ⟨x1, x2⟩ := code_X c1 c2
      obtain ⟨y1, y2⟩ := code_Y c1 c2
      rw [e2_reckon_25, e12_comesTo_16]
      unfold b2_reckon_25 b12_comesTo_16
      have ckx : ∀ {α : Type} (k : Option α), chk (inb (nI i) 240) k = k := fun k => chk_in (by omega) (by decide)
      have cky : ∀ {α : Type} (k : Option α), chk (inb (nI i) 260) k = k := fun k => chk_in (by omega) (by decide)
      have y2' : nI (1048576 * op i + vl i) - nI (op i) * (1048576 : Int32) = nI (vl i) := by rw [← y1]; exact y2
      rw [if_neg (nI_ge hlt (by omega)), if_neg (nI_ge hlt (by omega))]
      simp only [ckx, cky, nI_clamp (show i < 2 ^ 31 by omega), c3, c4, x1, x2, y1, y2', lt_v, nI_1]
      simp only [show (nI (op i) = (1 : Int32)) = (op i = 1) from opl _ 1 c1 (by decide), show (nI (op i) = (0 : Int32)) = (op i = 0) from by rw [← nI_0]; exact opl _ 0 c1 (by decide), show (nI (op i) = (10 : Int32)) = (op i = 10) from opl _ 10 c1 (by decide), show (nI (op i) = (11 : Int32)) = (op i = 11) from opl _ 11 c1 (by decide), show (nI (op i) = (12 : Int32)) = (op i = 12) from opl _ 12 c1 (by decide), show (nI (op i) = (5 : Int32)) = (op i = 5) from opl _ 5 c1 (by decide), show (nI (op i) = (6 : Int32)) = (op i = 6) from opl _ 6 c1 (by decide)]
      rcases hst i ha hlt with ⟨o1, o2, o3, o4, o5, o6⟩ | ⟨o1, o1', o2, o3, o4, o5, o6⟩ | ⟨o1, o1', o2, o3, o4, o5⟩ | ⟨o1, o2, o3, o4, o5⟩ | ⟨o1, o2, o3, o4, o5, o6, o7, o8, o9⟩
      · -- a number or a letter
        have push : ∀ v : Int32, ∃ r X' Y', b2_reckon_111 (r2_reckon nX) nX (nI (dep i)) (nI e) (nI i) (nI (dep i)) v X = some (r, X') ∧ b12_comesTo_85 (r12_comesTo nY) nY (nI e) (nI (dep i)) 0 (nI (i + 1)) (nI (dep i)) v Y = some (r, Y') ∧ (isB e = true → r = 0 ∨ r = 1) ∧ O16 X X' ∧ O20 Y Y' := by
          intro v
          unfold b2_reckon_111 b2_reckon_298 b12_comesTo_85 b12_comesTo_230
          rw [chk_in (by omega) (by decide), lt_v, lt_v, lt_v, nI_1, nI_1, chk_in (by omega) (by decide), lt_v, lt_v, nI_clamp (by omega), ← o4]
          exact go _ _ (i + 1) (by omega) (by omega) O16.w O20.w (hS.put (by omega)) (fun q => by rw [o3] at q; cases q)
        unfold b2_reckon_65 b2_reckon_89 b12_comesTo_63
        by_cases c : op i = 0
        · rw [if_pos c, if_pos c, if_neg (show ¬ (64 : Int32) ≤ nI (dep i) from nI_ge (b := 64) (by omega) (by decide))]
          simp only [c, nI_0, if_true, show ((0 : Int32) = 1) = False from eq_false (by decide), if_false]
          exact push _
        · have c' : op i = 1 := by omega
          rw [if_neg c, if_neg c, if_pos c', if_pos c', if_neg (show ¬ (64 : Int32) ≤ nI (dep i) from nI_ge (b := 64) (by omega) (by decide)), c']
          simp only [show (nI 1 = (1 : Int32)) = True from eq_true rfl, show (nI 1 = (0 : Int32)) = False from eq_false (by decide), if_true, if_false]
          have hv9 := o6 c'
          rw [if_pos (show nI (vl i) < (9 : Int32) from nI_lt (b := 9) hv9 (by decide)), chk_in hv9 (by decide), chk_in hv9 (by decide), nI_clamp (by omega), hv _ hv9]
          exact push _
      · -- arithmetic
        rw [if_neg (by omega), if_neg (by omega), if_pos (show (1 : Int32) ≤ nI (dep i) from nI_le (a := 1) (by omega) (by omega)), if_neg (by omega), if_neg (by omega), if_neg (by omega), if_neg (show ¬ nI (dep i) < (2 : Int32) from nI_nlt (b := 2) o4 (by omega)), if_neg (by omega), if_neg (by omega), if_neg (by omega), if_neg (by omega), if_neg (by omega)]
        have hd1 : nI (dep i) - (1 : Int32) = nI (dep i - 1) := pk_sub (b := 1) (by omega)
        have hd2 : nI (dep i) + (-1 : Int32) = nI (dep i - 1) := by
          obtain ⟨k, hk⟩ : ∃ k, dep i = k + 1 := ⟨dep i - 1, by omega⟩
          rw [hk, pk_m1]; rfl
        have hd3 : nI (dep i - 1) - (1 : Int32) = nI (dep i - 2) := by rw [show dep i - 2 = dep i - 1 - 1 by omega]; exact pk_sub (b := 1) (by omega)
        have work : ((op i ≠ 5 ∧ op i ≠ 6) ∨ ¬ Y.1 20 (dep i - 1) = 0) → ∃ r X' Y', b2_reckon_268 (r2_reckon nX) nX (nI (dep i)) (nI e) (nI i) (nI (op i)) X = some (r, X') ∧ b12_comesTo_203 (r12_comesTo nY) nY (nI e) (nI (dep i - 1)) 0 (nI (i + 1)) (nI (op i)) Y = some (r, Y') ∧ (isB e = true → r = 0 ∨ r = 1) ∧ O16 X X' ∧ O20 Y Y' := by
          intro hz
          unfold b2_reckon_268 b2_reckon_298 b12_comesTo_203 b12_comesTo_230
          rw [hd2, lt_v, hd3, chk_in (by omega) (by decide), chk_in (by omega) (by decide), chk_in (by omega) (by decide), chk_in (by omega) (by decide), nI_clamp (show dep i - 2 < 2 ^ 31 by omega), nI_clamp (show dep i - 1 < 2 ^ 31 by omega), joined_e c1, bnd_s', hS _ (by omega), hS _ (by omega), reckon_e c1 hz, bnd_s', chk_in (by omega) (by decide), chk_in (by omega) (by decide), lt_v, lt_v, lt_v, nI_1, show dep i - 1 = dep (i + 1) by omega]
          exact go _ _ (i + 1) (by omega) (by omega) O16.w O20.w ((hS.less (by omega)).put (by omega)) (fun q => by rw [o3] at q; cases q)
        unfold f2_isDivision b2_isDivision_0 b2_isDivision_11
        simp only [show (nI (op i) = (5 : Int32)) = (op i = 5) from opl _ 5 c1 (by decide), show (nI (op i) = (6 : Int32)) = (op i = 6) from opl _ 6 c1 (by decide), lt_v, hd1]
        unfold b2_reckon_266 b12_comesTo_192
        have zero : (op i = 5 ∨ op i = 6) → ∃ r X' Y', (chk (inb (nI (dep i - 1)) 64) <| if X.1 16 (nI (dep i - 1)).toNatClampNeg = 0 then some (0, X) else b2_reckon_268 (r2_reckon nX) nX (nI (dep i)) (nI e) (nI i) (nI (op i)) X) = some (r, X') ∧ (chk (inb (nI (dep i - 1)) 260) <| if Y.1 20 (nI (dep i - 1)).toNatClampNeg = 0 then some (0, Y) else b12_comesTo_203 (r12_comesTo nY) nY (nI e) (nI (dep i - 1)) 0 (nI (i + 1)) (nI (op i)) Y) = some (r, Y') ∧ (isB e = true → r = 0 ∨ r = 1) ∧ O16 X X' ∧ O20 Y Y' := by
          intro _
          rw [chk_in (by omega) (by decide), chk_in (by omega) (by decide), nI_clamp (by omega), hS _ (by omega)]
          by_cases z : Y.1 20 (dep i - 1) = 0
          · rw [if_pos z, if_pos z]
            exact ⟨0, X, Y, rfl, rfl, fun _ => Or.inl rfl, O16.refl, O20.refl⟩
          · rw [if_neg z, if_neg z]
            exact work (Or.inr z)
        by_cases c5 : op i = 5
        · rw [if_pos c5, bnd_s', if_neg (show ¬ (1 : Int32) = 0 by decide), if_pos c5]
          exact zero (Or.inl c5)
        · rw [if_neg c5]
          by_cases c6 : op i = 6
          · rw [if_pos c6, bnd_s', if_neg (show ¬ (1 : Int32) = 0 by decide), if_neg c5, if_pos c6]
            exact zero (Or.inr c6)
          · rw [if_neg c6, bnd_s', if_pos rfl, if_neg c5, if_neg c6]
            exact work (Or.inl ⟨c5, c6⟩)
      · -- a comparison
        rw [if_neg (by omega), if_neg (by omega), if_pos (show (1 : Int32) ≤ nI (dep i) from nI_le (a := 1) (by omega) (by omega)), if_neg (by omega), if_neg (by omega), if_neg (by omega), if_neg (show ¬ nI (dep i) < (2 : Int32) from nI_nlt (b := 2) (by omega) (by omega)), if_neg (by omega), if_neg (by omega), if_neg (by omega), if_neg (by omega), if_neg (by omega)]
        unfold f2_isDivision b2_isDivision_0
        rw [if_neg (show ¬ nI (op i) = (5 : Int32) from fun q => by rw [show (5 : Int32) = nI 5 from rfl, nI_eq (by omega) (by decide)] at q; omega), if_neg (show ¬ nI (op i) = (6 : Int32) from fun q => by rw [show (6 : Int32) = nI 6 from rfl, nI_eq (by omega) (by decide)] at q; omega), bnd_s', if_pos rfl, if_neg (show ¬ op i = 5 by omega), if_neg (show ¬ op i = 6 by omega)]
        unfold b2_reckon_268 b2_reckon_298 b12_comesTo_203 b12_comesTo_230
        have q1 : inb (nI 1) 64 = true := by decide
        rw [o4, show nI 2 + (-1 : Int32) = nI 1 by decide, show nI 2 - (1 : Int32) = nI 1 by decide, lt_v, show nI 1 - (1 : Int32) = nI 0 by decide, chk_in (by decide) (by decide), chk_in (by decide) (by decide), chk_in (by decide) (by decide), chk_in (by decide) (by decide), nI_clamp (show 0 < 2 ^ 31 by decide), nI_clamp (show 1 < 2 ^ 31 by decide), joined_e c1, bnd_s', hS 0 (by omega), hS 1 (by omega), reckon_e c1 (Or.inl ⟨by omega, by omega⟩), bnd_s', chk_in (by decide) (by decide), chk_in (by decide) (by decide), lt_v, lt_v, lt_v, nI_1]
        have g := go (wI X 16 0 (gJ (op i) (Y.1 20 0) (Y.1 20 1))) (wI Y 20 0 (gJ (op i) (Y.1 20 0) (Y.1 20 1))) (i + 1) (by omega) (by omega) O16.w O20.w ((hS.less (p := 0) (by omega)).put (by omega)) (fun _ => by
          rw [wI_at, if_pos rfl, if_pos rfl]
          exact gJ_bool o1)
        rw [o5] at g
        exact g
      · -- not
        rw [if_neg (by omega), if_neg (by omega), if_pos (show (1 : Int32) ≤ nI (dep i) from nI_le (a := 1) (by omega) (by omega)), if_neg (by omega), if_neg (by omega), if_pos o1, if_neg (by omega), if_neg (by omega), if_pos o1]
        unfold b2_reckon_298 b12_comesTo_230
        rw [o4, show nI 1 - (1 : Int32) = nI 0 by decide, chk_in (by decide) (by decide), chk_in (by decide) (by decide), chk_in (by decide) (by decide), chk_in (by decide) (by decide), nI_clamp (show 0 < 2 ^ 31 by decide), lt_v, nI_1, hS 0 (by omega)]
        have g := go (wI X 16 0 (1 - Y.1 20 0)) (wI Y 20 0 (1 - Y.1 20 0)) (i + 1) (by omega) (by omega) O16.w O20.w ((hS.less (p := 0) (by omega)).put (by omega)) (fun _ => by
          rw [wI_at, if_pos rfl, if_pos rfl, ← hS 0 (by omega)]
          rcases hB o2 with q | q <;> rw [q]
          · exact Or.inr (by decide)
          · exact Or.inl (by decide))
        rw [o5] at g
        exact g
      · -- and, or
        have hop : op i = 11 ∨ op i = 12 := o1
        have e0 := hS 0 (by omega)
        have stay : ∃ r X' Y', r2_reckon nX 25 [nI 0, nI e, nI (i + 1)] [] X = some (r, X') ∧ r12_comesTo nY 16 [nI e, nI 0, 0, nI (i + 1)] [] Y = some (r, Y') ∧ (isB e = true → r = 0 ∨ r = 1) ∧ O16 X X' ∧ O20 Y Y' := by
          have := go X Y (i + 1) (by omega) (by omega) O16.refl O20.refl (hS.less (by omega)) (fun q => by rw [o3] at q; cases q)
          rw [o5] at this
          exact this
        have leap : ∃ r X' Y', r2_reckon nX 25 [nI 1, nI e, nI (vl i)] [] X = some (r, X') ∧ r12_comesTo nY 16 [nI e, nI 1, 0, nI (vl i)] [] Y = some (r, Y') ∧ (isB e = true → r = 0 ∨ r = 1) ∧ O16 X X' ∧ O20 Y Y' := by
          have := go X Y (vl i) (by omega) o7 O16.refl O20.refl (by rw [o9]; exact hS.less (by omega)) (fun _ => hB o2)
          rw [o9] at this
          exact this
        have leapX : (if nI i < nI (vl i) - (1 : Int32) then nI (vl i) - (1 : Int32) else nI i) = nI (vl i - 1) := by
          rw [show nI (vl i) - (1 : Int32) = nI (vl i - 1) from pk_sub (b := 1) (by omega)]
          by_cases q : i < vl i - 1
          · rw [if_pos (nI_lt q (by omega))]
          · rw [if_neg (nI_nlt (by omega) (by omega)), show vl i - 1 = i by omega]
        have h139 : ∀ (k : Int32), k = (if op i = 12 then 1 else 0) → ∃ r X' Y', b2_reckon_139 (r2_reckon nX) nX (nI (dep i)) (nI e) (nI i) (nI (op i)) (nI (vl i)) X = some (r, X') ∧ b12_comesTo_135 (r12_comesTo nY) nY (nI e) (nI (dep i)) 0 (nI (i + 1)) (nI (op i)) (nI (vl i)) Y = some (r, Y') ∧ (isB e = true → r = 0 ∨ r = 1) ∧ O16 X X' ∧ O20 Y Y' := by
          intro k hk
          unfold b2_reckon_139 b2_reckon_155 b2_reckon_167 b2_reckon_175 b2_reckon_196 b2_reckon_210 b2_reckon_298 b12_comesTo_135 b12_comesTo_155 b12_comesTo_230
          rw [o4, show nI 1 - (1 : Int32) = nI 0 by decide, chk_in (by decide) (by decide), chk_in (by decide) (by decide), nI_clamp (show 0 < 2 ^ 31 by decide), leapX, ← e0]
          simp only [show (nI (op i) = (12 : Int32)) = (op i = 12) from opl _ 12 c1 (by decide), lt_v, nI_1, Int32.zero_add, show vl i - 1 + 1 = vl i by omega, show ((1 : Int32) = 0) = False from eq_false (by decide), show ((0 : Int32) = 1) = False from eq_false (by decide), if_true, if_false]
          rcases hB o2 with q | q
          · rw [q]
            simp only [if_true, show ((0 : Int32) = 1) = False from eq_false (by decide), if_false]
            by_cases c12 : op i = 12
            · rw [if_pos c12, if_pos c12]
              exact stay
            · rw [if_neg c12, if_neg c12]
              exact leap
          · rw [q]
            simp only [if_true, show ((1 : Int32) = 0) = False from eq_false (by decide), if_false]
            by_cases c12 : op i = 12
            · rw [if_pos c12, if_pos c12]
              exact leap
            · rw [if_neg c12, if_neg c12]
              exact stay
        have n0 : ¬ op i = 0 := by omega
        have n1 : ¬ op i = 1 := by omega
        have n10 : ¬ op i = 10 := by omega
        rw [if_neg n0, if_neg n1, if_pos (show (1 : Int32) ≤ nI (dep i) from nI_le (a := 1) (by omega) (by omega)), if_neg n0, if_neg n1, if_neg n10, if_neg n10]
        by_cases c11 : op i = 11
        · rw [if_pos c11, if_pos c11]
          exact h139 _ rfl
        · have c12 : op i = 12 := by omega
          rw [if_neg c11, if_pos c12, if_neg c11, if_pos c12]
          exact h139 _ rfl
