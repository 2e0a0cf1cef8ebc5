/-! the search of the class (spread) and of the reference (laysFrom, steps) -/
def fl (sq : Nat) (kd : Nat → Nat) (f : Nat) (p : Nat) : Bool := decide (f ≤ kof sq kd p)
/-- the rows of the class's search: the table in cell k0 from place 0 on, the queue in 9 -/
def SX (k0 : Nat) (D q : Nat → Nat) (sz : Nat) (M : Mem) : Prop := (∀ p, p < 96 → M.1 k0 p = nI (D p)) ∧ ∀ j, j < sz → M.1 9 j = nI (q j)
theorem spread_loop {sq : Nat} {kd : Nat → Nat} {k0 f s : Nat} (hk : k0 ≠ 3 ∧ k0 ≠ 4 ∧ k0 ≠ 9) (hf : f ≤ 2) (hs : s < 96) : ∀ (m : Nat) (D q : Nat → Nat) (sz i w n : Nat) (M : Mem), BI (fl sq kd f) s D q sz i w → i < sz → w ≤ 4 → 5 * (96 - i) - w ≤ m → 2 * m < n → TX sq kd M → SX k0 D q sz M → ∃ M' D', r8_spread k0 n 69 [nI f, nI sz, nI i, nI (q i), nI w] [] M = some ((), M') ∧ Dis (fl sq kd f) s D' ∧ ∀ p, p < 96 → M'.1 k0 p = nI (D' p) := by
  intro m
  induction m with
  | zero => intro D q sz i w n M h hi hw hm; have := h.1.1; omega
  | succ m ih =>
    intro D q sz i w n M h hi hw hm hn hT hS
    obtain ⟨n, rfl⟩ : ∃ n', n = n' + 1 := ⟨n - 1, by omega⟩
    have hsz := h.1.1
    have hqi := (h.2.1 i hi).1
    have hDi := (h.2.1 i hi).2.1
    rw [e8_spread_69]
    unfold b8_spread_69
    by_cases e : w = 4
    · subst e
      have h2 := h.next hi
      rw [if_pos (show (4 : Int32) ≤ nI 4 by decide), lt_v, nI_1]
      obtain ⟨n, rfl⟩ : ∃ n', n = n' + 1 := ⟨n - 1, by omega⟩
      rw [e8_spread_43]
      unfold b8_spread_43
      by_cases e2 : i + 1 < sz
      · rw [if_neg (nI_ge e2 (by omega)), if_neg (show ¬ (96 : Int32) ≤ nI (i + 1) from nI_ge (b := 96) (by omega) (by decide)), chk_in (by omega) (by decide), nI_clamp (by omega), lt_v, hS.2 _ e2, ← e8_spread_69, ← nI_0]
        exact ih D q sz (i + 1) 0 (n + 1) M h2 e2 (by omega) (by omega) (by omega) hT hS
      · have : i + 1 = sz := by omega
        rw [this] at h2 ⊢
        rw [if_pos (Int32.le_refl _)]
        exact ⟨M, D, rfl, h2.fin hs, hS.1⟩
    · rw [if_neg (show ¬ (4 : Int32) ≤ nI w from nI_ge (b := 4) (by omega) (by decide)), bnd_e (bes_X hqi (by omega))]
      by_cases hb : bes (q i) w < 96
      · rw [bI_in hb, if_neg (nI_pos (by omega)), bnd_e (kindOf_X hT hb)]
        have hkk := kof_le (sq := sq) (hT.2.2 _ hb).2
        by_cases hc : kof sq kd (bes (q i) w) < f
        · rw [if_pos (nI_lt hc (by omega))]
          unfold b8_spread_137
          rw [lt_v, nI_1]
          exact ih D q sz i (w + 1) n M (h.pass hi (Or.inr (Or.inl (by unfold fl; simp; omega)))) hi (by omega) (by omega) (by omega) hT hS
        · rw [if_neg (nI_nlt (by omega) (by omega)), chk_in hb (by decide), nI_clamp (by omega), hS.1 _ hb]
          have ho : fl sq kd f (bes (q i) w) = true := by unfold fl; simp; omega
          by_cases hd : D (bes (q i) w) = 99
          · have hr := h.room hb hd
            rw [hd, if_pos (show nI 99 = (99 : Int32) from rfl), if_neg (show ¬ (96 : Int32) ≤ nI sz from nI_ge (b := 96) hr.1 (by decide)), chk_in hqi (by decide), chk_in hb (by decide), lt_v, chk_in hr.1 (by decide), lt_v, lt_v, nI_clamp (by omega), nI_clamp (by omega), hS.1 _ hqi, nI_1, nI_1]
            unfold b8_spread_137
            rw [lt_v, nI_1]
            have g := ih (up D (bes (q i) w) (D (q i) + 1)) (up q sz (bes (q i) w)) (sz + 1) i (w + 1) n (wI (wI M k0 (bes (q i) w) (nI (D (q i) + 1))) 9 sz (nI (bes (q i) w))) (h.take hi (by omega) hb ho hd) (by omega) (by omega) (by omega) (by omega) (hT.keep (by simp only [wI_at]; rw [if_neg (by decide), if_neg (fun e => hk.1 e.symm)]) (by rw [(wI_o 4 (by decide)).1, (wI_o 4 (fun e => hk.2.1 e.symm)).1])) ⟨fun p hp => by
                simp only [wI_at]
                rw [if_neg hk.2.2]
                simp only [if_true]
                unfold up
                by_cases e3 : p = bes (q i) w
                · rw [if_pos e3, if_pos e3]
                · rw [if_neg e3, if_neg e3]; exact hS.1 p hp, fun j hj => by
                simp only [wI_at, if_true]
                unfold up
                by_cases e3 : j = sz
                · rw [if_pos e3, if_pos e3]
                · rw [if_neg e3, if_neg e3, if_neg (fun e => hk.2.2 e.symm)]; exact hS.2 j (by omega)⟩
            rw [up_ne (show i ≠ sz by omega)] at g
            exact g
          · rw [if_neg (show ¬ nI (D (bes (q i) w)) = (99 : Int32) from fun e => hd ((nI_eq (b := 99) (by
              obtain ⟨j, hj, ej⟩ := (h.2.2.2.1 _ hb).resolve_left hd
              have := (h.2.1 j hj).2.1
              rw [ej] at this
              omega) (by decide)).mp e))]
            unfold b8_spread_137
            rw [lt_v, nI_1]
            exact ih D q sz i (w + 1) n M (h.pass hi (Or.inr (Or.inr hd))) hi (by omega) (by omega) (by omega) hT hS
      · rw [bI_out hb, if_pos (by decide)]
        unfold b8_spread_137
        rw [lt_v, nI_1]
        exact ih D q sz i (w + 1) n M (h.pass hi (Or.inl hb)) hi (by omega) (by omega) (by omega) hT hS
/-- spread: the steps from one place to each -/
theorem spread_spec {sq n : Nat} {kd : Nat → Nat} {k0 f s : Nat} {M : Mem} (hn : 10000 ≤ n) (hk : k0 ≠ 3 ∧ k0 ≠ 4 ∧ k0 ≠ 9) (hf : f ≤ 2) (hs : s < 96) (hT : TX sq kd M) : ∃ M', f8_spread n k0 (nI s) (nI f) M = some ((), M') ∧ ∀ p, p < 96 → M'.1 k0 p = nI (ds (fl sq kd f) s p) := by
  unfold f8_spread b8_spread_0
  rw [bnd_e (fill_spec k0 96 99 M (by omega) (by decide)), if_neg (nI_pos (by omega)), if_neg (show ¬ (96 : Int32) ≤ nI s from nI_ge (b := 96) hs (by decide))]
  have hT2 : TX sq kd (wR M k0 (fun j => if j < 96 then 99 else M.1 k0 j)) := hT.keep (by rw [wR_at, if_neg (fun e => hk.1 e.symm)]) (by rw [(wR_o 4 (fun e => hk.2.1 e.symm)).1])
  rw [bnd_e (kindOf_X hT2 hs)]
  have hkk := kof_le (sq := sq) (hT.2.2 _ hs).2
  by_cases hc : f ≤ kof sq kd s
  · rw [if_pos (nI_le hc (by omega)), chk_in hs (by decide), lt_v, chk_t (b := inb 0 96) (by decide), lt_v, nI_clamp (by omega)]
    unfold b8_spread_43
    rw [if_neg (by decide), if_neg (by decide), chk_t (b := inb 0 96) (by decide), lt_v]
    have z0 : (0 : Int32).toNatClampNeg = 0 := by decide
    rw [z0, show (wI (wI (wR M k0 (fun j => if j < 96 then 99 else M.1 k0 j)) k0 s 0) 9 0 (nI s)).1 9 0 = nI s by simp only [wI_at, if_true]]
    have g := spread_loop (sq := sq) (kd := kd) (f := f) (s := s) hk hf hs 480 (fun p => if p = s then 0 else 99) (fun _ => s) 1 0 0 (n + 1) (wI (wI (wR M k0 (fun j => if j < 96 then 99 else M.1 k0 j)) k0 s 0) 9 0 (nI s)) (BI.init hs (by unfold fl; simp; omega) rfl) (by decide) (by decide) (by decide) (by omega) (hT2.keep (by simp only [wI_at]; rw [if_neg (by decide), if_neg (fun e => hk.1 e.symm)]) (by rw [(wI_o 4 (by decide)).1, (wI_o 4 (fun e => hk.2.1 e.symm)).1])) ⟨fun p hp => by
        simp only [wI_at, wR_at]
        rw [if_neg hk.2.2]
        simp only [if_true]
        by_cases e3 : p = s
        · rw [if_pos e3, if_pos e3]; rfl
        · rw [if_neg e3, if_neg e3, if_pos hp]; rfl, fun j hj => by
        have : j = 0 := by omega
        subst this
        simp only [wI_at, if_true]⟩
    obtain ⟨M', D', g1, g2, g3⟩ := g
    rw [e8_spread_69] at g1
    exact ⟨M', g1, fun p hp => by rw [g3 p hp, g2.eq hs hp]⟩
  · rw [if_neg (nI_ge (by omega) (by omega))]
    refine ⟨_, rfl, fun p hp => ?_⟩
    have : Dis (fl sq kd f) s (fun _ => 99) := Dis.none (by unfold fl; simp; omega) (fun _ _ => rfl)
    rw [wR_at, if_pos rfl, if_pos hp, ← this.eq hs hp]
    rfl
theorem spread_m1 {n k0 : Nat} {f : Int32} {M : Mem} (hn : 10000 ≤ n) : ∃ M', f8_spread n k0 (-1) f M = some ((), M') ∧ ∀ p, p < 96 → M'.1 k0 p = nI 99 := by
  unfold f8_spread b8_spread_0
  rw [bnd_e (fill_spec k0 96 99 M (by omega) (by decide)), if_pos (by decide)]
  refine ⟨_, rfl, fun p hp => ?_⟩
  rw [wR_at, if_pos rfl, if_pos hp]
  rfl
/-! the reference's -/
def SY (a : Nat) (D q : Nat → Nat) (sz : Nat) (M : Mem) : Prop := (∀ p, p < 96 → M.1 6 (96 * a + p) = nI (D p)) ∧ ∀ j, j < sz → M.1 7 j = nI (q j)
def outside (a : Nat) (M0 M : Mem) : Prop := ∀ j, (j < 96 * a ∨ 96 * a + 96 ≤ j) → M.1 6 j = M0.1 6 j
theorem byte99 {v : Nat} (h : v < 128) : (nI v).toInt8.toInt32.toInt8.toInt32 = nI v := by rw [fa_byte_small h, fa_byte_small h]
theorem lays_loop {sq : Nat} {kd : Nat → Nat} {s : Nat} (hs : s < 96) (M0 : Mem) : ∀ (m : Nat) (D q : Nat → Nat) (sz i w n : Nat) (M : Mem), BI (opn sq kd) s D q sz i w → i < sz → w ≤ 4 → 5 * (96 - i) - w ≤ m → 2 * m < n → TY sq kd M → SY s D q sz M → outside s M0 M → ∃ M' D', r12_laysFrom n 67 [nI s, nI sz, nI i, nI w] [] M = some ((), M') ∧ Dis (opn sq kd) s D' ∧ (∀ p, p < 96 → M'.1 6 (96 * s + p) = nI (D' p)) ∧ outside s M0 M' := by
  intro m
  induction m with
  | zero => intro D q sz i w n M h hi hw hm; have := h.1.1; omega
  | succ m ih =>
    intro D q sz i w n M h hi hw hm hn hT hS hO
    obtain ⟨n, rfl⟩ : ∃ n', n = n' + 1 := ⟨n - 1, by omega⟩
    have hsz := h.1.1
    have hqi := (h.2.1 i hi).1
    have hDi := (h.2.1 i hi).2.1
    rw [e12_laysFrom_67]
    unfold b12_laysFrom_67
    by_cases e : w = 4
    · subst e
      have h2 := h.next hi
      rw [if_pos (show (4 : Int32) ≤ nI 4 by decide), lt_v, nI_1]
      obtain ⟨n, rfl⟩ : ∃ n', n = n' + 1 := ⟨n - 1, by omega⟩
      rw [e12_laysFrom_59]
      unfold b12_laysFrom_59
      by_cases e2 : i + 1 < sz
      · rw [if_neg (nI_ge e2 (by omega)), ← e12_laysFrom_67, ← nI_0]
        exact ih D q sz (i + 1) 0 (n + 1) M h2 e2 (by omega) (by omega) (by omega) hT hS hO
      · have : i + 1 = sz := by omega
        rw [this] at h2 ⊢
        rw [if_pos (Int32.le_refl _)]
        exact ⟨M, D, rfl, h2.fin hs, hS.1, hO⟩
    · rw [if_neg (show ¬ (4 : Int32) ≤ nI w from nI_ge (b := 4) (by omega) (by decide)), chk_in (by omega) (by decide), nI_clamp (by omega), hS.2 i hi, bnd_e (bes_Y hqi (by omega))]
      by_cases hb : bes (q i) w < 96
      · rw [bI_in hb, if_neg (nI_m1 (by omega)), bnd_e (isOpen_Y hT hb)]
        by_cases ho : opn sq kd (bes (q i) w) = true
        · have z1 : (96 : Int32) * nI s + nI (bes (q i) w) = nI (96 * s + bes (q i) w) := by rw [show (96 : Int32) = nI 96 from rfl, pk_mul, nI_add]
          have z2 : (96 : Int32) * nI s + nI (q i) = nI (96 * s + q i) := by rw [show (96 : Int32) = nI 96 from rfl, pk_mul, nI_add]
          rw [if_pos ho, if_neg (by decide), z1, chk_in (by omega) (by decide), nI_clamp (by omega), hS.1 _ hb]
          by_cases hd : D (bes (q i) w) = 99
          · have hr := h.room hb hd
            rw [hd, if_pos (show nI 99 = (99 : Int32) from rfl), hS.2 i hi, z2, chk_in (by omega) (by decide), chk_in (by omega) (by decide), chk_in (by omega) (by decide), lt_v, chk_in (by omega) (by decide), lt_v, lt_v, nI_clamp (by omega), nI_clamp (by omega), hS.1 _ hqi, nI_1, nI_1, byte99 (by omega)]
            unfold b12_laysFrom_164
            rw [lt_v, nI_1]
            refine ih (up D (bes (q i) w) (D (q i) + 1)) (up q sz (bes (q i) w)) (sz + 1) i (w + 1) n (wI (wI M 6 (96 * s + bes (q i) w) (nI (D (q i) + 1))) 7 sz (nI (bes (q i) w))) (h.take hi (by omega) hb ho hd) (by omega) (by omega) (by omega) (by omega) (hT.keep rfl rfl) ⟨fun p hp => ?_, fun j hj => ?_⟩ (fun j hj => ?_)
            · simp only [wI_at]
              rw [if_neg (by decide)]
              simp only [if_true]
              unfold up
              by_cases e3 : p = bes (q i) w
              · rw [if_pos (by omega), if_pos e3]
              · rw [if_neg (by omega), if_neg e3]; exact hS.1 p hp
            · simp only [wI_at, if_true]
              unfold up
              by_cases e3 : j = sz
              · rw [if_pos e3, if_pos e3]
              · rw [if_neg e3, if_neg e3, if_neg (by decide)]; exact hS.2 j (by omega)
            · simp only [wI_at]
              rw [if_neg (by decide), if_pos trivial, if_neg (by omega)]
              exact hO j hj
          · rw [if_neg (show ¬ nI (D (bes (q i) w)) = (99 : Int32) from fun e => hd ((nI_eq (b := 99) (by
              obtain ⟨j, hj, ej⟩ := (h.2.2.2.1 _ hb).resolve_left hd
              have := (h.2.1 j hj).2.1
              rw [ej] at this
              omega) (by decide)).mp e))]
            unfold b12_laysFrom_164
            rw [lt_v, nI_1]
            exact ih D q sz i (w + 1) n M (h.pass hi (Or.inr (Or.inr hd))) hi (by omega) (by omega) (by omega) hT hS hO
        · rw [if_neg ho, if_pos rfl]
          unfold b12_laysFrom_164
          rw [lt_v, nI_1]
          exact ih D q sz i (w + 1) n M (h.pass hi (Or.inr (Or.inl (by simpa using ho)))) hi (by omega) (by omega) (by omega) hT hS hO
      · rw [bI_out hb, if_pos rfl]
        unfold b12_laysFrom_164
        rw [lt_v, nI_1]
        exact ih D q sz i (w + 1) n M (h.pass hi (Or.inl hb)) hi (by omega) (by omega) (by omega) hT hS hO
