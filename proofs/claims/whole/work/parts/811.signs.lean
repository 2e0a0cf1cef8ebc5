/-! THE LAW's reader: one sign, the class's side -/
theorem bnd_id {α : Type} (o : Option (α × Mem)) : (bnd o fun r M => some (r, M)) = o := by
  cases o with
  | none => rfl
  | some x => rfl
theorem idx_byte : ∀ b, b < 256 → (nI b).toInt8.toInt32 = nI b ∧ b < 128 ∨ (nI b).toInt8.toInt32 < 0 ∧ 128 ≤ b := by decide +kernel
theorem idx_eq {b k : Nat} (hb : b < 256) (hk : k < 128) : (nI k = (nI b).toInt8.toInt32) = (b = k) := by
  rcases idx_byte b hb with ⟨h1, h2⟩ | ⟨h1, h2⟩
  · rw [h1]
    exact propext ⟨fun e => ((nI_eq (by omega) (by omega)).mp e).symm, fun e => by rw [e]⟩
  · refine propext ⟨fun e => ?_, fun e => by omega⟩
    rw [← e] at h1
    exact absurd h1 (nI_pos (by omega))
theorem idx_e {k n b : Nat} {M : Mem} (hk : k < 3) (hb : b < 256) : fZJ0_indexOf_0f7a4 n k ((nI b).toUInt32 % 65536).toInt32 M = rZJ1_indexOfChar_4cfef k (n + 1) 7 [nI (strLens.getD k 0), (nI b).toInt8.toInt32, nI 0] [] M := by
  rw [pk_char, pk_tn (by omega), Nat.mod_eq_of_lt (by omega)]
  rw [eZJ1_indexOfChar_4cfef_7]
  unfold fZJ0_indexOf_0f7a4 bZJ0_indexOf_0f7a4_0 fZJ0_indexOf_7cf53 bZJ0_indexOf_7cf53_0 fZJ0_isLatin1_aae02 bZJ0_isLatin1_aae02_0 fZJ0_length_8abf5 bZJ0_length_8abf5_0 fZJ0_coder_7d493 bZJ0_coder_7d493_0 fZJ1_indexOf_4cfef bZJ1_indexOf_4cfef_0 fZJ1_canEncode_9a6ad bZJ1_canEncode_9a6ad_0 fZJ1_indexOfChar_4cfef bZJ1_indexOfChar_4cfef_0
  simp only [show ((1 : Int32) = 0) = False from eq_false (by decide), if_false, if_true, bnd_s', lt_v, nI_0]
  rw [if_neg (nI_pos (by omega)), if_neg (show ¬ (255 : Int32) < nI b from nI_nlt (a := 255) (by omega) (by decide)), bnd_s', if_neg (by decide)]
  simp only [bnd_id]
  have : k = 0 ∨ k = 1 ∨ k = 2 := by omega
  rcases this with rfl | rfl | rfl
  · rw [if_pos (by decide), show (if Int32.ofNat (strLens.getD 0 0) < Int32.ofNat (strLens.getD 0 0) >>> ((0 : Int32) &&& 31) then Int32.ofNat (strLens.getD 0 0) else Int32.ofNat (strLens.getD 0 0) >>> ((0 : Int32) &&& 31)) = nI (strLens.getD 0 0) by decide, show (if (0 : Int32) < 0 then (0 : Int32) else 0) = 0 by decide]
  · rw [if_pos (by decide), show (if Int32.ofNat (strLens.getD 1 0) < Int32.ofNat (strLens.getD 1 0) >>> ((0 : Int32) &&& 31) then Int32.ofNat (strLens.getD 1 0) else Int32.ofNat (strLens.getD 1 0) >>> ((0 : Int32) &&& 31)) = nI (strLens.getD 1 0) by decide, show (if (0 : Int32) < 0 then (0 : Int32) else 0) = 0 by decide]
  · rw [if_pos (by decide), show (if Int32.ofNat (strLens.getD 2 0) < Int32.ofNat (strLens.getD 2 0) >>> ((0 : Int32) &&& 31) then Int32.ofNat (strLens.getD 2 0) else Int32.ofNat (strLens.getD 2 0) >>> ((0 : Int32) &&& 31)) = nI (strLens.getD 2 0) by decide, show (if (0 : Int32) < 0 then (0 : Int32) else 0) = 0 by decide]
theorem idx_go {k n b c i L : Nat} {M : Mem} (hL : strLens.getD k 0 = L) (hL2 : L < 128) (hi : i < L) (hc : (strByts.getD k []).getD i 0 = nI c) (hc2 : c < 128) (hb : b < 256) : rZJ1_indexOfChar_4cfef k (n + 1) 7 [nI L, (nI b).toInt8.toInt32, nI i] [] M = if b = c then some (nI i, M) else rZJ1_indexOfChar_4cfef k n 7 [nI L, (nI b).toInt8.toInt32, nI (i + 1)] [] M := by
  rw [eZJ1_indexOfChar_4cfef_7]
  unfold bZJ1_indexOfChar_4cfef_7
  rw [if_neg (nI_ge hi (by omega)), hL, chk_in hi (by omega), nI_clamp (by omega), hc, lt_v, nI_1]
  simp only [idx_eq hb hc2]
theorem idx_end {k n L : Nat} {v : Int32} {M : Mem} : rZJ1_indexOfChar_4cfef k (n + 1) 7 [nI L, v, nI L] [] M = some (-1, M) := by
  rw [eZJ1_indexOfChar_4cfef_7]
  unfold bZJ1_indexOfChar_4cfef_7
  rw [if_pos (Int32.le_refl _)]
/-- letters, signs of sums, signs of comparisons -/
def fo (b : Nat) : Nat := if b = 104 then 0 else if b = 100 then 1 else if b = 109 then 2 else if b = 120 then 3 else if b = 121 then 4 else if b = 119 then 5 else if b = 110 then 6 else if b = 98 then 7 else if b = 118 then 8 else 9
def so (b : Nat) : Nat := if b = 43 then 2 else if b = 45 then 3 else if b = 42 then 4 else if b = 47 then 5 else if b = 37 then 6 else 0
def cmo (b : Nat) : Nat := if b = 60 then 7 else if b = 62 then 8 else if b = 61 then 9 else 0
theorem idx0 {n b : Nat} {M : Mem} (hb : b < 256) (hn : 20 ≤ n) : fZJ0_indexOf_0f7a4 n 0 ((nI b).toUInt32 % 65536).toInt32 M = some (if fo b < 9 then nI (fo b) else -1, M) := by
  obtain ⟨n, rfl⟩ : ∃ n', n = n' + 20 := ⟨n - 20, by omega⟩
  rw [idx_e (by decide) hb, show strLens.getD 0 0 = 9 from rfl]
  rw [idx_go (L := 9) (c := 104) rfl (by decide) (by decide) rfl (by decide) hb, idx_go (L := 9) (c := 100) rfl (by decide) (by decide) rfl (by decide) hb, idx_go (L := 9) (c := 109) rfl (by decide) (by decide) rfl (by decide) hb, idx_go (L := 9) (c := 120) rfl (by decide) (by decide) rfl (by decide) hb, idx_go (L := 9) (c := 121) rfl (by decide) (by decide) rfl (by decide) hb, idx_go (L := 9) (c := 119) rfl (by decide) (by decide) rfl (by decide) hb, idx_go (L := 9) (c := 110) rfl (by decide) (by decide) rfl (by decide) hb, idx_go (L := 9) (c := 98) rfl (by decide) (by decide) rfl (by decide) hb, idx_go (L := 9) (c := 118) rfl (by decide) (by decide) rfl (by decide) hb, idx_end]
  unfold fo
  repeat' split
  all_goals first | rfl | omega
theorem idx1 {n b : Nat} {M : Mem} (hb : b < 256) (hn : 20 ≤ n) : fZJ0_indexOf_0f7a4 n 1 ((nI b).toUInt32 % 65536).toInt32 M = some (if so b = 0 then -1 else nI (so b - 2), M) := by
  obtain ⟨n, rfl⟩ : ∃ n', n = n' + 20 := ⟨n - 20, by omega⟩
  rw [idx_e (by decide) hb, show strLens.getD 1 0 = 5 from rfl]
  rw [idx_go (L := 5) (c := 43) rfl (by decide) (by decide) rfl (by decide) hb, idx_go (L := 5) (c := 45) rfl (by decide) (by decide) rfl (by decide) hb, idx_go (L := 5) (c := 42) rfl (by decide) (by decide) rfl (by decide) hb, idx_go (L := 5) (c := 47) rfl (by decide) (by decide) rfl (by decide) hb, idx_go (L := 5) (c := 37) rfl (by decide) (by decide) rfl (by decide) hb, idx_end]
  unfold so
  repeat' split
  all_goals first | rfl | omega
theorem idx2 {n b : Nat} {M : Mem} (hb : b < 256) (hn : 20 ≤ n) : fZJ0_indexOf_0f7a4 n 2 ((nI b).toUInt32 % 65536).toInt32 M = some (if cmo b = 0 then -1 else nI (cmo b - 7), M) := by
  obtain ⟨n, rfl⟩ : ∃ n', n = n' + 20 := ⟨n - 20, by omega⟩
  rw [idx_e (by decide) hb, show strLens.getD 2 0 = 3 from rfl]
  rw [idx_go (L := 3) (c := 60) rfl (by decide) (by decide) rfl (by decide) hb, idx_go (L := 3) (c := 62) rfl (by decide) (by decide) rfl (by decide) hb, idx_go (L := 3) (c := 61) rfl (by decide) (by decide) rfl (by decide) hb, idx_end]
  unfold cmo
  repeat' split
  all_goals first | rfl | omega
theorem so_in (b : Nat) : so b = 0 ∨ (2 ≤ so b ∧ so b ≤ 6) := by
  unfold so
  repeat' split
  all_goals omega
theorem cmo_in (b : Nat) : cmo b = 0 ∨ (7 ≤ cmo b ∧ cmo b ≤ 9) := by
  unfold cmo
  repeat' split
  all_goals omega
section PS
variable {T : Nat → Nat} {N q : Nat} {g : Nat → Nat → Int32} {st : Nat} {s : St} {z : Zc} {M : Mem}
theorem XV.st_to (h : XV T N q g st s z M) (k : Nat) : XV T N q g k s z (wI M 17 9 (nI k)) := by
  obtain ⟨a1, a2, a3, a4, a5, a6, a7, a8, a9, a10⟩ := h
  exact ⟨a1, a2, rfl, a4, a5, a6, a7, a8, a9, a10.keep fun j _ => ⟨rfl, rfl⟩⟩
theorem open_x {o : Nat} (h : XV T N q g st s z M) (hs : Sh s) (ho : o = 10 ∨ o = 13 ∨ o = 14) (hc : oc s < 6) : ∃ M', (∀ n, f3_open n (nI o) M = some (0, M')) ∧ XV T N q g (if o = 14 then 3 else 2) ((o, 0) :: s) z M' := by
  have hl := hs.le (by omega)
  obtain ⟨a1, a2, a3, a4, a5, a6, a7, a8, a9, a10⟩ := h
  have eo : oc ((o, 0) :: s) = oc s + 1 := by simp only [oc]; rw [if_pos ho]
  refine ⟨wI (wI (wI (wI (wI M 17 8 (nI (oc s + 1))) 21 s.length (nI o)) 22 s.length (nI z.1)) 17 7 (nI (s.length + 1))) 17 9 (nI (if o = 14 then 3 else 2)), fun n => ?_, a1, a2, rfl, a4, a5, a6, rfl, by rw [eo]; rfl, a9, a10.push0 (e := (o, 0)) (by omega) (by simp only; omega) (fun j => rfl) (fun j hj => ?_)⟩
  · have h8 : XV T N q g st s z (wI M 17 8 (nI (oc s))) := ⟨a1, a2, a3, a4, a5, a6, a7, rfl, a9, a10.keep fun j _ => ⟨rfl, rfl⟩⟩
    unfold f3_open b3_open_0 b3_open_38
    rw [a8, if_pos (show nI (oc s) < (6 : Int32) from nI_lt (b := 6) hc (by decide)), lt_v, nI_1]
    have pe : f3_push n (nI o) (wI M 17 8 (nI (oc s + 1))) = some ((), wI (wI (wI (wI M 17 8 (nI (oc s + 1))) 21 s.length (nI o)) 22 s.length (nI z.1)) 17 7 (nI (s.length + 1))) := by
      unfold f3_push b3_push_0
      rw [show (wI M 17 8 (nI (oc s + 1))).1 17 7 = nI s.length from a7, if_neg (show ¬ (64 : Int32) ≤ nI s.length from nI_ge (b := 64) (by omega) (by decide)), chk_in (by omega) (by decide), lt_v, nI_clamp (by omega), show (wI (wI M 17 8 (nI (oc s + 1))) 21 s.length (nI o)).1 17 7 = nI s.length from a7, chk_in (by omega) (by decide), lt_v, lt_v, nI_clamp (by omega), show (wI (wI M 17 8 (nI (oc s + 1))) 21 s.length (nI o)).1 17 6 = nI z.1 from a6, show (wI (wI (wI M 17 8 (nI (oc s + 1))) 21 s.length (nI o)) 22 s.length (nI z.1)).1 17 7 = nI s.length from a7, nI_1]
    rw [bnd_e pe]
    by_cases c : o = 14
    · rw [if_pos (show nI o = (14 : Int32) by rw [c]; rfl), if_pos c, lt_v]; rfl
    · rw [if_neg (c := nI _ = (14 : Int32)) (fun e => c ((nI_eq (b := 14) (by omega) (by decide)).mp e)), if_neg c, lt_v]; rfl
  · show (if j = s.length then nI z.1 else M.1 22 j) = M.1 22 j
    rw [if_neg hj]
theorem open_no {o : Nat} (h : XV T N q g st s z M) (hc : 6 ≤ oc s) (hc2 : oc s < 1000) : ∀ n, f3_open n (nI o) M = some (5, M) := by
  intro n
  unfold f3_open b3_open_0
  rw [h.2.2.2.2.2.2.2.1, if_neg (show ¬ nI (oc s) < (6 : Int32) from nI_nlt (b := 6) hc (by omega))]
theorem await_x {o k : Nat} (h : XV T N q g st s z M) (hs : s.length < 64) (ho : 2 ≤ o ∧ o ≤ 9) : ∃ M', (∀ n, f3_await n (nI o) (nI k) M = some (0, M')) ∧ XV T N q g k ((o, 0) :: s) z M' := by
  have pe := push_x (o := o) h hs
  obtain ⟨a1, a2, a3, a4, a5, a6, a7, a8, a9, a10⟩ := h
  have eo : oc ((o, 0) :: s) = oc s := by simp only [oc]; rw [if_neg (by omega)]; rfl
  refine ⟨wI (wI (wI (wI M 21 s.length (nI o)) 22 s.length (nI z.1)) 17 7 (nI (s.length + 1))) 17 9 (nI k), fun n => ?_, a1, a2, rfl, a4, a5, a6, rfl, by rw [eo]; exact a8, a9, a10.push0 (e := (o, 0)) (by simp only; omega) (by simp only; omega) (fun j => rfl) (fun j hj => ?_)⟩
  · unfold f3_await b3_await_0 b3_await_23
    rw [bnd_e (pe n), if_neg (show ¬ nI o = (11 : Int32) from fun e => by have := (nI_eq (b := 11) (by omega) (by decide)).mp e; omega), if_neg (show ¬ nI o = (12 : Int32) from fun e => by have := (nI_eq (b := 12) (by omega) (by decide)).mp e; omega), lt_v]
  · show (if j = s.length then nI z.1 else M.1 22 j) = M.1 22 j
    rw [if_neg hj]
theorem await_j {o k : Nat} (h : XV T N q g st s z M) (hs : s.length < 64) (hz : z.1 < 240) (ho : o = 11 ∨ o = 12) : ∃ M', (∀ n, f3_await n (nI o) (nI k) M = some (0, M')) ∧ XV T N q g k ((o, z.1) :: s) (adz z o 0) M' := by
  have pe := push_x (o := o) h hs
  obtain ⟨a1, a2, a3, a4, a5, a6, a7, a8, a9, a10⟩ := h
  have eo : oc ((o, z.1) :: s) = oc s := by simp only [oc]; rw [if_neg (by omega)]; rfl
  have h1 : XV T N q g st ((o, z.1) :: s) z (wI (wI (wI M 21 s.length (nI o)) 22 s.length (nI z.1)) 17 7 (nI (s.length + 1))) := ⟨a1, a2, a3, a4, a5, a6, rfl, by rw [eo]; exact a8, a9, a10.push (e := (o, z.1)) (by simp only; omega) (fun j => rfl) (fun j => rfl)⟩
  obtain ⟨M', f1, h2⟩ := add_x (o := o) (v := 0) h1 hz (by omega) (by decide)
  refine ⟨wI M' 17 9 (nI k), fun n => ?_, h2.st_to k⟩
  have fin : b3_await_17 (fun _ _ _ _ => none) n (nI o) (nI k) (wI (wI (wI M 21 s.length (nI o)) 22 s.length (nI z.1)) 17 7 (nI (s.length + 1))) = some (0, wI M' 17 9 (nI k)) := by
    unfold b3_await_17 b3_await_23
    rw [← nI_0, bnd_e (f1 n), lt_v]
  unfold f3_await b3_await_0
  rw [bnd_e (pe n)]
  by_cases c : o = 11
  · rw [if_pos (show nI o = (11 : Int32) by rw [c]; rfl)]; exact fin
  · rw [if_neg (c := nI _ = (11 : Int32)) (fun e => c ((nI_eq (b := 11) (by omega) (by decide)).mp e)), if_pos (show nI o = (12 : Int32) by rw [ho.resolve_left c]; rfl)]; exact fin
theorem close_x {e : Nat × Nat} {k : Nat} (h : XV T N q g st (e :: s) z M) (he : e.1 = 13 ∨ e.1 = 14) : ∃ M', (∀ n, f3_close n (nI k) M = some (0, M')) ∧ XV T N q g k s z M' := by
  obtain ⟨a1, a2, a3, a4, a5, a6, a7, a8, a9, a10⟩ := h
  have eo : oc (e :: s) = oc s + 1 := by simp only [oc]; rw [if_pos (by omega)]
  rw [eo] at a8
  refine ⟨wI (wI (wI M 17 8 (nI (oc s))) 17 7 (nI s.length)) 17 9 (nI k), fun n => ?_, a1, a2, rfl, a4, a5, a6, rfl, rfl, a9, a10.2.keep fun j _ => ⟨rfl, rfl⟩⟩
  unfold f3_close b3_close_0
  rw [a8, nI_pred, lt_v, lt_v, lt_v, show (wI M 17 8 (nI (oc s))).1 17 7 = nI (s.length + 1) from a7, nI_pred]
theorem isc_x {o n : Nat} (ho : o ≤ 15) : f3_isComparison n (nI o) M = some (if 7 ≤ o ∧ o ≤ 9 then 1 else 0, M) := by
  unfold f3_isComparison b3_isComparison_0 b3_isComparison_16
  by_cases c1 : o < 7
  · rw [if_pos (show nI o < (7 : Int32) from nI_lt (b := 7) c1 (by decide)), if_neg (by omega)]
  · rw [if_neg (show ¬ nI o < (7 : Int32) from nI_nlt (b := 7) (by omega) (by omega))]
    by_cases c2 : 9 < o
    · rw [if_pos (show (9 : Int32) < nI o from nI_lt (a := 9) c2 (by omega)), if_neg (by omega)]
    · rw [if_neg (show ¬ (9 : Int32) < nI o from nI_nlt (a := 9) (by omega) (by decide)), if_pos (by omega)]
/-- what one sign does, by the state -/
theorem st_ne {a b : Nat} (ha : a < 100) (hb : b < 100) (h : a ≠ b) : ¬ nI a = nI b := fun e => h ((nI_eq (by omega) (by omega)).mp e)
theorem rs_any (h : XV T N q g st s z M) (h4 : st ≠ 4) (hst : st < 8) (n : Nat) (c : Int32) : f3_readSign n c M = b3_readSign_29 (fun _ _ _ _ => none) n c M := by
  unfold f3_readSign b3_readSign_0
  rw [h.2.2.1, if_neg (show ¬ nI st = (4 : Int32) from st_ne (b := 4) (by omega) (by decide) h4)]
theorem rs0 (h : XV T N q g 0 s z M) (n : Nat) (c : Int32) : f3_readSign n c M = f3_beginRule n c M := by
  rw [rs_any h (by decide) (by decide)]
  unfold b3_readSign_29
  rw [h.2.2.1, if_pos (by decide), bnd_id]
theorem rs1 (h : XV T N q g 1 s z M) (n : Nat) (c : Int32) : f3_readSign n c M = if c = 40 then f3_openRule n M else some (1, M) := by
  rw [rs_any h (by decide) (by decide)]
  unfold b3_readSign_29
  rw [h.2.2.1, if_neg (by decide), if_pos (by decide), bnd_id]
theorem rs2 (h : XV T N q g 2 s z M) (n : Nat) (c : Int32) : f3_readSign n c M = f3_beginTest n c M := by
  rw [rs_any h (by decide) (by decide)]
  unfold b3_readSign_29
  rw [h.2.2.1, if_neg (by decide), if_neg (by decide), if_pos (by decide), bnd_id]
theorem rs3 (h : XV T N q g 3 s z M) (n : Nat) (c : Int32) : f3_readSign n c M = f3_beginFactor n c M := by
  rw [rs_any h (by decide) (by decide)]
  unfold b3_readSign_29
  rw [h.2.2.1, if_neg (by decide), if_neg (by decide), if_neg (by decide), if_pos (by decide), bnd_id]
theorem rs5 (h : XV T N q g 5 s z M) (n : Nat) (c : Int32) : f3_readSign n c M = f3_goOnBehindFactor n c M := by
  rw [rs_any h (by decide) (by decide)]
  unfold b3_readSign_29
  rw [h.2.2.1, if_neg (by decide), if_neg (by decide), if_neg (by decide), if_neg (by decide), if_neg (by decide), if_pos (by decide), bnd_id]
theorem rs6 (h : XV T N q g 6 s z M) (n : Nat) (c : Int32) : f3_readSign n c M = f3_goOnBehindTest n c M := by
  rw [rs_any h (by decide) (by decide)]
  unfold b3_readSign_29
  rw [h.2.2.1, if_neg (by decide), if_neg (by decide), if_neg (by decide), if_neg (by decide), if_neg (by decide), if_neg (by decide), if_pos (by decide), bnd_id]
theorem rs7 (h : XV T N q g 7 s z M) (n : Nat) (c : Int32) : f3_readSign n c M = f3_endRule n c M := by
  rw [rs_any h (by decide) (by decide)]
  unfold b3_readSign_29
  rw [h.2.2.1, if_neg (by decide), if_neg (by decide), if_neg (by decide), if_neg (by decide), if_neg (by decide), if_neg (by decide), if_neg (by decide), bnd_id]
theorem rs4d (h : XV T N q g 4 s z M) (n : Nat) {c : Nat} (hc : c < 256) (hd : dgt c = true) : f3_readSign n (nI c) M = f3_goOnNumber n (nI c) M := by
  have hx := digit_X (n := n) (X := M) hc
  rw [if_pos hd] at hx
  unfold f3_readSign b3_readSign_0 b3_readSign_29
  rw [h.2.2.1, if_pos (by decide), bnd_e hx, if_neg (by decide), h.2.2.1, if_neg (by decide), if_neg (by decide), if_neg (by decide), if_neg (by decide), if_pos (by decide), bnd_id]
theorem rs4n (h : XV T N q g 4 s z M) {v : Nat} (h10 : M.1 17 10 = nI v) (hv : v < 1048576) (hz : z.1 < 240) : ∃ M', XV T N q g 5 s (adz z 0 v) M' ∧ ∀ n c, c < 256 → ¬ dgt c = true → f3_readSign n (nI c) M = f3_readSign n (nI c) M' := by
  obtain ⟨M1, f1, h1⟩ := add_x (o := 0) (v := v) h hz (by decide) hv
  have h2 := h1.st_to 5
  refine ⟨_, h2, fun n c hc hd => ?_⟩
  have hx := digit_X (n := n) (X := M) hc
  rw [if_neg hd] at hx
  rw [rs_any h2 (by decide) (by decide)]
  unfold f3_readSign b3_readSign_0
  rw [h.2.2.1, if_pos (by decide), bnd_e hx, if_pos rfl, h10, show (0 : Int32) = nI 0 from rfl, bnd_e (f1 n), lt_v]
  rfl
end PS
/-! runs of the class's reader -/
def Req (a b : Option (Int32 × Mem)) : Prop := a = b ∨ ∃ f M1 M2, a = some (f, M1) ∧ b = some (f, M2) ∧ Flt f
theorem Req.trans {a b c : Option (Int32 × Mem)} (h : Req a b) (k : Req b c) : Req a c := by
  rcases h with rfl | ⟨f, M1, M2, h1, h2, h3⟩
  · exact k
  · rcases k with rfl | ⟨f', M1', M2', k1, k2, k3⟩
    · exact Or.inr ⟨f, M1, M2, h1, h2, h3⟩
    · rw [h2] at k1
      have := congrArg Prod.fst (Option.some.inj k1)
      exact Or.inr ⟨f, M1, M2', h1, by rw [k2]; rw [show f = f' from this], h3⟩
def XR (N p : Nat) (M : Mem) (p' : Nat) (M' : Mem) : Prop := p ≤ p' ∧ p' ≤ N ∧ ∀ n, 1000 ≤ n → Req (r3_read (n + (p' - p)) 27 [nI N, nI p] [] M) (r3_read n 27 [nI N, nI p'] [] M')
def XF (N p : Nat) (M : Mem) (f : Int32) : Prop := Flt f ∧ ∀ n, 1000 ≤ n → ∃ M', r3_read (n + (N - p)) 27 [nI N, nI p] [] M = some (f, M')
theorem XR.refl {N p : Nat} {M : Mem} (h : p ≤ N) : XR N p M p M := ⟨Nat.le_refl _, h, fun n _ => by rw [Nat.sub_self]; exact Or.inl rfl⟩
theorem XR.trans {N p p' p'' : Nat} {M M' M'' : Mem} (h : XR N p M p' M') (k : XR N p' M' p'' M'') : XR N p M p'' M'' := by
  obtain ⟨h1, h2, h3⟩ := h
  obtain ⟨k1, k2, k3⟩ := k
  refine ⟨by omega, k2, fun n hn => ?_⟩
  have a := h3 (n + (p'' - p')) (by omega)
  rw [show n + (p'' - p') + (p' - p) = n + (p'' - p) by omega] at a
  exact a.trans (k3 n hn)
theorem XR.fault {N p p' : Nat} {M M' : Mem} {f : Int32} (h : XR N p M p' M') (k : XF N p' M' f) : XF N p M f := by
  obtain ⟨h1, h2, h3⟩ := h
  refine ⟨k.1, fun n hn => ?_⟩
  obtain ⟨M1, e1⟩ := k.2 n hn
  have a := h3 (n + (N - p')) (by omega)
  rw [show n + (N - p') + (p' - p) = n + (N - p) by omega, e1] at a
  rcases a with a | ⟨f', M1', M2', a1, a2, _⟩
  · exact ⟨M1, a⟩
  · have := congrArg Prod.fst (Option.some.inj a2)
    exact ⟨M1', by rw [a1, show f = f' from this]⟩
section RU
variable {T : Nat → Nat} {N q : Nat} {g : Nat → Nat → Int32} {st : Nat} {s : St} {z : Zc} {M : Mem} {p : Nat}
theorem read_go {n : Nat} (hT : TT1 T N M) (hp : p < N) : r3_read (n + 1) 27 [nI N, nI p] [] M = bnd (f3_readSign n (nI (T p)) M) fun r14 M15 => if r14 = 0 then r3_read n 27 [nI N, nI (p + 1)] [] M15 else some ((-1000 : Int32) * r14 - nI p, M15) := by
  have := hT.1
  rw [e3_read_27]
  unfold b3_read_27
  rw [if_neg (nI_ge hp (by omega)), bnd_e (at_X hT hp)]
  simp only [lt_v, nI_1]
  rfl
theorem read_end {n : Nat} (h3 : M.1 17 9 = nI st) (hst : st < 8) : r3_read (n + 1) 27 [nI N, nI N] [] M = if st = 7 then some (M.1 17 5, M) else some ((-1000 : Int32) * nI 1 - nI N, M) := by
  rw [e3_read_27]
  unfold b3_read_27
  rw [if_pos (Int32.le_refl _), h3]
  by_cases c : st = 7
  · rw [if_pos (by rw [c]; rfl), if_pos c]
  · rw [if_neg (show ¬ nI st = (7 : Int32) from st_ne (b := 7) (by omega) (by decide) c), if_neg c]
    rfl
theorem XR.step {M' : Mem} (hT : TT1 T N M) (hp : p < N) (h : ∀ n, 900 ≤ n → f3_readSign n (nI (T p)) M = some (0, M')) : XR N p M (p + 1) M' := by
  refine ⟨by omega, hp, fun n hn => Or.inl ?_⟩
  rw [show n + (p + 1 - p) = n + 1 by omega, read_go hT hp, h n (by omega), bnd_s', if_pos rfl]
theorem XR.same {st' : Nat} {M' : Mem} (hT : TT1 T N M) (hT' : TT1 T N M') (hp : p ≤ N) (h : p < N → ∀ n, 900 ≤ n → f3_readSign n (nI (T p)) M = f3_readSign n (nI (T p)) M') (h3 : M.1 17 9 = nI st) (hst : st < 7) (h3' : M'.1 17 9 = nI st') (hst' : st' < 7) : XR N p M p M' := by
  refine ⟨Nat.le_refl _, hp, fun n hn => ?_⟩
  have := hT.1
  rw [Nat.sub_self, Nat.add_zero]
  obtain ⟨n, rfl⟩ : ∃ n', n = n' + 1 := ⟨n - 1, by omega⟩
  by_cases c : p < N
  · rw [read_go hT c, read_go hT' c, h c n (by omega)]
    exact Or.inl rfl
  · have : p = N := by omega
    subst this
    rw [read_end h3 (by omega), read_end h3' (by omega), if_neg (by omega), if_neg (by omega)]
    exact Or.inr ⟨_, _, _, rfl, rfl, fault_neg (by decide) (by decide) (by omega)⟩
theorem XF.sign {k : Nat} (hT : TT1 T N M) (hp : p < N) (hk : 1 ≤ k) (hk9 : k ≤ 9) (h : ∀ n, 900 ≤ n → ∃ M', f3_readSign n (nI (T p)) M = some (nI k, M')) : XF N p M ((-1000 : Int32) * nI k - nI p) := by
  have := hT.1
  refine ⟨fault_neg hk hk9 (by omega), fun n hn => ?_⟩
  obtain ⟨m, hm⟩ : ∃ m, n + (N - p) = m + 1 := ⟨n + (N - p) - 1, by omega⟩
  obtain ⟨M', e⟩ := h m (by omega)
  refine ⟨M', ?_⟩
  rw [hm, read_go hT hp, e, bnd_s', if_neg (nI_ne0 (by omega) (by omega))]
theorem XF.bad (hT : TT1 T N M) (hp : p ≤ N) (h3 : M.1 17 9 = nI st) (hst : st < 7) (h : p < N → ∀ n, 900 ≤ n → ∃ M', f3_readSign n (nI (T p)) M = some (1, M')) : XF N p M ((-1000 : Int32) * nI 1 - nI p) := by
  by_cases c : p < N
  · exact XF.sign hT c (by decide) (by decide) (h c)
  · have := hT.1
    have : p = N := by omega
    subst this
    refine ⟨fault_neg (by decide) (by decide) (by omega), fun n hn => ⟨M, ?_⟩⟩
    obtain ⟨n, rfl⟩ : ∃ n', n = n' + 1 := ⟨n - 1, by omega⟩
    rw [Nat.sub_self, Nat.add_zero, read_end h3 (by omega), if_neg (by omega)]
end RU
