-- BronzeKing.seed(I)Z
theorem dX11_seed_0 : decode cX11_seed 0 = .ok (.iload_n 1, 1) := by decide +kernel
theorem dX11_seed_1 : decode cX11_seed 1 = .ok (.ifCond .lt 10, 3) := by decide +kernel
theorem dX11_seed_4 : decode cX11_seed 4 = .ok (.iload_n 1, 1) := by decide +kernel
theorem dX11_seed_5 : decode cX11_seed 5 = .ok (.ldc_w 312, 3) := by decide +kernel
theorem dX11_seed_8 : decode cX11_seed 8 = .ok (.if_icmp .le 5, 3) := by decide +kernel
theorem dX11_seed_11 : decode cX11_seed 11 = .ok (.iconst 0, 1) := by decide +kernel
theorem dX11_seed_12 : decode cX11_seed 12 = .ok (.ireturn, 1) := by decide +kernel
theorem dX11_seed_13 : decode cX11_seed 13 = .ok (.aload_n 0, 1) := by decide +kernel
theorem dX11_seed_14 : decode cX11_seed 14 = .ok (.getfield 81, 3) := by decide +kernel
theorem dX11_seed_17 : decode cX11_seed 17 = .ok (.iload_n 1, 1) := by decide +kernel
theorem dX11_seed_18 : decode cX11_seed 18 = .ok (.putfield 313, 3) := by decide +kernel
theorem dX11_seed_21 : decode cX11_seed 21 = .ok (.iconst 1, 1) := by decide +kernel
theorem dX11_seed_22 : decode cX11_seed 22 = .ok (.ireturn, 1) := by decide +kernel
def b11_seed_11 (rc : Nat → List Int32 → List Int64 → Mem → Option (Int32 × Mem)) (n : Nat) (M : Mem) : Option (Int32 × Mem) :=
  some ((0 : Int32), M)
def b11_seed_0 (rc : Nat → List Int32 → List Int64 → Mem → Option (Int32 × Mem)) (n : Nat) (a1 : Int32) (M : Mem) : Option (Int32 × Mem) :=
  (if a1 < 0 then (
   b11_seed_11  rc n  M)
  else (
   (if a1 ≤ (65535 : Int32) then (
    lt (wI M 330 3 a1) fun M3 =>
    some ((1 : Int32), M3))
   else (
    b11_seed_11  rc n  M))))
def f11_seed (n : Nat) (a1 : Int32) (M : Mem) : Option (Int32 × Mem) := b11_seed_0 (fun _ _ _ _ => none) n a1 M
abbrev rm11_seed : Room := { frames := 0, cells := 0, slots := 0, locals := 0 }
theorem y11_seed_w : yV RX11 yX11_seed cX11_seed 2 (some .boolean) 1 := ⟨g_1099, g_1100, g_1, g_1101, rfl, by decide, by decide, by decide +kernel⟩
set_option maxHeartbeats 4000000 in
set_option maxRecDepth 100000 in
theorem w11_seed_11 {p : Program} {l : Launch} {e : Env} {s : State} {m : MethodId} {args : Array Value} {below : List Frame} {meth : Method} {c : Code} {z : Zt} {b : Nat}  (C : Cx p s m args c cX11_seed 2 RX11 z 339 b) (hr : meth.sig.returnType = (some .boolean)) (hk : meth.locks = false) {r : Int32} {M' : Mem} {rc : Nat → List Int32 → List Int64 → Mem → Option (Int32 × Mem)} {n : Nat}   {M : Mem} {H : Heap} {locs : List Loc} {ls : Array Slot} (hf : b11_seed_11  rc n  M = some (r, M')) (hP : va_P z.1 vwCl (pw (xd z b) 339 b M) H) (hS : va_S (pA 339 b) s.heap H locs) (hl : lv_has ls 2 []) : W p l e rm11_seed s m args below meth c H locs 0 0 (MQ below (va_Qi (fun (r' : Int32) (M2 : Mem) => r' = r ∧ M2 = M') (fun M2 t => va_P z.1 vwCl (pw (xd z b) 339 b M2) t.heap) (pA 339 b)) args s 0 0 (pA 339 b)) (F0 m 11 ls []) := by
  have hx := C.1.1
  have hb := C.1.2.1
  unfold b11_seed_11 at hf
  refine lv_iconst (v := (0 : Int32)) hx hb dX11_seed_11 (by decide) ?_
  exact prZ C hr hk hP hS hf rfl dX11_seed_12
set_option maxHeartbeats 4000000 in
set_option maxRecDepth 100000 in
theorem w11_seed_0 {p : Program} {l : Launch} {e : Env} {s : State} {m : MethodId} {args : Array Value} {below : List Frame} {meth : Method} {c : Code} {z : Zt} {b : Nat}  (C : Cx p s m args c cX11_seed 2 RX11 z 339 b) (hr : meth.sig.returnType = (some .boolean)) (hk : meth.locks = false) {r : Int32} {M' : Mem} {rc : Nat → List Int32 → List Int64 → Mem → Option (Int32 × Mem)} {n : Nat}  {a1 : Int32} {M : Mem} {H : Heap} {locs : List Loc} {ls : Array Slot} (hf : b11_seed_0  rc n a1 M = some (r, M')) (hP : va_P z.1 vwCl (pw (xd z b) 339 b M) H) (hS : va_S (pA 339 b) s.heap H locs) (hl : lv_has ls 2 [(0, .ref (b + 0)), (1, .int a1)]) : W p l e rm11_seed s m args below meth c H locs 0 0 (MQ below (va_Qi (fun (r' : Int32) (M2 : Mem) => r' = r ∧ M2 = M') (fun M2 t => va_P z.1 vwCl (pw (xd z b) 339 b M2) t.heap) (pA 339 b)) args s 0 0 (pA 339 b)) (F0 m 0 ls []) := by
  have hx := C.1.1
  have hb := C.1.2.1
  unfold b11_seed_0 at hf
  refine lv_iload_n hx hb dX11_seed_0 rfl (lv_at hl 1 rfl) ?_
  refine lv_if_lt (tgt := 11) hx hb dX11_seed_1 (by decide) (fun c1 => ?_) (fun c1 => ?_)
  · replace hf := ite_t c1 hf
    exact w11_seed_11 (n := n)  C hr hk  hf hP hS (lv_sub hl [] rfl)
  · replace hf := ite_f c1 hf
    refine lv_iload_n hx hb dX11_seed_4 rfl (lv_at hl 1 rfl) ?_
    refine lv_ldcw hx hb C.1.2.2.2.1 (C.1.2.2.2.2 _ g_1102) dX11_seed_5 ?_
    refine lv_icmp_le (tgt := 13) hx hb dX11_seed_8 (by decide) (fun c2 => ?_) (fun c2 => ?_)
    · replace hf := ite_t c2 hf
      refine lv_aload_n hx hb dX11_seed_13 rfl (lv_at hl 0 rfl) ?_
      refine pg C hP (k := 0) (j := 9) (Nat.le_of_ble_eq_true rfl) (xd_0 _ _) rfl iw_11 (Nat.le_of_ble_eq_true rfl) g_429 rfl rfl dX11_seed_14 ?_
      refine lv_iload_n hx hb dX11_seed_17 rfl (lv_at hl 1 rfl) ?_
      refine ppIN C hP hS (k := 330) (j := 3) (ty := .int) (co_lt co_330) ((co_d co_330) _ _) rfl iw_0 tyX0 tyX0_ok nmX0 (Nat.le_of_ble_eq_true rfl) g_363 rfl rfl (by decide +kernel) rfl rfl (Nat.le_of_ble_eq_true rfl) (xu_co_3 co_330 _ _ _) dX11_seed_18 (fun M3 H locs eM3 hP hS => ?_)
      replace hf := lt_c eM3 hf
      refine lv_iconst (v := (1 : Int32)) hx hb dX11_seed_21 (by decide) ?_
      exact prZ C hr hk hP hS hf rfl dX11_seed_22
    · replace hf := ite_f c2 hf
      exact w11_seed_11 (n := n)  C hr hk  hf hP hS (lv_sub hl [] rfl)
theorem c11_seed {l : Launch} {z : Zt} {b n : Nat}  {a1 : Int32} {M M' : Mem} {r : Int32} (hf : f11_seed n  a1 M = some (r, M')) : CI l z (xd z b) 339 b yX11_seed cX11_seed 2 (some .boolean) rm11_seed [.ref (b + 0), .int a1] M M' r :=
  CI.ofW (lv := [(0, .ref (b + 0)), (1, .int a1)]) (by decide) (Nat.le_of_ble_eq_true rfl) rfl (fun p e s m args below meth c ls C hr hk hP hS hl => w11_seed_0 (n := n)  C hr hk  hf hP hS hl)

-- BronzeKing.keep()I
theorem dX11_keep_0 : decode cX11_keep 0 = .ok (.aload_n 0, 1) := by decide +kernel
theorem dX11_keep_1 : decode cX11_keep 1 = .ok (.getfield 85, 3) := by decide +kernel
theorem dX11_keep_4 : decode cX11_keep 4 = .ok (.aload_n 0, 1) := by decide +kernel
theorem dX11_keep_5 : decode cX11_keep 5 = .ok (.getfield 81, 3) := by decide +kernel
theorem dX11_keep_8 : decode cX11_keep 8 = .ok (.invokevirtual 147, 3) := by decide +kernel
theorem dX11_keep_11 : decode cX11_keep 11 = .ok (.aload_n 0, 1) := by decide +kernel
theorem dX11_keep_12 : decode cX11_keep 12 = .ok (.iconst 1, 1) := by decide +kernel
theorem dX11_keep_13 : decode cX11_keep 13 = .ok (.putfield 91, 3) := by decide +kernel
theorem dX11_keep_16 : decode cX11_keep 16 = .ok (.aload_n 0, 1) := by decide +kernel
theorem dX11_keep_17 : decode cX11_keep 17 = .ok (.getfield 81, 3) := by decide +kernel
theorem dX11_keep_20 : decode cX11_keep 20 = .ok (.getfield 177, 3) := by decide +kernel
theorem dX11_keep_23 : decode cX11_keep 23 = .ok (.ireturn, 1) := by decide +kernel
def b11_keep_0 (rc : Nat → List Int32 → List Int64 → Mem → Option (Int32 × Mem)) (n : Nat) (M : Mem) : Option (Int32 × Mem) :=
  bnd (f0_take n 333 330 M) fun r1 M2 =>
  lt (wI M2 0 12 (1 : Int32)) fun M4 =>
  some ((M4.1 330 2), M4)
def f11_keep (n : Nat)  (M : Mem) : Option (Int32 × Mem) := b11_keep_0 (fun _ _ _ _ => none) n M
abbrev rm11_keep : Room := { frames := 2, cells := 0, slots := 0, locals := 81 }
theorem y11_keep_w : yV RX11 yX11_keep cX11_keep 1 (some .int) 0 := ⟨g_1104, g_1105, g_1, g_1106, rfl, by decide, by decide, by decide +kernel⟩
set_option maxHeartbeats 4000000 in
set_option maxRecDepth 100000 in
theorem w11_keep_0 {p : Program} {l : Launch} {e : Env} {s : State} {m : MethodId} {args : Array Value} {below : List Frame} {meth : Method} {c : Code} {z : Zt} {b : Nat}  (C : Cx p s m args c cX11_keep 1 RX11 z 339 b) (hr : meth.sig.returnType = (some .int)) (hk : meth.locks = false) {r : Int32} {M' : Mem} {rc : Nat → List Int32 → List Int64 → Mem → Option (Int32 × Mem)} {n : Nat}   {M : Mem} {H : Heap} {locs : List Loc} {ls : Array Slot} (hf : b11_keep_0  rc n  M = some (r, M')) (hP : va_P z.1 vwCl (pw (xd z b) 339 b M) H) (hS : va_S (pA 339 b) s.heap H locs) (hl : lv_has ls 1 [(0, .ref (b + 0))]) : W p l e rm11_keep s m args below meth c H locs 0 0 (MQ below (va_Qi (fun (r' : Int32) (M2 : Mem) => r' = r ∧ M2 = M') (fun M2 t => va_P z.1 vwCl (pw (xd z b) 339 b M2) t.heap) (pA 339 b)) args s 0 0 (pA 339 b)) (F0 m 0 ls []) := by
  have hx := C.1.1
  have hb := C.1.2.1
  unfold b11_keep_0 at hf
  refine lv_aload_n hx hb dX11_keep_0 rfl (lv_at hl 0 rfl) ?_
  refine pg C hP (k := 0) (j := 10) (Nat.le_of_ble_eq_true rfl) (xd_0 _ _) rfl iw_11 (Nat.le_of_ble_eq_true rfl) g_430 rfl rfl dX11_keep_1 ?_
  refine lv_aload_n hx hb dX11_keep_4 rfl (lv_at hl 0 rfl) ?_
  refine pg C hP (k := 0) (j := 9) (Nat.le_of_ble_eq_true rfl) (xd_0 _ _) rfl iw_11 (Nat.le_of_ble_eq_true rfl) g_429 rfl rfl dX11_keep_5 ?_
  obtain ⟨r1, M2, h3, hf⟩ := bnd_s hf
  refine pcVv (As := [.ref (b + 330)]) C hP hS (k := 333) (co_lt co_333) ((co_d co_333) _ _) rfl (c0_take co_333 co_330 h3) y0_take_w g_811 rfl rfl rfl ⟨Nat.le_of_ble_eq_true rfl, Nat.le_of_ble_eq_true rfl⟩ hl.1 rfl (Nat.le_of_ble_eq_true rfl) dX11_keep_8 ⟨Nat.le_of_ble_eq_true rfl, Nat.le_of_ble_eq_true rfl⟩ (fun H locs hP hS => ?_)
  refine lv_aload_n hx hb dX11_keep_11 rfl (lv_at hl 0 rfl) ?_
  refine lv_iconst (v := (1 : Int32)) hx hb dX11_keep_12 (by decide) ?_
  refine ppI C hP hS (k := 0) (j := 12) (ty := .boolean) (Nat.le_of_ble_eq_true rfl) (xd_0 _ _) rfl iw_11 tyX11 tyX11_ok nmX11 (Nat.le_of_ble_eq_true rfl) g_432 rfl rfl (by decide +kernel) rfl rfl (Nat.le_of_ble_eq_true rfl) (xu_0_12 _ _ _) dX11_keep_13 (fun M4 H locs eM4 hP hS => ?_)
  replace hf := lt_c eM4 hf
  refine lv_aload_n hx hb dX11_keep_16 rfl (lv_at hl 0 rfl) ?_
  refine pg C hP (k := 0) (j := 9) (Nat.le_of_ble_eq_true rfl) (xd_0 _ _) rfl iw_11 (Nat.le_of_ble_eq_true rfl) g_429 rfl rfl dX11_keep_17 ?_
  refine pgN C hP (k := 330) (j := 2) (co_lt co_330) ((co_d co_330) _ _) rfl iw_0 (Nat.le_of_ble_eq_true rfl) g_361 rfl rfl dX11_keep_20 ?_
  exact prI C hr hk hP hS hf dX11_keep_23
theorem c11_keep {l : Launch} {z : Zt} {b n : Nat}   {M M' : Mem} {r : Int32} (hf : f11_keep n   M = some (r, M')) : CI l z (xd z b) 339 b yX11_keep cX11_keep 1 (some .int) rm11_keep [.ref (b + 0)] M M' r :=
  CI.ofW (lv := [(0, .ref (b + 0))]) (by decide) (Nat.le_of_ble_eq_true rfl) rfl (fun p e s m args below meth c ls C hr hk hP hS hl => w11_keep_0 (n := n)  C hr hk  hf hP hS hl)

-- BronzeKing.undo()Z
theorem dX11_undo_0 : decode cX11_undo 0 = .ok (.aload_n 0, 1) := by decide +kernel
theorem dX11_undo_1 : decode cX11_undo 1 = .ok (.getfield 91, 3) := by decide +kernel
theorem dX11_undo_4 : decode cX11_undo 4 = .ok (.ifCond .ne 5, 3) := by decide +kernel
theorem dX11_undo_7 : decode cX11_undo 7 = .ok (.iconst 0, 1) := by decide +kernel
theorem dX11_undo_8 : decode cX11_undo 8 = .ok (.ireturn, 1) := by decide +kernel
theorem dX11_undo_9 : decode cX11_undo 9 = .ok (.aload_n 0, 1) := by decide +kernel
theorem dX11_undo_10 : decode cX11_undo 10 = .ok (.getfield 81, 3) := by decide +kernel
theorem dX11_undo_13 : decode cX11_undo 13 = .ok (.aload_n 0, 1) := by decide +kernel
theorem dX11_undo_14 : decode cX11_undo 14 = .ok (.getfield 85, 3) := by decide +kernel
theorem dX11_undo_17 : decode cX11_undo 17 = .ok (.invokevirtual 147, 3) := by decide +kernel
theorem dX11_undo_20 : decode cX11_undo 20 = .ok (.iconst 1, 1) := by decide +kernel
theorem dX11_undo_21 : decode cX11_undo 21 = .ok (.ireturn, 1) := by decide +kernel
def b11_undo_0 (rc : Nat → List Int32 → List Int64 → Mem → Option (Int32 × Mem)) (n : Nat) (M : Mem) : Option (Int32 × Mem) :=
  (if (M.1 0 12) = 0 then (
   some ((0 : Int32), M))
  else (
   bnd (f0_take n 330 333 M) fun r2 M3 =>
   some ((1 : Int32), M3)))
def f11_undo (n : Nat)  (M : Mem) : Option (Int32 × Mem) := b11_undo_0 (fun _ _ _ _ => none) n M
abbrev rm11_undo : Room := { frames := 2, cells := 0, slots := 0, locals := 81 }
theorem y11_undo_w : yV RX11 yX11_undo cX11_undo 1 (some .boolean) 0 := ⟨g_1108, g_1109, g_1, g_1110, rfl, by decide, by decide, by decide +kernel⟩
set_option maxHeartbeats 4000000 in
set_option maxRecDepth 100000 in
theorem w11_undo_0 {p : Program} {l : Launch} {e : Env} {s : State} {m : MethodId} {args : Array Value} {below : List Frame} {meth : Method} {c : Code} {z : Zt} {b : Nat}  (C : Cx p s m args c cX11_undo 1 RX11 z 339 b) (hr : meth.sig.returnType = (some .boolean)) (hk : meth.locks = false) {r : Int32} {M' : Mem} {rc : Nat → List Int32 → List Int64 → Mem → Option (Int32 × Mem)} {n : Nat}   {M : Mem} {H : Heap} {locs : List Loc} {ls : Array Slot} (hf : b11_undo_0  rc n  M = some (r, M')) (hP : va_P z.1 vwCl (pw (xd z b) 339 b M) H) (hS : va_S (pA 339 b) s.heap H locs) (hl : lv_has ls 1 [(0, .ref (b + 0))]) : W p l e rm11_undo s m args below meth c H locs 0 0 (MQ below (va_Qi (fun (r' : Int32) (M2 : Mem) => r' = r ∧ M2 = M') (fun M2 t => va_P z.1 vwCl (pw (xd z b) 339 b M2) t.heap) (pA 339 b)) args s 0 0 (pA 339 b)) (F0 m 0 ls []) := by
  have hx := C.1.1
  have hb := C.1.2.1
  unfold b11_undo_0 at hf
  refine lv_aload_n hx hb dX11_undo_0 rfl (lv_at hl 0 rfl) ?_
  refine pg C hP (k := 0) (j := 12) (Nat.le_of_ble_eq_true rfl) (xd_0 _ _) rfl iw_11 (Nat.le_of_ble_eq_true rfl) g_432 rfl rfl dX11_undo_1 ?_
  refine lv_if_ne (tgt := 9) hx hb dX11_undo_4 (by decide) (fun c1 => ?_) (fun c1 => ?_)
  · replace hf := ite_f c1 hf
    refine lv_aload_n hx hb dX11_undo_9 rfl (lv_at hl 0 rfl) ?_
    refine pg C hP (k := 0) (j := 9) (Nat.le_of_ble_eq_true rfl) (xd_0 _ _) rfl iw_11 (Nat.le_of_ble_eq_true rfl) g_429 rfl rfl dX11_undo_10 ?_
    refine lv_aload_n hx hb dX11_undo_13 rfl (lv_at hl 0 rfl) ?_
    refine pg C hP (k := 0) (j := 10) (Nat.le_of_ble_eq_true rfl) (xd_0 _ _) rfl iw_11 (Nat.le_of_ble_eq_true rfl) g_430 rfl rfl dX11_undo_14 ?_
    obtain ⟨r2, M3, h4, hf⟩ := bnd_s hf
    refine pcVv (As := [.ref (b + 333)]) C hP hS (k := 330) (co_lt co_330) ((co_d co_330) _ _) rfl (c0_take co_330 co_333 h4) y0_take_w g_811 rfl rfl rfl ⟨Nat.le_of_ble_eq_true rfl, Nat.le_of_ble_eq_true rfl⟩ hl.1 rfl (Nat.le_of_ble_eq_true rfl) dX11_undo_17 ⟨Nat.le_of_ble_eq_true rfl, Nat.le_of_ble_eq_true rfl⟩ (fun H locs hP hS => ?_)
    refine lv_iconst (v := (1 : Int32)) hx hb dX11_undo_20 (by decide) ?_
    exact prZ C hr hk hP hS hf rfl dX11_undo_21
  · replace hf := ite_t c1 hf
    refine lv_iconst (v := (0 : Int32)) hx hb dX11_undo_7 (by decide) ?_
    exact prZ C hr hk hP hS hf rfl dX11_undo_8
theorem c11_undo {l : Launch} {z : Zt} {b n : Nat}   {M M' : Mem} {r : Int32} (hf : f11_undo n   M = some (r, M')) : CI l z (xd z b) 339 b yX11_undo cX11_undo 1 (some .boolean) rm11_undo [.ref (b + 0)] M M' r :=
  CI.ofW (lv := [(0, .ref (b + 0))]) (by decide) (Nat.le_of_ble_eq_true rfl) rfl (fun p e s m args below meth c ls C hr hk hP hS hl => w11_undo_0 (n := n)  C hr hk  hf hP hS hl)

-- BronzeKing.check(II)I
theorem dX11_check_0 : decode cX11_check 0 = .ok (.iload_n 1, 1) := by decide +kernel
theorem dX11_check_1 : decode cX11_check 1 = .ok (.ifCond .lt 23, 3) := by decide +kernel
theorem dX11_check_4 : decode cX11_check 4 = .ok (.iload_n 1, 1) := by decide +kernel
theorem dX11_check_5 : decode cX11_check 5 = .ok (.bipush 8, 2) := by decide +kernel
theorem dX11_check_7 : decode cX11_check 7 = .ok (.if_icmp .ge 17, 3) := by decide +kernel
theorem dX11_check_10 : decode cX11_check 10 = .ok (.aload_n 0, 1) := by decide +kernel
theorem dX11_check_11 : decode cX11_check 11 = .ok (.getfield 10, 3) := by decide +kernel
theorem dX11_check_14 : decode cX11_check 14 = .ok (.iload_n 2, 1) := by decide +kernel
theorem dX11_check_15 : decode cX11_check 15 = .ok (.iconst 0, 1) := by decide +kernel
theorem dX11_check_16 : decode cX11_check 16 = .ok (.bipush 12, 2) := by decide +kernel
theorem dX11_check_18 : decode cX11_check 18 = .ok (.invokevirtual 124, 3) := by decide +kernel
theorem dX11_check_21 : decode cX11_check 21 = .ok (.ifCond .ne 6, 3) := by decide +kernel
theorem dX11_check_24 : decode cX11_check 24 = .ok (.bipush (-2), 2) := by decide +kernel
theorem dX11_check_26 : decode cX11_check 26 = .ok (.ireturn, 1) := by decide +kernel
theorem dX11_check_27 : decode cX11_check 27 = .ok (.aload_n 0, 1) := by decide +kernel
theorem dX11_check_28 : decode cX11_check 28 = .ok (.getfield 10, 3) := by decide +kernel
theorem dX11_check_31 : decode cX11_check 31 = .ok (.iconst 0, 1) := by decide +kernel
theorem dX11_check_32 : decode cX11_check 32 = .ok (.putfield 121, 3) := by decide +kernel
theorem dX11_check_35 : decode cX11_check 35 = .ok (.iconst 0, 1) := by decide +kernel
theorem dX11_check_36 : decode cX11_check 36 = .ok (.istore_n 3, 1) := by decide +kernel
theorem dX11_check_37 : decode cX11_check 37 = .ok (.iload_n 3, 1) := by decide +kernel
theorem dX11_check_38 : decode cX11_check 38 = .ok (.iload_n 2, 1) := by decide +kernel
theorem dX11_check_39 : decode cX11_check 39 = .ok (.if_icmp .ge 41, 3) := by decide +kernel
theorem dX11_check_42 : decode cX11_check 42 = .ok (.aload_n 0, 1) := by decide +kernel
theorem dX11_check_43 : decode cX11_check 43 = .ok (.getfield 81, 3) := by decide +kernel
theorem dX11_check_46 : decode cX11_check 46 = .ok (.getfield 162, 3) := by decide +kernel
theorem dX11_check_49 : decode cX11_check 49 = .ok (.iload_n 1, 1) := by decide +kernel
theorem dX11_check_50 : decode cX11_check 50 = .ok (.bipush 12, 2) := by decide +kernel
theorem dX11_check_52 : decode cX11_check 52 = .ok (.imul, 1) := by decide +kernel
theorem dX11_check_53 : decode cX11_check 53 = .ok (.iload_n 3, 1) := by decide +kernel
theorem dX11_check_54 : decode cX11_check 54 = .ok (.iadd, 1) := by decide +kernel
theorem dX11_check_55 : decode cX11_check 55 = .ok (.iaload, 1) := by decide +kernel
theorem dX11_check_56 : decode cX11_check 56 = .ok (.sipush 256, 3) := by decide +kernel
theorem dX11_check_59 : decode cX11_check 59 = .ok (.irem, 1) := by decide +kernel
theorem dX11_check_60 : decode cX11_check 60 = .ok (.aload_n 0, 1) := by decide +kernel
theorem dX11_check_61 : decode cX11_check 61 = .ok (.getfield 10, 3) := by decide +kernel
theorem dX11_check_64 : decode cX11_check 64 = .ok (.getfield 249, 3) := by decide +kernel
theorem dX11_check_67 : decode cX11_check 67 = .ok (.iload_n 3, 1) := by decide +kernel
theorem dX11_check_68 : decode cX11_check 68 = .ok (.iaload, 1) := by decide +kernel
theorem dX11_check_69 : decode cX11_check 69 = .ok (.if_icmp .eq 5, 3) := by decide +kernel
theorem dX11_check_72 : decode cX11_check 72 = .ok (.iload_n 3, 1) := by decide +kernel
theorem dX11_check_73 : decode cX11_check 73 = .ok (.ireturn, 1) := by decide +kernel
theorem dX11_check_74 : decode cX11_check 74 = .ok (.iinc 3 1, 3) := by decide +kernel
theorem dX11_check_77 : decode cX11_check 77 = .ok (.goto (-40), 3) := by decide +kernel
theorem dX11_check_80 : decode cX11_check 80 = .ok (.iconst (-1), 1) := by decide +kernel
theorem dX11_check_81 : decode cX11_check 81 = .ok (.ireturn, 1) := by decide +kernel
def b11_check_24 (rc : Nat → List Int32 → List Int64 → Mem → Option (Int32 × Mem)) (n : Nat) (M : Mem) : Option (Int32 × Mem) :=
  some ((-2 : Int32), M)
def b11_check_37 (rc : Nat → List Int32 → List Int64 → Mem → Option (Int32 × Mem)) (n : Nat) (i1 : Int32) (i2 : Int32) (i3 : Int32) (M : Mem) : Option (Int32 × Mem) :=
  (if i2 ≤ i3 then (
   some ((-1 : Int32), M))
  else (
   chk (inb ((i1 * (12 : Int32)) + i3) 96) <|
   chk (inb i3 260) <|
   (if ((M.1 (330 + 1) ((i1 * (12 : Int32)) + i3).toNatClampNeg) - (M.1 (330 + 1) ((i1 * (12 : Int32)) + i3).toNatClampNeg) / (256 : Int32) * (256 : Int32)) = (M.1 2 i3.toNatClampNeg) then (
    lt (i3 + (1 : Int32)) fun v12 =>
    rc 37 [i1, i2, v12] [] M)
   else (
    some (i3, M)))))
def b11_check_0 (rc : Nat → List Int32 → List Int64 → Mem → Option (Int32 × Mem)) (n : Nat) (a1 : Int32) (a2 : Int32) (M : Mem) : Option (Int32 × Mem) :=
  (if a1 < 0 then (
   b11_check_24  rc n  M)
  else (
   (if (8 : Int32) ≤ a1 then (
    b11_check_24  rc n  M)
   else (
    bnd (f7_canGive n a2 (0 : Int32) (12 : Int32) M) fun r3 M4 =>
    (if r3 = 0 then (
     b11_check_24  rc n  M4)
    else (
     lt (wI M4 1 1 (0 : Int32)) fun M7 =>
     b11_check_37  rc n a1 a2 (0 : Int32) M7))))))
def r11_check : Nat → Nat → List Int32 → List Int64 → Mem → Option (Int32 × Mem)
  | 0 => fun _ _ _ _ => none
  | n + 1 => fun pc li lj M =>
    if pc = 37 then (match li, lj with | [i1, i2, i3], [] => b11_check_37  (r11_check  n) n i1 i2 i3 M | _, _ => none) else
    none
theorem e11_check_37  (n : Nat) (i1 : Int32) (i2 : Int32) (i3 : Int32) (M : Mem) : r11_check  (n + 1) 37 [i1, i2, i3] [] M = b11_check_37  (r11_check  n) n i1 i2 i3 M := by
  rw [r11_check]
  simp
def f11_check (n : Nat) (a1 : Int32) (a2 : Int32) (M : Mem) : Option (Int32 × Mem) := b11_check_0 (r11_check n) n a1 a2 M
abbrev rm11_check : Room := { frames := 1, cells := 0, slots := 0, locals := 23 }
theorem y11_check_w : yV RX11 yX11_check cX11_check 4 (some .int) 2 := ⟨g_1112, g_1113, g_1, g_1114, rfl, by decide, by decide, by decide +kernel⟩
set_option maxHeartbeats 4000000 in
set_option maxRecDepth 100000 in
theorem w11_check_24 {p : Program} {l : Launch} {e : Env} {s : State} {m : MethodId} {args : Array Value} {below : List Frame} {meth : Method} {c : Code} {z : Zt} {b : Nat}  (C : Cx p s m args c cX11_check 4 RX11 z 339 b) (hr : meth.sig.returnType = (some .int)) (hk : meth.locks = false) {r : Int32} {M' : Mem} {rc : Nat → List Int32 → List Int64 → Mem → Option (Int32 × Mem)} {n : Nat} (q37 : ∀ (i1 : Int32) (i2 : Int32) (i3 : Int32) (M : Mem) (H : Heap) (locs : List Loc) (ls : Array Slot), rc 37 [i1, i2, i3] [] M = some (r, M') → va_P z.1 vwCl (pw (xd z b) 339 b M) H → va_S (pA 339 b) s.heap H locs → lv_has ls 4 [(0, .ref (b + 0)), (1, .int i1), (2, .int i2), (3, .int i3)] → W p l e rm11_check s m args below meth c H locs 0 0 (MQ below (va_Qi (fun (r' : Int32) (M2 : Mem) => r' = r ∧ M2 = M') (fun M2 t => va_P z.1 vwCl (pw (xd z b) 339 b M2) t.heap) (pA 339 b)) args s 0 0 (pA 339 b)) (F0 m 37 ls []))  {M : Mem} {H : Heap} {locs : List Loc} {ls : Array Slot} (hf : b11_check_24  rc n  M = some (r, M')) (hP : va_P z.1 vwCl (pw (xd z b) 339 b M) H) (hS : va_S (pA 339 b) s.heap H locs) (hl : lv_has ls 4 []) : W p l e rm11_check s m args below meth c H locs 0 0 (MQ below (va_Qi (fun (r' : Int32) (M2 : Mem) => r' = r ∧ M2 = M') (fun M2 t => va_P z.1 vwCl (pw (xd z b) 339 b M2) t.heap) (pA 339 b)) args s 0 0 (pA 339 b)) (F0 m 24 ls []) := by
  have hx := C.1.1
  have hb := C.1.2.1
  unfold b11_check_24 at hf
  refine lv_bipush (v := (-2 : Int32)) hx hb dX11_check_24 (by decide) ?_
  exact prI C hr hk hP hS hf dX11_check_26
set_option maxHeartbeats 4000000 in
set_option maxRecDepth 100000 in
theorem w11_check_37 {p : Program} {l : Launch} {e : Env} {s : State} {m : MethodId} {args : Array Value} {below : List Frame} {meth : Method} {c : Code} {z : Zt} {b : Nat}  (C : Cx p s m args c cX11_check 4 RX11 z 339 b) (hr : meth.sig.returnType = (some .int)) (hk : meth.locks = false) {r : Int32} {M' : Mem} {rc : Nat → List Int32 → List Int64 → Mem → Option (Int32 × Mem)} {n : Nat} (q37 : ∀ (i1 : Int32) (i2 : Int32) (i3 : Int32) (M : Mem) (H : Heap) (locs : List Loc) (ls : Array Slot), rc 37 [i1, i2, i3] [] M = some (r, M') → va_P z.1 vwCl (pw (xd z b) 339 b M) H → va_S (pA 339 b) s.heap H locs → lv_has ls 4 [(0, .ref (b + 0)), (1, .int i1), (2, .int i2), (3, .int i3)] → W p l e rm11_check s m args below meth c H locs 0 0 (MQ below (va_Qi (fun (r' : Int32) (M2 : Mem) => r' = r ∧ M2 = M') (fun M2 t => va_P z.1 vwCl (pw (xd z b) 339 b M2) t.heap) (pA 339 b)) args s 0 0 (pA 339 b)) (F0 m 37 ls [])) {i1 : Int32} {i2 : Int32} {i3 : Int32} {M : Mem} {H : Heap} {locs : List Loc} {ls : Array Slot} (hf : b11_check_37  rc n i1 i2 i3 M = some (r, M')) (hP : va_P z.1 vwCl (pw (xd z b) 339 b M) H) (hS : va_S (pA 339 b) s.heap H locs) (hl : lv_has ls 4 [(0, .ref (b + 0)), (1, .int i1), (2, .int i2), (3, .int i3)]) : W p l e rm11_check s m args below meth c H locs 0 0 (MQ below (va_Qi (fun (r' : Int32) (M2 : Mem) => r' = r ∧ M2 = M') (fun M2 t => va_P z.1 vwCl (pw (xd z b) 339 b M2) t.heap) (pA 339 b)) args s 0 0 (pA 339 b)) (F0 m 37 ls []) := by
  have hx := C.1.1
  have hb := C.1.2.1
  unfold b11_check_37 at hf
  refine lv_iload_n hx hb dX11_check_37 rfl (lv_at hl 3 rfl) ?_
  refine lv_iload_n hx hb dX11_check_38 rfl (lv_at hl 2 rfl) ?_
  refine lv_icmp_ge (tgt := 80) hx hb dX11_check_39 (by decide) (fun c8 => ?_) (fun c8 => ?_)
  · replace hf := ite_t c8 hf
    refine lv_iconst (v := (-1 : Int32)) hx hb dX11_check_80 (by decide) ?_
    exact prI C hr hk hP hS hf dX11_check_81
  · replace hf := ite_f c8 hf
    refine lv_aload_n hx hb dX11_check_42 rfl (lv_at hl 0 rfl) ?_
    refine pg C hP (k := 0) (j := 9) (Nat.le_of_ble_eq_true rfl) (xd_0 _ _) rfl iw_11 (Nat.le_of_ble_eq_true rfl) g_429 rfl rfl dX11_check_43 ?_
    refine pgN C hP (k := 330) (j := 0) (co_lt co_330) ((co_d co_330) _ _) rfl iw_0 (Nat.le_of_ble_eq_true rfl) g_355 rfl rfl dX11_check_46 ?_
    refine lv_iload_n hx hb dX11_check_49 rfl (lv_at hl 1 rfl) ?_
    refine lv_bipush (v := (12 : Int32)) hx hb dX11_check_50 (by decide) ?_
    refine lv_imul hx hb dX11_check_52 ?_
    refine lv_iload_n hx hb dX11_check_53 rfl (lv_at hl 3 rfl) ?_
    refine lv_iadd hx hb dX11_check_54 ?_
    have h9 := chk_1 hf
    replace hf := chk_2 hf
    refine paI C hP (k := 330 + 1) (co_lt1 co_330) ((co_d1 co_330) _ _) h9 dX11_check_55 ?_
    refine lv_sipush (v := (256 : Int32)) hx hb dX11_check_56 (by decide) ?_
    refine lv_irem hx hb dX11_check_59 (by decide) ?_
    refine lv_aload_n hx hb dX11_check_60 rfl (lv_at hl 0 rfl) ?_
    refine pg C hP (k := 0) (j := 0) (Nat.le_of_ble_eq_true rfl) (xd_0 _ _) rfl iw_11 (Nat.le_of_ble_eq_true rfl) g_420 rfl rfl dX11_check_61 ?_
    refine pgN C hP (k := 1) (j := 0) (Nat.le_of_ble_eq_true rfl) (xd_1 _ _) rfl iw_7 (Nat.le_of_ble_eq_true rfl) g_39 rfl rfl dX11_check_64 ?_
    refine lv_iload_n hx hb dX11_check_67 rfl (lv_at hl 3 rfl) ?_
    have h10 := chk_1 hf
    replace hf := chk_2 hf
    refine paI C hP (k := 2) (Nat.le_of_ble_eq_true rfl) (xd_2 _ _) h10 dX11_check_68 ?_
    refine lv_icmp_eq (tgt := 74) hx hb dX11_check_69 (by decide) (fun c11 => ?_) (fun c11 => ?_)
    · replace hf := ite_t c11 hf
      obtain ⟨v12, ev12⟩ : ∃ v : Int32, v = i3 + (1 : Int32) := ⟨_, rfl⟩
      replace hf := lt_c ev12 hf
      refine lv_iinc (v := v12) (lv' := [(3, .int v12), (0, .ref (b + 0)), (1, .int i1), (2, .int i2)]) hx hb dX11_check_74 hl (k := 3) rfl (by rw [ev12]; rfl) (by decide) rfl (fun ls hl => ?_)
      refine lv_goto (tgt := 37) hx hb dX11_check_77 (by decide) ?_
      exact q37 i1 i2 v12 M _ _ _ hf hP hS (lv_sub hl [1, 2, 3, 0] rfl)
    · replace hf := ite_f c11 hf
      refine lv_iload_n hx hb dX11_check_72 rfl (lv_at hl 3 rfl) ?_
      exact prI C hr hk hP hS hf dX11_check_73
set_option maxHeartbeats 4000000 in
set_option maxRecDepth 100000 in
theorem w11_check_0 {p : Program} {l : Launch} {e : Env} {s : State} {m : MethodId} {args : Array Value} {below : List Frame} {meth : Method} {c : Code} {z : Zt} {b : Nat}  (C : Cx p s m args c cX11_check 4 RX11 z 339 b) (hr : meth.sig.returnType = (some .int)) (hk : meth.locks = false) {r : Int32} {M' : Mem} {rc : Nat → List Int32 → List Int64 → Mem → Option (Int32 × Mem)} {n : Nat} (q37 : ∀ (i1 : Int32) (i2 : Int32) (i3 : Int32) (M : Mem) (H : Heap) (locs : List Loc) (ls : Array Slot), rc 37 [i1, i2, i3] [] M = some (r, M') → va_P z.1 vwCl (pw (xd z b) 339 b M) H → va_S (pA 339 b) s.heap H locs → lv_has ls 4 [(0, .ref (b + 0)), (1, .int i1), (2, .int i2), (3, .int i3)] → W p l e rm11_check s m args below meth c H locs 0 0 (MQ below (va_Qi (fun (r' : Int32) (M2 : Mem) => r' = r ∧ M2 = M') (fun M2 t => va_P z.1 vwCl (pw (xd z b) 339 b M2) t.heap) (pA 339 b)) args s 0 0 (pA 339 b)) (F0 m 37 ls [])) {a1 : Int32} {a2 : Int32} {M : Mem} {H : Heap} {locs : List Loc} {ls : Array Slot} (hf : b11_check_0  rc n a1 a2 M = some (r, M')) (hP : va_P z.1 vwCl (pw (xd z b) 339 b M) H) (hS : va_S (pA 339 b) s.heap H locs) (hl : lv_has ls 4 [(0, .ref (b + 0)), (1, .int a1), (2, .int a2)]) : W p l e rm11_check s m args below meth c H locs 0 0 (MQ below (va_Qi (fun (r' : Int32) (M2 : Mem) => r' = r ∧ M2 = M') (fun M2 t => va_P z.1 vwCl (pw (xd z b) 339 b M2) t.heap) (pA 339 b)) args s 0 0 (pA 339 b)) (F0 m 0 ls []) := by
  have hx := C.1.1
  have hb := C.1.2.1
  unfold b11_check_0 at hf
  refine lv_iload_n hx hb dX11_check_0 rfl (lv_at hl 1 rfl) ?_
  refine lv_if_lt (tgt := 24) hx hb dX11_check_1 (by decide) (fun c1 => ?_) (fun c1 => ?_)
  · replace hf := ite_t c1 hf
    exact w11_check_24 (n := n)  C hr hk q37 hf hP hS (lv_sub hl [] rfl)
  · replace hf := ite_f c1 hf
    refine lv_iload_n hx hb dX11_check_4 rfl (lv_at hl 1 rfl) ?_
    refine lv_bipush (v := (8 : Int32)) hx hb dX11_check_5 (by decide) ?_
    refine lv_icmp_ge (tgt := 24) hx hb dX11_check_7 (by decide) (fun c2 => ?_) (fun c2 => ?_)
    · replace hf := ite_t c2 hf
      exact w11_check_24 (n := n)  C hr hk q37 hf hP hS (lv_sub hl [] rfl)
    · replace hf := ite_f c2 hf
      refine lv_aload_n hx hb dX11_check_10 rfl (lv_at hl 0 rfl) ?_
      refine pg C hP (k := 0) (j := 0) (Nat.le_of_ble_eq_true rfl) (xd_0 _ _) rfl iw_11 (Nat.le_of_ble_eq_true rfl) g_420 rfl rfl dX11_check_11 ?_
      refine lv_iload_n hx hb dX11_check_14 rfl (lv_at hl 2 rfl) ?_
      refine lv_iconst (v := (0 : Int32)) hx hb dX11_check_15 (by decide) ?_
      refine lv_bipush (v := (12 : Int32)) hx hb dX11_check_16 (by decide) ?_
      obtain ⟨r3, M4, h5, hf⟩ := bnd_s hf
      refine pcVi (As := [.int a2, .int (0 : Int32), .int (12 : Int32)]) C hP hS (k := 1) (Nat.le_of_ble_eq_true rfl) (xd_1 _ _) rfl (c7_canGive  h5) y7_canGive_w g_487 rfl rfl rfl ⟨Nat.le_of_ble_eq_true rfl, Nat.le_of_ble_eq_true rfl⟩ hl.1 rfl (Nat.le_of_ble_eq_true rfl) dX11_check_18 ⟨Nat.le_of_ble_eq_true rfl, Nat.le_of_ble_eq_true rfl⟩ (fun H locs hP hS => ?_)
      refine lv_if_ne (tgt := 27) hx hb dX11_check_21 (by decide) (fun c6 => ?_) (fun c6 => ?_)
      · replace hf := ite_f c6 hf
        refine lv_aload_n hx hb dX11_check_27 rfl (lv_at hl 0 rfl) ?_
        refine pg C hP (k := 0) (j := 0) (Nat.le_of_ble_eq_true rfl) (xd_0 _ _) rfl iw_11 (Nat.le_of_ble_eq_true rfl) g_420 rfl rfl dX11_check_28 ?_
        refine lv_iconst (v := (0 : Int32)) hx hb dX11_check_31 (by decide) ?_
        refine ppIN C hP hS (k := 1) (j := 1) (ty := .int) (Nat.le_of_ble_eq_true rfl) (xd_1 _ _) rfl iw_7 tyX7 tyX7_ok nmX7 (Nat.le_of_ble_eq_true rfl) g_41 rfl rfl (by decide +kernel) rfl rfl (Nat.le_of_ble_eq_true rfl) (xu_1_1 _ _ _) dX11_check_32 (fun M7 H locs eM7 hP hS => ?_)
        replace hf := lt_c eM7 hf
        refine lv_iconst (v := (0 : Int32)) hx hb dX11_check_35 (by decide) ?_
        refine lv_istore_n (lv' := [(3, .int (0 : Int32)), (0, .ref (b + 0)), (1, .int a1), (2, .int a2)]) hx hb dX11_check_36 rfl hl (by decide) rfl (fun ls hl => ?_)
        exact w11_check_37 (n := n)  C hr hk q37 hf hP hS (lv_sub hl [1, 2, 3, 0] rfl)
      · replace hf := ite_t c6 hf
        exact w11_check_24 (n := n)  C hr hk q37 hf hP hS (lv_sub hl [] rfl)
set_option maxHeartbeats 4000000 in
set_option maxRecDepth 100000 in
theorem l11_check {p : Program} {l : Launch} {e : Env} {s : State} {m : MethodId} {args : Array Value} {below : List Frame} {meth : Method} {c : Code} {z : Zt} {b : Nat}  (C : Cx p s m args c cX11_check 4 RX11 z 339 b) (hr : meth.sig.returnType = (some .int)) (hk : meth.locks = false) {r : Int32} {M' : Mem} (n : Nat) : (∀ (i1 : Int32) (i2 : Int32) (i3 : Int32) (M : Mem) (H : Heap) (locs : List Loc) (ls : Array Slot), (r11_check  n) 37 [i1, i2, i3] [] M = some (r, M') → va_P z.1 vwCl (pw (xd z b) 339 b M) H → va_S (pA 339 b) s.heap H locs → lv_has ls 4 [(0, .ref (b + 0)), (1, .int i1), (2, .int i2), (3, .int i3)] → W p l e rm11_check s m args below meth c H locs 0 0 (MQ below (va_Qi (fun (r' : Int32) (M2 : Mem) => r' = r ∧ M2 = M') (fun M2 t => va_P z.1 vwCl (pw (xd z b) 339 b M2) t.heap) (pA 339 b)) args s 0 0 (pA 339 b)) (F0 m 37 ls [])) := by
  induction n with
  | zero => exact fun _ _ _ _ _ _ _ hf => (by cases hf)
  | succ n ih => exact fun _ _ _ _ _ _ _ hf hP hS hl => w11_check_37 (n := n)  C hr hk ih ((e11_check_37  n _ _ _ _).symm.trans hf) hP hS hl
theorem c11_check {l : Launch} {z : Zt} {b n : Nat}  {a1 : Int32} {a2 : Int32} {M M' : Mem} {r : Int32} (hf : f11_check n  a1 a2 M = some (r, M')) : CI l z (xd z b) 339 b yX11_check cX11_check 4 (some .int) rm11_check [.ref (b + 0), .int a1, .int a2] M M' r :=
  CI.ofW (lv := [(0, .ref (b + 0)), (1, .int a1), (2, .int a2)]) (by decide) (Nat.le_of_ble_eq_true rfl) rfl (fun p e s m args below meth c ls C hr hk hP hS hl => w11_check_0 (n := n)  C hr hk (l11_check  C hr hk n) hf hP hS hl)

-- BronzeKing.count(I)I
theorem dX11_count_0 : decode cX11_count 0 = .ok (.iload_n 1, 1) := by decide +kernel
theorem dX11_count_1 : decode cX11_count 1 = .ok (.bipush 10, 2) := by decide +kernel
theorem dX11_count_3 : decode cX11_count 3 = .ok (.if_icmp .le 22, 3) := by decide +kernel
theorem dX11_count_6 : decode cX11_count 6 = .ok (.iload_n 1, 1) := by decide +kernel
theorem dX11_count_7 : decode cX11_count 7 = .ok (.bipush 19, 2) := by decide +kernel
theorem dX11_count_9 : decode cX11_count 9 = .ok (.if_icmp .gt 16, 3) := by decide +kernel
theorem dX11_count_12 : decode cX11_count 12 = .ok (.aload_n 0, 1) := by decide +kernel
theorem dX11_count_13 : decode cX11_count 13 = .ok (.getfield 19, 3) := by decide +kernel
theorem dX11_count_16 : decode cX11_count 16 = .ok (.getfield 106, 3) := by decide +kernel
theorem dX11_count_19 : decode cX11_count 19 = .ok (.iload_n 1, 1) := by decide +kernel
theorem dX11_count_20 : decode cX11_count 20 = .ok (.bipush 10, 2) := by decide +kernel
theorem dX11_count_22 : decode cX11_count 22 = .ok (.isub, 1) := by decide +kernel
theorem dX11_count_23 : decode cX11_count 23 = .ok (.iaload, 1) := by decide +kernel
theorem dX11_count_24 : decode cX11_count 24 = .ok (.ireturn, 1) := by decide +kernel
theorem dX11_count_25 : decode cX11_count 25 = .ok (.iload_n 1, 1) := by decide +kernel
theorem dX11_count_26 : decode cX11_count 26 = .ok (.bipush 100, 2) := by decide +kernel
theorem dX11_count_28 : decode cX11_count 28 = .ok (.if_icmp .lt 28, 3) := by decide +kernel
theorem dX11_count_31 : decode cX11_count 31 = .ok (.iload_n 1, 1) := by decide +kernel
theorem dX11_count_32 : decode cX11_count 32 = .ok (.bipush 124, 2) := by decide +kernel
theorem dX11_count_34 : decode cX11_count 34 = .ok (.if_icmp .ge 22, 3) := by decide +kernel
theorem dX11_count_37 : decode cX11_count 37 = .ok (.aload_n 0, 1) := by decide +kernel
theorem dX11_count_38 : decode cX11_count 38 = .ok (.getfield 26, 3) := by decide +kernel
theorem dX11_count_41 : decode cX11_count 41 = .ok (.iload_n 1, 1) := by decide +kernel
theorem dX11_count_42 : decode cX11_count 42 = .ok (.bipush 100, 2) := by decide +kernel
theorem dX11_count_44 : decode cX11_count 44 = .ok (.isub, 1) := by decide +kernel
theorem dX11_count_45 : decode cX11_count 45 = .ok (.aload_n 0, 1) := by decide +kernel
theorem dX11_count_46 : decode cX11_count 46 = .ok (.getfield 81, 3) := by decide +kernel
theorem dX11_count_49 : decode cX11_count 49 = .ok (.getfield 177, 3) := by decide +kernel
theorem dX11_count_52 : decode cX11_count 52 = .ok (.invokevirtual 316, 3) := by decide +kernel
theorem dX11_count_55 : decode cX11_count 55 = .ok (.ireturn, 1) := by decide +kernel
theorem dX11_count_56 : decode cX11_count 56 = .ok (.iload_n 1, 1) := by decide +kernel
theorem dX11_count_57 : decode cX11_count 57 = .ok (.tableswitch 130 0 8 #[51, 59, 67, 75, 83, 91, 99, 107, 115], 51) := by decide +kernel
theorem dX11_count_108 : decode cX11_count 108 = .ok (.aload_n 0, 1) := by decide +kernel
theorem dX11_count_109 : decode cX11_count 109 = .ok (.getfield 81, 3) := by decide +kernel
theorem dX11_count_112 : decode cX11_count 112 = .ok (.getfield 177, 3) := by decide +kernel
theorem dX11_count_115 : decode cX11_count 115 = .ok (.ireturn, 1) := by decide +kernel
theorem dX11_count_116 : decode cX11_count 116 = .ok (.aload_n 0, 1) := by decide +kernel
theorem dX11_count_117 : decode cX11_count 117 = .ok (.getfield 51, 3) := by decide +kernel
theorem dX11_count_120 : decode cX11_count 120 = .ok (.getfield 197, 3) := by decide +kernel
theorem dX11_count_123 : decode cX11_count 123 = .ok (.ireturn, 1) := by decide +kernel
theorem dX11_count_124 : decode cX11_count 124 = .ok (.aload_n 0, 1) := by decide +kernel
theorem dX11_count_125 : decode cX11_count 125 = .ok (.getfield 19, 3) := by decide +kernel
theorem dX11_count_128 : decode cX11_count 128 = .ok (.getfield 110, 3) := by decide +kernel
theorem dX11_count_131 : decode cX11_count 131 = .ok (.ireturn, 1) := by decide +kernel
theorem dX11_count_132 : decode cX11_count 132 = .ok (.aload_n 0, 1) := by decide +kernel
theorem dX11_count_133 : decode cX11_count 133 = .ok (.getfield 19, 3) := by decide +kernel
theorem dX11_count_136 : decode cX11_count 136 = .ok (.getfield 102, 3) := by decide +kernel
theorem dX11_count_139 : decode cX11_count 139 = .ok (.ireturn, 1) := by decide +kernel
theorem dX11_count_140 : decode cX11_count 140 = .ok (.aload_n 0, 1) := by decide +kernel
theorem dX11_count_141 : decode cX11_count 141 = .ok (.getfield 26, 3) := by decide +kernel
theorem dX11_count_144 : decode cX11_count 144 = .ok (.getfield 319, 3) := by decide +kernel
theorem dX11_count_147 : decode cX11_count 147 = .ok (.ireturn, 1) := by decide +kernel
theorem dX11_count_148 : decode cX11_count 148 = .ok (.aload_n 0, 1) := by decide +kernel
theorem dX11_count_149 : decode cX11_count 149 = .ok (.getfield 10, 3) := by decide +kernel
theorem dX11_count_152 : decode cX11_count 152 = .ok (.getfield 121, 3) := by decide +kernel
theorem dX11_count_155 : decode cX11_count 155 = .ok (.ireturn, 1) := by decide +kernel
theorem dX11_count_156 : decode cX11_count 156 = .ok (.aload_n 0, 1) := by decide +kernel
theorem dX11_count_157 : decode cX11_count 157 = .ok (.getfield 81, 3) := by decide +kernel
theorem dX11_count_160 : decode cX11_count 160 = .ok (.getfield 313, 3) := by decide +kernel
theorem dX11_count_163 : decode cX11_count 163 = .ok (.ireturn, 1) := by decide +kernel
theorem dX11_count_164 : decode cX11_count 164 = .ok (.aload_n 0, 1) := by decide +kernel
theorem dX11_count_165 : decode cX11_count 165 = .ok (.getfield 81, 3) := by decide +kernel
theorem dX11_count_168 : decode cX11_count 168 = .ok (.invokevirtual 322, 3) := by decide +kernel
theorem dX11_count_171 : decode cX11_count 171 = .ok (.ireturn, 1) := by decide +kernel
theorem dX11_count_172 : decode cX11_count 172 = .ok (.aload_n 0, 1) := by decide +kernel
theorem dX11_count_173 : decode cX11_count 173 = .ok (.getfield 26, 3) := by decide +kernel
theorem dX11_count_176 : decode cX11_count 176 = .ok (.aload_n 0, 1) := by decide +kernel
theorem dX11_count_177 : decode cX11_count 177 = .ok (.getfield 81, 3) := by decide +kernel
theorem dX11_count_180 : decode cX11_count 180 = .ok (.getfield 177, 3) := by decide +kernel
theorem dX11_count_183 : decode cX11_count 183 = .ok (.invokevirtual 325, 3) := by decide +kernel
theorem dX11_count_186 : decode cX11_count 186 = .ok (.ireturn, 1) := by decide +kernel
theorem dX11_count_187 : decode cX11_count 187 = .ok (.iconst (-1), 1) := by decide +kernel
theorem dX11_count_188 : decode cX11_count 188 = .ok (.ireturn, 1) := by decide +kernel
def b11_count_56 (rc : Nat → List Int32 → List Int64 → Mem → Option (Int32 × Mem)) (n : Nat) (i1 : Int32) (M : Mem) : Option (Int32 × Mem) :=
  (if i1 = (0 : Int32) then (
   some ((M.1 330 2), M))
  else (
   (if i1 = (1 : Int32) then (
    some ((M.1 25 2), M))
   else (
    (if i1 = (2 : Int32) then (
     some ((M.1 3 8), M))
    else (
     (if i1 = (3 : Int32) then (
      some ((M.1 3 7), M))
     else (
      (if i1 = (4 : Int32) then (
       some ((M.1 11 3), M))
      else (
       (if i1 = (5 : Int32) then (
        some ((M.1 1 1), M))
       else (
        (if i1 = (6 : Int32) then (
         some ((M.1 330 3), M))
        else (
         (if i1 = (7 : Int32) then (
          bnd (f0_wearOfAll n 330 M) fun r17 M18 =>
          some (r17, M18))
         else (
          (if i1 = (8 : Int32) then (
           bnd (f2_weightOfAll n (M.1 330 2) M) fun r21 M22 =>
           some (r21, M22))
          else (
           some ((-1 : Int32), M)))))))))))))))))))
def b11_count_25 (rc : Nat → List Int32 → List Int64 → Mem → Option (Int32 × Mem)) (n : Nat) (i1 : Int32) (M : Mem) : Option (Int32 × Mem) :=
  (if i1 < (100 : Int32) then (
   b11_count_56  rc n i1 M)
  else (
   (if (124 : Int32) ≤ i1 then (
    b11_count_56  rc n i1 M)
   else (
    bnd (f2_weightOf n (i1 - (100 : Int32)) (M.1 330 2) M) fun r6 M7 =>
    some (r6, M7)))))
def b11_count_0 (rc : Nat → List Int32 → List Int64 → Mem → Option (Int32 × Mem)) (n : Nat) (a1 : Int32) (M : Mem) : Option (Int32 × Mem) :=
  (if a1 ≤ (10 : Int32) then (
   b11_count_25  rc n a1 M)
  else (
   (if (19 : Int32) < a1 then (
    b11_count_25  rc n a1 M)
   else (
    chk (inb (a1 - (10 : Int32)) 10) <|
    some ((M.1 6 (a1 - (10 : Int32)).toNatClampNeg), M)))))
def f11_count (n : Nat) (a1 : Int32) (M : Mem) : Option (Int32 × Mem) := b11_count_0 (fun _ _ _ _ => none) n a1 M
abbrev rm11_count : Room := { frames := 5, cells := 0, slots := 0, locals := 117 }
theorem y11_count_w : yV RX11 yX11_count cX11_count 2 (some .int) 1 := ⟨g_1116, g_1117, g_1, g_1118, rfl, by decide, by decide, by decide +kernel⟩
set_option maxHeartbeats 4000000 in
set_option maxRecDepth 100000 in
theorem w11_count_56 {p : Program} {l : Launch} {e : Env} {s : State} {m : MethodId} {args : Array Value} {below : List Frame} {meth : Method} {c : Code} {z : Zt} {b : Nat}  (C : Cx p s m args c cX11_count 2 RX11 z 339 b) (hr : meth.sig.returnType = (some .int)) (hk : meth.locks = false) {r : Int32} {M' : Mem} {rc : Nat → List Int32 → List Int64 → Mem → Option (Int32 × Mem)} {n : Nat}  {i1 : Int32} {M : Mem} {H : Heap} {locs : List Loc} {ls : Array Slot} (hf : b11_count_56  rc n i1 M = some (r, M')) (hP : va_P z.1 vwCl (pw (xd z b) 339 b M) H) (hS : va_S (pA 339 b) s.heap H locs) (hl : lv_has ls 2 [(0, .ref (b + 0)), (1, .int i1)]) : W p l e rm11_count s m args below meth c H locs 0 0 (MQ below (va_Qi (fun (r' : Int32) (M2 : Mem) => r' = r ∧ M2 = M') (fun M2 t => va_P z.1 vwCl (pw (xd z b) 339 b M2) t.heap) (pA 339 b)) args s 0 0 (pA 339 b)) (F0 m 56 ls []) := by
  have hx := C.1.1
  have hb := C.1.2.1
  unfold b11_count_56 at hf
  refine lv_iload_n hx hb dX11_count_56 rfl (lv_at hl 1 rfl) ?_
  by_cases c9 : i1 = (0 : Int32)
  · replace hf := ite_t c9 hf
    refine lv_tableIn (off := 51) (tgt := 108) hx hb dX11_count_57 (by rw [c9]; decide) (by rw [c9]; decide) (by rw [c9]; rfl) (by decide) ?_
    refine lv_aload_n hx hb dX11_count_108 rfl (lv_at hl 0 rfl) ?_
    refine pg C hP (k := 0) (j := 9) (Nat.le_of_ble_eq_true rfl) (xd_0 _ _) rfl iw_11 (Nat.le_of_ble_eq_true rfl) g_429 rfl rfl dX11_count_109 ?_
    refine pgN C hP (k := 330) (j := 2) (co_lt co_330) ((co_d co_330) _ _) rfl iw_0 (Nat.le_of_ble_eq_true rfl) g_361 rfl rfl dX11_count_112 ?_
    exact prI C hr hk hP hS hf dX11_count_115
  · replace hf := ite_f c9 hf
    by_cases c10 : i1 = (1 : Int32)
    · replace hf := ite_t c10 hf
      refine lv_tableIn (off := 59) (tgt := 116) hx hb dX11_count_57 (by rw [c10]; decide) (by rw [c10]; decide) (by rw [c10]; rfl) (by decide) ?_
      refine lv_aload_n hx hb dX11_count_116 rfl (lv_at hl 0 rfl) ?_
      refine pg C hP (k := 0) (j := 5) (Nat.le_of_ble_eq_true rfl) (xd_0 _ _) rfl iw_11 (Nat.le_of_ble_eq_true rfl) g_425 rfl rfl dX11_count_117 ?_
      refine pgN C hP (k := 25) (j := 2) (Nat.le_of_ble_eq_true rfl) (xd_25 _ _) rfl iw_9 (Nat.le_of_ble_eq_true rfl) g_218 rfl rfl dX11_count_120 ?_
      exact prI C hr hk hP hS hf dX11_count_123
    · replace hf := ite_f c10 hf
      by_cases c11 : i1 = (2 : Int32)
      · replace hf := ite_t c11 hf
        refine lv_tableIn (off := 67) (tgt := 124) hx hb dX11_count_57 (by rw [c11]; decide) (by rw [c11]; decide) (by rw [c11]; rfl) (by decide) ?_
        refine lv_aload_n hx hb dX11_count_124 rfl (lv_at hl 0 rfl) ?_
        refine pg C hP (k := 0) (j := 1) (Nat.le_of_ble_eq_true rfl) (xd_0 _ _) rfl iw_11 (Nat.le_of_ble_eq_true rfl) g_421 rfl rfl dX11_count_125 ?_
        refine pgN C hP (k := 3) (j := 8) (Nat.le_of_ble_eq_true rfl) (xd_3 _ _) rfl iw_8 (Nat.le_of_ble_eq_true rfl) g_94 rfl rfl dX11_count_128 ?_
        exact prI C hr hk hP hS hf dX11_count_131
      · replace hf := ite_f c11 hf
        by_cases c12 : i1 = (3 : Int32)
        · replace hf := ite_t c12 hf
          refine lv_tableIn (off := 75) (tgt := 132) hx hb dX11_count_57 (by rw [c12]; decide) (by rw [c12]; decide) (by rw [c12]; rfl) (by decide) ?_
          refine lv_aload_n hx hb dX11_count_132 rfl (lv_at hl 0 rfl) ?_
          refine pg C hP (k := 0) (j := 1) (Nat.le_of_ble_eq_true rfl) (xd_0 _ _) rfl iw_11 (Nat.le_of_ble_eq_true rfl) g_421 rfl rfl dX11_count_133 ?_
          refine pgN C hP (k := 3) (j := 7) (Nat.le_of_ble_eq_true rfl) (xd_3 _ _) rfl iw_8 (Nat.le_of_ble_eq_true rfl) g_90 rfl rfl dX11_count_136 ?_
          exact prI C hr hk hP hS hf dX11_count_139
        · replace hf := ite_f c12 hf
          by_cases c13 : i1 = (4 : Int32)
          · replace hf := ite_t c13 hf
            refine lv_tableIn (off := 83) (tgt := 140) hx hb dX11_count_57 (by rw [c13]; decide) (by rw [c13]; decide) (by rw [c13]; rfl) (by decide) ?_
            refine lv_aload_n hx hb dX11_count_140 rfl (lv_at hl 0 rfl) ?_
            refine pg C hP (k := 0) (j := 2) (Nat.le_of_ble_eq_true rfl) (xd_0 _ _) rfl iw_11 (Nat.le_of_ble_eq_true rfl) g_422 rfl rfl dX11_count_141 ?_
            refine pgN C hP (k := 11) (j := 3) (Nat.le_of_ble_eq_true rfl) (xd_11 _ _) rfl iw_2 (Nat.le_of_ble_eq_true rfl) g_129 rfl rfl dX11_count_144 ?_
            exact prI C hr hk hP hS hf dX11_count_147
          · replace hf := ite_f c13 hf
            by_cases c14 : i1 = (5 : Int32)
            · replace hf := ite_t c14 hf
              refine lv_tableIn (off := 91) (tgt := 148) hx hb dX11_count_57 (by rw [c14]; decide) (by rw [c14]; decide) (by rw [c14]; rfl) (by decide) ?_
              refine lv_aload_n hx hb dX11_count_148 rfl (lv_at hl 0 rfl) ?_
              refine pg C hP (k := 0) (j := 0) (Nat.le_of_ble_eq_true rfl) (xd_0 _ _) rfl iw_11 (Nat.le_of_ble_eq_true rfl) g_420 rfl rfl dX11_count_149 ?_
              refine pgN C hP (k := 1) (j := 1) (Nat.le_of_ble_eq_true rfl) (xd_1 _ _) rfl iw_7 (Nat.le_of_ble_eq_true rfl) g_41 rfl rfl dX11_count_152 ?_
              exact prI C hr hk hP hS hf dX11_count_155
            · replace hf := ite_f c14 hf
              by_cases c15 : i1 = (6 : Int32)
              · replace hf := ite_t c15 hf
                refine lv_tableIn (off := 99) (tgt := 156) hx hb dX11_count_57 (by rw [c15]; decide) (by rw [c15]; decide) (by rw [c15]; rfl) (by decide) ?_
                refine lv_aload_n hx hb dX11_count_156 rfl (lv_at hl 0 rfl) ?_
                refine pg C hP (k := 0) (j := 9) (Nat.le_of_ble_eq_true rfl) (xd_0 _ _) rfl iw_11 (Nat.le_of_ble_eq_true rfl) g_429 rfl rfl dX11_count_157 ?_
                refine pgN C hP (k := 330) (j := 3) (co_lt co_330) ((co_d co_330) _ _) rfl iw_0 (Nat.le_of_ble_eq_true rfl) g_363 rfl rfl dX11_count_160 ?_
                exact prI C hr hk hP hS hf dX11_count_163
              · replace hf := ite_f c15 hf
                by_cases c16 : i1 = (7 : Int32)
                · replace hf := ite_t c16 hf
                  refine lv_tableIn (off := 107) (tgt := 164) hx hb dX11_count_57 (by rw [c16]; decide) (by rw [c16]; decide) (by rw [c16]; rfl) (by decide) ?_
                  refine lv_aload_n hx hb dX11_count_164 rfl (lv_at hl 0 rfl) ?_
                  refine pg C hP (k := 0) (j := 9) (Nat.le_of_ble_eq_true rfl) (xd_0 _ _) rfl iw_11 (Nat.le_of_ble_eq_true rfl) g_429 rfl rfl dX11_count_165 ?_
                  obtain ⟨r17, M18, h19, hf⟩ := bnd_s hf
                  refine pcVi (As := []) C hP hS (k := 330) (co_lt co_330) ((co_d co_330) _ _) rfl (c0_wearOfAll co_330 h19) y0_wearOfAll_w g_1120 rfl rfl rfl ⟨Nat.le_of_ble_eq_true rfl, Nat.le_of_ble_eq_true rfl⟩ hl.1 rfl (Nat.le_of_ble_eq_true rfl) dX11_count_168 ⟨Nat.le_of_ble_eq_true rfl, Nat.le_of_ble_eq_true rfl⟩ (fun H locs hP hS => ?_)
                  exact prI C hr hk hP hS hf dX11_count_171
                · replace hf := ite_f c16 hf
                  by_cases c20 : i1 = (8 : Int32)
                  · replace hf := ite_t c20 hf
                    refine lv_tableIn (off := 115) (tgt := 172) hx hb dX11_count_57 (by rw [c20]; decide) (by rw [c20]; decide) (by rw [c20]; rfl) (by decide) ?_
                    refine lv_aload_n hx hb dX11_count_172 rfl (lv_at hl 0 rfl) ?_
                    refine pg C hP (k := 0) (j := 2) (Nat.le_of_ble_eq_true rfl) (xd_0 _ _) rfl iw_11 (Nat.le_of_ble_eq_true rfl) g_422 rfl rfl dX11_count_173 ?_
                    refine lv_aload_n hx hb dX11_count_176 rfl (lv_at hl 0 rfl) ?_
                    refine pg C hP (k := 0) (j := 9) (Nat.le_of_ble_eq_true rfl) (xd_0 _ _) rfl iw_11 (Nat.le_of_ble_eq_true rfl) g_429 rfl rfl dX11_count_177 ?_
                    refine pgN C hP (k := 330) (j := 2) (co_lt co_330) ((co_d co_330) _ _) rfl iw_0 (Nat.le_of_ble_eq_true rfl) g_361 rfl rfl dX11_count_180 ?_
                    obtain ⟨r21, M22, h23, hf⟩ := bnd_s hf
                    refine pcVi (As := [.int (M.1 330 2)]) C hP hS (k := 11) (Nat.le_of_ble_eq_true rfl) (xd_11 _ _) rfl (c2_weightOfAll  h23) y2_weightOfAll_w g_1124 rfl rfl rfl ⟨Nat.le_of_ble_eq_true rfl, Nat.le_of_ble_eq_true rfl⟩ hl.1 rfl (Nat.le_of_ble_eq_true rfl) dX11_count_183 ⟨Nat.le_of_ble_eq_true rfl, Nat.le_of_ble_eq_true rfl⟩ (fun H locs hP hS => ?_)
                    exact prI C hr hk hP hS hf dX11_count_186
                  · replace hf := ite_f c20 hf
                    refine lv_tableOut (tgt := 187) hx hb dX11_count_57 (by have z0 : ¬ i1.toInt = 0 := tsn c9; have z1 : ¬ i1.toInt = 1 := tsn c10; have z2 : ¬ i1.toInt = 2 := tsn c11; have z3 : ¬ i1.toInt = 3 := tsn c12; have z4 : ¬ i1.toInt = 4 := tsn c13; have z5 : ¬ i1.toInt = 5 := tsn c14; have z6 : ¬ i1.toInt = 6 := tsn c15; have z7 : ¬ i1.toInt = 7 := tsn c16; have z8 : ¬ i1.toInt = 8 := tsn c20; omega) (by decide) ?_
                    refine lv_iconst (v := (-1 : Int32)) hx hb dX11_count_187 (by decide) ?_
                    exact prI C hr hk hP hS hf dX11_count_188
set_option maxHeartbeats 4000000 in
set_option maxRecDepth 100000 in
theorem w11_count_25 {p : Program} {l : Launch} {e : Env} {s : State} {m : MethodId} {args : Array Value} {below : List Frame} {meth : Method} {c : Code} {z : Zt} {b : Nat}  (C : Cx p s m args c cX11_count 2 RX11 z 339 b) (hr : meth.sig.returnType = (some .int)) (hk : meth.locks = false) {r : Int32} {M' : Mem} {rc : Nat → List Int32 → List Int64 → Mem → Option (Int32 × Mem)} {n : Nat}  {i1 : Int32} {M : Mem} {H : Heap} {locs : List Loc} {ls : Array Slot} (hf : b11_count_25  rc n i1 M = some (r, M')) (hP : va_P z.1 vwCl (pw (xd z b) 339 b M) H) (hS : va_S (pA 339 b) s.heap H locs) (hl : lv_has ls 2 [(0, .ref (b + 0)), (1, .int i1)]) : W p l e rm11_count s m args below meth c H locs 0 0 (MQ below (va_Qi (fun (r' : Int32) (M2 : Mem) => r' = r ∧ M2 = M') (fun M2 t => va_P z.1 vwCl (pw (xd z b) 339 b M2) t.heap) (pA 339 b)) args s 0 0 (pA 339 b)) (F0 m 25 ls []) := by
  have hx := C.1.1
  have hb := C.1.2.1
  unfold b11_count_25 at hf
  refine lv_iload_n hx hb dX11_count_25 rfl (lv_at hl 1 rfl) ?_
  refine lv_bipush (v := (100 : Int32)) hx hb dX11_count_26 (by decide) ?_
  refine lv_icmp_lt (tgt := 56) hx hb dX11_count_28 (by decide) (fun c4 => ?_) (fun c4 => ?_)
  · replace hf := ite_t c4 hf
    exact w11_count_56 (n := n)  C hr hk  hf hP hS (lv_sub hl [0, 1] rfl)
  · replace hf := ite_f c4 hf
    refine lv_iload_n hx hb dX11_count_31 rfl (lv_at hl 1 rfl) ?_
    refine lv_bipush (v := (124 : Int32)) hx hb dX11_count_32 (by decide) ?_
    refine lv_icmp_ge (tgt := 56) hx hb dX11_count_34 (by decide) (fun c5 => ?_) (fun c5 => ?_)
    · replace hf := ite_t c5 hf
      exact w11_count_56 (n := n)  C hr hk  hf hP hS (lv_sub hl [0, 1] rfl)
    · replace hf := ite_f c5 hf
      refine lv_aload_n hx hb dX11_count_37 rfl (lv_at hl 0 rfl) ?_
      refine pg C hP (k := 0) (j := 2) (Nat.le_of_ble_eq_true rfl) (xd_0 _ _) rfl iw_11 (Nat.le_of_ble_eq_true rfl) g_422 rfl rfl dX11_count_38 ?_
      refine lv_iload_n hx hb dX11_count_41 rfl (lv_at hl 1 rfl) ?_
      refine lv_bipush (v := (100 : Int32)) hx hb dX11_count_42 (by decide) ?_
      refine lv_isub hx hb dX11_count_44 ?_
      refine lv_aload_n hx hb dX11_count_45 rfl (lv_at hl 0 rfl) ?_
      refine pg C hP (k := 0) (j := 9) (Nat.le_of_ble_eq_true rfl) (xd_0 _ _) rfl iw_11 (Nat.le_of_ble_eq_true rfl) g_429 rfl rfl dX11_count_46 ?_
      refine pgN C hP (k := 330) (j := 2) (co_lt co_330) ((co_d co_330) _ _) rfl iw_0 (Nat.le_of_ble_eq_true rfl) g_361 rfl rfl dX11_count_49 ?_
      obtain ⟨r6, M7, h8, hf⟩ := bnd_s hf
      refine pcVi (As := [.int (i1 - (100 : Int32)), .int (M.1 330 2)]) C hP hS (k := 11) (Nat.le_of_ble_eq_true rfl) (xd_11 _ _) rfl (c2_weightOf  h8) y2_weightOf_w g_1119 rfl rfl rfl ⟨Nat.le_of_ble_eq_true rfl, Nat.le_of_ble_eq_true rfl⟩ hl.1 rfl (Nat.le_of_ble_eq_true rfl) dX11_count_52 ⟨Nat.le_of_ble_eq_true rfl, Nat.le_of_ble_eq_true rfl⟩ (fun H locs hP hS => ?_)
      exact prI C hr hk hP hS hf dX11_count_55
set_option maxHeartbeats 4000000 in
set_option maxRecDepth 100000 in
theorem w11_count_0 {p : Program} {l : Launch} {e : Env} {s : State} {m : MethodId} {args : Array Value} {below : List Frame} {meth : Method} {c : Code} {z : Zt} {b : Nat}  (C : Cx p s m args c cX11_count 2 RX11 z 339 b) (hr : meth.sig.returnType = (some .int)) (hk : meth.locks = false) {r : Int32} {M' : Mem} {rc : Nat → List Int32 → List Int64 → Mem → Option (Int32 × Mem)} {n : Nat}  {a1 : Int32} {M : Mem} {H : Heap} {locs : List Loc} {ls : Array Slot} (hf : b11_count_0  rc n a1 M = some (r, M')) (hP : va_P z.1 vwCl (pw (xd z b) 339 b M) H) (hS : va_S (pA 339 b) s.heap H locs) (hl : lv_has ls 2 [(0, .ref (b + 0)), (1, .int a1)]) : W p l e rm11_count s m args below meth c H locs 0 0 (MQ below (va_Qi (fun (r' : Int32) (M2 : Mem) => r' = r ∧ M2 = M') (fun M2 t => va_P z.1 vwCl (pw (xd z b) 339 b M2) t.heap) (pA 339 b)) args s 0 0 (pA 339 b)) (F0 m 0 ls []) := by
  have hx := C.1.1
  have hb := C.1.2.1
  unfold b11_count_0 at hf
  refine lv_iload_n hx hb dX11_count_0 rfl (lv_at hl 1 rfl) ?_
  refine lv_bipush (v := (10 : Int32)) hx hb dX11_count_1 (by decide) ?_
  refine lv_icmp_le (tgt := 25) hx hb dX11_count_3 (by decide) (fun c1 => ?_) (fun c1 => ?_)
  · replace hf := ite_t c1 hf
    exact w11_count_25 (n := n)  C hr hk  hf hP hS (lv_sub hl [0, 1] rfl)
  · replace hf := ite_f c1 hf
    refine lv_iload_n hx hb dX11_count_6 rfl (lv_at hl 1 rfl) ?_
    refine lv_bipush (v := (19 : Int32)) hx hb dX11_count_7 (by decide) ?_
    refine lv_icmp_gt (tgt := 25) hx hb dX11_count_9 (by decide) (fun c2 => ?_) (fun c2 => ?_)
    · replace hf := ite_t c2 hf
      exact w11_count_25 (n := n)  C hr hk  hf hP hS (lv_sub hl [0, 1] rfl)
    · replace hf := ite_f c2 hf
      refine lv_aload_n hx hb dX11_count_12 rfl (lv_at hl 0 rfl) ?_
      refine pg C hP (k := 0) (j := 1) (Nat.le_of_ble_eq_true rfl) (xd_0 _ _) rfl iw_11 (Nat.le_of_ble_eq_true rfl) g_421 rfl rfl dX11_count_13 ?_
      refine pgN C hP (k := 3) (j := 2) (Nat.le_of_ble_eq_true rfl) (xd_3 _ _) rfl iw_8 (Nat.le_of_ble_eq_true rfl) g_73 rfl rfl dX11_count_16 ?_
      refine lv_iload_n hx hb dX11_count_19 rfl (lv_at hl 1 rfl) ?_
      refine lv_bipush (v := (10 : Int32)) hx hb dX11_count_20 (by decide) ?_
      refine lv_isub hx hb dX11_count_22 ?_
      have h3 := chk_1 hf
      replace hf := chk_2 hf
      refine paI C hP (k := 6) (Nat.le_of_ble_eq_true rfl) (xd_6 _ _) h3 dX11_count_23 ?_
      exact prI C hr hk hP hS hf dX11_count_24
theorem c11_count {l : Launch} {z : Zt} {b n : Nat}  {a1 : Int32} {M M' : Mem} {r : Int32} (hf : f11_count n  a1 M = some (r, M')) : CI l z (xd z b) 339 b yX11_count cX11_count 2 (some .int) rm11_count [.ref (b + 0), .int a1] M M' r :=
  CI.ofW (lv := [(0, .ref (b + 0)), (1, .int a1)]) (by decide) (Nat.le_of_ble_eq_true rfl) rfl (fun p e s m args below meth c ls C hr hk hP hS hl => w11_count_0 (n := n)  C hr hk  hf hP hS hl)
