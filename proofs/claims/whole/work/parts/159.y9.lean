-- BronzeKingModel.seed(I)Z
theorem dX12_seed_0 : decode cX12_seed 0 = .ok (.iload_n 1, 1) := by decide +kernel
theorem dX12_seed_1 : decode cX12_seed 1 = .ok (.iconst 0, 1) := by decide +kernel
theorem dX12_seed_2 : decode cX12_seed 2 = .ok (.ldc_w 423, 3) := by decide +kernel
theorem dX12_seed_5 : decode cX12_seed 5 = .ok (.invokestatic 106, 3) := by decide +kernel
theorem dX12_seed_8 : decode cX12_seed 8 = .ok (.ifCond .ne 5, 3) := by decide +kernel
theorem dX12_seed_11 : decode cX12_seed 11 = .ok (.iconst 0, 1) := by decide +kernel
theorem dX12_seed_12 : decode cX12_seed 12 = .ok (.ireturn, 1) := by decide +kernel
theorem dX12_seed_13 : decode cX12_seed 13 = .ok (.aload_n 0, 1) := by decide +kernel
theorem dX12_seed_14 : decode cX12_seed 14 = .ok (.getfield 7, 3) := by decide +kernel
theorem dX12_seed_17 : decode cX12_seed 17 = .ok (.sipush 161, 3) := by decide +kernel
theorem dX12_seed_20 : decode cX12_seed 20 = .ok (.iload_n 1, 1) := by decide +kernel
theorem dX12_seed_21 : decode cX12_seed 21 = .ok (.iastore, 1) := by decide +kernel
theorem dX12_seed_22 : decode cX12_seed 22 = .ok (.iconst 1, 1) := by decide +kernel
theorem dX12_seed_23 : decode cX12_seed 23 = .ok (.ireturn, 1) := by decide +kernel
def b12_seed_0 (rc : Nat → List Int32 → List Int64 → Mem → Option (Int32 × Mem)) (n : Nat) (a1 : Int32) (M : Mem) : Option (Int32 × Mem) :=
  bnd (f12_in n a1 (0 : Int32) (65535 : Int32) M) fun r1 M2 =>
  (if r1 = 0 then (
   some ((0 : Int32), M2))
  else (
   chk (inb (161 : Int32) 162) <|
   lt (wI M2 1 (161 : Int32).toNatClampNeg a1) fun M6 =>
   some ((1 : Int32), M6)))
def f12_seed (n : Nat) (a1 : Int32) (M : Mem) : Option (Int32 × Mem) := b12_seed_0 (fun _ _ _ _ => none) n a1 M
abbrev rm12_seed : Room := { frames := 1, cells := 0, slots := 0, locals := 22 }
theorem y12_seed_w : yV RX12 yX12_seed cX12_seed 2 (some .boolean) 1 := ⟨g_1685, g_1686, g_14, g_1687, rfl, by decide, by decide, by decide +kernel⟩
set_option maxHeartbeats 4000000 in
set_option maxRecDepth 100000 in
theorem w12_seed_0 {p : Program} {l : Launch} {e : Env} {s : State} {m : MethodId} {args : Array Value} {below : List Frame} {meth : Method} {c : Code} {z : Zt} {b : Nat}  (C : Cx p s m args c cX12_seed 2 RX12 z 32 b) (hr : meth.sig.returnType = (some .boolean)) (hk : meth.locks = false) {r : Int32} {M' : Mem} {rc : Nat → List Int32 → List Int64 → Mem → Option (Int32 × Mem)} {n : Nat}  {a1 : Int32} {M : Mem} {H : Heap} {locs : List Loc} {ls : Array Slot} (hf : b12_seed_0  rc n a1 M = some (r, M')) (hP : va_P z.1 vwCl (pw (yd z b) 32 b M) H) (hS : va_S (pA 32 b) s.heap H locs) (hl : lv_has ls 2 [(0, .ref (b + 0)), (1, .int a1)]) : W p l e rm12_seed s m args below meth c H locs 0 0 (MQ below (va_Qi (fun (r' : Int32) (M2 : Mem) => r' = r ∧ M2 = M') (fun M2 t => va_P z.1 vwCl (pw (yd z b) 32 b M2) t.heap) (pA 32 b)) args s 0 0 (pA 32 b)) (F0 m 0 ls []) := by
  have hx := C.1.1
  have hb := C.1.2.1
  unfold b12_seed_0 at hf
  refine lv_iload_n hx hb dX12_seed_0 rfl (lv_at hl 1 rfl) ?_
  refine lv_iconst (v := (0 : Int32)) hx hb dX12_seed_1 (by decide) ?_
  refine lv_ldcw hx hb C.1.2.2.2.1 (C.1.2.2.2.2 _ g_1688) dX12_seed_2 ?_
  obtain ⟨r1, M2, h3, hf⟩ := bnd_s hf
  refine pcSi (As := [.int a1, .int (0 : Int32), .int (65535 : Int32)]) C hP hS (c12_in  h3) y12_in_w g_1306 rfl rfl rfl ⟨Nat.le_of_ble_eq_true rfl, Nat.le_of_ble_eq_true rfl⟩ hl.1 rfl (Nat.le_of_ble_eq_true rfl) dX12_seed_5 ⟨Nat.le_of_ble_eq_true rfl, Nat.le_of_ble_eq_true rfl⟩ (fun H locs hP hS => ?_)
  refine lv_if_ne (tgt := 13) hx hb dX12_seed_8 (by decide) (fun c4 => ?_) (fun c4 => ?_)
  · replace hf := ite_f c4 hf
    refine lv_aload_n hx hb dX12_seed_13 rfl (lv_at hl 0 rfl) ?_
    refine pg C hP (k := 0) (j := 0) (Nat.le_of_ble_eq_true rfl) (yd_0 _ _) rfl iw_12 (Nat.le_of_ble_eq_true rfl) g_1135 rfl rfl dX12_seed_14 ?_
    refine lv_sipush (v := (161 : Int32)) hx hb dX12_seed_17 (by decide) ?_
    refine lv_iload_n hx hb dX12_seed_20 rfl (lv_at hl 1 rfl) ?_
    have h5 := chk_1 hf
    replace hf := chk_2 hf
    refine psI C hP hS (k := 1) (Nat.le_of_ble_eq_true rfl) (yd_1) h5 dX12_seed_21 (fun M6 H locs eM6 hP hS => ?_)
    replace hf := lt_c eM6 hf
    refine lv_iconst (v := (1 : Int32)) hx hb dX12_seed_22 (by decide) ?_
    exact prZ C hr hk hP hS hf rfl dX12_seed_23
  · replace hf := ite_t c4 hf
    refine lv_iconst (v := (0 : Int32)) hx hb dX12_seed_11 (by decide) ?_
    exact prZ C hr hk hP hS hf rfl dX12_seed_12
theorem c12_seed {l : Launch} {z : Zt} {b n : Nat}  {a1 : Int32} {M M' : Mem} {r : Int32} (hf : f12_seed n  a1 M = some (r, M')) : CI l z (yd z b) 32 b yX12_seed cX12_seed 2 (some .boolean) rm12_seed [.ref (b + 0), .int a1] M M' r :=
  CI.ofW (lv := [(0, .ref (b + 0)), (1, .int a1)]) (by decide) (Nat.le_of_ble_eq_true rfl) rfl (fun p e s m args below meth c ls C hr hk hP hS hl => w12_seed_0 (n := n)  C hr hk  hf hP hS hl)

-- BronzeKingModel.keep()I
theorem dX12_keep_0 : decode cX12_keep 0 = .ok (.aload_n 0, 1) := by decide +kernel
theorem dX12_keep_1 : decode cX12_keep 1 = .ok (.iconst 1, 1) := by decide +kernel
theorem dX12_keep_2 : decode cX12_keep 2 = .ok (.putfield 424, 3) := by decide +kernel
theorem dX12_keep_5 : decode cX12_keep 5 = .ok (.aload_n 0, 1) := by decide +kernel
theorem dX12_keep_6 : decode cX12_keep 6 = .ok (.getfield 7, 3) := by decide +kernel
theorem dX12_keep_9 : decode cX12_keep 9 = .ok (.aload_n 0, 1) := by decide +kernel
theorem dX12_keep_10 : decode cX12_keep 10 = .ok (.getfield 16, 3) := by decide +kernel
theorem dX12_keep_13 : decode cX12_keep 13 = .ok (.invokestatic 323, 3) := by decide +kernel
theorem dX12_keep_16 : decode cX12_keep 16 = .ok (.aload_n 0, 1) := by decide +kernel
theorem dX12_keep_17 : decode cX12_keep 17 = .ok (.getfield 7, 3) := by decide +kernel
theorem dX12_keep_20 : decode cX12_keep 20 = .ok (.sipush 160, 3) := by decide +kernel
theorem dX12_keep_23 : decode cX12_keep 23 = .ok (.iaload, 1) := by decide +kernel
theorem dX12_keep_24 : decode cX12_keep 24 = .ok (.ireturn, 1) := by decide +kernel
def b12_keep_0 (rc : Nat → List Int32 → List Int64 → Mem → Option (Int32 × Mem)) (n : Nat) (M : Mem) : Option (Int32 × Mem) :=
  lt (wI M 0 53 (1 : Int32)) fun M1 =>
  bnd (f12_copies n 1 3 M1) fun r2 M3 =>
  chk (inb (160 : Int32) 162) <|
  some ((M3.1 1 (160 : Int32).toNatClampNeg), M3)
def f12_keep (n : Nat)  (M : Mem) : Option (Int32 × Mem) := b12_keep_0 (fun _ _ _ _ => none) n M
abbrev rm12_keep : Room := { frames := 1, cells := 0, slots := 0, locals := 22 }
theorem y12_keep_w : yV RX12 yX12_keep cX12_keep 1 (some .int) 0 := ⟨g_1690, g_1691, g_14, g_1692, rfl, by decide, by decide, by decide +kernel⟩
set_option maxHeartbeats 4000000 in
set_option maxRecDepth 100000 in
theorem w12_keep_0 {p : Program} {l : Launch} {e : Env} {s : State} {m : MethodId} {args : Array Value} {below : List Frame} {meth : Method} {c : Code} {z : Zt} {b : Nat}  (C : Cx p s m args c cX12_keep 1 RX12 z 32 b) (hr : meth.sig.returnType = (some .int)) (hk : meth.locks = false) {r : Int32} {M' : Mem} {rc : Nat → List Int32 → List Int64 → Mem → Option (Int32 × Mem)} {n : Nat}   {M : Mem} {H : Heap} {locs : List Loc} {ls : Array Slot} (hf : b12_keep_0  rc n  M = some (r, M')) (hP : va_P z.1 vwCl (pw (yd z b) 32 b M) H) (hS : va_S (pA 32 b) s.heap H locs) (hl : lv_has ls 1 [(0, .ref (b + 0))]) : W p l e rm12_keep s m args below meth c H locs 0 0 (MQ below (va_Qi (fun (r' : Int32) (M2 : Mem) => r' = r ∧ M2 = M') (fun M2 t => va_P z.1 vwCl (pw (yd z b) 32 b M2) t.heap) (pA 32 b)) args s 0 0 (pA 32 b)) (F0 m 0 ls []) := by
  have hx := C.1.1
  have hb := C.1.2.1
  unfold b12_keep_0 at hf
  refine lv_aload_n hx hb dX12_keep_0 rfl (lv_at hl 0 rfl) ?_
  refine lv_iconst (v := (1 : Int32)) hx hb dX12_keep_1 (by decide) ?_
  refine ppI C hP hS (k := 0) (j := 53) (ty := .boolean) (Nat.le_of_ble_eq_true rfl) (yd_0 _ _) rfl iw_12 tyX12 tyX12_ok nmX12 (Nat.le_of_ble_eq_true rfl) g_1188 rfl rfl (by decide +kernel) rfl rfl (Nat.le_of_ble_eq_true rfl) (yu_0_53 _ _ _) dX12_keep_2 (fun M1 H locs eM1 hP hS => ?_)
  replace hf := lt_c eM1 hf
  refine lv_aload_n hx hb dX12_keep_5 rfl (lv_at hl 0 rfl) ?_
  refine pg C hP (k := 0) (j := 0) (Nat.le_of_ble_eq_true rfl) (yd_0 _ _) rfl iw_12 (Nat.le_of_ble_eq_true rfl) g_1135 rfl rfl dX12_keep_6 ?_
  refine lv_aload_n hx hb dX12_keep_9 rfl (lv_at hl 0 rfl) ?_
  refine pg C hP (k := 0) (j := 2) (Nat.le_of_ble_eq_true rfl) (yd_0 _ _) rfl iw_12 (Nat.le_of_ble_eq_true rfl) g_1137 rfl rfl dX12_keep_10 ?_
  obtain ⟨r2, M3, h4, hf⟩ := bnd_s hf
  refine pcSv (As := [.ref (b + 1), .ref (b + 3)]) C hP hS (c12_copies cp_1 cp_3 h4) y12_copies_w g_1519 rfl rfl rfl ⟨Nat.le_of_ble_eq_true rfl, Nat.le_of_ble_eq_true rfl⟩ hl.1 rfl (Nat.le_of_ble_eq_true rfl) dX12_keep_13 ⟨Nat.le_of_ble_eq_true rfl, Nat.le_of_ble_eq_true rfl⟩ (fun H locs hP hS => ?_)
  refine lv_aload_n hx hb dX12_keep_16 rfl (lv_at hl 0 rfl) ?_
  refine pg C hP (k := 0) (j := 0) (Nat.le_of_ble_eq_true rfl) (yd_0 _ _) rfl iw_12 (Nat.le_of_ble_eq_true rfl) g_1135 rfl rfl dX12_keep_17 ?_
  refine lv_sipush (v := (160 : Int32)) hx hb dX12_keep_20 (by decide) ?_
  have h5 := chk_1 hf
  replace hf := chk_2 hf
  refine paI C hP (k := 1) (Nat.le_of_ble_eq_true rfl) (yd_1 _ _) h5 dX12_keep_23 ?_
  exact prI C hr hk hP hS hf dX12_keep_24
theorem c12_keep {l : Launch} {z : Zt} {b n : Nat}   {M M' : Mem} {r : Int32} (hf : f12_keep n   M = some (r, M')) : CI l z (yd z b) 32 b yX12_keep cX12_keep 1 (some .int) rm12_keep [.ref (b + 0)] M M' r :=
  CI.ofW (lv := [(0, .ref (b + 0))]) (by decide) (Nat.le_of_ble_eq_true rfl) rfl (fun p e s m args below meth c ls C hr hk hP hS hl => w12_keep_0 (n := n)  C hr hk  hf hP hS hl)

-- BronzeKingModel.undo()Z
theorem dX12_undo_0 : decode cX12_undo 0 = .ok (.aload_n 0, 1) := by decide +kernel
theorem dX12_undo_1 : decode cX12_undo 1 = .ok (.getfield 424, 3) := by decide +kernel
theorem dX12_undo_4 : decode cX12_undo 4 = .ok (.ifCond .ne 5, 3) := by decide +kernel
theorem dX12_undo_7 : decode cX12_undo 7 = .ok (.iconst 0, 1) := by decide +kernel
theorem dX12_undo_8 : decode cX12_undo 8 = .ok (.ireturn, 1) := by decide +kernel
theorem dX12_undo_9 : decode cX12_undo 9 = .ok (.aload_n 0, 1) := by decide +kernel
theorem dX12_undo_10 : decode cX12_undo 10 = .ok (.getfield 16, 3) := by decide +kernel
theorem dX12_undo_13 : decode cX12_undo 13 = .ok (.aload_n 0, 1) := by decide +kernel
theorem dX12_undo_14 : decode cX12_undo 14 = .ok (.getfield 7, 3) := by decide +kernel
theorem dX12_undo_17 : decode cX12_undo 17 = .ok (.invokestatic 323, 3) := by decide +kernel
theorem dX12_undo_20 : decode cX12_undo 20 = .ok (.iconst 1, 1) := by decide +kernel
theorem dX12_undo_21 : decode cX12_undo 21 = .ok (.ireturn, 1) := by decide +kernel
def b12_undo_0 (rc : Nat → List Int32 → List Int64 → Mem → Option (Int32 × Mem)) (n : Nat) (M : Mem) : Option (Int32 × Mem) :=
  (if (M.1 0 53) = 0 then (
   some ((0 : Int32), M))
  else (
   bnd (f12_copies n 3 1 M) fun r2 M3 =>
   some ((1 : Int32), M3)))
def f12_undo (n : Nat)  (M : Mem) : Option (Int32 × Mem) := b12_undo_0 (fun _ _ _ _ => none) n M
abbrev rm12_undo : Room := { frames := 1, cells := 0, slots := 0, locals := 22 }
theorem y12_undo_w : yV RX12 yX12_undo cX12_undo 1 (some .boolean) 0 := ⟨g_1694, g_1695, g_14, g_1696, rfl, by decide, by decide, by decide +kernel⟩
set_option maxHeartbeats 4000000 in
set_option maxRecDepth 100000 in
theorem w12_undo_0 {p : Program} {l : Launch} {e : Env} {s : State} {m : MethodId} {args : Array Value} {below : List Frame} {meth : Method} {c : Code} {z : Zt} {b : Nat}  (C : Cx p s m args c cX12_undo 1 RX12 z 32 b) (hr : meth.sig.returnType = (some .boolean)) (hk : meth.locks = false) {r : Int32} {M' : Mem} {rc : Nat → List Int32 → List Int64 → Mem → Option (Int32 × Mem)} {n : Nat}   {M : Mem} {H : Heap} {locs : List Loc} {ls : Array Slot} (hf : b12_undo_0  rc n  M = some (r, M')) (hP : va_P z.1 vwCl (pw (yd z b) 32 b M) H) (hS : va_S (pA 32 b) s.heap H locs) (hl : lv_has ls 1 [(0, .ref (b + 0))]) : W p l e rm12_undo s m args below meth c H locs 0 0 (MQ below (va_Qi (fun (r' : Int32) (M2 : Mem) => r' = r ∧ M2 = M') (fun M2 t => va_P z.1 vwCl (pw (yd z b) 32 b M2) t.heap) (pA 32 b)) args s 0 0 (pA 32 b)) (F0 m 0 ls []) := by
  have hx := C.1.1
  have hb := C.1.2.1
  unfold b12_undo_0 at hf
  refine lv_aload_n hx hb dX12_undo_0 rfl (lv_at hl 0 rfl) ?_
  refine pg C hP (k := 0) (j := 53) (Nat.le_of_ble_eq_true rfl) (yd_0 _ _) rfl iw_12 (Nat.le_of_ble_eq_true rfl) g_1188 rfl rfl dX12_undo_1 ?_
  refine lv_if_ne (tgt := 9) hx hb dX12_undo_4 (by decide) (fun c1 => ?_) (fun c1 => ?_)
  · replace hf := ite_f c1 hf
    refine lv_aload_n hx hb dX12_undo_9 rfl (lv_at hl 0 rfl) ?_
    refine pg C hP (k := 0) (j := 2) (Nat.le_of_ble_eq_true rfl) (yd_0 _ _) rfl iw_12 (Nat.le_of_ble_eq_true rfl) g_1137 rfl rfl dX12_undo_10 ?_
    refine lv_aload_n hx hb dX12_undo_13 rfl (lv_at hl 0 rfl) ?_
    refine pg C hP (k := 0) (j := 0) (Nat.le_of_ble_eq_true rfl) (yd_0 _ _) rfl iw_12 (Nat.le_of_ble_eq_true rfl) g_1135 rfl rfl dX12_undo_14 ?_
    obtain ⟨r2, M3, h4, hf⟩ := bnd_s hf
    refine pcSv (As := [.ref (b + 3), .ref (b + 1)]) C hP hS (c12_copies cp_3 cp_1 h4) y12_copies_w g_1519 rfl rfl rfl ⟨Nat.le_of_ble_eq_true rfl, Nat.le_of_ble_eq_true rfl⟩ hl.1 rfl (Nat.le_of_ble_eq_true rfl) dX12_undo_17 ⟨Nat.le_of_ble_eq_true rfl, Nat.le_of_ble_eq_true rfl⟩ (fun H locs hP hS => ?_)
    refine lv_iconst (v := (1 : Int32)) hx hb dX12_undo_20 (by decide) ?_
    exact prZ C hr hk hP hS hf rfl dX12_undo_21
  · replace hf := ite_t c1 hf
    refine lv_iconst (v := (0 : Int32)) hx hb dX12_undo_7 (by decide) ?_
    exact prZ C hr hk hP hS hf rfl dX12_undo_8
theorem c12_undo {l : Launch} {z : Zt} {b n : Nat}   {M M' : Mem} {r : Int32} (hf : f12_undo n   M = some (r, M')) : CI l z (yd z b) 32 b yX12_undo cX12_undo 1 (some .boolean) rm12_undo [.ref (b + 0)] M M' r :=
  CI.ofW (lv := [(0, .ref (b + 0))]) (by decide) (Nat.le_of_ble_eq_true rfl) rfl (fun p e s m args below meth c ls C hr hk hP hS hl => w12_undo_0 (n := n)  C hr hk  hf hP hS hl)

-- BronzeKingModel.check(II)I
theorem dX12_check_0 : decode cX12_check 0 = .ok (.iload_n 1, 1) := by decide +kernel
theorem dX12_check_1 : decode cX12_check 1 = .ok (.iconst 0, 1) := by decide +kernel
theorem dX12_check_2 : decode cX12_check 2 = .ok (.bipush 7, 2) := by decide +kernel
theorem dX12_check_4 : decode cX12_check 4 = .ok (.invokestatic 106, 3) := by decide +kernel
theorem dX12_check_7 : decode cX12_check 7 = .ok (.ifCond .eq 21, 3) := by decide +kernel
theorem dX12_check_10 : decode cX12_check 10 = .ok (.iload_n 2, 1) := by decide +kernel
theorem dX12_check_11 : decode cX12_check 11 = .ok (.iconst 0, 1) := by decide +kernel
theorem dX12_check_12 : decode cX12_check 12 = .ok (.bipush 12, 2) := by decide +kernel
theorem dX12_check_14 : decode cX12_check 14 = .ok (.invokestatic 106, 3) := by decide +kernel
theorem dX12_check_17 : decode cX12_check 17 = .ok (.ifCond .eq 11, 3) := by decide +kernel
theorem dX12_check_20 : decode cX12_check 20 = .ok (.iload_n 2, 1) := by decide +kernel
theorem dX12_check_21 : decode cX12_check 21 = .ok (.aload_n 0, 1) := by decide +kernel
theorem dX12_check_22 : decode cX12_check 22 = .ok (.getfield 137, 3) := by decide +kernel
theorem dX12_check_25 : decode cX12_check 25 = .ok (.if_icmp .le 6, 3) := by decide +kernel
theorem dX12_check_28 : decode cX12_check 28 = .ok (.bipush (-2), 2) := by decide +kernel
theorem dX12_check_30 : decode cX12_check 30 = .ok (.ireturn, 1) := by decide +kernel
theorem dX12_check_31 : decode cX12_check 31 = .ok (.aload_n 0, 1) := by decide +kernel
theorem dX12_check_32 : decode cX12_check 32 = .ok (.iconst 0, 1) := by decide +kernel
theorem dX12_check_33 : decode cX12_check 33 = .ok (.putfield 137, 3) := by decide +kernel
theorem dX12_check_36 : decode cX12_check 36 = .ok (.iconst 0, 1) := by decide +kernel
theorem dX12_check_37 : decode cX12_check 37 = .ok (.istore_n 3, 1) := by decide +kernel
theorem dX12_check_38 : decode cX12_check 38 = .ok (.iload_n 3, 1) := by decide +kernel
theorem dX12_check_39 : decode cX12_check 39 = .ok (.iload_n 2, 1) := by decide +kernel
theorem dX12_check_40 : decode cX12_check 40 = .ok (.if_icmp .ge 36, 3) := by decide +kernel
theorem dX12_check_43 : decode cX12_check 43 = .ok (.aload_n 0, 1) := by decide +kernel
theorem dX12_check_44 : decode cX12_check 44 = .ok (.iload_n 3, 1) := by decide +kernel
theorem dX12_check_45 : decode cX12_check 45 = .ok (.invokevirtual 389, 3) := by decide +kernel
theorem dX12_check_48 : decode cX12_check 48 = .ok (.aload_n 0, 1) := by decide +kernel
theorem dX12_check_49 : decode cX12_check 49 = .ok (.getfield 7, 3) := by decide +kernel
theorem dX12_check_52 : decode cX12_check 52 = .ok (.iconst 0, 1) := by decide +kernel
theorem dX12_check_53 : decode cX12_check 53 = .ok (.bipush 12, 2) := by decide +kernel
theorem dX12_check_55 : decode cX12_check 55 = .ok (.iload_n 1, 1) := by decide +kernel
theorem dX12_check_56 : decode cX12_check 56 = .ok (.imul, 1) := by decide +kernel
theorem dX12_check_57 : decode cX12_check 57 = .ok (.iadd, 1) := by decide +kernel
theorem dX12_check_58 : decode cX12_check 58 = .ok (.iload_n 3, 1) := by decide +kernel
theorem dX12_check_59 : decode cX12_check 59 = .ok (.iadd, 1) := by decide +kernel
theorem dX12_check_60 : decode cX12_check 60 = .ok (.iaload, 1) := by decide +kernel
theorem dX12_check_61 : decode cX12_check 61 = .ok (.sipush 256, 3) := by decide +kernel
theorem dX12_check_64 : decode cX12_check 64 = .ok (.irem, 1) := by decide +kernel
theorem dX12_check_65 : decode cX12_check 65 = .ok (.if_icmp .eq 5, 3) := by decide +kernel
theorem dX12_check_68 : decode cX12_check 68 = .ok (.iload_n 3, 1) := by decide +kernel
theorem dX12_check_69 : decode cX12_check 69 = .ok (.ireturn, 1) := by decide +kernel
theorem dX12_check_70 : decode cX12_check 70 = .ok (.iinc 3 1, 3) := by decide +kernel
theorem dX12_check_73 : decode cX12_check 73 = .ok (.goto (-35), 3) := by decide +kernel
theorem dX12_check_76 : decode cX12_check 76 = .ok (.iconst (-1), 1) := by decide +kernel
theorem dX12_check_77 : decode cX12_check 77 = .ok (.ireturn, 1) := by decide +kernel
def b12_check_28 (rc : Nat → List Int32 → List Int64 → Mem → Option (Int32 × Mem)) (n : Nat) (M : Mem) : Option (Int32 × Mem) :=
  some ((-2 : Int32), M)
def b12_check_38 (rc : Nat → List Int32 → List Int64 → Mem → Option (Int32 × Mem)) (n : Nat) (i1 : Int32) (i2 : Int32) (i3 : Int32) (M : Mem) : Option (Int32 × Mem) :=
  (if i2 ≤ i3 then (
   some ((-1 : Int32), M))
  else (
   bnd (f12_octet n i3 M) fun r12 M13 =>
   chk (inb (((0 : Int32) + ((12 : Int32) * i1)) + i3) 162) <|
   (if r12 = ((M13.1 1 (((0 : Int32) + ((12 : Int32) * i1)) + i3).toNatClampNeg) - (M13.1 1 (((0 : Int32) + ((12 : Int32) * i1)) + i3).toNatClampNeg) / (256 : Int32) * (256 : Int32)) then (
    lt (i3 + (1 : Int32)) fun v17 =>
    rc 38 [i1, i2, v17] [] M13)
   else (
    some (i3, M13)))))
def b12_check_0 (rc : Nat → List Int32 → List Int64 → Mem → Option (Int32 × Mem)) (n : Nat) (a1 : Int32) (a2 : Int32) (M : Mem) : Option (Int32 × Mem) :=
  bnd (f12_in n a1 (0 : Int32) (7 : Int32) M) fun r1 M2 =>
  (if r1 = 0 then (
   b12_check_28  rc n  M2)
  else (
   bnd (f12_in n a2 (0 : Int32) (12 : Int32) M2) fun r5 M6 =>
   (if r5 = 0 then (
    b12_check_28  rc n  M6)
   else (
    (if a2 ≤ (M6.1 0 11) then (
     lt (wI M6 0 11 (0 : Int32)) fun M10 =>
     b12_check_38  rc n a1 a2 (0 : Int32) M10)
    else (
     b12_check_28  rc n  M6))))))
def r12_check : Nat → Nat → List Int32 → List Int64 → Mem → Option (Int32 × Mem)
  | 0 => fun _ _ _ _ => none
  | n + 1 => fun pc li lj M =>
    if pc = 38 then (match li, lj with | [i1, i2, i3], [] => b12_check_38  (r12_check  n) n i1 i2 i3 M | _, _ => none) else
    none
theorem e12_check_38  (n : Nat) (i1 : Int32) (i2 : Int32) (i3 : Int32) (M : Mem) : r12_check  (n + 1) 38 [i1, i2, i3] [] M = b12_check_38  (r12_check  n) n i1 i2 i3 M := by
  rw [r12_check]
  simp
def f12_check (n : Nat) (a1 : Int32) (a2 : Int32) (M : Mem) : Option (Int32 × Mem) := b12_check_0 (r12_check n) n a1 a2 M
abbrev rm12_check : Room := { frames := 1, cells := 0, slots := 0, locals := 22 }
theorem y12_check_w : yV RX12 yX12_check cX12_check 4 (some .int) 2 := ⟨g_1698, g_1699, g_14, g_1700, rfl, by decide, by decide, by decide +kernel⟩
set_option maxHeartbeats 4000000 in
set_option maxRecDepth 100000 in
theorem w12_check_28 {p : Program} {l : Launch} {e : Env} {s : State} {m : MethodId} {args : Array Value} {below : List Frame} {meth : Method} {c : Code} {z : Zt} {b : Nat}  (C : Cx p s m args c cX12_check 4 RX12 z 32 b) (hr : meth.sig.returnType = (some .int)) (hk : meth.locks = false) {r : Int32} {M' : Mem} {rc : Nat → List Int32 → List Int64 → Mem → Option (Int32 × Mem)} {n : Nat} (q38 : ∀ (i1 : Int32) (i2 : Int32) (i3 : Int32) (M : Mem) (H : Heap) (locs : List Loc) (ls : Array Slot), rc 38 [i1, i2, i3] [] M = some (r, M') → va_P z.1 vwCl (pw (yd z b) 32 b M) H → va_S (pA 32 b) s.heap H locs → lv_has ls 4 [(0, .ref (b + 0)), (1, .int i1), (2, .int i2), (3, .int i3)] → W p l e rm12_check s m args below meth c H locs 0 0 (MQ below (va_Qi (fun (r' : Int32) (M2 : Mem) => r' = r ∧ M2 = M') (fun M2 t => va_P z.1 vwCl (pw (yd z b) 32 b M2) t.heap) (pA 32 b)) args s 0 0 (pA 32 b)) (F0 m 38 ls []))  {M : Mem} {H : Heap} {locs : List Loc} {ls : Array Slot} (hf : b12_check_28  rc n  M = some (r, M')) (hP : va_P z.1 vwCl (pw (yd z b) 32 b M) H) (hS : va_S (pA 32 b) s.heap H locs) (hl : lv_has ls 4 []) : W p l e rm12_check s m args below meth c H locs 0 0 (MQ below (va_Qi (fun (r' : Int32) (M2 : Mem) => r' = r ∧ M2 = M') (fun M2 t => va_P z.1 vwCl (pw (yd z b) 32 b M2) t.heap) (pA 32 b)) args s 0 0 (pA 32 b)) (F0 m 28 ls []) := by
  have hx := C.1.1
  have hb := C.1.2.1
  unfold b12_check_28 at hf
  refine lv_bipush (v := (-2 : Int32)) hx hb dX12_check_28 (by decide) ?_
  exact prI C hr hk hP hS hf dX12_check_30
set_option maxHeartbeats 4000000 in
set_option maxRecDepth 100000 in
theorem w12_check_38 {p : Program} {l : Launch} {e : Env} {s : State} {m : MethodId} {args : Array Value} {below : List Frame} {meth : Method} {c : Code} {z : Zt} {b : Nat}  (C : Cx p s m args c cX12_check 4 RX12 z 32 b) (hr : meth.sig.returnType = (some .int)) (hk : meth.locks = false) {r : Int32} {M' : Mem} {rc : Nat → List Int32 → List Int64 → Mem → Option (Int32 × Mem)} {n : Nat} (q38 : ∀ (i1 : Int32) (i2 : Int32) (i3 : Int32) (M : Mem) (H : Heap) (locs : List Loc) (ls : Array Slot), rc 38 [i1, i2, i3] [] M = some (r, M') → va_P z.1 vwCl (pw (yd z b) 32 b M) H → va_S (pA 32 b) s.heap H locs → lv_has ls 4 [(0, .ref (b + 0)), (1, .int i1), (2, .int i2), (3, .int i3)] → W p l e rm12_check s m args below meth c H locs 0 0 (MQ below (va_Qi (fun (r' : Int32) (M2 : Mem) => r' = r ∧ M2 = M') (fun M2 t => va_P z.1 vwCl (pw (yd z b) 32 b M2) t.heap) (pA 32 b)) args s 0 0 (pA 32 b)) (F0 m 38 ls [])) {i1 : Int32} {i2 : Int32} {i3 : Int32} {M : Mem} {H : Heap} {locs : List Loc} {ls : Array Slot} (hf : b12_check_38  rc n i1 i2 i3 M = some (r, M')) (hP : va_P z.1 vwCl (pw (yd z b) 32 b M) H) (hS : va_S (pA 32 b) s.heap H locs) (hl : lv_has ls 4 [(0, .ref (b + 0)), (1, .int i1), (2, .int i2), (3, .int i3)]) : W p l e rm12_check s m args below meth c H locs 0 0 (MQ below (va_Qi (fun (r' : Int32) (M2 : Mem) => r' = r ∧ M2 = M') (fun M2 t => va_P z.1 vwCl (pw (yd z b) 32 b M2) t.heap) (pA 32 b)) args s 0 0 (pA 32 b)) (F0 m 38 ls []) := by
  have hx := C.1.1
  have hb := C.1.2.1
  unfold b12_check_38 at hf
  refine lv_iload_n hx hb dX12_check_38 rfl (lv_at hl 3 rfl) ?_
  refine lv_iload_n hx hb dX12_check_39 rfl (lv_at hl 2 rfl) ?_
  refine lv_icmp_ge (tgt := 76) hx hb dX12_check_40 (by decide) (fun c11 => ?_) (fun c11 => ?_)
  · replace hf := ite_t c11 hf
    refine lv_iconst (v := (-1 : Int32)) hx hb dX12_check_76 (by decide) ?_
    exact prI C hr hk hP hS hf dX12_check_77
  · replace hf := ite_f c11 hf
    refine lv_aload_n hx hb dX12_check_43 rfl (lv_at hl 0 rfl) ?_
    refine lv_iload_n hx hb dX12_check_44 rfl (lv_at hl 3 rfl) ?_
    obtain ⟨r12, M13, h14, hf⟩ := bnd_s hf
    refine pcVi (As := [.int i3]) C hP hS (k := 0) (Nat.le_of_ble_eq_true rfl) (yd_0 _ _) rfl (c12_octet  h14) y12_octet_w g_1633 rfl rfl rfl ⟨Nat.le_of_ble_eq_true rfl, Nat.le_of_ble_eq_true rfl⟩ hl.1 rfl (Nat.le_of_ble_eq_true rfl) dX12_check_45 ⟨Nat.le_of_ble_eq_true rfl, Nat.le_of_ble_eq_true rfl⟩ (fun H locs hP hS => ?_)
    refine lv_aload_n hx hb dX12_check_48 rfl (lv_at hl 0 rfl) ?_
    refine pg C hP (k := 0) (j := 0) (Nat.le_of_ble_eq_true rfl) (yd_0 _ _) rfl iw_12 (Nat.le_of_ble_eq_true rfl) g_1135 rfl rfl dX12_check_49 ?_
    refine lv_iconst (v := (0 : Int32)) hx hb dX12_check_52 (by decide) ?_
    refine lv_bipush (v := (12 : Int32)) hx hb dX12_check_53 (by decide) ?_
    refine lv_iload_n hx hb dX12_check_55 rfl (lv_at hl 1 rfl) ?_
    refine lv_imul hx hb dX12_check_56 ?_
    refine lv_iadd hx hb dX12_check_57 ?_
    refine lv_iload_n hx hb dX12_check_58 rfl (lv_at hl 3 rfl) ?_
    refine lv_iadd hx hb dX12_check_59 ?_
    have h15 := chk_1 hf
    replace hf := chk_2 hf
    refine paI C hP (k := 1) (Nat.le_of_ble_eq_true rfl) (yd_1 _ _) h15 dX12_check_60 ?_
    refine lv_sipush (v := (256 : Int32)) hx hb dX12_check_61 (by decide) ?_
    refine lv_irem hx hb dX12_check_64 (by decide) ?_
    refine lv_icmp_eq (tgt := 70) hx hb dX12_check_65 (by decide) (fun c16 => ?_) (fun c16 => ?_)
    · replace hf := ite_t c16 hf
      obtain ⟨v17, ev17⟩ : ∃ v : Int32, v = i3 + (1 : Int32) := ⟨_, rfl⟩
      replace hf := lt_c ev17 hf
      refine lv_iinc (v := v17) (lv' := [(3, .int v17), (0, .ref (b + 0)), (1, .int i1), (2, .int i2)]) hx hb dX12_check_70 hl (k := 3) rfl (by rw [ev17]; rfl) (by decide) rfl (fun ls hl => ?_)
      refine lv_goto (tgt := 38) hx hb dX12_check_73 (by decide) ?_
      exact q38 i1 i2 v17 M13 _ _ _ hf hP hS (lv_sub hl [1, 2, 3, 0] rfl)
    · replace hf := ite_f c16 hf
      refine lv_iload_n hx hb dX12_check_68 rfl (lv_at hl 3 rfl) ?_
      exact prI C hr hk hP hS hf dX12_check_69
set_option maxHeartbeats 4000000 in
set_option maxRecDepth 100000 in
theorem w12_check_0 {p : Program} {l : Launch} {e : Env} {s : State} {m : MethodId} {args : Array Value} {below : List Frame} {meth : Method} {c : Code} {z : Zt} {b : Nat}  (C : Cx p s m args c cX12_check 4 RX12 z 32 b) (hr : meth.sig.returnType = (some .int)) (hk : meth.locks = false) {r : Int32} {M' : Mem} {rc : Nat → List Int32 → List Int64 → Mem → Option (Int32 × Mem)} {n : Nat} (q38 : ∀ (i1 : Int32) (i2 : Int32) (i3 : Int32) (M : Mem) (H : Heap) (locs : List Loc) (ls : Array Slot), rc 38 [i1, i2, i3] [] M = some (r, M') → va_P z.1 vwCl (pw (yd z b) 32 b M) H → va_S (pA 32 b) s.heap H locs → lv_has ls 4 [(0, .ref (b + 0)), (1, .int i1), (2, .int i2), (3, .int i3)] → W p l e rm12_check s m args below meth c H locs 0 0 (MQ below (va_Qi (fun (r' : Int32) (M2 : Mem) => r' = r ∧ M2 = M') (fun M2 t => va_P z.1 vwCl (pw (yd z b) 32 b M2) t.heap) (pA 32 b)) args s 0 0 (pA 32 b)) (F0 m 38 ls [])) {a1 : Int32} {a2 : Int32} {M : Mem} {H : Heap} {locs : List Loc} {ls : Array Slot} (hf : b12_check_0  rc n a1 a2 M = some (r, M')) (hP : va_P z.1 vwCl (pw (yd z b) 32 b M) H) (hS : va_S (pA 32 b) s.heap H locs) (hl : lv_has ls 4 [(0, .ref (b + 0)), (1, .int a1), (2, .int a2)]) : W p l e rm12_check s m args below meth c H locs 0 0 (MQ below (va_Qi (fun (r' : Int32) (M2 : Mem) => r' = r ∧ M2 = M') (fun M2 t => va_P z.1 vwCl (pw (yd z b) 32 b M2) t.heap) (pA 32 b)) args s 0 0 (pA 32 b)) (F0 m 0 ls []) := by
  have hx := C.1.1
  have hb := C.1.2.1
  unfold b12_check_0 at hf
  refine lv_iload_n hx hb dX12_check_0 rfl (lv_at hl 1 rfl) ?_
  refine lv_iconst (v := (0 : Int32)) hx hb dX12_check_1 (by decide) ?_
  refine lv_bipush (v := (7 : Int32)) hx hb dX12_check_2 (by decide) ?_
  obtain ⟨r1, M2, h3, hf⟩ := bnd_s hf
  refine pcSi (As := [.int a1, .int (0 : Int32), .int (7 : Int32)]) C hP hS (c12_in  h3) y12_in_w g_1306 rfl rfl rfl ⟨Nat.le_of_ble_eq_true rfl, Nat.le_of_ble_eq_true rfl⟩ hl.1 rfl (Nat.le_of_ble_eq_true rfl) dX12_check_4 ⟨Nat.le_of_ble_eq_true rfl, Nat.le_of_ble_eq_true rfl⟩ (fun H locs hP hS => ?_)
  refine lv_if_eq (tgt := 28) hx hb dX12_check_7 (by decide) (fun c4 => ?_) (fun c4 => ?_)
  · replace hf := ite_t c4 hf
    exact w12_check_28 (n := n)  C hr hk q38 hf hP hS (lv_sub hl [] rfl)
  · replace hf := ite_f c4 hf
    refine lv_iload_n hx hb dX12_check_10 rfl (lv_at hl 2 rfl) ?_
    refine lv_iconst (v := (0 : Int32)) hx hb dX12_check_11 (by decide) ?_
    refine lv_bipush (v := (12 : Int32)) hx hb dX12_check_12 (by decide) ?_
    obtain ⟨r5, M6, h7, hf⟩ := bnd_s hf
    refine pcSi (As := [.int a2, .int (0 : Int32), .int (12 : Int32)]) C hP hS (c12_in  h7) y12_in_w g_1306 rfl rfl rfl ⟨Nat.le_of_ble_eq_true rfl, Nat.le_of_ble_eq_true rfl⟩ hl.1 rfl (Nat.le_of_ble_eq_true rfl) dX12_check_14 ⟨Nat.le_of_ble_eq_true rfl, Nat.le_of_ble_eq_true rfl⟩ (fun H locs hP hS => ?_)
    refine lv_if_eq (tgt := 28) hx hb dX12_check_17 (by decide) (fun c8 => ?_) (fun c8 => ?_)
    · replace hf := ite_t c8 hf
      exact w12_check_28 (n := n)  C hr hk q38 hf hP hS (lv_sub hl [] rfl)
    · replace hf := ite_f c8 hf
      refine lv_iload_n hx hb dX12_check_20 rfl (lv_at hl 2 rfl) ?_
      refine lv_aload_n hx hb dX12_check_21 rfl (lv_at hl 0 rfl) ?_
      refine pg C hP (k := 0) (j := 11) (Nat.le_of_ble_eq_true rfl) (yd_0 _ _) rfl iw_12 (Nat.le_of_ble_eq_true rfl) g_1146 rfl rfl dX12_check_22 ?_
      refine lv_icmp_le (tgt := 31) hx hb dX12_check_25 (by decide) (fun c9 => ?_) (fun c9 => ?_)
      · replace hf := ite_t c9 hf
        refine lv_aload_n hx hb dX12_check_31 rfl (lv_at hl 0 rfl) ?_
        refine lv_iconst (v := (0 : Int32)) hx hb dX12_check_32 (by decide) ?_
        refine ppI C hP hS (k := 0) (j := 11) (ty := .int) (Nat.le_of_ble_eq_true rfl) (yd_0 _ _) rfl iw_12 tyX12 tyX12_ok nmX12 (Nat.le_of_ble_eq_true rfl) g_1146 rfl rfl (by decide +kernel) rfl rfl (Nat.le_of_ble_eq_true rfl) (yu_0_11 _ _ _) dX12_check_33 (fun M10 H locs eM10 hP hS => ?_)
        replace hf := lt_c eM10 hf
        refine lv_iconst (v := (0 : Int32)) hx hb dX12_check_36 (by decide) ?_
        refine lv_istore_n (lv' := [(3, .int (0 : Int32)), (0, .ref (b + 0)), (1, .int a1), (2, .int a2)]) hx hb dX12_check_37 rfl hl (by decide) rfl (fun ls hl => ?_)
        exact w12_check_38 (n := n)  C hr hk q38 hf hP hS (lv_sub hl [1, 2, 3, 0] rfl)
      · replace hf := ite_f c9 hf
        exact w12_check_28 (n := n)  C hr hk q38 hf hP hS (lv_sub hl [] rfl)
set_option maxHeartbeats 4000000 in
set_option maxRecDepth 100000 in
theorem l12_check {p : Program} {l : Launch} {e : Env} {s : State} {m : MethodId} {args : Array Value} {below : List Frame} {meth : Method} {c : Code} {z : Zt} {b : Nat}  (C : Cx p s m args c cX12_check 4 RX12 z 32 b) (hr : meth.sig.returnType = (some .int)) (hk : meth.locks = false) {r : Int32} {M' : Mem} (n : Nat) : (∀ (i1 : Int32) (i2 : Int32) (i3 : Int32) (M : Mem) (H : Heap) (locs : List Loc) (ls : Array Slot), (r12_check  n) 38 [i1, i2, i3] [] M = some (r, M') → va_P z.1 vwCl (pw (yd z b) 32 b M) H → va_S (pA 32 b) s.heap H locs → lv_has ls 4 [(0, .ref (b + 0)), (1, .int i1), (2, .int i2), (3, .int i3)] → W p l e rm12_check s m args below meth c H locs 0 0 (MQ below (va_Qi (fun (r' : Int32) (M2 : Mem) => r' = r ∧ M2 = M') (fun M2 t => va_P z.1 vwCl (pw (yd z b) 32 b M2) t.heap) (pA 32 b)) args s 0 0 (pA 32 b)) (F0 m 38 ls [])) := by
  induction n with
  | zero => exact fun _ _ _ _ _ _ _ hf => (by cases hf)
  | succ n ih => exact fun _ _ _ _ _ _ _ hf hP hS hl => w12_check_38 (n := n)  C hr hk ih ((e12_check_38  n _ _ _ _).symm.trans hf) hP hS hl
theorem c12_check {l : Launch} {z : Zt} {b n : Nat}  {a1 : Int32} {a2 : Int32} {M M' : Mem} {r : Int32} (hf : f12_check n  a1 a2 M = some (r, M')) : CI l z (yd z b) 32 b yX12_check cX12_check 4 (some .int) rm12_check [.ref (b + 0), .int a1, .int a2] M M' r :=
  CI.ofW (lv := [(0, .ref (b + 0)), (1, .int a1), (2, .int a2)]) (by decide) (Nat.le_of_ble_eq_true rfl) rfl (fun p e s m args below meth c ls C hr hk hP hS hl => w12_check_0 (n := n)  C hr hk (l12_check  C hr hk n) hf hP hS hl)

-- BronzeKingModel.count(I)I
theorem dX12_count_0 : decode cX12_count 0 = .ok (.iconst 0, 1) := by decide +kernel
theorem dX12_count_1 : decode cX12_count 1 = .ok (.istore_n 2, 1) := by decide +kernel
theorem dX12_count_2 : decode cX12_count 2 = .ok (.iload_n 1, 1) := by decide +kernel
theorem dX12_count_3 : decode cX12_count 3 = .ok (.tableswitch 155 0 8 #[49, 58, 63, 99, 104, 109, 114, 123, 150], 49) := by decide +kernel
theorem dX12_count_52 : decode cX12_count 52 = .ok (.aload_n 0, 1) := by decide +kernel
theorem dX12_count_53 : decode cX12_count 53 = .ok (.getfield 7, 3) := by decide +kernel
theorem dX12_count_56 : decode cX12_count 56 = .ok (.sipush 160, 3) := by decide +kernel
theorem dX12_count_59 : decode cX12_count 59 = .ok (.iaload, 1) := by decide +kernel
theorem dX12_count_60 : decode cX12_count 60 = .ok (.ireturn, 1) := by decide +kernel
theorem dX12_count_61 : decode cX12_count 61 = .ok (.aload_n 0, 1) := by decide +kernel
theorem dX12_count_62 : decode cX12_count 62 = .ok (.getfield 264, 3) := by decide +kernel
theorem dX12_count_65 : decode cX12_count 65 = .ok (.ireturn, 1) := by decide +kernel
theorem dX12_count_66 : decode cX12_count 66 = .ok (.iconst 1, 1) := by decide +kernel
theorem dX12_count_67 : decode cX12_count 67 = .ok (.istore_n 3, 1) := by decide +kernel
theorem dX12_count_68 : decode cX12_count 68 = .ok (.iload_n 3, 1) := by decide +kernel
theorem dX12_count_69 : decode cX12_count 69 = .ok (.bipush 9, 2) := by decide +kernel
theorem dX12_count_71 : decode cX12_count 71 = .ok (.if_icmp .gt 29, 3) := by decide +kernel
theorem dX12_count_74 : decode cX12_count 74 = .ok (.iload_n 2, 1) := by decide +kernel
theorem dX12_count_75 : decode cX12_count 75 = .ok (.aload_n 0, 1) := by decide +kernel
theorem dX12_count_76 : decode cX12_count 76 = .ok (.getfield 22, 3) := by decide +kernel
theorem dX12_count_79 : decode cX12_count 79 = .ok (.iload_n 3, 1) := by decide +kernel
theorem dX12_count_80 : decode cX12_count 80 = .ok (.iaload, 1) := by decide +kernel
theorem dX12_count_81 : decode cX12_count 81 = .ok (.iconst (-1), 1) := by decide +kernel
theorem dX12_count_82 : decode cX12_count 82 = .ok (.if_icmp .ne 7, 3) := by decide +kernel
theorem dX12_count_85 : decode cX12_count 85 = .ok (.iconst 0, 1) := by decide +kernel
theorem dX12_count_86 : decode cX12_count 86 = .ok (.goto 6, 3) := by decide +kernel
theorem dX12_count_89 : decode cX12_count 89 = .ok (.iconst 1, 1) := by decide +kernel
theorem dX12_count_90 : decode cX12_count 90 = .ok (.iload_n 3, 1) := by decide +kernel
theorem dX12_count_91 : decode cX12_count 91 = .ok (.ishl, 1) := by decide +kernel
theorem dX12_count_92 : decode cX12_count 92 = .ok (.ior, 1) := by decide +kernel
theorem dX12_count_93 : decode cX12_count 93 = .ok (.istore_n 2, 1) := by decide +kernel
theorem dX12_count_94 : decode cX12_count 94 = .ok (.iinc 3 1, 3) := by decide +kernel
theorem dX12_count_97 : decode cX12_count 97 = .ok (.goto (-29), 3) := by decide +kernel
theorem dX12_count_100 : decode cX12_count 100 = .ok (.iload_n 2, 1) := by decide +kernel
theorem dX12_count_101 : decode cX12_count 101 = .ok (.ireturn, 1) := by decide +kernel
theorem dX12_count_102 : decode cX12_count 102 = .ok (.aload_n 0, 1) := by decide +kernel
theorem dX12_count_103 : decode cX12_count 103 = .ok (.getfield 110, 3) := by decide +kernel
theorem dX12_count_106 : decode cX12_count 106 = .ok (.ireturn, 1) := by decide +kernel
theorem dX12_count_107 : decode cX12_count 107 = .ok (.aload_n 0, 1) := by decide +kernel
theorem dX12_count_108 : decode cX12_count 108 = .ok (.getfield 236, 3) := by decide +kernel
theorem dX12_count_111 : decode cX12_count 111 = .ok (.ireturn, 1) := by decide +kernel
theorem dX12_count_112 : decode cX12_count 112 = .ok (.aload_n 0, 1) := by decide +kernel
theorem dX12_count_113 : decode cX12_count 113 = .ok (.getfield 137, 3) := by decide +kernel
theorem dX12_count_116 : decode cX12_count 116 = .ok (.ireturn, 1) := by decide +kernel
theorem dX12_count_117 : decode cX12_count 117 = .ok (.aload_n 0, 1) := by decide +kernel
theorem dX12_count_118 : decode cX12_count 118 = .ok (.getfield 7, 3) := by decide +kernel
theorem dX12_count_121 : decode cX12_count 121 = .ok (.sipush 161, 3) := by decide +kernel
theorem dX12_count_124 : decode cX12_count 124 = .ok (.iaload, 1) := by decide +kernel
theorem dX12_count_125 : decode cX12_count 125 = .ok (.ireturn, 1) := by decide +kernel
theorem dX12_count_126 : decode cX12_count 126 = .ok (.iconst 0, 1) := by decide +kernel
theorem dX12_count_127 : decode cX12_count 127 = .ok (.istore_n 3, 1) := by decide +kernel
theorem dX12_count_128 : decode cX12_count 128 = .ok (.iload_n 3, 1) := by decide +kernel
theorem dX12_count_129 : decode cX12_count 129 = .ok (.bipush 96, 2) := by decide +kernel
theorem dX12_count_131 : decode cX12_count 131 = .ok (.if_icmp .ge 20, 3) := by decide +kernel
theorem dX12_count_134 : decode cX12_count 134 = .ok (.iload_n 2, 1) := by decide +kernel
theorem dX12_count_135 : decode cX12_count 135 = .ok (.aload_n 0, 1) := by decide +kernel
theorem dX12_count_136 : decode cX12_count 136 = .ok (.getfield 7, 3) := by decide +kernel
theorem dX12_count_139 : decode cX12_count 139 = .ok (.iconst 0, 1) := by decide +kernel
theorem dX12_count_140 : decode cX12_count 140 = .ok (.iload_n 3, 1) := by decide +kernel
theorem dX12_count_141 : decode cX12_count 141 = .ok (.iadd, 1) := by decide +kernel
theorem dX12_count_142 : decode cX12_count 142 = .ok (.iaload, 1) := by decide +kernel
theorem dX12_count_143 : decode cX12_count 143 = .ok (.iadd, 1) := by decide +kernel
theorem dX12_count_144 : decode cX12_count 144 = .ok (.istore_n 2, 1) := by decide +kernel
theorem dX12_count_145 : decode cX12_count 145 = .ok (.iinc 3 1, 3) := by decide +kernel
theorem dX12_count_148 : decode cX12_count 148 = .ok (.goto (-20), 3) := by decide +kernel
theorem dX12_count_151 : decode cX12_count 151 = .ok (.iload_n 2, 1) := by decide +kernel
theorem dX12_count_152 : decode cX12_count 152 = .ok (.ireturn, 1) := by decide +kernel
theorem dX12_count_153 : decode cX12_count 153 = .ok (.aload_n 0, 1) := by decide +kernel
theorem dX12_count_154 : decode cX12_count 154 = .ok (.invokevirtual 276, 3) := by decide +kernel
theorem dX12_count_157 : decode cX12_count 157 = .ok (.ireturn, 1) := by decide +kernel
theorem dX12_count_158 : decode cX12_count 158 = .ok (.iload_n 1, 1) := by decide +kernel
theorem dX12_count_159 : decode cX12_count 159 = .ok (.bipush 11, 2) := by decide +kernel
theorem dX12_count_161 : decode cX12_count 161 = .ok (.bipush 19, 2) := by decide +kernel
theorem dX12_count_163 : decode cX12_count 163 = .ok (.invokestatic 106, 3) := by decide +kernel
theorem dX12_count_166 : decode cX12_count 166 = .ok (.ifCond .eq 13, 3) := by decide +kernel
theorem dX12_count_169 : decode cX12_count 169 = .ok (.aload_n 0, 1) := by decide +kernel
theorem dX12_count_170 : decode cX12_count 170 = .ok (.getfield 22, 3) := by decide +kernel
theorem dX12_count_173 : decode cX12_count 173 = .ok (.iload_n 1, 1) := by decide +kernel
theorem dX12_count_174 : decode cX12_count 174 = .ok (.bipush 10, 2) := by decide +kernel
theorem dX12_count_176 : decode cX12_count 176 = .ok (.isub, 1) := by decide +kernel
theorem dX12_count_177 : decode cX12_count 177 = .ok (.iaload, 1) := by decide +kernel
theorem dX12_count_178 : decode cX12_count 178 = .ok (.ireturn, 1) := by decide +kernel
theorem dX12_count_179 : decode cX12_count 179 = .ok (.iload_n 1, 1) := by decide +kernel
theorem dX12_count_180 : decode cX12_count 180 = .ok (.bipush 100, 2) := by decide +kernel
theorem dX12_count_182 : decode cX12_count 182 = .ok (.bipush 123, 2) := by decide +kernel
theorem dX12_count_184 : decode cX12_count 184 = .ok (.invokestatic 106, 3) := by decide +kernel
theorem dX12_count_187 : decode cX12_count 187 = .ok (.ifCond .eq 14, 3) := by decide +kernel
theorem dX12_count_190 : decode cX12_count 190 = .ok (.aload_n 0, 1) := by decide +kernel
theorem dX12_count_191 : decode cX12_count 191 = .ok (.iload_n 1, 1) := by decide +kernel
theorem dX12_count_192 : decode cX12_count 192 = .ok (.bipush 100, 2) := by decide +kernel
theorem dX12_count_194 : decode cX12_count 194 = .ok (.isub, 1) := by decide +kernel
theorem dX12_count_195 : decode cX12_count 195 = .ok (.invokevirtual 273, 3) := by decide +kernel
theorem dX12_count_198 : decode cX12_count 198 = .ok (.goto 4, 3) := by decide +kernel
theorem dX12_count_201 : decode cX12_count 201 = .ok (.iconst (-1), 1) := by decide +kernel
theorem dX12_count_202 : decode cX12_count 202 = .ok (.ireturn, 1) := by decide +kernel
def b12_count_92 (rc : Nat → List Int32 → List Int64 → Mem → Option (Int32 × Mem)) (n : Nat) (i3 : Int32) (s0 : Int32) (s1 : Int32) (M : Mem) : Option (Int32 × Mem) :=
  lt (s0 ||| s1) fun v34 =>
  lt (i3 + (1 : Int32)) fun v35 =>
  rc 68 [v34, v35] [] M
def b12_count_68 (rc : Nat → List Int32 → List Int64 → Mem → Option (Int32 × Mem)) (n : Nat) (i2 : Int32) (i3 : Int32) (M : Mem) : Option (Int32 × Mem) :=
  (if (9 : Int32) < i3 then (
   some (i2, M))
  else (
   chk (inb i3 10) <|
   (if (M.1 5 i3.toNatClampNeg) = (-1 : Int32) then (
    b12_count_92  rc n i3 i2 (0 : Int32) M)
   else (
    b12_count_92  rc n i3 i2 ((1 : Int32) <<< (i3 &&& 31)) M))))
def b12_count_128 (rc : Nat → List Int32 → List Int64 → Mem → Option (Int32 × Mem)) (n : Nat) (i2 : Int32) (i3 : Int32) (M : Mem) : Option (Int32 × Mem) :=
  (if (96 : Int32) ≤ i3 then (
   some (i2, M))
  else (
   chk (inb ((0 : Int32) + i3) 162) <|
   lt (i2 + (M.1 1 ((0 : Int32) + i3).toNatClampNeg)) fun v29 =>
   lt (i3 + (1 : Int32)) fun v30 =>
   rc 128 [v29, v30] [] M))
def b12_count_0 (rc : Nat → List Int32 → List Int64 → Mem → Option (Int32 × Mem)) (n : Nat) (a1 : Int32) (M : Mem) : Option (Int32 × Mem) :=
  (if a1 = (0 : Int32) then (
   chk (inb (160 : Int32) 162) <|
   some ((M.1 1 (160 : Int32).toNatClampNeg), M))
  else (
   (if a1 = (1 : Int32) then (
    some ((M.1 0 6), M))
   else (
    (if a1 = (2 : Int32) then (
     b12_count_68  rc n (0 : Int32) (1 : Int32) M)
    else (
     (if a1 = (3 : Int32) then (
      some ((M.1 0 5), M))
     else (
      (if a1 = (4 : Int32) then (
       some ((M.1 0 20), M))
      else (
       (if a1 = (5 : Int32) then (
        some ((M.1 0 11), M))
       else (
        (if a1 = (6 : Int32) then (
         chk (inb (161 : Int32) 162) <|
         some ((M.1 1 (161 : Int32).toNatClampNeg), M))
        else (
         (if a1 = (7 : Int32) then (
          b12_count_128  rc n (0 : Int32) (0 : Int32) M)
         else (
          (if a1 = (8 : Int32) then (
           bnd (f12_allWeights n M) fun r12 M13 =>
           some (r12, M13))
          else (
           bnd (f12_in n a1 (11 : Int32) (19 : Int32) M) fun r15 M16 =>
           (if r15 = 0 then (
            bnd (f12_in n a1 (100 : Int32) (123 : Int32) M16) fun r19 M20 =>
            (if r19 = 0 then (
             some ((-1 : Int32), M20))
            else (
             bnd (f12_weightOf n (a1 - (100 : Int32)) M20) fun r23 M24 =>
             some (r23, M24))))
           else (
            chk (inb (a1 - (10 : Int32)) 10) <|
            some ((M16.1 5 (a1 - (10 : Int32)).toNatClampNeg), M16)))))))))))))))))))))
def r12_count : Nat → Nat → List Int32 → List Int64 → Mem → Option (Int32 × Mem)
  | 0 => fun _ _ _ _ => none
  | n + 1 => fun pc li lj M =>
    if pc = 68 then (match li, lj with | [i2, i3], [] => b12_count_68  (r12_count  n) n i2 i3 M | _, _ => none) else
    if pc = 128 then (match li, lj with | [i2, i3], [] => b12_count_128  (r12_count  n) n i2 i3 M | _, _ => none) else
    none
theorem e12_count_68  (n : Nat) (i2 : Int32) (i3 : Int32) (M : Mem) : r12_count  (n + 1) 68 [i2, i3] [] M = b12_count_68  (r12_count  n) n i2 i3 M := by
  rw [r12_count]
  simp
theorem e12_count_128  (n : Nat) (i2 : Int32) (i3 : Int32) (M : Mem) : r12_count  (n + 1) 128 [i2, i3] [] M = b12_count_128  (r12_count  n) n i2 i3 M := by
  rw [r12_count]
  simp
def f12_count (n : Nat) (a1 : Int32) (M : Mem) : Option (Int32 × Mem) := b12_count_0 (r12_count n) n a1 M
abbrev rm12_count : Room := { frames := 5, cells := 0, slots := 0, locals := 117 }
theorem y12_count_w : yV RX12 yX12_count cX12_count 4 (some .int) 1 := ⟨g_1702, g_1703, g_14, g_1704, rfl, by decide, by decide, by decide +kernel⟩
set_option maxHeartbeats 4000000 in
set_option maxRecDepth 100000 in
theorem w12_count_92 {p : Program} {l : Launch} {e : Env} {s : State} {m : MethodId} {args : Array Value} {below : List Frame} {meth : Method} {c : Code} {z : Zt} {b : Nat}  (C : Cx p s m args c cX12_count 4 RX12 z 32 b) (hr : meth.sig.returnType = (some .int)) (hk : meth.locks = false) {r : Int32} {M' : Mem} {rc : Nat → List Int32 → List Int64 → Mem → Option (Int32 × Mem)} {n : Nat} (q68 : ∀ (i2 : Int32) (i3 : Int32) (M : Mem) (H : Heap) (locs : List Loc) (ls : Array Slot), rc 68 [i2, i3] [] M = some (r, M') → va_P z.1 vwCl (pw (yd z b) 32 b M) H → va_S (pA 32 b) s.heap H locs → lv_has ls 4 [(0, .ref (b + 0)), (2, .int i2), (3, .int i3)] → W p l e rm12_count s m args below meth c H locs 0 0 (MQ below (va_Qi (fun (r' : Int32) (M2 : Mem) => r' = r ∧ M2 = M') (fun M2 t => va_P z.1 vwCl (pw (yd z b) 32 b M2) t.heap) (pA 32 b)) args s 0 0 (pA 32 b)) (F0 m 68 ls [])) (q128 : ∀ (i2 : Int32) (i3 : Int32) (M : Mem) (H : Heap) (locs : List Loc) (ls : Array Slot), rc 128 [i2, i3] [] M = some (r, M') → va_P z.1 vwCl (pw (yd z b) 32 b M) H → va_S (pA 32 b) s.heap H locs → lv_has ls 4 [(0, .ref (b + 0)), (2, .int i2), (3, .int i3)] → W p l e rm12_count s m args below meth c H locs 0 0 (MQ below (va_Qi (fun (r' : Int32) (M2 : Mem) => r' = r ∧ M2 = M') (fun M2 t => va_P z.1 vwCl (pw (yd z b) 32 b M2) t.heap) (pA 32 b)) args s 0 0 (pA 32 b)) (F0 m 128 ls [])) {i3 : Int32} {s0 : Int32} {s1 : Int32} {M : Mem} {H : Heap} {locs : List Loc} {ls : Array Slot} (hf : b12_count_92  rc n i3 s0 s1 M = some (r, M')) (hP : va_P z.1 vwCl (pw (yd z b) 32 b M) H) (hS : va_S (pA 32 b) s.heap H locs) (hl : lv_has ls 4 [(0, .ref (b + 0)), (3, .int i3)]) : W p l e rm12_count s m args below meth c H locs 0 0 (MQ below (va_Qi (fun (r' : Int32) (M2 : Mem) => r' = r ∧ M2 = M') (fun M2 t => va_P z.1 vwCl (pw (yd z b) 32 b M2) t.heap) (pA 32 b)) args s 0 0 (pA 32 b)) (F0 m 92 ls [.int s1, .int s0]) := by
  have hx := C.1.1
  have hb := C.1.2.1
  unfold b12_count_92 at hf
  refine lv_ior hx hb dX12_count_92 ?_
  refine lv_topi (fun v34 ev34 => ?_)
  replace hf := lt_c ev34 hf
  refine lv_istore_n (lv' := [(2, .int v34), (0, .ref (b + 0)), (3, .int i3)]) hx hb dX12_count_93 rfl hl (by decide) rfl (fun ls hl => ?_)
  obtain ⟨v35, ev35⟩ : ∃ v : Int32, v = i3 + (1 : Int32) := ⟨_, rfl⟩
  replace hf := lt_c ev35 hf
  refine lv_iinc (v := v35) (lv' := [(3, .int v35), (2, .int v34), (0, .ref (b + 0))]) hx hb dX12_count_94 hl (k := 2) rfl (by rw [ev35]; rfl) (by decide) rfl (fun ls hl => ?_)
  refine lv_goto (tgt := 68) hx hb dX12_count_97 (by decide) ?_
  exact q68 v34 v35 M _ _ _ hf hP hS (lv_sub hl [2, 1, 0] rfl)
set_option maxHeartbeats 4000000 in
set_option maxRecDepth 100000 in
theorem w12_count_68 {p : Program} {l : Launch} {e : Env} {s : State} {m : MethodId} {args : Array Value} {below : List Frame} {meth : Method} {c : Code} {z : Zt} {b : Nat}  (C : Cx p s m args c cX12_count 4 RX12 z 32 b) (hr : meth.sig.returnType = (some .int)) (hk : meth.locks = false) {r : Int32} {M' : Mem} {rc : Nat → List Int32 → List Int64 → Mem → Option (Int32 × Mem)} {n : Nat} (q68 : ∀ (i2 : Int32) (i3 : Int32) (M : Mem) (H : Heap) (locs : List Loc) (ls : Array Slot), rc 68 [i2, i3] [] M = some (r, M') → va_P z.1 vwCl (pw (yd z b) 32 b M) H → va_S (pA 32 b) s.heap H locs → lv_has ls 4 [(0, .ref (b + 0)), (2, .int i2), (3, .int i3)] → W p l e rm12_count s m args below meth c H locs 0 0 (MQ below (va_Qi (fun (r' : Int32) (M2 : Mem) => r' = r ∧ M2 = M') (fun M2 t => va_P z.1 vwCl (pw (yd z b) 32 b M2) t.heap) (pA 32 b)) args s 0 0 (pA 32 b)) (F0 m 68 ls [])) (q128 : ∀ (i2 : Int32) (i3 : Int32) (M : Mem) (H : Heap) (locs : List Loc) (ls : Array Slot), rc 128 [i2, i3] [] M = some (r, M') → va_P z.1 vwCl (pw (yd z b) 32 b M) H → va_S (pA 32 b) s.heap H locs → lv_has ls 4 [(0, .ref (b + 0)), (2, .int i2), (3, .int i3)] → W p l e rm12_count s m args below meth c H locs 0 0 (MQ below (va_Qi (fun (r' : Int32) (M2 : Mem) => r' = r ∧ M2 = M') (fun M2 t => va_P z.1 vwCl (pw (yd z b) 32 b M2) t.heap) (pA 32 b)) args s 0 0 (pA 32 b)) (F0 m 128 ls [])) {i2 : Int32} {i3 : Int32} {M : Mem} {H : Heap} {locs : List Loc} {ls : Array Slot} (hf : b12_count_68  rc n i2 i3 M = some (r, M')) (hP : va_P z.1 vwCl (pw (yd z b) 32 b M) H) (hS : va_S (pA 32 b) s.heap H locs) (hl : lv_has ls 4 [(0, .ref (b + 0)), (2, .int i2), (3, .int i3)]) : W p l e rm12_count s m args below meth c H locs 0 0 (MQ below (va_Qi (fun (r' : Int32) (M2 : Mem) => r' = r ∧ M2 = M') (fun M2 t => va_P z.1 vwCl (pw (yd z b) 32 b M2) t.heap) (pA 32 b)) args s 0 0 (pA 32 b)) (F0 m 68 ls []) := by
  have hx := C.1.1
  have hb := C.1.2.1
  unfold b12_count_68 at hf
  refine lv_iload_n hx hb dX12_count_68 rfl (lv_at hl 2 rfl) ?_
  refine lv_bipush (v := (9 : Int32)) hx hb dX12_count_69 (by decide) ?_
  refine lv_icmp_gt (tgt := 100) hx hb dX12_count_71 (by decide) (fun c31 => ?_) (fun c31 => ?_)
  · replace hf := ite_t c31 hf
    refine lv_iload_n hx hb dX12_count_100 rfl (lv_at hl 1 rfl) ?_
    exact prI C hr hk hP hS hf dX12_count_101
  · replace hf := ite_f c31 hf
    refine lv_iload_n hx hb dX12_count_74 rfl (lv_at hl 1 rfl) ?_
    refine lv_aload_n hx hb dX12_count_75 rfl (lv_at hl 0 rfl) ?_
    refine pg C hP (k := 0) (j := 4) (Nat.le_of_ble_eq_true rfl) (yd_0 _ _) rfl iw_12 (Nat.le_of_ble_eq_true rfl) g_1139 rfl rfl dX12_count_76 ?_
    refine lv_iload_n hx hb dX12_count_79 rfl (lv_at hl 2 rfl) ?_
    have h32 := chk_1 hf
    replace hf := chk_2 hf
    refine paI C hP (k := 5) (Nat.le_of_ble_eq_true rfl) (yd_5 _ _) h32 dX12_count_80 ?_
    refine lv_iconst (v := (-1 : Int32)) hx hb dX12_count_81 (by decide) ?_
    refine lv_icmp_ne (tgt := 89) hx hb dX12_count_82 (by decide) (fun c33 => ?_) (fun c33 => ?_)
    · replace hf := ite_f c33 hf
      refine lv_iconst (v := (1 : Int32)) hx hb dX12_count_89 (by decide) ?_
      refine lv_iload_n hx hb dX12_count_90 rfl (lv_at hl 2 rfl) ?_
      refine lv_ishl hx hb dX12_count_91 ?_
      exact w12_count_92 (n := n)  C hr hk q68 q128 hf hP hS (lv_sub hl [0, 2] rfl)
    · replace hf := ite_t c33 hf
      refine lv_iconst (v := (0 : Int32)) hx hb dX12_count_85 (by decide) ?_
      refine lv_goto (tgt := 92) hx hb dX12_count_86 (by decide) ?_
      exact w12_count_92 (n := n)  C hr hk q68 q128 hf hP hS (lv_sub hl [0, 2] rfl)
set_option maxHeartbeats 4000000 in
set_option maxRecDepth 100000 in
theorem w12_count_128 {p : Program} {l : Launch} {e : Env} {s : State} {m : MethodId} {args : Array Value} {below : List Frame} {meth : Method} {c : Code} {z : Zt} {b : Nat}  (C : Cx p s m args c cX12_count 4 RX12 z 32 b) (hr : meth.sig.returnType = (some .int)) (hk : meth.locks = false) {r : Int32} {M' : Mem} {rc : Nat → List Int32 → List Int64 → Mem → Option (Int32 × Mem)} {n : Nat} (q68 : ∀ (i2 : Int32) (i3 : Int32) (M : Mem) (H : Heap) (locs : List Loc) (ls : Array Slot), rc 68 [i2, i3] [] M = some (r, M') → va_P z.1 vwCl (pw (yd z b) 32 b M) H → va_S (pA 32 b) s.heap H locs → lv_has ls 4 [(0, .ref (b + 0)), (2, .int i2), (3, .int i3)] → W p l e rm12_count s m args below meth c H locs 0 0 (MQ below (va_Qi (fun (r' : Int32) (M2 : Mem) => r' = r ∧ M2 = M') (fun M2 t => va_P z.1 vwCl (pw (yd z b) 32 b M2) t.heap) (pA 32 b)) args s 0 0 (pA 32 b)) (F0 m 68 ls [])) (q128 : ∀ (i2 : Int32) (i3 : Int32) (M : Mem) (H : Heap) (locs : List Loc) (ls : Array Slot), rc 128 [i2, i3] [] M = some (r, M') → va_P z.1 vwCl (pw (yd z b) 32 b M) H → va_S (pA 32 b) s.heap H locs → lv_has ls 4 [(0, .ref (b + 0)), (2, .int i2), (3, .int i3)] → W p l e rm12_count s m args below meth c H locs 0 0 (MQ below (va_Qi (fun (r' : Int32) (M2 : Mem) => r' = r ∧ M2 = M') (fun M2 t => va_P z.1 vwCl (pw (yd z b) 32 b M2) t.heap) (pA 32 b)) args s 0 0 (pA 32 b)) (F0 m 128 ls [])) {i2 : Int32} {i3 : Int32} {M : Mem} {H : Heap} {locs : List Loc} {ls : Array Slot} (hf : b12_count_128  rc n i2 i3 M = some (r, M')) (hP : va_P z.1 vwCl (pw (yd z b) 32 b M) H) (hS : va_S (pA 32 b) s.heap H locs) (hl : lv_has ls 4 [(0, .ref (b + 0)), (2, .int i2), (3, .int i3)]) : W p l e rm12_count s m args below meth c H locs 0 0 (MQ below (va_Qi (fun (r' : Int32) (M2 : Mem) => r' = r ∧ M2 = M') (fun M2 t => va_P z.1 vwCl (pw (yd z b) 32 b M2) t.heap) (pA 32 b)) args s 0 0 (pA 32 b)) (F0 m 128 ls []) := by
  have hx := C.1.1
  have hb := C.1.2.1
  unfold b12_count_128 at hf
  refine lv_iload_n hx hb dX12_count_128 rfl (lv_at hl 2 rfl) ?_
  refine lv_bipush (v := (96 : Int32)) hx hb dX12_count_129 (by decide) ?_
  refine lv_icmp_ge (tgt := 151) hx hb dX12_count_131 (by decide) (fun c27 => ?_) (fun c27 => ?_)
  · replace hf := ite_t c27 hf
    refine lv_iload_n hx hb dX12_count_151 rfl (lv_at hl 1 rfl) ?_
    exact prI C hr hk hP hS hf dX12_count_152
  · replace hf := ite_f c27 hf
    refine lv_iload_n hx hb dX12_count_134 rfl (lv_at hl 1 rfl) ?_
    refine lv_aload_n hx hb dX12_count_135 rfl (lv_at hl 0 rfl) ?_
    refine pg C hP (k := 0) (j := 0) (Nat.le_of_ble_eq_true rfl) (yd_0 _ _) rfl iw_12 (Nat.le_of_ble_eq_true rfl) g_1135 rfl rfl dX12_count_136 ?_
    refine lv_iconst (v := (0 : Int32)) hx hb dX12_count_139 (by decide) ?_
    refine lv_iload_n hx hb dX12_count_140 rfl (lv_at hl 2 rfl) ?_
    refine lv_iadd hx hb dX12_count_141 ?_
    have h28 := chk_1 hf
    replace hf := chk_2 hf
    refine paI C hP (k := 1) (Nat.le_of_ble_eq_true rfl) (yd_1 _ _) h28 dX12_count_142 ?_
    refine lv_iadd hx hb dX12_count_143 ?_
    refine lv_topi (fun v29 ev29 => ?_)
    replace hf := lt_c ev29 hf
    refine lv_istore_n (lv' := [(2, .int v29), (0, .ref (b + 0)), (3, .int i3)]) hx hb dX12_count_144 rfl hl (by decide) rfl (fun ls hl => ?_)
    obtain ⟨v30, ev30⟩ : ∃ v : Int32, v = i3 + (1 : Int32) := ⟨_, rfl⟩
    replace hf := lt_c ev30 hf
    refine lv_iinc (v := v30) (lv' := [(3, .int v30), (2, .int v29), (0, .ref (b + 0))]) hx hb dX12_count_145 hl (k := 2) rfl (by rw [ev30]; rfl) (by decide) rfl (fun ls hl => ?_)
    refine lv_goto (tgt := 128) hx hb dX12_count_148 (by decide) ?_
    exact q128 v29 v30 M _ _ _ hf hP hS (lv_sub hl [2, 1, 0] rfl)
set_option maxHeartbeats 4000000 in
set_option maxRecDepth 100000 in
theorem w12_count_0 {p : Program} {l : Launch} {e : Env} {s : State} {m : MethodId} {args : Array Value} {below : List Frame} {meth : Method} {c : Code} {z : Zt} {b : Nat}  (C : Cx p s m args c cX12_count 4 RX12 z 32 b) (hr : meth.sig.returnType = (some .int)) (hk : meth.locks = false) {r : Int32} {M' : Mem} {rc : Nat → List Int32 → List Int64 → Mem → Option (Int32 × Mem)} {n : Nat} (q68 : ∀ (i2 : Int32) (i3 : Int32) (M : Mem) (H : Heap) (locs : List Loc) (ls : Array Slot), rc 68 [i2, i3] [] M = some (r, M') → va_P z.1 vwCl (pw (yd z b) 32 b M) H → va_S (pA 32 b) s.heap H locs → lv_has ls 4 [(0, .ref (b + 0)), (2, .int i2), (3, .int i3)] → W p l e rm12_count s m args below meth c H locs 0 0 (MQ below (va_Qi (fun (r' : Int32) (M2 : Mem) => r' = r ∧ M2 = M') (fun M2 t => va_P z.1 vwCl (pw (yd z b) 32 b M2) t.heap) (pA 32 b)) args s 0 0 (pA 32 b)) (F0 m 68 ls [])) (q128 : ∀ (i2 : Int32) (i3 : Int32) (M : Mem) (H : Heap) (locs : List Loc) (ls : Array Slot), rc 128 [i2, i3] [] M = some (r, M') → va_P z.1 vwCl (pw (yd z b) 32 b M) H → va_S (pA 32 b) s.heap H locs → lv_has ls 4 [(0, .ref (b + 0)), (2, .int i2), (3, .int i3)] → W p l e rm12_count s m args below meth c H locs 0 0 (MQ below (va_Qi (fun (r' : Int32) (M2 : Mem) => r' = r ∧ M2 = M') (fun M2 t => va_P z.1 vwCl (pw (yd z b) 32 b M2) t.heap) (pA 32 b)) args s 0 0 (pA 32 b)) (F0 m 128 ls [])) {a1 : Int32} {M : Mem} {H : Heap} {locs : List Loc} {ls : Array Slot} (hf : b12_count_0  rc n a1 M = some (r, M')) (hP : va_P z.1 vwCl (pw (yd z b) 32 b M) H) (hS : va_S (pA 32 b) s.heap H locs) (hl : lv_has ls 4 [(0, .ref (b + 0)), (1, .int a1)]) : W p l e rm12_count s m args below meth c H locs 0 0 (MQ below (va_Qi (fun (r' : Int32) (M2 : Mem) => r' = r ∧ M2 = M') (fun M2 t => va_P z.1 vwCl (pw (yd z b) 32 b M2) t.heap) (pA 32 b)) args s 0 0 (pA 32 b)) (F0 m 0 ls []) := by
  have hx := C.1.1
  have hb := C.1.2.1
  unfold b12_count_0 at hf
  refine lv_iconst (v := (0 : Int32)) hx hb dX12_count_0 (by decide) ?_
  refine lv_istore_n (lv' := [(2, .int (0 : Int32)), (0, .ref (b + 0)), (1, .int a1)]) hx hb dX12_count_1 rfl hl (by decide) rfl (fun ls hl => ?_)
  refine lv_iload_n hx hb dX12_count_2 rfl (lv_at hl 2 rfl) ?_
  by_cases c1 : a1 = (0 : Int32)
  · replace hf := ite_t c1 hf
    refine lv_tableIn (off := 49) (tgt := 52) hx hb dX12_count_3 (by rw [c1]; decide) (by rw [c1]; decide) (by rw [c1]; rfl) (by decide) ?_
    refine lv_aload_n hx hb dX12_count_52 rfl (lv_at hl 1 rfl) ?_
    refine pg C hP (k := 0) (j := 0) (Nat.le_of_ble_eq_true rfl) (yd_0 _ _) rfl iw_12 (Nat.le_of_ble_eq_true rfl) g_1135 rfl rfl dX12_count_53 ?_
    refine lv_sipush (v := (160 : Int32)) hx hb dX12_count_56 (by decide) ?_
    have h2 := chk_1 hf
    replace hf := chk_2 hf
    refine paI C hP (k := 1) (Nat.le_of_ble_eq_true rfl) (yd_1 _ _) h2 dX12_count_59 ?_
    exact prI C hr hk hP hS hf dX12_count_60
  · replace hf := ite_f c1 hf
    by_cases c3 : a1 = (1 : Int32)
    · replace hf := ite_t c3 hf
      refine lv_tableIn (off := 58) (tgt := 61) hx hb dX12_count_3 (by rw [c3]; decide) (by rw [c3]; decide) (by rw [c3]; rfl) (by decide) ?_
      refine lv_aload_n hx hb dX12_count_61 rfl (lv_at hl 1 rfl) ?_
      refine pg C hP (k := 0) (j := 6) (Nat.le_of_ble_eq_true rfl) (yd_0 _ _) rfl iw_12 (Nat.le_of_ble_eq_true rfl) g_1141 rfl rfl dX12_count_62 ?_
      exact prI C hr hk hP hS hf dX12_count_65
    · replace hf := ite_f c3 hf
      by_cases c4 : a1 = (2 : Int32)
      · replace hf := ite_t c4 hf
        refine lv_tableIn (off := 63) (tgt := 66) hx hb dX12_count_3 (by rw [c4]; decide) (by rw [c4]; decide) (by rw [c4]; rfl) (by decide) ?_
        refine lv_iconst (v := (1 : Int32)) hx hb dX12_count_66 (by decide) ?_
        refine lv_istore_n (lv' := [(3, .int (1 : Int32)), (2, .int (0 : Int32)), (0, .ref (b + 0)), (1, .int a1)]) hx hb dX12_count_67 rfl hl (by decide) rfl (fun ls hl => ?_)
        exact w12_count_68 (n := n)  C hr hk q68 q128 hf hP hS (lv_sub hl [2, 1, 0] rfl)
      · replace hf := ite_f c4 hf
        by_cases c5 : a1 = (3 : Int32)
        · replace hf := ite_t c5 hf
          refine lv_tableIn (off := 99) (tgt := 102) hx hb dX12_count_3 (by rw [c5]; decide) (by rw [c5]; decide) (by rw [c5]; rfl) (by decide) ?_
          refine lv_aload_n hx hb dX12_count_102 rfl (lv_at hl 1 rfl) ?_
          refine pg C hP (k := 0) (j := 5) (Nat.le_of_ble_eq_true rfl) (yd_0 _ _) rfl iw_12 (Nat.le_of_ble_eq_true rfl) g_1140 rfl rfl dX12_count_103 ?_
          exact prI C hr hk hP hS hf dX12_count_106
        · replace hf := ite_f c5 hf
          by_cases c6 : a1 = (4 : Int32)
          · replace hf := ite_t c6 hf
            refine lv_tableIn (off := 104) (tgt := 107) hx hb dX12_count_3 (by rw [c6]; decide) (by rw [c6]; decide) (by rw [c6]; rfl) (by decide) ?_
            refine lv_aload_n hx hb dX12_count_107 rfl (lv_at hl 1 rfl) ?_
            refine pg C hP (k := 0) (j := 20) (Nat.le_of_ble_eq_true rfl) (yd_0 _ _) rfl iw_12 (Nat.le_of_ble_eq_true rfl) g_1155 rfl rfl dX12_count_108 ?_
            exact prI C hr hk hP hS hf dX12_count_111
          · replace hf := ite_f c6 hf
            by_cases c7 : a1 = (5 : Int32)
            · replace hf := ite_t c7 hf
              refine lv_tableIn (off := 109) (tgt := 112) hx hb dX12_count_3 (by rw [c7]; decide) (by rw [c7]; decide) (by rw [c7]; rfl) (by decide) ?_
              refine lv_aload_n hx hb dX12_count_112 rfl (lv_at hl 1 rfl) ?_
              refine pg C hP (k := 0) (j := 11) (Nat.le_of_ble_eq_true rfl) (yd_0 _ _) rfl iw_12 (Nat.le_of_ble_eq_true rfl) g_1146 rfl rfl dX12_count_113 ?_
              exact prI C hr hk hP hS hf dX12_count_116
            · replace hf := ite_f c7 hf
              by_cases c8 : a1 = (6 : Int32)
              · replace hf := ite_t c8 hf
                refine lv_tableIn (off := 114) (tgt := 117) hx hb dX12_count_3 (by rw [c8]; decide) (by rw [c8]; decide) (by rw [c8]; rfl) (by decide) ?_
                refine lv_aload_n hx hb dX12_count_117 rfl (lv_at hl 1 rfl) ?_
                refine pg C hP (k := 0) (j := 0) (Nat.le_of_ble_eq_true rfl) (yd_0 _ _) rfl iw_12 (Nat.le_of_ble_eq_true rfl) g_1135 rfl rfl dX12_count_118 ?_
                refine lv_sipush (v := (161 : Int32)) hx hb dX12_count_121 (by decide) ?_
                have h9 := chk_1 hf
                replace hf := chk_2 hf
                refine paI C hP (k := 1) (Nat.le_of_ble_eq_true rfl) (yd_1 _ _) h9 dX12_count_124 ?_
                exact prI C hr hk hP hS hf dX12_count_125
              · replace hf := ite_f c8 hf
                by_cases c10 : a1 = (7 : Int32)
                · replace hf := ite_t c10 hf
                  refine lv_tableIn (off := 123) (tgt := 126) hx hb dX12_count_3 (by rw [c10]; decide) (by rw [c10]; decide) (by rw [c10]; rfl) (by decide) ?_
                  refine lv_iconst (v := (0 : Int32)) hx hb dX12_count_126 (by decide) ?_
                  refine lv_istore_n (lv' := [(3, .int (0 : Int32)), (2, .int (0 : Int32)), (0, .ref (b + 0)), (1, .int a1)]) hx hb dX12_count_127 rfl hl (by decide) rfl (fun ls hl => ?_)
                  exact w12_count_128 (n := n)  C hr hk q68 q128 hf hP hS (lv_sub hl [2, 1, 0] rfl)
                · replace hf := ite_f c10 hf
                  by_cases c11 : a1 = (8 : Int32)
                  · replace hf := ite_t c11 hf
                    refine lv_tableIn (off := 150) (tgt := 153) hx hb dX12_count_3 (by rw [c11]; decide) (by rw [c11]; decide) (by rw [c11]; rfl) (by decide) ?_
                    refine lv_aload_n hx hb dX12_count_153 rfl (lv_at hl 1 rfl) ?_
                    obtain ⟨r12, M13, h14, hf⟩ := bnd_s hf
                    refine pcVi (As := []) C hP hS (k := 0) (Nat.le_of_ble_eq_true rfl) (yd_0 _ _) rfl (c12_allWeights  h14) y12_allWeights_w g_1451 rfl rfl rfl ⟨Nat.le_of_ble_eq_true rfl, Nat.le_of_ble_eq_true rfl⟩ hl.1 rfl (Nat.le_of_ble_eq_true rfl) dX12_count_154 ⟨Nat.le_of_ble_eq_true rfl, Nat.le_of_ble_eq_true rfl⟩ (fun H locs hP hS => ?_)
                    exact prI C hr hk hP hS hf dX12_count_157
                  · replace hf := ite_f c11 hf
                    refine lv_tableOut (tgt := 158) hx hb dX12_count_3 (by have z0 : ¬ a1.toInt = 0 := tsn c1; have z1 : ¬ a1.toInt = 1 := tsn c3; have z2 : ¬ a1.toInt = 2 := tsn c4; have z3 : ¬ a1.toInt = 3 := tsn c5; have z4 : ¬ a1.toInt = 4 := tsn c6; have z5 : ¬ a1.toInt = 5 := tsn c7; have z6 : ¬ a1.toInt = 6 := tsn c8; have z7 : ¬ a1.toInt = 7 := tsn c10; have z8 : ¬ a1.toInt = 8 := tsn c11; omega) (by decide) ?_
                    refine lv_iload_n hx hb dX12_count_158 rfl (lv_at hl 2 rfl) ?_
                    refine lv_bipush (v := (11 : Int32)) hx hb dX12_count_159 (by decide) ?_
                    refine lv_bipush (v := (19 : Int32)) hx hb dX12_count_161 (by decide) ?_
                    obtain ⟨r15, M16, h17, hf⟩ := bnd_s hf
                    refine pcSi (As := [.int a1, .int (11 : Int32), .int (19 : Int32)]) C hP hS (c12_in  h17) y12_in_w g_1306 rfl rfl rfl ⟨Nat.le_of_ble_eq_true rfl, Nat.le_of_ble_eq_true rfl⟩ hl.1 rfl (Nat.le_of_ble_eq_true rfl) dX12_count_163 ⟨Nat.le_of_ble_eq_true rfl, Nat.le_of_ble_eq_true rfl⟩ (fun H locs hP hS => ?_)
                    refine lv_if_eq (tgt := 179) hx hb dX12_count_166 (by decide) (fun c18 => ?_) (fun c18 => ?_)
                    · replace hf := ite_t c18 hf
                      refine lv_iload_n hx hb dX12_count_179 rfl (lv_at hl 2 rfl) ?_
                      refine lv_bipush (v := (100 : Int32)) hx hb dX12_count_180 (by decide) ?_
                      refine lv_bipush (v := (123 : Int32)) hx hb dX12_count_182 (by decide) ?_
                      obtain ⟨r19, M20, h21, hf⟩ := bnd_s hf
                      refine pcSi (As := [.int a1, .int (100 : Int32), .int (123 : Int32)]) C hP hS (c12_in  h21) y12_in_w g_1306 rfl rfl rfl ⟨Nat.le_of_ble_eq_true rfl, Nat.le_of_ble_eq_true rfl⟩ hl.1 rfl (Nat.le_of_ble_eq_true rfl) dX12_count_184 ⟨Nat.le_of_ble_eq_true rfl, Nat.le_of_ble_eq_true rfl⟩ (fun H locs hP hS => ?_)
                      refine lv_if_eq (tgt := 201) hx hb dX12_count_187 (by decide) (fun c22 => ?_) (fun c22 => ?_)
                      · replace hf := ite_t c22 hf
                        refine lv_iconst (v := (-1 : Int32)) hx hb dX12_count_201 (by decide) ?_
                        exact prI C hr hk hP hS hf dX12_count_202
                      · replace hf := ite_f c22 hf
                        refine lv_aload_n hx hb dX12_count_190 rfl (lv_at hl 1 rfl) ?_
                        refine lv_iload_n hx hb dX12_count_191 rfl (lv_at hl 2 rfl) ?_
                        refine lv_bipush (v := (100 : Int32)) hx hb dX12_count_192 (by decide) ?_
                        refine lv_isub hx hb dX12_count_194 ?_
                        obtain ⟨r23, M24, h25, hf⟩ := bnd_s hf
                        refine pcVi (As := [.int (a1 - (100 : Int32))]) C hP hS (k := 0) (Nat.le_of_ble_eq_true rfl) (yd_0 _ _) rfl (c12_weightOf  h25) y12_weightOf_w g_1455 rfl rfl rfl ⟨Nat.le_of_ble_eq_true rfl, Nat.le_of_ble_eq_true rfl⟩ hl.1 rfl (Nat.le_of_ble_eq_true rfl) dX12_count_195 ⟨Nat.le_of_ble_eq_true rfl, Nat.le_of_ble_eq_true rfl⟩ (fun H locs hP hS => ?_)
                        refine lv_goto (tgt := 202) hx hb dX12_count_198 (by decide) ?_
                        exact prI C hr hk hP hS hf dX12_count_202
                    · replace hf := ite_f c18 hf
                      refine lv_aload_n hx hb dX12_count_169 rfl (lv_at hl 1 rfl) ?_
                      refine pg C hP (k := 0) (j := 4) (Nat.le_of_ble_eq_true rfl) (yd_0 _ _) rfl iw_12 (Nat.le_of_ble_eq_true rfl) g_1139 rfl rfl dX12_count_170 ?_
                      refine lv_iload_n hx hb dX12_count_173 rfl (lv_at hl 2 rfl) ?_
                      refine lv_bipush (v := (10 : Int32)) hx hb dX12_count_174 (by decide) ?_
                      refine lv_isub hx hb dX12_count_176 ?_
                      have h26 := chk_1 hf
                      replace hf := chk_2 hf
                      refine paI C hP (k := 5) (Nat.le_of_ble_eq_true rfl) (yd_5 _ _) h26 dX12_count_177 ?_
                      exact prI C hr hk hP hS hf dX12_count_178
set_option maxHeartbeats 4000000 in
set_option maxRecDepth 100000 in
theorem l12_count {p : Program} {l : Launch} {e : Env} {s : State} {m : MethodId} {args : Array Value} {below : List Frame} {meth : Method} {c : Code} {z : Zt} {b : Nat}  (C : Cx p s m args c cX12_count 4 RX12 z 32 b) (hr : meth.sig.returnType = (some .int)) (hk : meth.locks = false) {r : Int32} {M' : Mem} (n : Nat) : (∀ (i2 : Int32) (i3 : Int32) (M : Mem) (H : Heap) (locs : List Loc) (ls : Array Slot), (r12_count  n) 68 [i2, i3] [] M = some (r, M') → va_P z.1 vwCl (pw (yd z b) 32 b M) H → va_S (pA 32 b) s.heap H locs → lv_has ls 4 [(0, .ref (b + 0)), (2, .int i2), (3, .int i3)] → W p l e rm12_count s m args below meth c H locs 0 0 (MQ below (va_Qi (fun (r' : Int32) (M2 : Mem) => r' = r ∧ M2 = M') (fun M2 t => va_P z.1 vwCl (pw (yd z b) 32 b M2) t.heap) (pA 32 b)) args s 0 0 (pA 32 b)) (F0 m 68 ls [])) ∧ (∀ (i2 : Int32) (i3 : Int32) (M : Mem) (H : Heap) (locs : List Loc) (ls : Array Slot), (r12_count  n) 128 [i2, i3] [] M = some (r, M') → va_P z.1 vwCl (pw (yd z b) 32 b M) H → va_S (pA 32 b) s.heap H locs → lv_has ls 4 [(0, .ref (b + 0)), (2, .int i2), (3, .int i3)] → W p l e rm12_count s m args below meth c H locs 0 0 (MQ below (va_Qi (fun (r' : Int32) (M2 : Mem) => r' = r ∧ M2 = M') (fun M2 t => va_P z.1 vwCl (pw (yd z b) 32 b M2) t.heap) (pA 32 b)) args s 0 0 (pA 32 b)) (F0 m 128 ls [])) := by
  induction n with
  | zero => exact ⟨fun _ _ _ _ _ _ hf => (by cases hf), fun _ _ _ _ _ _ hf => (by cases hf)⟩
  | succ n ih => exact ⟨fun _ _ _ _ _ _ hf hP hS hl => w12_count_68 (n := n)  C hr hk ih.1 ih.2 ((e12_count_68  n _ _ _).symm.trans hf) hP hS hl, fun _ _ _ _ _ _ hf hP hS hl => w12_count_128 (n := n)  C hr hk ih.1 ih.2 ((e12_count_128  n _ _ _).symm.trans hf) hP hS hl⟩
theorem c12_count {l : Launch} {z : Zt} {b n : Nat}  {a1 : Int32} {M M' : Mem} {r : Int32} (hf : f12_count n  a1 M = some (r, M')) : CI l z (yd z b) 32 b yX12_count cX12_count 4 (some .int) rm12_count [.ref (b + 0), .int a1] M M' r :=
  CI.ofW (lv := [(0, .ref (b + 0)), (1, .int a1)]) (by decide) (Nat.le_of_ble_eq_true rfl) rfl (fun p e s m args below meth c ls C hr hk hP hS hl => w12_count_0 (n := n)  C hr hk (l12_count  C hr hk n).1 (l12_count  C hr hk n).2 hf hP hS hl)
