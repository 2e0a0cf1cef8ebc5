-- BronzeKingModel.takes(I)Z
theorem dX12_takes_0 : decode cX12_takes 0 = .ok (.aload_n 0, 1) := by decide +kernel
theorem dX12_takes_1 : decode cX12_takes 1 = .ok (.invokevirtual 149, 3) := by decide +kernel
theorem dX12_takes_4 : decode cX12_takes 4 = .ok (.iload_n 1, 1) := by decide +kernel
theorem dX12_takes_5 : decode cX12_takes 5 = .ok (.if_icmp .eq 13, 3) := by decide +kernel
theorem dX12_takes_8 : decode cX12_takes 8 = .ok (.aload_n 0, 1) := by decide +kernel
theorem dX12_takes_9 : decode cX12_takes 9 = .ok (.iconst 1, 1) := by decide +kernel
theorem dX12_takes_10 : decode cX12_takes 10 = .ok (.aload_n 0, 1) := by decide +kernel
theorem dX12_takes_11 : decode cX12_takes 11 = .ok (.getfield 143, 3) := by decide +kernel
theorem dX12_takes_14 : decode cX12_takes 14 = .ok (.invokevirtual 156, 3) := by decide +kernel
theorem dX12_takes_17 : decode cX12_takes 17 = .ok (.ireturn, 1) := by decide +kernel
theorem dX12_takes_18 : decode cX12_takes 18 = .ok (.aload_n 0, 1) := by decide +kernel
theorem dX12_takes_19 : decode cX12_takes 19 = .ok (.aload_n 0, 1) := by decide +kernel
theorem dX12_takes_20 : decode cX12_takes 20 = .ok (.getfield 143, 3) := by decide +kernel
theorem dX12_takes_23 : decode cX12_takes 23 = .ok (.iconst 1, 1) := by decide +kernel
theorem dX12_takes_24 : decode cX12_takes 24 = .ok (.iadd, 1) := by decide +kernel
theorem dX12_takes_25 : decode cX12_takes 25 = .ok (.putfield 143, 3) := by decide +kernel
theorem dX12_takes_28 : decode cX12_takes 28 = .ok (.iconst 1, 1) := by decide +kernel
theorem dX12_takes_29 : decode cX12_takes 29 = .ok (.ireturn, 1) := by decide +kernel
def b12_takes_0 (rc : Nat → List Int32 → List Int64 → Mem → Option (Int32 × Mem)) (n : Nat) (a1 : Int32) (M : Mem) : Option (Int32 × Mem) :=
  bnd (f12_here n M) fun r1 M2 =>
  (if r1 = a1 then (
   lt (wI M2 0 12 ((M2.1 0 12) + (1 : Int32))) fun M5 =>
   some ((1 : Int32), M5))
  else (
   bnd (f12_wrongAt n (1 : Int32) (M2.1 0 12) M2) fun r6 M7 =>
   chk (isb r6) <|
   some (r6, M7)))
def f12_takes (n : Nat) (a1 : Int32) (M : Mem) : Option (Int32 × Mem) := b12_takes_0 (fun _ _ _ _ => none) n a1 M
abbrev rm12_takes : Room := { frames := 1, cells := 0, slots := 0, locals := 22 }
theorem y12_takes_w : yV RX12 yX12_takes cX12_takes 2 (some .boolean) 1 := ⟨g_1406, gp 55 rfl rfl, g_14, g_1407, rfl, by decide, by decide, by decide +kernel⟩
set_option maxHeartbeats 4000000 in
set_option maxRecDepth 100000 in
theorem w12_takes_0 {p : Program} {l : Launch} {e : Env} {s : State} {m : MethodId} {args : Array Value} {below : List Frame} {meth : Method} {c : Code} {z : Zt} {b : Nat}  (C : Cx p s m args c cX12_takes 2 RX12 z 32 b) (hr : meth.sig.returnType = (some .boolean)) (hk : meth.locks = false) {r : Int32} {M' : Mem} {rc : Nat → List Int32 → List Int64 → Mem → Option (Int32 × Mem)} {n : Nat}  {a1 : Int32} {M : Mem} {H : Heap} {locs : List Loc} {ls : Array Slot} (hf : b12_takes_0  rc n a1 M = some (r, M')) (hP : va_P z.1 vwCl (pw (yd z b) 32 b M) H) (hS : va_S (pA 32 b) s.heap H locs) (hl : lv_has ls 2 [(0, .ref (b + 0)), (1, .int a1)]) : W p l e rm12_takes s m args below meth c H locs 0 0 (MQ below (va_Qi (fun (r' : Int32) (M2 : Mem) => r' = r ∧ M2 = M') (fun M2 t => va_P z.1 vwCl (pw (yd z b) 32 b M2) t.heap) (pA 32 b)) args s 0 0 (pA 32 b)) (F0 m 0 ls []) := by
  have hx := C.1.1
  have hb := C.1.2.1
  unfold b12_takes_0 at hf
  refine lv_aload_n hx hb dX12_takes_0 rfl (lv_at hl 0 rfl) ?_
  obtain ⟨r1, M2, h3, hf⟩ := bnd_s hf
  refine pcVi (As := []) C hP hS (k := 0) (Nat.le_of_ble_eq_true rfl) (yd_0 _ _) rfl (c12_here  h3) y12_here_w g_1333 rfl rfl rfl ⟨Nat.le_of_ble_eq_true rfl, Nat.le_of_ble_eq_true rfl⟩ hl.1 rfl (Nat.le_of_ble_eq_true rfl) dX12_takes_1 ⟨Nat.le_of_ble_eq_true rfl, Nat.le_of_ble_eq_true rfl⟩ (fun H locs hP hS => ?_)
  refine lv_iload_n hx hb dX12_takes_4 rfl (lv_at hl 1 rfl) ?_
  refine lv_icmp_eq (tgt := 18) hx hb dX12_takes_5 (by decide) (fun c4 => ?_) (fun c4 => ?_)
  · replace hf := ite_t c4 hf
    refine lv_aload_n hx hb dX12_takes_18 rfl (lv_at hl 0 rfl) ?_
    refine lv_aload_n hx hb dX12_takes_19 rfl (lv_at hl 0 rfl) ?_
    refine pg C hP (k := 0) (j := 12) (Nat.le_of_ble_eq_true rfl) (yd_0 _ _) rfl iw_12 (Nat.le_of_ble_eq_true rfl) g_1147 rfl rfl dX12_takes_20 ?_
    refine lv_iconst (v := (1 : Int32)) hx hb dX12_takes_23 (by decide) ?_
    refine lv_iadd hx hb dX12_takes_24 ?_
    refine ppI C hP hS (k := 0) (j := 12) (ty := .int) (Nat.le_of_ble_eq_true rfl) (yd_0 _ _) rfl iw_12 tyX12 tyX12_ok nmX12 (Nat.le_of_ble_eq_true rfl) g_1147 rfl rfl (by decide +kernel) rfl rfl (Nat.le_of_ble_eq_true rfl) (yu_0_12 _ _ _) dX12_takes_25 (fun M5 H locs eM5 hP hS => ?_)
    replace hf := lt_c eM5 hf
    refine lv_iconst (v := (1 : Int32)) hx hb dX12_takes_28 (by decide) ?_
    exact prZ C hr hk hP hS hf rfl dX12_takes_29
  · replace hf := ite_f c4 hf
    refine lv_aload_n hx hb dX12_takes_8 rfl (lv_at hl 0 rfl) ?_
    refine lv_iconst (v := (1 : Int32)) hx hb dX12_takes_9 (by decide) ?_
    refine lv_aload_n hx hb dX12_takes_10 rfl (lv_at hl 0 rfl) ?_
    refine pg C hP (k := 0) (j := 12) (Nat.le_of_ble_eq_true rfl) (yd_0 _ _) rfl iw_12 (Nat.le_of_ble_eq_true rfl) g_1147 rfl rfl dX12_takes_11 ?_
    obtain ⟨r6, M7, h8, hf⟩ := bnd_s hf
    refine pcVi (As := [.int (1 : Int32), .int (M2.1 0 12)]) C hP hS (k := 0) (Nat.le_of_ble_eq_true rfl) (yd_0 _ _) rfl (c12_wrongAt  h8) y12_wrongAt_w g_1337 rfl rfl rfl ⟨Nat.le_of_ble_eq_true rfl, Nat.le_of_ble_eq_true rfl⟩ hl.1 rfl (Nat.le_of_ble_eq_true rfl) dX12_takes_14 ⟨Nat.le_of_ble_eq_true rfl, Nat.le_of_ble_eq_true rfl⟩ (fun H locs hP hS => ?_)
    have h9 := chk_1 hf
    replace hf := chk_2 hf
    exact prZ C hr hk hP hS hf (isb_n h9) dX12_takes_17
theorem c12_takes {l : Launch} {z : Zt} {b n : Nat}  {a1 : Int32} {M M' : Mem} {r : Int32} (hf : f12_takes n  a1 M = some (r, M')) : CI l z (yd z b) 32 b yX12_takes cX12_takes 2 (some .boolean) rm12_takes [.ref (b + 0), .int a1] M M' r :=
  CI.ofW (lv := [(0, .ref (b + 0)), (1, .int a1)]) (by decide) (Nat.le_of_ble_eq_true rfl) rfl (fun p e s m args below meth c ls C hr hk hP hS hl => w12_takes_0 (n := n)  C hr hk  hf hP hS hl)

-- BronzeKingModel.readsNumber()Z
theorem dX12_readsNumber_0 : decode cX12_readsNumber 0 = .ok (.aload_n 0, 1) := by decide +kernel
theorem dX12_readsNumber_1 : decode cX12_readsNumber 1 = .ok (.getfield 143, 3) := by decide +kernel
theorem dX12_readsNumber_4 : decode cX12_readsNumber 4 = .ok (.istore_n 1, 1) := by decide +kernel
theorem dX12_readsNumber_5 : decode cX12_readsNumber 5 = .ok (.aload_n 0, 1) := by decide +kernel
theorem dX12_readsNumber_6 : decode cX12_readsNumber 6 = .ok (.iconst 0, 1) := by decide +kernel
theorem dX12_readsNumber_7 : decode cX12_readsNumber 7 = .ok (.putfield 159, 3) := by decide +kernel
theorem dX12_readsNumber_10 : decode cX12_readsNumber 10 = .ok (.aload_n 0, 1) := by decide +kernel
theorem dX12_readsNumber_11 : decode cX12_readsNumber 11 = .ok (.invokevirtual 162, 3) := by decide +kernel
theorem dX12_readsNumber_14 : decode cX12_readsNumber 14 = .ok (.ifCond .eq 55, 3) := by decide +kernel
theorem dX12_readsNumber_17 : decode cX12_readsNumber 17 = .ok (.aload_n 0, 1) := by decide +kernel
theorem dX12_readsNumber_18 : decode cX12_readsNumber 18 = .ok (.getfield 143, 3) := by decide +kernel
theorem dX12_readsNumber_21 : decode cX12_readsNumber 21 = .ok (.iload_n 1, 1) := by decide +kernel
theorem dX12_readsNumber_22 : decode cX12_readsNumber 22 = .ok (.iconst 5, 1) := by decide +kernel
theorem dX12_readsNumber_23 : decode cX12_readsNumber 23 = .ok (.iadd, 1) := by decide +kernel
theorem dX12_readsNumber_24 : decode cX12_readsNumber 24 = .ok (.if_icmp .ne 13, 3) := by decide +kernel
theorem dX12_readsNumber_27 : decode cX12_readsNumber 27 = .ok (.aload_n 0, 1) := by decide +kernel
theorem dX12_readsNumber_28 : decode cX12_readsNumber 28 = .ok (.iconst 2, 1) := by decide +kernel
theorem dX12_readsNumber_29 : decode cX12_readsNumber 29 = .ok (.aload_n 0, 1) := by decide +kernel
theorem dX12_readsNumber_30 : decode cX12_readsNumber 30 = .ok (.getfield 143, 3) := by decide +kernel
theorem dX12_readsNumber_33 : decode cX12_readsNumber 33 = .ok (.invokevirtual 156, 3) := by decide +kernel
theorem dX12_readsNumber_36 : decode cX12_readsNumber 36 = .ok (.ireturn, 1) := by decide +kernel
theorem dX12_readsNumber_37 : decode cX12_readsNumber 37 = .ok (.aload_n 0, 1) := by decide +kernel
theorem dX12_readsNumber_38 : decode cX12_readsNumber 38 = .ok (.bipush 10, 2) := by decide +kernel
theorem dX12_readsNumber_40 : decode cX12_readsNumber 40 = .ok (.aload_n 0, 1) := by decide +kernel
theorem dX12_readsNumber_41 : decode cX12_readsNumber 41 = .ok (.getfield 159, 3) := by decide +kernel
theorem dX12_readsNumber_44 : decode cX12_readsNumber 44 = .ok (.imul, 1) := by decide +kernel
theorem dX12_readsNumber_45 : decode cX12_readsNumber 45 = .ok (.aload_n 0, 1) := by decide +kernel
theorem dX12_readsNumber_46 : decode cX12_readsNumber 46 = .ok (.invokevirtual 149, 3) := by decide +kernel
theorem dX12_readsNumber_49 : decode cX12_readsNumber 49 = .ok (.iadd, 1) := by decide +kernel
theorem dX12_readsNumber_50 : decode cX12_readsNumber 50 = .ok (.bipush 48, 2) := by decide +kernel
theorem dX12_readsNumber_52 : decode cX12_readsNumber 52 = .ok (.isub, 1) := by decide +kernel
theorem dX12_readsNumber_53 : decode cX12_readsNumber 53 = .ok (.putfield 159, 3) := by decide +kernel
theorem dX12_readsNumber_56 : decode cX12_readsNumber 56 = .ok (.aload_n 0, 1) := by decide +kernel
theorem dX12_readsNumber_57 : decode cX12_readsNumber 57 = .ok (.aload_n 0, 1) := by decide +kernel
theorem dX12_readsNumber_58 : decode cX12_readsNumber 58 = .ok (.getfield 143, 3) := by decide +kernel
theorem dX12_readsNumber_61 : decode cX12_readsNumber 61 = .ok (.iconst 1, 1) := by decide +kernel
theorem dX12_readsNumber_62 : decode cX12_readsNumber 62 = .ok (.iadd, 1) := by decide +kernel
theorem dX12_readsNumber_63 : decode cX12_readsNumber 63 = .ok (.putfield 143, 3) := by decide +kernel
theorem dX12_readsNumber_66 : decode cX12_readsNumber 66 = .ok (.goto (-56), 3) := by decide +kernel
theorem dX12_readsNumber_69 : decode cX12_readsNumber 69 = .ok (.iconst 1, 1) := by decide +kernel
theorem dX12_readsNumber_70 : decode cX12_readsNumber 70 = .ok (.ireturn, 1) := by decide +kernel
def b12_readsNumber_10 (rc : Nat → List Int32 → List Int64 → Mem → Option (Int32 × Mem)) (n : Nat) (i1 : Int32) (M : Mem) : Option (Int32 × Mem) :=
  bnd (f12_isDigit n M) fun r3 M4 =>
  (if r3 = 0 then (
   some ((1 : Int32), M4))
  else (
   (if (M4.1 0 12) = (i1 + (5 : Int32)) then (
    bnd (f12_wrongAt n (2 : Int32) (M4.1 0 12) M4) fun r13 M14 =>
    chk (isb r13) <|
    some (r13, M14))
   else (
    bnd (f12_here n M4) fun r8 M9 =>
    lt (wI M9 0 15 ((((10 : Int32) * (M4.1 0 15)) + r8) - (48 : Int32))) fun M11 =>
    lt (wI M11 0 12 ((M11.1 0 12) + (1 : Int32))) fun M12 =>
    rc 10 [i1] [] M12))))
def b12_readsNumber_0 (rc : Nat → List Int32 → List Int64 → Mem → Option (Int32 × Mem)) (n : Nat) (M : Mem) : Option (Int32 × Mem) :=
  lt (M.1 0 12) fun v1 =>
  lt (wI M 0 15 (0 : Int32)) fun M2 =>
  b12_readsNumber_10  rc n v1 M2
def r12_readsNumber : Nat → Nat → List Int32 → List Int64 → Mem → Option (Int32 × Mem)
  | 0 => fun _ _ _ _ => none
  | n + 1 => fun pc li lj M =>
    if pc = 10 then (match li, lj with | [i1], [] => b12_readsNumber_10  (r12_readsNumber  n) n i1 M | _, _ => none) else
    none
theorem e12_readsNumber_10  (n : Nat) (i1 : Int32) (M : Mem) : r12_readsNumber  (n + 1) 10 [i1] [] M = b12_readsNumber_10  (r12_readsNumber  n) n i1 M := by
  rw [r12_readsNumber]
  simp
def f12_readsNumber (n : Nat)  (M : Mem) : Option (Int32 × Mem) := b12_readsNumber_0 (r12_readsNumber n) n M
abbrev rm12_readsNumber : Room := { frames := 2, cells := 0, slots := 0, locals := 40 }
theorem y12_readsNumber_w : yV RX12 yX12_readsNumber cX12_readsNumber 2 (some .boolean) 0 := ⟨g_1360, gp 45 rfl rfl, g_14, g_1361, rfl, by decide, by decide, by decide +kernel⟩
set_option maxHeartbeats 4000000 in
set_option maxRecDepth 100000 in
theorem w12_readsNumber_10 {p : Program} {l : Launch} {e : Env} {s : State} {m : MethodId} {args : Array Value} {below : List Frame} {meth : Method} {c : Code} {z : Zt} {b : Nat}  (C : Cx p s m args c cX12_readsNumber 2 RX12 z 32 b) (hr : meth.sig.returnType = (some .boolean)) (hk : meth.locks = false) {r : Int32} {M' : Mem} {rc : Nat → List Int32 → List Int64 → Mem → Option (Int32 × Mem)} {n : Nat} (q10 : ∀ (i1 : Int32) (M : Mem) (H : Heap) (locs : List Loc) (ls : Array Slot), rc 10 [i1] [] M = some (r, M') → va_P z.1 vwCl (pw (yd z b) 32 b M) H → va_S (pA 32 b) s.heap H locs → lv_has ls 2 [(0, .ref (b + 0)), (1, .int i1)] → W p l e rm12_readsNumber s m args below meth c H locs 0 0 (MQ below (va_Qi (fun (r' : Int32) (M2 : Mem) => r' = r ∧ M2 = M') (fun M2 t => va_P z.1 vwCl (pw (yd z b) 32 b M2) t.heap) (pA 32 b)) args s 0 0 (pA 32 b)) (F0 m 10 ls [])) {i1 : Int32} {M : Mem} {H : Heap} {locs : List Loc} {ls : Array Slot} (hf : b12_readsNumber_10  rc n i1 M = some (r, M')) (hP : va_P z.1 vwCl (pw (yd z b) 32 b M) H) (hS : va_S (pA 32 b) s.heap H locs) (hl : lv_has ls 2 [(0, .ref (b + 0)), (1, .int i1)]) : W p l e rm12_readsNumber s m args below meth c H locs 0 0 (MQ below (va_Qi (fun (r' : Int32) (M2 : Mem) => r' = r ∧ M2 = M') (fun M2 t => va_P z.1 vwCl (pw (yd z b) 32 b M2) t.heap) (pA 32 b)) args s 0 0 (pA 32 b)) (F0 m 10 ls []) := by
  have hx := C.1.1
  have hb := C.1.2.1
  unfold b12_readsNumber_10 at hf
  refine lv_aload_n hx hb dX12_readsNumber_10 rfl (lv_at hl 0 rfl) ?_
  obtain ⟨r3, M4, h5, hf⟩ := bnd_s hf
  refine pcVi (As := []) C hP hS (k := 0) (Nat.le_of_ble_eq_true rfl) (yd_0 _ _) rfl (c12_isDigit  h5) y12_isDigit_w g_1354 rfl rfl rfl ⟨Nat.le_of_ble_eq_true rfl, Nat.le_of_ble_eq_true rfl⟩ hl.1 rfl (Nat.le_of_ble_eq_true rfl) dX12_readsNumber_11 ⟨Nat.le_of_ble_eq_true rfl, Nat.le_of_ble_eq_true rfl⟩ (fun H locs hP hS => ?_)
  refine lv_if_eq (tgt := 69) hx hb dX12_readsNumber_14 (by decide) (fun c6 => ?_) (fun c6 => ?_)
  · replace hf := ite_t c6 hf
    refine lv_iconst (v := (1 : Int32)) hx hb dX12_readsNumber_69 (by decide) ?_
    exact prZ C hr hk hP hS hf rfl dX12_readsNumber_70
  · replace hf := ite_f c6 hf
    refine lv_aload_n hx hb dX12_readsNumber_17 rfl (lv_at hl 0 rfl) ?_
    refine pg C hP (k := 0) (j := 12) (Nat.le_of_ble_eq_true rfl) (yd_0 _ _) rfl iw_12 (Nat.le_of_ble_eq_true rfl) g_1147 rfl rfl dX12_readsNumber_18 ?_
    refine lv_iload_n hx hb dX12_readsNumber_21 rfl (lv_at hl 1 rfl) ?_
    refine lv_iconst (v := (5 : Int32)) hx hb dX12_readsNumber_22 (by decide) ?_
    refine lv_iadd hx hb dX12_readsNumber_23 ?_
    refine lv_icmp_ne (tgt := 37) hx hb dX12_readsNumber_24 (by decide) (fun c7 => ?_) (fun c7 => ?_)
    · replace hf := ite_f c7 hf
      refine lv_aload_n hx hb dX12_readsNumber_37 rfl (lv_at hl 0 rfl) ?_
      refine lv_bipush (v := (10 : Int32)) hx hb dX12_readsNumber_38 (by decide) ?_
      refine lv_aload_n hx hb dX12_readsNumber_40 rfl (lv_at hl 0 rfl) ?_
      refine pg C hP (k := 0) (j := 15) (Nat.le_of_ble_eq_true rfl) (yd_0 _ _) rfl iw_12 (Nat.le_of_ble_eq_true rfl) g_1150 rfl rfl dX12_readsNumber_41 ?_
      refine lv_imul hx hb dX12_readsNumber_44 ?_
      refine lv_aload_n hx hb dX12_readsNumber_45 rfl (lv_at hl 0 rfl) ?_
      obtain ⟨r8, M9, h10, hf⟩ := bnd_s hf
      refine pcVi (As := []) C hP hS (k := 0) (Nat.le_of_ble_eq_true rfl) (yd_0 _ _) rfl (c12_here  h10) y12_here_w g_1333 rfl rfl rfl ⟨Nat.le_of_ble_eq_true rfl, Nat.le_of_ble_eq_true rfl⟩ hl.1 rfl (Nat.le_of_ble_eq_true rfl) dX12_readsNumber_46 ⟨Nat.le_of_ble_eq_true rfl, Nat.le_of_ble_eq_true rfl⟩ (fun H locs hP hS => ?_)
      refine lv_iadd hx hb dX12_readsNumber_49 ?_
      refine lv_bipush (v := (48 : Int32)) hx hb dX12_readsNumber_50 (by decide) ?_
      refine lv_isub hx hb dX12_readsNumber_52 ?_
      refine ppI C hP hS (k := 0) (j := 15) (ty := .int) (Nat.le_of_ble_eq_true rfl) (yd_0 _ _) rfl iw_12 tyX12 tyX12_ok nmX12 (Nat.le_of_ble_eq_true rfl) g_1150 rfl rfl (by decide +kernel) rfl rfl (Nat.le_of_ble_eq_true rfl) (yu_0_15 _ _ _) dX12_readsNumber_53 (fun M11 H locs eM11 hP hS => ?_)
      replace hf := lt_c eM11 hf
      refine lv_aload_n hx hb dX12_readsNumber_56 rfl (lv_at hl 0 rfl) ?_
      refine lv_aload_n hx hb dX12_readsNumber_57 rfl (lv_at hl 0 rfl) ?_
      refine pg C hP (k := 0) (j := 12) (Nat.le_of_ble_eq_true rfl) (yd_0 _ _) rfl iw_12 (Nat.le_of_ble_eq_true rfl) g_1147 rfl rfl dX12_readsNumber_58 ?_
      refine lv_iconst (v := (1 : Int32)) hx hb dX12_readsNumber_61 (by decide) ?_
      refine lv_iadd hx hb dX12_readsNumber_62 ?_
      refine ppI C hP hS (k := 0) (j := 12) (ty := .int) (Nat.le_of_ble_eq_true rfl) (yd_0 _ _) rfl iw_12 tyX12 tyX12_ok nmX12 (Nat.le_of_ble_eq_true rfl) g_1147 rfl rfl (by decide +kernel) rfl rfl (Nat.le_of_ble_eq_true rfl) (yu_0_12 _ _ _) dX12_readsNumber_63 (fun M12 H locs eM12 hP hS => ?_)
      replace hf := lt_c eM12 hf
      refine lv_goto (tgt := 10) hx hb dX12_readsNumber_66 (by decide) ?_
      exact q10 i1 M12 _ _ _ hf hP hS (lv_sub hl [0, 1] rfl)
    · replace hf := ite_t c7 hf
      refine lv_aload_n hx hb dX12_readsNumber_27 rfl (lv_at hl 0 rfl) ?_
      refine lv_iconst (v := (2 : Int32)) hx hb dX12_readsNumber_28 (by decide) ?_
      refine lv_aload_n hx hb dX12_readsNumber_29 rfl (lv_at hl 0 rfl) ?_
      refine pg C hP (k := 0) (j := 12) (Nat.le_of_ble_eq_true rfl) (yd_0 _ _) rfl iw_12 (Nat.le_of_ble_eq_true rfl) g_1147 rfl rfl dX12_readsNumber_30 ?_
      obtain ⟨r13, M14, h15, hf⟩ := bnd_s hf
      refine pcVi (As := [.int (2 : Int32), .int (M4.1 0 12)]) C hP hS (k := 0) (Nat.le_of_ble_eq_true rfl) (yd_0 _ _) rfl (c12_wrongAt  h15) y12_wrongAt_w g_1337 rfl rfl rfl ⟨Nat.le_of_ble_eq_true rfl, Nat.le_of_ble_eq_true rfl⟩ hl.1 rfl (Nat.le_of_ble_eq_true rfl) dX12_readsNumber_33 ⟨Nat.le_of_ble_eq_true rfl, Nat.le_of_ble_eq_true rfl⟩ (fun H locs hP hS => ?_)
      have h16 := chk_1 hf
      replace hf := chk_2 hf
      exact prZ C hr hk hP hS hf (isb_n h16) dX12_readsNumber_36
set_option maxHeartbeats 4000000 in
set_option maxRecDepth 100000 in
theorem w12_readsNumber_0 {p : Program} {l : Launch} {e : Env} {s : State} {m : MethodId} {args : Array Value} {below : List Frame} {meth : Method} {c : Code} {z : Zt} {b : Nat}  (C : Cx p s m args c cX12_readsNumber 2 RX12 z 32 b) (hr : meth.sig.returnType = (some .boolean)) (hk : meth.locks = false) {r : Int32} {M' : Mem} {rc : Nat → List Int32 → List Int64 → Mem → Option (Int32 × Mem)} {n : Nat} (q10 : ∀ (i1 : Int32) (M : Mem) (H : Heap) (locs : List Loc) (ls : Array Slot), rc 10 [i1] [] M = some (r, M') → va_P z.1 vwCl (pw (yd z b) 32 b M) H → va_S (pA 32 b) s.heap H locs → lv_has ls 2 [(0, .ref (b + 0)), (1, .int i1)] → W p l e rm12_readsNumber s m args below meth c H locs 0 0 (MQ below (va_Qi (fun (r' : Int32) (M2 : Mem) => r' = r ∧ M2 = M') (fun M2 t => va_P z.1 vwCl (pw (yd z b) 32 b M2) t.heap) (pA 32 b)) args s 0 0 (pA 32 b)) (F0 m 10 ls []))  {M : Mem} {H : Heap} {locs : List Loc} {ls : Array Slot} (hf : b12_readsNumber_0  rc n  M = some (r, M')) (hP : va_P z.1 vwCl (pw (yd z b) 32 b M) H) (hS : va_S (pA 32 b) s.heap H locs) (hl : lv_has ls 2 [(0, .ref (b + 0))]) : W p l e rm12_readsNumber s m args below meth c H locs 0 0 (MQ below (va_Qi (fun (r' : Int32) (M2 : Mem) => r' = r ∧ M2 = M') (fun M2 t => va_P z.1 vwCl (pw (yd z b) 32 b M2) t.heap) (pA 32 b)) args s 0 0 (pA 32 b)) (F0 m 0 ls []) := by
  have hx := C.1.1
  have hb := C.1.2.1
  unfold b12_readsNumber_0 at hf
  refine lv_aload_n hx hb dX12_readsNumber_0 rfl (lv_at hl 0 rfl) ?_
  refine pg C hP (k := 0) (j := 12) (Nat.le_of_ble_eq_true rfl) (yd_0 _ _) rfl iw_12 (Nat.le_of_ble_eq_true rfl) g_1147 rfl rfl dX12_readsNumber_1 ?_
  refine lv_topi (fun v1 ev1 => ?_)
  replace hf := lt_c ev1 hf
  refine lv_istore_n (lv' := [(1, .int v1), (0, .ref (b + 0))]) hx hb dX12_readsNumber_4 rfl hl (by decide) rfl (fun ls hl => ?_)
  refine lv_aload_n hx hb dX12_readsNumber_5 rfl (lv_at hl 1 rfl) ?_
  refine lv_iconst (v := (0 : Int32)) hx hb dX12_readsNumber_6 (by decide) ?_
  refine ppI C hP hS (k := 0) (j := 15) (ty := .int) (Nat.le_of_ble_eq_true rfl) (yd_0 _ _) rfl iw_12 tyX12 tyX12_ok nmX12 (Nat.le_of_ble_eq_true rfl) g_1150 rfl rfl (by decide +kernel) rfl rfl (Nat.le_of_ble_eq_true rfl) (yu_0_15 _ _ _) dX12_readsNumber_7 (fun M2 H locs eM2 hP hS => ?_)
  replace hf := lt_c eM2 hf
  exact w12_readsNumber_10 (n := n)  C hr hk q10 hf hP hS (lv_sub hl [1, 0] rfl)
set_option maxHeartbeats 4000000 in
set_option maxRecDepth 100000 in
theorem l12_readsNumber {p : Program} {l : Launch} {e : Env} {s : State} {m : MethodId} {args : Array Value} {below : List Frame} {meth : Method} {c : Code} {z : Zt} {b : Nat}  (C : Cx p s m args c cX12_readsNumber 2 RX12 z 32 b) (hr : meth.sig.returnType = (some .boolean)) (hk : meth.locks = false) {r : Int32} {M' : Mem} (n : Nat) : (∀ (i1 : Int32) (M : Mem) (H : Heap) (locs : List Loc) (ls : Array Slot), (r12_readsNumber  n) 10 [i1] [] M = some (r, M') → va_P z.1 vwCl (pw (yd z b) 32 b M) H → va_S (pA 32 b) s.heap H locs → lv_has ls 2 [(0, .ref (b + 0)), (1, .int i1)] → W p l e rm12_readsNumber s m args below meth c H locs 0 0 (MQ below (va_Qi (fun (r' : Int32) (M2 : Mem) => r' = r ∧ M2 = M') (fun M2 t => va_P z.1 vwCl (pw (yd z b) 32 b M2) t.heap) (pA 32 b)) args s 0 0 (pA 32 b)) (F0 m 10 ls [])) := by
  induction n with
  | zero => exact fun _ _ _ _ _ hf => (by cases hf)
  | succ n ih => exact fun _ _ _ _ _ hf hP hS hl => w12_readsNumber_10 (n := n)  C hr hk ih ((e12_readsNumber_10  n _ _).symm.trans hf) hP hS hl
theorem c12_readsNumber {l : Launch} {z : Zt} {b n : Nat}   {M M' : Mem} {r : Int32} (hf : f12_readsNumber n   M = some (r, M')) : CI l z (yd z b) 32 b yX12_readsNumber cX12_readsNumber 2 (some .boolean) rm12_readsNumber [.ref (b + 0)] M M' r :=
  CI.ofW (lv := [(0, .ref (b + 0))]) (by decide) (Nat.le_of_ble_eq_true rfl) rfl (fun p e s m args below meth c ls C hr hk hP hS hl => w12_readsNumber_0 (n := n)  C hr hk (l12_readsNumber  C hr hk n) hf hP hS hl)

-- BronzeKingModel.codesOf(II)V
theorem dX12_codesOf_0 : decode cX12_codesOf 0 = .ok (.aload_n 0, 1) := by decide +kernel
theorem dX12_codesOf_1 : decode cX12_codesOf 1 = .ok (.getfield 35, 3) := by decide +kernel
theorem dX12_codesOf_4 : decode cX12_codesOf 4 = .ok (.aload_n 0, 1) := by decide +kernel
theorem dX12_codesOf_5 : decode cX12_codesOf 5 = .ok (.getfield 166, 3) := by decide +kernel
theorem dX12_codesOf_8 : decode cX12_codesOf 8 = .ok (.ldc 169, 2) := by decide +kernel
theorem dX12_codesOf_10 : decode cX12_codesOf 10 = .ok (.iload_n 1, 1) := by decide +kernel
theorem dX12_codesOf_11 : decode cX12_codesOf 11 = .ok (.imul, 1) := by decide +kernel
theorem dX12_codesOf_12 : decode cX12_codesOf 12 = .ok (.iload_n 2, 1) := by decide +kernel
theorem dX12_codesOf_13 : decode cX12_codesOf 13 = .ok (.iadd, 1) := by decide +kernel
theorem dX12_codesOf_14 : decode cX12_codesOf 14 = .ok (.iastore, 1) := by decide +kernel
theorem dX12_codesOf_15 : decode cX12_codesOf 15 = .ok (.aload_n 0, 1) := by decide +kernel
theorem dX12_codesOf_16 : decode cX12_codesOf 16 = .ok (.aload_n 0, 1) := by decide +kernel
theorem dX12_codesOf_17 : decode cX12_codesOf 17 = .ok (.getfield 166, 3) := by decide +kernel
theorem dX12_codesOf_20 : decode cX12_codesOf 20 = .ok (.iconst 1, 1) := by decide +kernel
theorem dX12_codesOf_21 : decode cX12_codesOf 21 = .ok (.iadd, 1) := by decide +kernel
theorem dX12_codesOf_22 : decode cX12_codesOf 22 = .ok (.putfield 166, 3) := by decide +kernel
theorem dX12_codesOf_25 : decode cX12_codesOf 25 = .ok (.return_, 1) := by decide +kernel
def b12_codesOf_0 (rc : Nat → List Int32 → List Int64 → Mem → Option (Unit × Mem)) (n : Nat) (a1 : Int32) (a2 : Int32) (M : Mem) : Option (Unit × Mem) :=
  chk (inb (M.1 0 17) 260) <|
  lt (wI M 9 (M.1 0 17).toNatClampNeg (((1048576 : Int32) * a1) + a2)) fun M2 =>
  lt (wI M2 0 17 ((M2.1 0 17) + (1 : Int32))) fun M3 =>
  some ((), M3)
def f12_codesOf (n : Nat) (a1 : Int32) (a2 : Int32) (M : Mem) : Option (Unit × Mem) := b12_codesOf_0 (fun _ _ _ _ => none) n a1 a2 M
abbrev rm12_codesOf : Room := { frames := 0, cells := 0, slots := 0, locals := 0 }
theorem y12_codesOf_w : yV RX12 yX12_codesOf cX12_codesOf 3 none 2 := ⟨g_1364, gp 46 rfl rfl, g_14, g_1365, rfl, by decide, by decide, by decide +kernel⟩
set_option maxHeartbeats 4000000 in
set_option maxRecDepth 100000 in
theorem w12_codesOf_0 {p : Program} {l : Launch} {e : Env} {s : State} {m : MethodId} {args : Array Value} {below : List Frame} {meth : Method} {c : Code} {z : Zt} {b : Nat}  (C : Cx p s m args c cX12_codesOf 3 RX12 z 32 b) (hr : meth.sig.returnType = none) (hk : meth.locks = false) {r : Unit} {M' : Mem} {rc : Nat → List Int32 → List Int64 → Mem → Option (Unit × Mem)} {n : Nat}  {a1 : Int32} {a2 : Int32} {M : Mem} {H : Heap} {locs : List Loc} {ls : Array Slot} (hf : b12_codesOf_0  rc n a1 a2 M = some (r, M')) (hP : va_P z.1 vwCl (pw (yd z b) 32 b M) H) (hS : va_S (pA 32 b) s.heap H locs) (hl : lv_has ls 3 [(0, .ref (b + 0)), (1, .int a1), (2, .int a2)]) : W p l e rm12_codesOf s m args below meth c H locs 0 0 (MQ below (va_Qv (fun (M2 : Mem) => M2 = M') (fun M2 t => va_P z.1 vwCl (pw (yd z b) 32 b M2) t.heap) (pA 32 b)) args s 0 0 (pA 32 b)) (F0 m 0 ls []) := by
  have hx := C.1.1
  have hb := C.1.2.1
  unfold b12_codesOf_0 at hf
  refine lv_aload_n hx hb dX12_codesOf_0 rfl (lv_at hl 0 rfl) ?_
  refine pg C hP (k := 0) (j := 21) (Nat.le_of_ble_eq_true rfl) (yd_0 _ _) rfl iw_12 (Nat.le_of_ble_eq_true rfl) g_1156 rfl rfl dX12_codesOf_1 ?_
  refine lv_aload_n hx hb dX12_codesOf_4 rfl (lv_at hl 0 rfl) ?_
  refine pg C hP (k := 0) (j := 17) (Nat.le_of_ble_eq_true rfl) (yd_0 _ _) rfl iw_12 (Nat.le_of_ble_eq_true rfl) g_1152 rfl rfl dX12_codesOf_5 ?_
  refine lv_ldc hx hb C.1.2.2.2.1 (C.1.2.2.2.2 _ g_1353) dX12_codesOf_8 ?_
  refine lv_iload_n hx hb dX12_codesOf_10 rfl (lv_at hl 1 rfl) ?_
  refine lv_imul hx hb dX12_codesOf_11 ?_
  refine lv_iload_n hx hb dX12_codesOf_12 rfl (lv_at hl 2 rfl) ?_
  refine lv_iadd hx hb dX12_codesOf_13 ?_
  have h1 := chk_1 hf
  replace hf := chk_2 hf
  refine psI C hP hS (k := 9) (Nat.le_of_ble_eq_true rfl) (yd_9) h1 dX12_codesOf_14 (fun M2 H locs eM2 hP hS => ?_)
  replace hf := lt_c eM2 hf
  refine lv_aload_n hx hb dX12_codesOf_15 rfl (lv_at hl 0 rfl) ?_
  refine lv_aload_n hx hb dX12_codesOf_16 rfl (lv_at hl 0 rfl) ?_
  refine pg C hP (k := 0) (j := 17) (Nat.le_of_ble_eq_true rfl) (yd_0 _ _) rfl iw_12 (Nat.le_of_ble_eq_true rfl) g_1152 rfl rfl dX12_codesOf_17 ?_
  refine lv_iconst (v := (1 : Int32)) hx hb dX12_codesOf_20 (by decide) ?_
  refine lv_iadd hx hb dX12_codesOf_21 ?_
  refine ppI C hP hS (k := 0) (j := 17) (ty := .int) (Nat.le_of_ble_eq_true rfl) (yd_0 _ _) rfl iw_12 tyX12 tyX12_ok nmX12 (Nat.le_of_ble_eq_true rfl) g_1152 rfl rfl (by decide +kernel) rfl rfl (Nat.le_of_ble_eq_true rfl) (yu_0_17 _ _ _) dX12_codesOf_22 (fun M3 H locs eM3 hP hS => ?_)
  replace hf := lt_c eM3 hf
  exact prV C hr hk hP hS hf dX12_codesOf_25
theorem c12_codesOf {l : Launch} {z : Zt} {b n : Nat}  {a1 : Int32} {a2 : Int32} {M M' : Mem} {r : Unit} (hf : f12_codesOf n  a1 a2 M = some (r, M')) : CV l z (yd z b) 32 b yX12_codesOf cX12_codesOf 3 none rm12_codesOf [.ref (b + 0), .int a1, .int a2] M M' :=
  CV.ofW (lv := [(0, .ref (b + 0)), (1, .int a1), (2, .int a2)]) (by decide) (Nat.le_of_ble_eq_true rfl) rfl (fun p e s m args below meth c ls C hr hk hP hS hl => w12_codesOf_0 (n := n)  C hr hk  hf hP hS hl)

-- BronzeKingModel.opens(I)Z
theorem dX12_opens_0 : decode cX12_opens 0 = .ok (.aload_n 0, 1) := by decide +kernel
theorem dX12_opens_1 : decode cX12_opens 1 = .ok (.getfield 170, 3) := by decide +kernel
theorem dX12_opens_4 : decode cX12_opens 4 = .ok (.bipush 6, 2) := by decide +kernel
theorem dX12_opens_6 : decode cX12_opens 6 = .ok (.if_icmp .ne 13, 3) := by decide +kernel
theorem dX12_opens_9 : decode cX12_opens 9 = .ok (.aload_n 0, 1) := by decide +kernel
theorem dX12_opens_10 : decode cX12_opens 10 = .ok (.iconst 5, 1) := by decide +kernel
theorem dX12_opens_11 : decode cX12_opens 11 = .ok (.aload_n 0, 1) := by decide +kernel
theorem dX12_opens_12 : decode cX12_opens 12 = .ok (.getfield 143, 3) := by decide +kernel
theorem dX12_opens_15 : decode cX12_opens 15 = .ok (.invokevirtual 156, 3) := by decide +kernel
theorem dX12_opens_18 : decode cX12_opens 18 = .ok (.ireturn, 1) := by decide +kernel
theorem dX12_opens_19 : decode cX12_opens 19 = .ok (.aload_n 0, 1) := by decide +kernel
theorem dX12_opens_20 : decode cX12_opens 20 = .ok (.aload_n 0, 1) := by decide +kernel
theorem dX12_opens_21 : decode cX12_opens 21 = .ok (.getfield 170, 3) := by decide +kernel
theorem dX12_opens_24 : decode cX12_opens 24 = .ok (.iconst 1, 1) := by decide +kernel
theorem dX12_opens_25 : decode cX12_opens 25 = .ok (.iadd, 1) := by decide +kernel
theorem dX12_opens_26 : decode cX12_opens 26 = .ok (.putfield 170, 3) := by decide +kernel
theorem dX12_opens_29 : decode cX12_opens 29 = .ok (.aload_n 0, 1) := by decide +kernel
theorem dX12_opens_30 : decode cX12_opens 30 = .ok (.getfield 38, 3) := by decide +kernel
theorem dX12_opens_33 : decode cX12_opens 33 = .ok (.aload_n 0, 1) := by decide +kernel
theorem dX12_opens_34 : decode cX12_opens 34 = .ok (.getfield 173, 3) := by decide +kernel
theorem dX12_opens_37 : decode cX12_opens 37 = .ok (.ldc 169, 2) := by decide +kernel
theorem dX12_opens_39 : decode cX12_opens 39 = .ok (.iload_n 1, 1) := by decide +kernel
theorem dX12_opens_40 : decode cX12_opens 40 = .ok (.imul, 1) := by decide +kernel
theorem dX12_opens_41 : decode cX12_opens 41 = .ok (.iastore, 1) := by decide +kernel
theorem dX12_opens_42 : decode cX12_opens 42 = .ok (.aload_n 0, 1) := by decide +kernel
theorem dX12_opens_43 : decode cX12_opens 43 = .ok (.aload_n 0, 1) := by decide +kernel
theorem dX12_opens_44 : decode cX12_opens 44 = .ok (.getfield 173, 3) := by decide +kernel
theorem dX12_opens_47 : decode cX12_opens 47 = .ok (.iconst 1, 1) := by decide +kernel
theorem dX12_opens_48 : decode cX12_opens 48 = .ok (.iadd, 1) := by decide +kernel
theorem dX12_opens_49 : decode cX12_opens 49 = .ok (.putfield 173, 3) := by decide +kernel
theorem dX12_opens_52 : decode cX12_opens 52 = .ok (.aload_n 0, 1) := by decide +kernel
theorem dX12_opens_53 : decode cX12_opens 53 = .ok (.aload_n 0, 1) := by decide +kernel
theorem dX12_opens_54 : decode cX12_opens 54 = .ok (.getfield 143, 3) := by decide +kernel
theorem dX12_opens_57 : decode cX12_opens 57 = .ok (.iconst 1, 1) := by decide +kernel
theorem dX12_opens_58 : decode cX12_opens 58 = .ok (.iadd, 1) := by decide +kernel
theorem dX12_opens_59 : decode cX12_opens 59 = .ok (.putfield 143, 3) := by decide +kernel
theorem dX12_opens_62 : decode cX12_opens 62 = .ok (.iconst 1, 1) := by decide +kernel
theorem dX12_opens_63 : decode cX12_opens 63 = .ok (.ireturn, 1) := by decide +kernel
def b12_opens_0 (rc : Nat → List Int32 → List Int64 → Mem → Option (Int32 × Mem)) (n : Nat) (a1 : Int32) (M : Mem) : Option (Int32 × Mem) :=
  (if (M.1 0 16) = (6 : Int32) then (
   bnd (f12_wrongAt n (5 : Int32) (M.1 0 12) M) fun r7 M8 =>
   chk (isb r7) <|
   some (r7, M8))
  else (
   lt (wI M 0 16 ((M.1 0 16) + (1 : Int32))) fun M2 =>
   chk (inb (M2.1 0 18) 260) <|
   lt (wI M2 10 (M2.1 0 18).toNatClampNeg ((1048576 : Int32) * a1)) fun M4 =>
   lt (wI M4 0 18 ((M4.1 0 18) + (1 : Int32))) fun M5 =>
   lt (wI M5 0 12 ((M5.1 0 12) + (1 : Int32))) fun M6 =>
   some ((1 : Int32), M6)))
def f12_opens (n : Nat) (a1 : Int32) (M : Mem) : Option (Int32 × Mem) := b12_opens_0 (fun _ _ _ _ => none) n a1 M
abbrev rm12_opens : Room := { frames := 1, cells := 0, slots := 0, locals := 22 }
theorem y12_opens_w : yV RX12 yX12_opens cX12_opens 2 (some .boolean) 1 := ⟨g_1351, gp 43 rfl rfl, g_14, g_1352, rfl, by decide, by decide, by decide +kernel⟩
set_option maxHeartbeats 4000000 in
set_option maxRecDepth 100000 in
theorem w12_opens_0 {p : Program} {l : Launch} {e : Env} {s : State} {m : MethodId} {args : Array Value} {below : List Frame} {meth : Method} {c : Code} {z : Zt} {b : Nat}  (C : Cx p s m args c cX12_opens 2 RX12 z 32 b) (hr : meth.sig.returnType = (some .boolean)) (hk : meth.locks = false) {r : Int32} {M' : Mem} {rc : Nat → List Int32 → List Int64 → Mem → Option (Int32 × Mem)} {n : Nat}  {a1 : Int32} {M : Mem} {H : Heap} {locs : List Loc} {ls : Array Slot} (hf : b12_opens_0  rc n a1 M = some (r, M')) (hP : va_P z.1 vwCl (pw (yd z b) 32 b M) H) (hS : va_S (pA 32 b) s.heap H locs) (hl : lv_has ls 2 [(0, .ref (b + 0)), (1, .int a1)]) : W p l e rm12_opens s m args below meth c H locs 0 0 (MQ below (va_Qi (fun (r' : Int32) (M2 : Mem) => r' = r ∧ M2 = M') (fun M2 t => va_P z.1 vwCl (pw (yd z b) 32 b M2) t.heap) (pA 32 b)) args s 0 0 (pA 32 b)) (F0 m 0 ls []) := by
  have hx := C.1.1
  have hb := C.1.2.1
  unfold b12_opens_0 at hf
  refine lv_aload_n hx hb dX12_opens_0 rfl (lv_at hl 0 rfl) ?_
  refine pg C hP (k := 0) (j := 16) (Nat.le_of_ble_eq_true rfl) (yd_0 _ _) rfl iw_12 (Nat.le_of_ble_eq_true rfl) g_1151 rfl rfl dX12_opens_1 ?_
  refine lv_bipush (v := (6 : Int32)) hx hb dX12_opens_4 (by decide) ?_
  refine lv_icmp_ne (tgt := 19) hx hb dX12_opens_6 (by decide) (fun c1 => ?_) (fun c1 => ?_)
  · replace hf := ite_f c1 hf
    refine lv_aload_n hx hb dX12_opens_19 rfl (lv_at hl 0 rfl) ?_
    refine lv_aload_n hx hb dX12_opens_20 rfl (lv_at hl 0 rfl) ?_
    refine pg C hP (k := 0) (j := 16) (Nat.le_of_ble_eq_true rfl) (yd_0 _ _) rfl iw_12 (Nat.le_of_ble_eq_true rfl) g_1151 rfl rfl dX12_opens_21 ?_
    refine lv_iconst (v := (1 : Int32)) hx hb dX12_opens_24 (by decide) ?_
    refine lv_iadd hx hb dX12_opens_25 ?_
    refine ppI C hP hS (k := 0) (j := 16) (ty := .int) (Nat.le_of_ble_eq_true rfl) (yd_0 _ _) rfl iw_12 tyX12 tyX12_ok nmX12 (Nat.le_of_ble_eq_true rfl) g_1151 rfl rfl (by decide +kernel) rfl rfl (Nat.le_of_ble_eq_true rfl) (yu_0_16 _ _ _) dX12_opens_26 (fun M2 H locs eM2 hP hS => ?_)
    replace hf := lt_c eM2 hf
    refine lv_aload_n hx hb dX12_opens_29 rfl (lv_at hl 0 rfl) ?_
    refine pg C hP (k := 0) (j := 22) (Nat.le_of_ble_eq_true rfl) (yd_0 _ _) rfl iw_12 (Nat.le_of_ble_eq_true rfl) g_1157 rfl rfl dX12_opens_30 ?_
    refine lv_aload_n hx hb dX12_opens_33 rfl (lv_at hl 0 rfl) ?_
    refine pg C hP (k := 0) (j := 18) (Nat.le_of_ble_eq_true rfl) (yd_0 _ _) rfl iw_12 (Nat.le_of_ble_eq_true rfl) g_1153 rfl rfl dX12_opens_34 ?_
    refine lv_ldc hx hb C.1.2.2.2.1 (C.1.2.2.2.2 _ g_1353) dX12_opens_37 ?_
    refine lv_iload_n hx hb dX12_opens_39 rfl (lv_at hl 1 rfl) ?_
    refine lv_imul hx hb dX12_opens_40 ?_
    have h3 := chk_1 hf
    replace hf := chk_2 hf
    refine psI C hP hS (k := 10) (Nat.le_of_ble_eq_true rfl) (yd_10) h3 dX12_opens_41 (fun M4 H locs eM4 hP hS => ?_)
    replace hf := lt_c eM4 hf
    refine lv_aload_n hx hb dX12_opens_42 rfl (lv_at hl 0 rfl) ?_
    refine lv_aload_n hx hb dX12_opens_43 rfl (lv_at hl 0 rfl) ?_
    refine pg C hP (k := 0) (j := 18) (Nat.le_of_ble_eq_true rfl) (yd_0 _ _) rfl iw_12 (Nat.le_of_ble_eq_true rfl) g_1153 rfl rfl dX12_opens_44 ?_
    refine lv_iconst (v := (1 : Int32)) hx hb dX12_opens_47 (by decide) ?_
    refine lv_iadd hx hb dX12_opens_48 ?_
    refine ppI C hP hS (k := 0) (j := 18) (ty := .int) (Nat.le_of_ble_eq_true rfl) (yd_0 _ _) rfl iw_12 tyX12 tyX12_ok nmX12 (Nat.le_of_ble_eq_true rfl) g_1153 rfl rfl (by decide +kernel) rfl rfl (Nat.le_of_ble_eq_true rfl) (yu_0_18 _ _ _) dX12_opens_49 (fun M5 H locs eM5 hP hS => ?_)
    replace hf := lt_c eM5 hf
    refine lv_aload_n hx hb dX12_opens_52 rfl (lv_at hl 0 rfl) ?_
    refine lv_aload_n hx hb dX12_opens_53 rfl (lv_at hl 0 rfl) ?_
    refine pg C hP (k := 0) (j := 12) (Nat.le_of_ble_eq_true rfl) (yd_0 _ _) rfl iw_12 (Nat.le_of_ble_eq_true rfl) g_1147 rfl rfl dX12_opens_54 ?_
    refine lv_iconst (v := (1 : Int32)) hx hb dX12_opens_57 (by decide) ?_
    refine lv_iadd hx hb dX12_opens_58 ?_
    refine ppI C hP hS (k := 0) (j := 12) (ty := .int) (Nat.le_of_ble_eq_true rfl) (yd_0 _ _) rfl iw_12 tyX12 tyX12_ok nmX12 (Nat.le_of_ble_eq_true rfl) g_1147 rfl rfl (by decide +kernel) rfl rfl (Nat.le_of_ble_eq_true rfl) (yu_0_12 _ _ _) dX12_opens_59 (fun M6 H locs eM6 hP hS => ?_)
    replace hf := lt_c eM6 hf
    refine lv_iconst (v := (1 : Int32)) hx hb dX12_opens_62 (by decide) ?_
    exact prZ C hr hk hP hS hf rfl dX12_opens_63
  · replace hf := ite_t c1 hf
    refine lv_aload_n hx hb dX12_opens_9 rfl (lv_at hl 0 rfl) ?_
    refine lv_iconst (v := (5 : Int32)) hx hb dX12_opens_10 (by decide) ?_
    refine lv_aload_n hx hb dX12_opens_11 rfl (lv_at hl 0 rfl) ?_
    refine pg C hP (k := 0) (j := 12) (Nat.le_of_ble_eq_true rfl) (yd_0 _ _) rfl iw_12 (Nat.le_of_ble_eq_true rfl) g_1147 rfl rfl dX12_opens_12 ?_
    obtain ⟨r7, M8, h9, hf⟩ := bnd_s hf
    refine pcVi (As := [.int (5 : Int32), .int (M.1 0 12)]) C hP hS (k := 0) (Nat.le_of_ble_eq_true rfl) (yd_0 _ _) rfl (c12_wrongAt  h9) y12_wrongAt_w g_1337 rfl rfl rfl ⟨Nat.le_of_ble_eq_true rfl, Nat.le_of_ble_eq_true rfl⟩ hl.1 rfl (Nat.le_of_ble_eq_true rfl) dX12_opens_15 ⟨Nat.le_of_ble_eq_true rfl, Nat.le_of_ble_eq_true rfl⟩ (fun H locs hP hS => ?_)
    have h10 := chk_1 hf
    replace hf := chk_2 hf
    exact prZ C hr hk hP hS hf (isb_n h10) dX12_opens_18
theorem c12_opens {l : Launch} {z : Zt} {b n : Nat}  {a1 : Int32} {M M' : Mem} {r : Int32} (hf : f12_opens n  a1 M = some (r, M')) : CI l z (yd z b) 32 b yX12_opens cX12_opens 2 (some .boolean) rm12_opens [.ref (b + 0), .int a1] M M' r :=
  CI.ofW (lv := [(0, .ref (b + 0)), (1, .int a1)]) (by decide) (Nat.le_of_ble_eq_true rfl) rfl (fun p e s m args below meth c ls C hr hk hP hS hl => w12_opens_0 (n := n)  C hr hk  hf hP hS hl)

-- BronzeKingModel.waitTop()I
theorem dX12_waitTop_0 : decode cX12_waitTop 0 = .ok (.aload_n 0, 1) := by decide +kernel
theorem dX12_waitTop_1 : decode cX12_waitTop 1 = .ok (.getfield 173, 3) := by decide +kernel
theorem dX12_waitTop_4 : decode cX12_waitTop 4 = .ok (.ifCond .ne 7, 3) := by decide +kernel
theorem dX12_waitTop_7 : decode cX12_waitTop 7 = .ok (.iconst (-1), 1) := by decide +kernel
theorem dX12_waitTop_8 : decode cX12_waitTop 8 = .ok (.goto 17, 3) := by decide +kernel
theorem dX12_waitTop_11 : decode cX12_waitTop 11 = .ok (.aload_n 0, 1) := by decide +kernel
theorem dX12_waitTop_12 : decode cX12_waitTop 12 = .ok (.getfield 38, 3) := by decide +kernel
theorem dX12_waitTop_15 : decode cX12_waitTop 15 = .ok (.aload_n 0, 1) := by decide +kernel
theorem dX12_waitTop_16 : decode cX12_waitTop 16 = .ok (.getfield 173, 3) := by decide +kernel
theorem dX12_waitTop_19 : decode cX12_waitTop 19 = .ok (.iconst 1, 1) := by decide +kernel
theorem dX12_waitTop_20 : decode cX12_waitTop 20 = .ok (.isub, 1) := by decide +kernel
theorem dX12_waitTop_21 : decode cX12_waitTop 21 = .ok (.iaload, 1) := by decide +kernel
theorem dX12_waitTop_22 : decode cX12_waitTop 22 = .ok (.ldc 169, 2) := by decide +kernel
theorem dX12_waitTop_24 : decode cX12_waitTop 24 = .ok (.idiv, 1) := by decide +kernel
theorem dX12_waitTop_25 : decode cX12_waitTop 25 = .ok (.ireturn, 1) := by decide +kernel
def b12_waitTop_0 (rc : Nat → List Int32 → List Int64 → Mem → Option (Int32 × Mem)) (n : Nat) (M : Mem) : Option (Int32 × Mem) :=
  (if (M.1 0 18) = 0 then (
   some ((-1 : Int32), M))
  else (
   chk (inb ((M.1 0 18) - (1 : Int32)) 260) <|
   some (((M.1 10 ((M.1 0 18) - (1 : Int32)).toNatClampNeg) / (1048576 : Int32)), M)))
def f12_waitTop (n : Nat)  (M : Mem) : Option (Int32 × Mem) := b12_waitTop_0 (fun _ _ _ _ => none) n M
abbrev rm12_waitTop : Room := { frames := 0, cells := 0, slots := 0, locals := 0 }
theorem y12_waitTop_w : yV RX12 yX12_waitTop cX12_waitTop 1 (some .int) 0 := ⟨g_1378, gp 48 rfl rfl, g_14, g_1379, rfl, by decide, by decide, by decide +kernel⟩
set_option maxHeartbeats 4000000 in
set_option maxRecDepth 100000 in
theorem w12_waitTop_0 {p : Program} {l : Launch} {e : Env} {s : State} {m : MethodId} {args : Array Value} {below : List Frame} {meth : Method} {c : Code} {z : Zt} {b : Nat}  (C : Cx p s m args c cX12_waitTop 1 RX12 z 32 b) (hr : meth.sig.returnType = (some .int)) (hk : meth.locks = false) {r : Int32} {M' : Mem} {rc : Nat → List Int32 → List Int64 → Mem → Option (Int32 × Mem)} {n : Nat}   {M : Mem} {H : Heap} {locs : List Loc} {ls : Array Slot} (hf : b12_waitTop_0  rc n  M = some (r, M')) (hP : va_P z.1 vwCl (pw (yd z b) 32 b M) H) (hS : va_S (pA 32 b) s.heap H locs) (hl : lv_has ls 1 [(0, .ref (b + 0))]) : W p l e rm12_waitTop s m args below meth c H locs 0 0 (MQ below (va_Qi (fun (r' : Int32) (M2 : Mem) => r' = r ∧ M2 = M') (fun M2 t => va_P z.1 vwCl (pw (yd z b) 32 b M2) t.heap) (pA 32 b)) args s 0 0 (pA 32 b)) (F0 m 0 ls []) := by
  have hx := C.1.1
  have hb := C.1.2.1
  unfold b12_waitTop_0 at hf
  refine lv_aload_n hx hb dX12_waitTop_0 rfl (lv_at hl 0 rfl) ?_
  refine pg C hP (k := 0) (j := 18) (Nat.le_of_ble_eq_true rfl) (yd_0 _ _) rfl iw_12 (Nat.le_of_ble_eq_true rfl) g_1153 rfl rfl dX12_waitTop_1 ?_
  refine lv_if_ne (tgt := 11) hx hb dX12_waitTop_4 (by decide) (fun c1 => ?_) (fun c1 => ?_)
  · replace hf := ite_f c1 hf
    refine lv_aload_n hx hb dX12_waitTop_11 rfl (lv_at hl 0 rfl) ?_
    refine pg C hP (k := 0) (j := 22) (Nat.le_of_ble_eq_true rfl) (yd_0 _ _) rfl iw_12 (Nat.le_of_ble_eq_true rfl) g_1157 rfl rfl dX12_waitTop_12 ?_
    refine lv_aload_n hx hb dX12_waitTop_15 rfl (lv_at hl 0 rfl) ?_
    refine pg C hP (k := 0) (j := 18) (Nat.le_of_ble_eq_true rfl) (yd_0 _ _) rfl iw_12 (Nat.le_of_ble_eq_true rfl) g_1153 rfl rfl dX12_waitTop_16 ?_
    refine lv_iconst (v := (1 : Int32)) hx hb dX12_waitTop_19 (by decide) ?_
    refine lv_isub hx hb dX12_waitTop_20 ?_
    have h2 := chk_1 hf
    replace hf := chk_2 hf
    refine paI C hP (k := 10) (Nat.le_of_ble_eq_true rfl) (yd_10 _ _) h2 dX12_waitTop_21 ?_
    refine lv_ldc hx hb C.1.2.2.2.1 (C.1.2.2.2.2 _ g_1353) dX12_waitTop_22 ?_
    refine lv_idiv hx hb dX12_waitTop_24 (by decide) ?_
    exact prI C hr hk hP hS hf dX12_waitTop_25
  · replace hf := ite_t c1 hf
    refine lv_iconst (v := (-1 : Int32)) hx hb dX12_waitTop_7 (by decide) ?_
    refine lv_goto (tgt := 25) hx hb dX12_waitTop_8 (by decide) ?_
    exact prI C hr hk hP hS hf dX12_waitTop_25
theorem c12_waitTop {l : Launch} {z : Zt} {b n : Nat}   {M M' : Mem} {r : Int32} (hf : f12_waitTop n   M = some (r, M')) : CI l z (yd z b) 32 b yX12_waitTop cX12_waitTop 1 (some .int) rm12_waitTop [.ref (b + 0)] M M' r :=
  CI.ofW (lv := [(0, .ref (b + 0))]) (by decide) (Nat.le_of_ble_eq_true rfl) rfl (fun p e s m args below meth c ls C hr hk hP hS hl => w12_waitTop_0 (n := n)  C hr hk  hf hP hS hl)

-- BronzeKingModel.factOf(I)I
theorem dX12_factOf_0 : decode cX12_factOf 0 = .ok (.iload_n 0, 1) := by decide +kernel
theorem dX12_factOf_1 : decode cX12_factOf 1 = .ok (.tableswitch 132 98 121 #[126, 132, 113, 132, 132, 132, 111, 132, 132, 132, 132, 115, 123, 132, 132, 132, 132, 132, 132, 132, 129, 121, 117, 119], 111) := by decide +kernel
theorem dX12_factOf_112 : decode cX12_factOf 112 = .ok (.iconst 0, 1) := by decide +kernel
theorem dX12_factOf_113 : decode cX12_factOf 113 = .ok (.ireturn, 1) := by decide +kernel
theorem dX12_factOf_114 : decode cX12_factOf 114 = .ok (.iconst 1, 1) := by decide +kernel
theorem dX12_factOf_115 : decode cX12_factOf 115 = .ok (.ireturn, 1) := by decide +kernel
theorem dX12_factOf_116 : decode cX12_factOf 116 = .ok (.iconst 2, 1) := by decide +kernel
theorem dX12_factOf_117 : decode cX12_factOf 117 = .ok (.ireturn, 1) := by decide +kernel
theorem dX12_factOf_118 : decode cX12_factOf 118 = .ok (.iconst 3, 1) := by decide +kernel
theorem dX12_factOf_119 : decode cX12_factOf 119 = .ok (.ireturn, 1) := by decide +kernel
theorem dX12_factOf_120 : decode cX12_factOf 120 = .ok (.iconst 4, 1) := by decide +kernel
theorem dX12_factOf_121 : decode cX12_factOf 121 = .ok (.ireturn, 1) := by decide +kernel
theorem dX12_factOf_122 : decode cX12_factOf 122 = .ok (.iconst 5, 1) := by decide +kernel
theorem dX12_factOf_123 : decode cX12_factOf 123 = .ok (.ireturn, 1) := by decide +kernel
theorem dX12_factOf_124 : decode cX12_factOf 124 = .ok (.bipush 6, 2) := by decide +kernel
theorem dX12_factOf_126 : decode cX12_factOf 126 = .ok (.ireturn, 1) := by decide +kernel
theorem dX12_factOf_127 : decode cX12_factOf 127 = .ok (.bipush 7, 2) := by decide +kernel
theorem dX12_factOf_129 : decode cX12_factOf 129 = .ok (.ireturn, 1) := by decide +kernel
theorem dX12_factOf_130 : decode cX12_factOf 130 = .ok (.bipush 8, 2) := by decide +kernel
theorem dX12_factOf_132 : decode cX12_factOf 132 = .ok (.ireturn, 1) := by decide +kernel
theorem dX12_factOf_133 : decode cX12_factOf 133 = .ok (.iconst (-1), 1) := by decide +kernel
theorem dX12_factOf_134 : decode cX12_factOf 134 = .ok (.ireturn, 1) := by decide +kernel
def b12_factOf_0 (rc : Nat → List Int32 → List Int64 → Mem → Option (Int32 × Mem)) (n : Nat) (a0 : Int32) (M : Mem) : Option (Int32 × Mem) :=
  (if a0 = (98 : Int32) then (
   some ((7 : Int32), M))
  else (
   (if a0 = (99 : Int32) then (
    some ((-1 : Int32), M))
   else (
    (if a0 = (100 : Int32) then (
     some ((1 : Int32), M))
    else (
     (if a0 = (101 : Int32) then (
      some ((-1 : Int32), M))
     else (
      (if a0 = (102 : Int32) then (
       some ((-1 : Int32), M))
      else (
       (if a0 = (103 : Int32) then (
        some ((-1 : Int32), M))
       else (
        (if a0 = (104 : Int32) then (
         some ((0 : Int32), M))
        else (
         (if a0 = (105 : Int32) then (
          some ((-1 : Int32), M))
         else (
          (if a0 = (106 : Int32) then (
           some ((-1 : Int32), M))
          else (
           (if a0 = (107 : Int32) then (
            some ((-1 : Int32), M))
           else (
            (if a0 = (108 : Int32) then (
             some ((-1 : Int32), M))
            else (
             (if a0 = (109 : Int32) then (
              some ((2 : Int32), M))
             else (
              (if a0 = (110 : Int32) then (
               some ((6 : Int32), M))
              else (
               (if a0 = (111 : Int32) then (
                some ((-1 : Int32), M))
               else (
                (if a0 = (112 : Int32) then (
                 some ((-1 : Int32), M))
                else (
                 (if a0 = (113 : Int32) then (
                  some ((-1 : Int32), M))
                 else (
                  (if a0 = (114 : Int32) then (
                   some ((-1 : Int32), M))
                  else (
                   (if a0 = (115 : Int32) then (
                    some ((-1 : Int32), M))
                   else (
                    (if a0 = (116 : Int32) then (
                     some ((-1 : Int32), M))
                    else (
                     (if a0 = (117 : Int32) then (
                      some ((-1 : Int32), M))
                     else (
                      (if a0 = (118 : Int32) then (
                       some ((8 : Int32), M))
                      else (
                       (if a0 = (119 : Int32) then (
                        some ((5 : Int32), M))
                       else (
                        (if a0 = (120 : Int32) then (
                         some ((3 : Int32), M))
                        else (
                         (if a0 = (121 : Int32) then (
                          some ((4 : Int32), M))
                         else (
                          some ((-1 : Int32), M)))))))))))))))))))))))))))))))))))))))))))))))))
def f12_factOf (n : Nat) (a0 : Int32) (M : Mem) : Option (Int32 × Mem) := b12_factOf_0 (fun _ _ _ _ => none) n a0 M
abbrev rm12_factOf : Room := { frames := 0, cells := 0, slots := 0, locals := 0 }
theorem y12_factOf_w : yS yX12_factOf cX12_factOf 1 (some .int) 1 := ⟨g_1367, g_14, g_1368, by decide, by decide, by decide +kernel⟩
set_option maxHeartbeats 4000000 in
set_option maxRecDepth 100000 in
theorem w12_factOf_0 {p : Program} {l : Launch} {e : Env} {s : State} {m : MethodId} {args : Array Value} {below : List Frame} {meth : Method} {c : Code} {z : Zt} {b : Nat}  (C : Cx p s m args c cX12_factOf 1 RX12 z 32 b) (hr : meth.sig.returnType = (some .int)) (hk : meth.locks = false) {r : Int32} {M' : Mem} {rc : Nat → List Int32 → List Int64 → Mem → Option (Int32 × Mem)} {n : Nat}  {a0 : Int32} {M : Mem} {H : Heap} {locs : List Loc} {ls : Array Slot} (hf : b12_factOf_0  rc n a0 M = some (r, M')) (hP : va_P z.1 vwCl (pw (yd z b) 32 b M) H) (hS : va_S (pA 32 b) s.heap H locs) (hl : lv_has ls 1 [(0, .int a0)]) : W p l e rm12_factOf s m args below meth c H locs 0 0 (MQ below (va_Qi (fun (r' : Int32) (M2 : Mem) => r' = r ∧ M2 = M') (fun M2 t => va_P z.1 vwCl (pw (yd z b) 32 b M2) t.heap) (pA 32 b)) args s 0 0 (pA 32 b)) (F0 m 0 ls []) := by
  have hx := C.1.1
  have hb := C.1.2.1
  unfold b12_factOf_0 at hf
  refine lv_iload_n hx hb dX12_factOf_0 rfl (lv_at hl 0 rfl) ?_
  by_cases c1 : a0 = (98 : Int32)
  · replace hf := ite_t c1 hf
    refine lv_tableIn (off := 126) (tgt := 127) hx hb dX12_factOf_1 (by rw [c1]; decide) (by rw [c1]; decide) (by rw [c1]; rfl) (by decide) ?_
    refine lv_bipush (v := (7 : Int32)) hx hb dX12_factOf_127 (by decide) ?_
    exact prI C hr hk hP hS hf dX12_factOf_129
  · replace hf := ite_f c1 hf
    by_cases c2 : a0 = (99 : Int32)
    · replace hf := ite_t c2 hf
      refine lv_tableIn (off := 132) (tgt := 133) hx hb dX12_factOf_1 (by rw [c2]; decide) (by rw [c2]; decide) (by rw [c2]; rfl) (by decide) ?_
      refine lv_iconst (v := (-1 : Int32)) hx hb dX12_factOf_133 (by decide) ?_
      exact prI C hr hk hP hS hf dX12_factOf_134
    · replace hf := ite_f c2 hf
      by_cases c3 : a0 = (100 : Int32)
      · replace hf := ite_t c3 hf
        refine lv_tableIn (off := 113) (tgt := 114) hx hb dX12_factOf_1 (by rw [c3]; decide) (by rw [c3]; decide) (by rw [c3]; rfl) (by decide) ?_
        refine lv_iconst (v := (1 : Int32)) hx hb dX12_factOf_114 (by decide) ?_
        exact prI C hr hk hP hS hf dX12_factOf_115
      · replace hf := ite_f c3 hf
        by_cases c4 : a0 = (101 : Int32)
        · replace hf := ite_t c4 hf
          refine lv_tableIn (off := 132) (tgt := 133) hx hb dX12_factOf_1 (by rw [c4]; decide) (by rw [c4]; decide) (by rw [c4]; rfl) (by decide) ?_
          refine lv_iconst (v := (-1 : Int32)) hx hb dX12_factOf_133 (by decide) ?_
          exact prI C hr hk hP hS hf dX12_factOf_134
        · replace hf := ite_f c4 hf
          by_cases c5 : a0 = (102 : Int32)
          · replace hf := ite_t c5 hf
            refine lv_tableIn (off := 132) (tgt := 133) hx hb dX12_factOf_1 (by rw [c5]; decide) (by rw [c5]; decide) (by rw [c5]; rfl) (by decide) ?_
            refine lv_iconst (v := (-1 : Int32)) hx hb dX12_factOf_133 (by decide) ?_
            exact prI C hr hk hP hS hf dX12_factOf_134
          · replace hf := ite_f c5 hf
            by_cases c6 : a0 = (103 : Int32)
            · replace hf := ite_t c6 hf
              refine lv_tableIn (off := 132) (tgt := 133) hx hb dX12_factOf_1 (by rw [c6]; decide) (by rw [c6]; decide) (by rw [c6]; rfl) (by decide) ?_
              refine lv_iconst (v := (-1 : Int32)) hx hb dX12_factOf_133 (by decide) ?_
              exact prI C hr hk hP hS hf dX12_factOf_134
            · replace hf := ite_f c6 hf
              by_cases c7 : a0 = (104 : Int32)
              · replace hf := ite_t c7 hf
                refine lv_tableIn (off := 111) (tgt := 112) hx hb dX12_factOf_1 (by rw [c7]; decide) (by rw [c7]; decide) (by rw [c7]; rfl) (by decide) ?_
                refine lv_iconst (v := (0 : Int32)) hx hb dX12_factOf_112 (by decide) ?_
                exact prI C hr hk hP hS hf dX12_factOf_113
              · replace hf := ite_f c7 hf
                by_cases c8 : a0 = (105 : Int32)
                · replace hf := ite_t c8 hf
                  refine lv_tableIn (off := 132) (tgt := 133) hx hb dX12_factOf_1 (by rw [c8]; decide) (by rw [c8]; decide) (by rw [c8]; rfl) (by decide) ?_
                  refine lv_iconst (v := (-1 : Int32)) hx hb dX12_factOf_133 (by decide) ?_
                  exact prI C hr hk hP hS hf dX12_factOf_134
                · replace hf := ite_f c8 hf
                  by_cases c9 : a0 = (106 : Int32)
                  · replace hf := ite_t c9 hf
                    refine lv_tableIn (off := 132) (tgt := 133) hx hb dX12_factOf_1 (by rw [c9]; decide) (by rw [c9]; decide) (by rw [c9]; rfl) (by decide) ?_
                    refine lv_iconst (v := (-1 : Int32)) hx hb dX12_factOf_133 (by decide) ?_
                    exact prI C hr hk hP hS hf dX12_factOf_134
                  · replace hf := ite_f c9 hf
                    by_cases c10 : a0 = (107 : Int32)
                    · replace hf := ite_t c10 hf
                      refine lv_tableIn (off := 132) (tgt := 133) hx hb dX12_factOf_1 (by rw [c10]; decide) (by rw [c10]; decide) (by rw [c10]; rfl) (by decide) ?_
                      refine lv_iconst (v := (-1 : Int32)) hx hb dX12_factOf_133 (by decide) ?_
                      exact prI C hr hk hP hS hf dX12_factOf_134
                    · replace hf := ite_f c10 hf
                      by_cases c11 : a0 = (108 : Int32)
                      · replace hf := ite_t c11 hf
                        refine lv_tableIn (off := 132) (tgt := 133) hx hb dX12_factOf_1 (by rw [c11]; decide) (by rw [c11]; decide) (by rw [c11]; rfl) (by decide) ?_
                        refine lv_iconst (v := (-1 : Int32)) hx hb dX12_factOf_133 (by decide) ?_
                        exact prI C hr hk hP hS hf dX12_factOf_134
                      · replace hf := ite_f c11 hf
                        by_cases c12 : a0 = (109 : Int32)
                        · replace hf := ite_t c12 hf
                          refine lv_tableIn (off := 115) (tgt := 116) hx hb dX12_factOf_1 (by rw [c12]; decide) (by rw [c12]; decide) (by rw [c12]; rfl) (by decide) ?_
                          refine lv_iconst (v := (2 : Int32)) hx hb dX12_factOf_116 (by decide) ?_
                          exact prI C hr hk hP hS hf dX12_factOf_117
                        · replace hf := ite_f c12 hf
                          by_cases c13 : a0 = (110 : Int32)
                          · replace hf := ite_t c13 hf
                            refine lv_tableIn (off := 123) (tgt := 124) hx hb dX12_factOf_1 (by rw [c13]; decide) (by rw [c13]; decide) (by rw [c13]; rfl) (by decide) ?_
                            refine lv_bipush (v := (6 : Int32)) hx hb dX12_factOf_124 (by decide) ?_
                            exact prI C hr hk hP hS hf dX12_factOf_126
                          · replace hf := ite_f c13 hf
                            by_cases c14 : a0 = (111 : Int32)
                            · replace hf := ite_t c14 hf
                              refine lv_tableIn (off := 132) (tgt := 133) hx hb dX12_factOf_1 (by rw [c14]; decide) (by rw [c14]; decide) (by rw [c14]; rfl) (by decide) ?_
                              refine lv_iconst (v := (-1 : Int32)) hx hb dX12_factOf_133 (by decide) ?_
                              exact prI C hr hk hP hS hf dX12_factOf_134
                            · replace hf := ite_f c14 hf
                              by_cases c15 : a0 = (112 : Int32)
                              · replace hf := ite_t c15 hf
                                refine lv_tableIn (off := 132) (tgt := 133) hx hb dX12_factOf_1 (by rw [c15]; decide) (by rw [c15]; decide) (by rw [c15]; rfl) (by decide) ?_
                                refine lv_iconst (v := (-1 : Int32)) hx hb dX12_factOf_133 (by decide) ?_
                                exact prI C hr hk hP hS hf dX12_factOf_134
                              · replace hf := ite_f c15 hf
                                by_cases c16 : a0 = (113 : Int32)
                                · replace hf := ite_t c16 hf
                                  refine lv_tableIn (off := 132) (tgt := 133) hx hb dX12_factOf_1 (by rw [c16]; decide) (by rw [c16]; decide) (by rw [c16]; rfl) (by decide) ?_
                                  refine lv_iconst (v := (-1 : Int32)) hx hb dX12_factOf_133 (by decide) ?_
                                  exact prI C hr hk hP hS hf dX12_factOf_134
                                · replace hf := ite_f c16 hf
                                  by_cases c17 : a0 = (114 : Int32)
                                  · replace hf := ite_t c17 hf
                                    refine lv_tableIn (off := 132) (tgt := 133) hx hb dX12_factOf_1 (by rw [c17]; decide) (by rw [c17]; decide) (by rw [c17]; rfl) (by decide) ?_
                                    refine lv_iconst (v := (-1 : Int32)) hx hb dX12_factOf_133 (by decide) ?_
                                    exact prI C hr hk hP hS hf dX12_factOf_134
                                  · replace hf := ite_f c17 hf
                                    by_cases c18 : a0 = (115 : Int32)
                                    · replace hf := ite_t c18 hf
                                      refine lv_tableIn (off := 132) (tgt := 133) hx hb dX12_factOf_1 (by rw [c18]; decide) (by rw [c18]; decide) (by rw [c18]; rfl) (by decide) ?_
                                      refine lv_iconst (v := (-1 : Int32)) hx hb dX12_factOf_133 (by decide) ?_
                                      exact prI C hr hk hP hS hf dX12_factOf_134
                                    · replace hf := ite_f c18 hf
                                      by_cases c19 : a0 = (116 : Int32)
                                      · replace hf := ite_t c19 hf
                                        refine lv_tableIn (off := 132) (tgt := 133) hx hb dX12_factOf_1 (by rw [c19]; decide) (by rw [c19]; decide) (by rw [c19]; rfl) (by decide) ?_
                                        refine lv_iconst (v := (-1 : Int32)) hx hb dX12_factOf_133 (by decide) ?_
                                        exact prI C hr hk hP hS hf dX12_factOf_134
                                      · replace hf := ite_f c19 hf
                                        by_cases c20 : a0 = (117 : Int32)
                                        · replace hf := ite_t c20 hf
                                          refine lv_tableIn (off := 132) (tgt := 133) hx hb dX12_factOf_1 (by rw [c20]; decide) (by rw [c20]; decide) (by rw [c20]; rfl) (by decide) ?_
                                          refine lv_iconst (v := (-1 : Int32)) hx hb dX12_factOf_133 (by decide) ?_
                                          exact prI C hr hk hP hS hf dX12_factOf_134
                                        · replace hf := ite_f c20 hf
                                          by_cases c21 : a0 = (118 : Int32)
                                          · replace hf := ite_t c21 hf
                                            refine lv_tableIn (off := 129) (tgt := 130) hx hb dX12_factOf_1 (by rw [c21]; decide) (by rw [c21]; decide) (by rw [c21]; rfl) (by decide) ?_
                                            refine lv_bipush (v := (8 : Int32)) hx hb dX12_factOf_130 (by decide) ?_
                                            exact prI C hr hk hP hS hf dX12_factOf_132
                                          · replace hf := ite_f c21 hf
                                            by_cases c22 : a0 = (119 : Int32)
                                            · replace hf := ite_t c22 hf
                                              refine lv_tableIn (off := 121) (tgt := 122) hx hb dX12_factOf_1 (by rw [c22]; decide) (by rw [c22]; decide) (by rw [c22]; rfl) (by decide) ?_
                                              refine lv_iconst (v := (5 : Int32)) hx hb dX12_factOf_122 (by decide) ?_
                                              exact prI C hr hk hP hS hf dX12_factOf_123
                                            · replace hf := ite_f c22 hf
                                              by_cases c23 : a0 = (120 : Int32)
                                              · replace hf := ite_t c23 hf
                                                refine lv_tableIn (off := 117) (tgt := 118) hx hb dX12_factOf_1 (by rw [c23]; decide) (by rw [c23]; decide) (by rw [c23]; rfl) (by decide) ?_
                                                refine lv_iconst (v := (3 : Int32)) hx hb dX12_factOf_118 (by decide) ?_
                                                exact prI C hr hk hP hS hf dX12_factOf_119
                                              · replace hf := ite_f c23 hf
                                                by_cases c24 : a0 = (121 : Int32)
                                                · replace hf := ite_t c24 hf
                                                  refine lv_tableIn (off := 119) (tgt := 120) hx hb dX12_factOf_1 (by rw [c24]; decide) (by rw [c24]; decide) (by rw [c24]; rfl) (by decide) ?_
                                                  refine lv_iconst (v := (4 : Int32)) hx hb dX12_factOf_120 (by decide) ?_
                                                  exact prI C hr hk hP hS hf dX12_factOf_121
                                                · replace hf := ite_f c24 hf
                                                  refine lv_tableOut (tgt := 133) hx hb dX12_factOf_1 (by have z0 : ¬ a0.toInt = 98 := tsn c1; have z1 : ¬ a0.toInt = 99 := tsn c2; have z2 : ¬ a0.toInt = 100 := tsn c3; have z3 : ¬ a0.toInt = 101 := tsn c4; have z4 : ¬ a0.toInt = 102 := tsn c5; have z5 : ¬ a0.toInt = 103 := tsn c6; have z6 : ¬ a0.toInt = 104 := tsn c7; have z7 : ¬ a0.toInt = 105 := tsn c8; have z8 : ¬ a0.toInt = 106 := tsn c9; have z9 : ¬ a0.toInt = 107 := tsn c10; have z10 : ¬ a0.toInt = 108 := tsn c11; have z11 : ¬ a0.toInt = 109 := tsn c12; have z12 : ¬ a0.toInt = 110 := tsn c13; have z13 : ¬ a0.toInt = 111 := tsn c14; have z14 : ¬ a0.toInt = 112 := tsn c15; have z15 : ¬ a0.toInt = 113 := tsn c16; have z16 : ¬ a0.toInt = 114 := tsn c17; have z17 : ¬ a0.toInt = 115 := tsn c18; have z18 : ¬ a0.toInt = 116 := tsn c19; have z19 : ¬ a0.toInt = 117 := tsn c20; have z20 : ¬ a0.toInt = 118 := tsn c21; have z21 : ¬ a0.toInt = 119 := tsn c22; have z22 : ¬ a0.toInt = 120 := tsn c23; have z23 : ¬ a0.toInt = 121 := tsn c24; omega) (by decide) ?_
                                                  refine lv_iconst (v := (-1 : Int32)) hx hb dX12_factOf_133 (by decide) ?_
                                                  exact prI C hr hk hP hS hf dX12_factOf_134
theorem c12_factOf {l : Launch} {z : Zt} {b n : Nat}  {a0 : Int32} {M M' : Mem} {r : Int32} (hf : f12_factOf n  a0 M = some (r, M')) : CI l z (yd z b) 32 b yX12_factOf cX12_factOf 1 (some .int) rm12_factOf [.int a0] M M' r :=
  CI.ofW (lv := [(0, .int a0)]) (by decide) (Nat.le_of_ble_eq_true rfl) rfl (fun p e s m args below meth c ls C hr hk hP hS hl => w12_factOf_0 (n := n)  C hr hk  hf hP hS hl)

-- BronzeKingModel.sumSign(I)I
theorem dX12_sumSign_0 : decode cX12_sumSign 0 = .ok (.iload_n 0, 1) := by decide +kernel
theorem dX12_sumSign_1 : decode cX12_sumSign 1 = .ok (.bipush 43, 2) := by decide +kernel
theorem dX12_sumSign_3 : decode cX12_sumSign 3 = .ok (.if_icmp .ne 7, 3) := by decide +kernel
theorem dX12_sumSign_6 : decode cX12_sumSign 6 = .ok (.iconst 2, 1) := by decide +kernel
theorem dX12_sumSign_7 : decode cX12_sumSign 7 = .ok (.goto 45, 3) := by decide +kernel
theorem dX12_sumSign_10 : decode cX12_sumSign 10 = .ok (.iload_n 0, 1) := by decide +kernel
theorem dX12_sumSign_11 : decode cX12_sumSign 11 = .ok (.bipush 45, 2) := by decide +kernel
theorem dX12_sumSign_13 : decode cX12_sumSign 13 = .ok (.if_icmp .ne 7, 3) := by decide +kernel
theorem dX12_sumSign_16 : decode cX12_sumSign 16 = .ok (.iconst 3, 1) := by decide +kernel
theorem dX12_sumSign_17 : decode cX12_sumSign 17 = .ok (.goto 35, 3) := by decide +kernel
theorem dX12_sumSign_20 : decode cX12_sumSign 20 = .ok (.iload_n 0, 1) := by decide +kernel
theorem dX12_sumSign_21 : decode cX12_sumSign 21 = .ok (.bipush 42, 2) := by decide +kernel
theorem dX12_sumSign_23 : decode cX12_sumSign 23 = .ok (.if_icmp .ne 7, 3) := by decide +kernel
theorem dX12_sumSign_26 : decode cX12_sumSign 26 = .ok (.iconst 4, 1) := by decide +kernel
theorem dX12_sumSign_27 : decode cX12_sumSign 27 = .ok (.goto 25, 3) := by decide +kernel
theorem dX12_sumSign_30 : decode cX12_sumSign 30 = .ok (.iload_n 0, 1) := by decide +kernel
theorem dX12_sumSign_31 : decode cX12_sumSign 31 = .ok (.bipush 47, 2) := by decide +kernel
theorem dX12_sumSign_33 : decode cX12_sumSign 33 = .ok (.if_icmp .ne 7, 3) := by decide +kernel
theorem dX12_sumSign_36 : decode cX12_sumSign 36 = .ok (.iconst 5, 1) := by decide +kernel
theorem dX12_sumSign_37 : decode cX12_sumSign 37 = .ok (.goto 15, 3) := by decide +kernel
theorem dX12_sumSign_40 : decode cX12_sumSign 40 = .ok (.iload_n 0, 1) := by decide +kernel
theorem dX12_sumSign_41 : decode cX12_sumSign 41 = .ok (.bipush 37, 2) := by decide +kernel
theorem dX12_sumSign_43 : decode cX12_sumSign 43 = .ok (.if_icmp .ne 8, 3) := by decide +kernel
theorem dX12_sumSign_46 : decode cX12_sumSign 46 = .ok (.bipush 6, 2) := by decide +kernel
theorem dX12_sumSign_48 : decode cX12_sumSign 48 = .ok (.goto 4, 3) := by decide +kernel
theorem dX12_sumSign_51 : decode cX12_sumSign 51 = .ok (.iconst (-1), 1) := by decide +kernel
theorem dX12_sumSign_52 : decode cX12_sumSign 52 = .ok (.ireturn, 1) := by decide +kernel
def b12_sumSign_0 (rc : Nat → List Int32 → List Int64 → Mem → Option (Int32 × Mem)) (n : Nat) (a0 : Int32) (M : Mem) : Option (Int32 × Mem) :=
  (if a0 = (43 : Int32) then (
   some ((2 : Int32), M))
  else (
   (if a0 = (45 : Int32) then (
    some ((3 : Int32), M))
   else (
    (if a0 = (42 : Int32) then (
     some ((4 : Int32), M))
    else (
     (if a0 = (47 : Int32) then (
      some ((5 : Int32), M))
     else (
      (if a0 = (37 : Int32) then (
       some ((6 : Int32), M))
      else (
       some ((-1 : Int32), M)))))))))))
def f12_sumSign (n : Nat) (a0 : Int32) (M : Mem) : Option (Int32 × Mem) := b12_sumSign_0 (fun _ _ _ _ => none) n a0 M
abbrev rm12_sumSign : Room := { frames := 0, cells := 0, slots := 0, locals := 0 }
theorem y12_sumSign_w : yS yX12_sumSign cX12_sumSign 1 (some .int) 1 := ⟨g_1370, g_14, g_1371, by decide, by decide, by decide +kernel⟩
set_option maxHeartbeats 4000000 in
set_option maxRecDepth 100000 in
theorem w12_sumSign_0 {p : Program} {l : Launch} {e : Env} {s : State} {m : MethodId} {args : Array Value} {below : List Frame} {meth : Method} {c : Code} {z : Zt} {b : Nat}  (C : Cx p s m args c cX12_sumSign 1 RX12 z 32 b) (hr : meth.sig.returnType = (some .int)) (hk : meth.locks = false) {r : Int32} {M' : Mem} {rc : Nat → List Int32 → List Int64 → Mem → Option (Int32 × Mem)} {n : Nat}  {a0 : Int32} {M : Mem} {H : Heap} {locs : List Loc} {ls : Array Slot} (hf : b12_sumSign_0  rc n a0 M = some (r, M')) (hP : va_P z.1 vwCl (pw (yd z b) 32 b M) H) (hS : va_S (pA 32 b) s.heap H locs) (hl : lv_has ls 1 [(0, .int a0)]) : W p l e rm12_sumSign s m args below meth c H locs 0 0 (MQ below (va_Qi (fun (r' : Int32) (M2 : Mem) => r' = r ∧ M2 = M') (fun M2 t => va_P z.1 vwCl (pw (yd z b) 32 b M2) t.heap) (pA 32 b)) args s 0 0 (pA 32 b)) (F0 m 0 ls []) := by
  have hx := C.1.1
  have hb := C.1.2.1
  unfold b12_sumSign_0 at hf
  refine lv_iload_n hx hb dX12_sumSign_0 rfl (lv_at hl 0 rfl) ?_
  refine lv_bipush (v := (43 : Int32)) hx hb dX12_sumSign_1 (by decide) ?_
  refine lv_icmp_ne (tgt := 10) hx hb dX12_sumSign_3 (by decide) (fun c1 => ?_) (fun c1 => ?_)
  · replace hf := ite_f c1 hf
    refine lv_iload_n hx hb dX12_sumSign_10 rfl (lv_at hl 0 rfl) ?_
    refine lv_bipush (v := (45 : Int32)) hx hb dX12_sumSign_11 (by decide) ?_
    refine lv_icmp_ne (tgt := 20) hx hb dX12_sumSign_13 (by decide) (fun c2 => ?_) (fun c2 => ?_)
    · replace hf := ite_f c2 hf
      refine lv_iload_n hx hb dX12_sumSign_20 rfl (lv_at hl 0 rfl) ?_
      refine lv_bipush (v := (42 : Int32)) hx hb dX12_sumSign_21 (by decide) ?_
      refine lv_icmp_ne (tgt := 30) hx hb dX12_sumSign_23 (by decide) (fun c3 => ?_) (fun c3 => ?_)
      · replace hf := ite_f c3 hf
        refine lv_iload_n hx hb dX12_sumSign_30 rfl (lv_at hl 0 rfl) ?_
        refine lv_bipush (v := (47 : Int32)) hx hb dX12_sumSign_31 (by decide) ?_
        refine lv_icmp_ne (tgt := 40) hx hb dX12_sumSign_33 (by decide) (fun c4 => ?_) (fun c4 => ?_)
        · replace hf := ite_f c4 hf
          refine lv_iload_n hx hb dX12_sumSign_40 rfl (lv_at hl 0 rfl) ?_
          refine lv_bipush (v := (37 : Int32)) hx hb dX12_sumSign_41 (by decide) ?_
          refine lv_icmp_ne (tgt := 51) hx hb dX12_sumSign_43 (by decide) (fun c5 => ?_) (fun c5 => ?_)
          · replace hf := ite_f c5 hf
            refine lv_iconst (v := (-1 : Int32)) hx hb dX12_sumSign_51 (by decide) ?_
            exact prI C hr hk hP hS hf dX12_sumSign_52
          · replace hf := ite_t c5 hf
            refine lv_bipush (v := (6 : Int32)) hx hb dX12_sumSign_46 (by decide) ?_
            refine lv_goto (tgt := 52) hx hb dX12_sumSign_48 (by decide) ?_
            exact prI C hr hk hP hS hf dX12_sumSign_52
        · replace hf := ite_t c4 hf
          refine lv_iconst (v := (5 : Int32)) hx hb dX12_sumSign_36 (by decide) ?_
          refine lv_goto (tgt := 52) hx hb dX12_sumSign_37 (by decide) ?_
          exact prI C hr hk hP hS hf dX12_sumSign_52
      · replace hf := ite_t c3 hf
        refine lv_iconst (v := (4 : Int32)) hx hb dX12_sumSign_26 (by decide) ?_
        refine lv_goto (tgt := 52) hx hb dX12_sumSign_27 (by decide) ?_
        exact prI C hr hk hP hS hf dX12_sumSign_52
    · replace hf := ite_t c2 hf
      refine lv_iconst (v := (3 : Int32)) hx hb dX12_sumSign_16 (by decide) ?_
      refine lv_goto (tgt := 52) hx hb dX12_sumSign_17 (by decide) ?_
      exact prI C hr hk hP hS hf dX12_sumSign_52
  · replace hf := ite_t c1 hf
    refine lv_iconst (v := (2 : Int32)) hx hb dX12_sumSign_6 (by decide) ?_
    refine lv_goto (tgt := 52) hx hb dX12_sumSign_7 (by decide) ?_
    exact prI C hr hk hP hS hf dX12_sumSign_52
theorem c12_sumSign {l : Launch} {z : Zt} {b n : Nat}  {a0 : Int32} {M M' : Mem} {r : Int32} (hf : f12_sumSign n  a0 M = some (r, M')) : CI l z (yd z b) 32 b yX12_sumSign cX12_sumSign 1 (some .int) rm12_sumSign [.int a0] M M' r :=
  CI.ofW (lv := [(0, .int a0)]) (by decide) (Nat.le_of_ble_eq_true rfl) rfl (fun p e s m args below meth c ls C hr hk hP hS hl => w12_sumSign_0 (n := n)  C hr hk  hf hP hS hl)

-- BronzeKingModel.closesSums(Z)V
theorem dX12_closesSums_0 : decode cX12_closesSums 0 = .ok (.aload_n 0, 1) := by decide +kernel
theorem dX12_closesSums_1 : decode cX12_closesSums 1 = .ok (.invokevirtual 176, 3) := by decide +kernel
theorem dX12_closesSums_4 : decode cX12_closesSums 4 = .ok (.iconst 4, 1) := by decide +kernel
theorem dX12_closesSums_5 : decode cX12_closesSums 5 = .ok (.if_icmp .lt 12, 3) := by decide +kernel
theorem dX12_closesSums_8 : decode cX12_closesSums 8 = .ok (.aload_n 0, 1) := by decide +kernel
theorem dX12_closesSums_9 : decode cX12_closesSums 9 = .ok (.invokevirtual 176, 3) := by decide +kernel
theorem dX12_closesSums_12 : decode cX12_closesSums 12 = .ok (.bipush 6, 2) := by decide +kernel
theorem dX12_closesSums_14 : decode cX12_closesSums 14 = .ok (.if_icmp .le 23, 3) := by decide +kernel
theorem dX12_closesSums_17 : decode cX12_closesSums 17 = .ok (.iload_n 1, 1) := by decide +kernel
theorem dX12_closesSums_18 : decode cX12_closesSums 18 = .ok (.ifCond .eq 41, 3) := by decide +kernel
theorem dX12_closesSums_21 : decode cX12_closesSums 21 = .ok (.aload_n 0, 1) := by decide +kernel
theorem dX12_closesSums_22 : decode cX12_closesSums 22 = .ok (.invokevirtual 176, 3) := by decide +kernel
theorem dX12_closesSums_25 : decode cX12_closesSums 25 = .ok (.iconst 2, 1) := by decide +kernel
theorem dX12_closesSums_26 : decode cX12_closesSums 26 = .ok (.if_icmp .eq 11, 3) := by decide +kernel
theorem dX12_closesSums_29 : decode cX12_closesSums 29 = .ok (.aload_n 0, 1) := by decide +kernel
theorem dX12_closesSums_30 : decode cX12_closesSums 30 = .ok (.invokevirtual 176, 3) := by decide +kernel
theorem dX12_closesSums_33 : decode cX12_closesSums 33 = .ok (.iconst 3, 1) := by decide +kernel
theorem dX12_closesSums_34 : decode cX12_closesSums 34 = .ok (.if_icmp .ne 25, 3) := by decide +kernel
theorem dX12_closesSums_37 : decode cX12_closesSums 37 = .ok (.aload_n 0, 1) := by decide +kernel
theorem dX12_closesSums_38 : decode cX12_closesSums 38 = .ok (.aload_n 0, 1) := by decide +kernel
theorem dX12_closesSums_39 : decode cX12_closesSums 39 = .ok (.invokevirtual 176, 3) := by decide +kernel
theorem dX12_closesSums_42 : decode cX12_closesSums 42 = .ok (.iconst 0, 1) := by decide +kernel
theorem dX12_closesSums_43 : decode cX12_closesSums 43 = .ok (.invokevirtual 179, 3) := by decide +kernel
theorem dX12_closesSums_46 : decode cX12_closesSums 46 = .ok (.aload_n 0, 1) := by decide +kernel
theorem dX12_closesSums_47 : decode cX12_closesSums 47 = .ok (.aload_n 0, 1) := by decide +kernel
theorem dX12_closesSums_48 : decode cX12_closesSums 48 = .ok (.getfield 173, 3) := by decide +kernel
theorem dX12_closesSums_51 : decode cX12_closesSums 51 = .ok (.iconst 1, 1) := by decide +kernel
theorem dX12_closesSums_52 : decode cX12_closesSums 52 = .ok (.isub, 1) := by decide +kernel
theorem dX12_closesSums_53 : decode cX12_closesSums 53 = .ok (.putfield 173, 3) := by decide +kernel
theorem dX12_closesSums_56 : decode cX12_closesSums 56 = .ok (.goto (-56), 3) := by decide +kernel
theorem dX12_closesSums_59 : decode cX12_closesSums 59 = .ok (.return_, 1) := by decide +kernel
def b12_closesSums_37 (rc : Nat → List Int32 → List Int64 → Mem → Option (Unit × Mem)) (n : Nat) (i1 : Int32) (M : Mem) : Option (Unit × Mem) :=
  bnd (f12_waitTop n M) fun r9 M10 =>
  bnd (f12_codesOf n r9 (0 : Int32) M10) fun r12 M13 =>
  lt (wI M13 0 18 ((M13.1 0 18) - (1 : Int32))) fun M15 =>
  rc 0 [i1] [] M15
def b12_closesSums_17 (rc : Nat → List Int32 → List Int64 → Mem → Option (Unit × Mem)) (n : Nat) (i1 : Int32) (M : Mem) : Option (Unit × Mem) :=
  (if i1 = 0 then (
   some ((), M))
  else (
   bnd (f12_waitTop n M) fun r17 M18 =>
   (if r17 = (2 : Int32) then (
    b12_closesSums_37  rc n i1 M18)
   else (
    bnd (f12_waitTop n M18) fun r21 M22 =>
    (if r21 = (3 : Int32) then (
     b12_closesSums_37  rc n i1 M22)
    else (
     some ((), M22)))))))
def b12_closesSums_0 (rc : Nat → List Int32 → List Int64 → Mem → Option (Unit × Mem)) (n : Nat) (i1 : Int32) (M : Mem) : Option (Unit × Mem) :=
  bnd (f12_waitTop n M) fun r1 M2 =>
  (if r1 < (4 : Int32) then (
   b12_closesSums_17  rc n i1 M2)
  else (
   bnd (f12_waitTop n M2) fun r5 M6 =>
   (if r5 ≤ (6 : Int32) then (
    b12_closesSums_37  rc n i1 M6)
   else (
    b12_closesSums_17  rc n i1 M6))))
def r12_closesSums : Nat → Nat → List Int32 → List Int64 → Mem → Option (Unit × Mem)
  | 0 => fun _ _ _ _ => none
  | n + 1 => fun pc li lj M =>
    if pc = 0 then (match li, lj with | [i1], [] => b12_closesSums_0  (r12_closesSums  n) n i1 M | _, _ => none) else
    none
theorem e12_closesSums_0  (n : Nat) (i1 : Int32) (M : Mem) : r12_closesSums  (n + 1) 0 [i1] [] M = b12_closesSums_0  (r12_closesSums  n) n i1 M := by
  rw [r12_closesSums]
  simp
def f12_closesSums (n : Nat) (a1 : Int32) (M : Mem) : Option (Unit × Mem) := b12_closesSums_0 (r12_closesSums n) n a1 M
abbrev rm12_closesSums : Room := { frames := 1, cells := 0, slots := 0, locals := 22 }
theorem y12_closesSums_w : yV RX12 yX12_closesSums cX12_closesSums 2 none 1 := ⟨g_1374, gp 47 rfl rfl, g_14, g_1375, rfl, by decide, by decide, by decide +kernel⟩
set_option maxHeartbeats 4000000 in
set_option maxRecDepth 100000 in
theorem w12_closesSums_37 {p : Program} {l : Launch} {e : Env} {s : State} {m : MethodId} {args : Array Value} {below : List Frame} {meth : Method} {c : Code} {z : Zt} {b : Nat}  (C : Cx p s m args c cX12_closesSums 2 RX12 z 32 b) (hr : meth.sig.returnType = none) (hk : meth.locks = false) {r : Unit} {M' : Mem} {rc : Nat → List Int32 → List Int64 → Mem → Option (Unit × Mem)} {n : Nat} (q0 : ∀ (i1 : Int32) (M : Mem) (H : Heap) (locs : List Loc) (ls : Array Slot), rc 0 [i1] [] M = some (r, M') → va_P z.1 vwCl (pw (yd z b) 32 b M) H → va_S (pA 32 b) s.heap H locs → lv_has ls 2 [(0, .ref (b + 0)), (1, .int i1)] → W p l e rm12_closesSums s m args below meth c H locs 0 0 (MQ below (va_Qv (fun (M2 : Mem) => M2 = M') (fun M2 t => va_P z.1 vwCl (pw (yd z b) 32 b M2) t.heap) (pA 32 b)) args s 0 0 (pA 32 b)) (F0 m 0 ls [])) {i1 : Int32} {M : Mem} {H : Heap} {locs : List Loc} {ls : Array Slot} (hf : b12_closesSums_37  rc n i1 M = some (r, M')) (hP : va_P z.1 vwCl (pw (yd z b) 32 b M) H) (hS : va_S (pA 32 b) s.heap H locs) (hl : lv_has ls 2 [(0, .ref (b + 0)), (1, .int i1)]) : W p l e rm12_closesSums s m args below meth c H locs 0 0 (MQ below (va_Qv (fun (M2 : Mem) => M2 = M') (fun M2 t => va_P z.1 vwCl (pw (yd z b) 32 b M2) t.heap) (pA 32 b)) args s 0 0 (pA 32 b)) (F0 m 37 ls []) := by
  have hx := C.1.1
  have hb := C.1.2.1
  unfold b12_closesSums_37 at hf
  refine lv_aload_n hx hb dX12_closesSums_37 rfl (lv_at hl 0 rfl) ?_
  refine lv_aload_n hx hb dX12_closesSums_38 rfl (lv_at hl 0 rfl) ?_
  obtain ⟨r9, M10, h11, hf⟩ := bnd_s hf
  refine pcVi (As := []) C hP hS (k := 0) (Nat.le_of_ble_eq_true rfl) (yd_0 _ _) rfl (c12_waitTop  h11) y12_waitTop_w g_1376 rfl rfl rfl ⟨Nat.le_of_ble_eq_true rfl, Nat.le_of_ble_eq_true rfl⟩ hl.1 rfl (Nat.le_of_ble_eq_true rfl) dX12_closesSums_39 ⟨Nat.le_of_ble_eq_true rfl, Nat.le_of_ble_eq_true rfl⟩ (fun H locs hP hS => ?_)
  refine lv_iconst (v := (0 : Int32)) hx hb dX12_closesSums_42 (by decide) ?_
  obtain ⟨r12, M13, h14, hf⟩ := bnd_s hf
  refine pcVv (As := [.int r9, .int (0 : Int32)]) C hP hS (k := 0) (Nat.le_of_ble_eq_true rfl) (yd_0 _ _) rfl (c12_codesOf  h14) y12_codesOf_w g_1362 rfl rfl rfl ⟨Nat.le_of_ble_eq_true rfl, Nat.le_of_ble_eq_true rfl⟩ hl.1 rfl (Nat.le_of_ble_eq_true rfl) dX12_closesSums_43 ⟨Nat.le_of_ble_eq_true rfl, Nat.le_of_ble_eq_true rfl⟩ (fun H locs hP hS => ?_)
  refine lv_aload_n hx hb dX12_closesSums_46 rfl (lv_at hl 0 rfl) ?_
  refine lv_aload_n hx hb dX12_closesSums_47 rfl (lv_at hl 0 rfl) ?_
  refine pg C hP (k := 0) (j := 18) (Nat.le_of_ble_eq_true rfl) (yd_0 _ _) rfl iw_12 (Nat.le_of_ble_eq_true rfl) g_1153 rfl rfl dX12_closesSums_48 ?_
  refine lv_iconst (v := (1 : Int32)) hx hb dX12_closesSums_51 (by decide) ?_
  refine lv_isub hx hb dX12_closesSums_52 ?_
  refine ppI C hP hS (k := 0) (j := 18) (ty := .int) (Nat.le_of_ble_eq_true rfl) (yd_0 _ _) rfl iw_12 tyX12 tyX12_ok nmX12 (Nat.le_of_ble_eq_true rfl) g_1153 rfl rfl (by decide +kernel) rfl rfl (Nat.le_of_ble_eq_true rfl) (yu_0_18 _ _ _) dX12_closesSums_53 (fun M15 H locs eM15 hP hS => ?_)
  replace hf := lt_c eM15 hf
  refine lv_goto (tgt := 0) hx hb dX12_closesSums_56 (by decide) ?_
  exact q0 i1 M15 _ _ _ hf hP hS (lv_sub hl [0, 1] rfl)
set_option maxHeartbeats 4000000 in
set_option maxRecDepth 100000 in
theorem w12_closesSums_17 {p : Program} {l : Launch} {e : Env} {s : State} {m : MethodId} {args : Array Value} {below : List Frame} {meth : Method} {c : Code} {z : Zt} {b : Nat}  (C : Cx p s m args c cX12_closesSums 2 RX12 z 32 b) (hr : meth.sig.returnType = none) (hk : meth.locks = false) {r : Unit} {M' : Mem} {rc : Nat → List Int32 → List Int64 → Mem → Option (Unit × Mem)} {n : Nat} (q0 : ∀ (i1 : Int32) (M : Mem) (H : Heap) (locs : List Loc) (ls : Array Slot), rc 0 [i1] [] M = some (r, M') → va_P z.1 vwCl (pw (yd z b) 32 b M) H → va_S (pA 32 b) s.heap H locs → lv_has ls 2 [(0, .ref (b + 0)), (1, .int i1)] → W p l e rm12_closesSums s m args below meth c H locs 0 0 (MQ below (va_Qv (fun (M2 : Mem) => M2 = M') (fun M2 t => va_P z.1 vwCl (pw (yd z b) 32 b M2) t.heap) (pA 32 b)) args s 0 0 (pA 32 b)) (F0 m 0 ls [])) {i1 : Int32} {M : Mem} {H : Heap} {locs : List Loc} {ls : Array Slot} (hf : b12_closesSums_17  rc n i1 M = some (r, M')) (hP : va_P z.1 vwCl (pw (yd z b) 32 b M) H) (hS : va_S (pA 32 b) s.heap H locs) (hl : lv_has ls 2 [(0, .ref (b + 0)), (1, .int i1)]) : W p l e rm12_closesSums s m args below meth c H locs 0 0 (MQ below (va_Qv (fun (M2 : Mem) => M2 = M') (fun M2 t => va_P z.1 vwCl (pw (yd z b) 32 b M2) t.heap) (pA 32 b)) args s 0 0 (pA 32 b)) (F0 m 17 ls []) := by
  have hx := C.1.1
  have hb := C.1.2.1
  unfold b12_closesSums_17 at hf
  refine lv_iload_n hx hb dX12_closesSums_17 rfl (lv_at hl 1 rfl) ?_
  refine lv_if_eq (tgt := 59) hx hb dX12_closesSums_18 (by decide) (fun c16 => ?_) (fun c16 => ?_)
  · replace hf := ite_t c16 hf
    exact prV C hr hk hP hS hf dX12_closesSums_59
  · replace hf := ite_f c16 hf
    refine lv_aload_n hx hb dX12_closesSums_21 rfl (lv_at hl 0 rfl) ?_
    obtain ⟨r17, M18, h19, hf⟩ := bnd_s hf
    refine pcVi (As := []) C hP hS (k := 0) (Nat.le_of_ble_eq_true rfl) (yd_0 _ _) rfl (c12_waitTop  h19) y12_waitTop_w g_1376 rfl rfl rfl ⟨Nat.le_of_ble_eq_true rfl, Nat.le_of_ble_eq_true rfl⟩ hl.1 rfl (Nat.le_of_ble_eq_true rfl) dX12_closesSums_22 ⟨Nat.le_of_ble_eq_true rfl, Nat.le_of_ble_eq_true rfl⟩ (fun H locs hP hS => ?_)
    refine lv_iconst (v := (2 : Int32)) hx hb dX12_closesSums_25 (by decide) ?_
    refine lv_icmp_eq (tgt := 37) hx hb dX12_closesSums_26 (by decide) (fun c20 => ?_) (fun c20 => ?_)
    · replace hf := ite_t c20 hf
      exact w12_closesSums_37 (n := n)  C hr hk q0 hf hP hS (lv_sub hl [0, 1] rfl)
    · replace hf := ite_f c20 hf
      refine lv_aload_n hx hb dX12_closesSums_29 rfl (lv_at hl 0 rfl) ?_
      obtain ⟨r21, M22, h23, hf⟩ := bnd_s hf
      refine pcVi (As := []) C hP hS (k := 0) (Nat.le_of_ble_eq_true rfl) (yd_0 _ _) rfl (c12_waitTop  h23) y12_waitTop_w g_1376 rfl rfl rfl ⟨Nat.le_of_ble_eq_true rfl, Nat.le_of_ble_eq_true rfl⟩ hl.1 rfl (Nat.le_of_ble_eq_true rfl) dX12_closesSums_30 ⟨Nat.le_of_ble_eq_true rfl, Nat.le_of_ble_eq_true rfl⟩ (fun H locs hP hS => ?_)
      refine lv_iconst (v := (3 : Int32)) hx hb dX12_closesSums_33 (by decide) ?_
      refine lv_icmp_ne (tgt := 59) hx hb dX12_closesSums_34 (by decide) (fun c24 => ?_) (fun c24 => ?_)
      · replace hf := ite_f c24 hf
        exact prV C hr hk hP hS hf dX12_closesSums_59
      · replace hf := ite_t c24 hf
        exact w12_closesSums_37 (n := n)  C hr hk q0 hf hP hS (lv_sub hl [0, 1] rfl)
set_option maxHeartbeats 4000000 in
set_option maxRecDepth 100000 in
theorem w12_closesSums_0 {p : Program} {l : Launch} {e : Env} {s : State} {m : MethodId} {args : Array Value} {below : List Frame} {meth : Method} {c : Code} {z : Zt} {b : Nat}  (C : Cx p s m args c cX12_closesSums 2 RX12 z 32 b) (hr : meth.sig.returnType = none) (hk : meth.locks = false) {r : Unit} {M' : Mem} {rc : Nat → List Int32 → List Int64 → Mem → Option (Unit × Mem)} {n : Nat} (q0 : ∀ (i1 : Int32) (M : Mem) (H : Heap) (locs : List Loc) (ls : Array Slot), rc 0 [i1] [] M = some (r, M') → va_P z.1 vwCl (pw (yd z b) 32 b M) H → va_S (pA 32 b) s.heap H locs → lv_has ls 2 [(0, .ref (b + 0)), (1, .int i1)] → W p l e rm12_closesSums s m args below meth c H locs 0 0 (MQ below (va_Qv (fun (M2 : Mem) => M2 = M') (fun M2 t => va_P z.1 vwCl (pw (yd z b) 32 b M2) t.heap) (pA 32 b)) args s 0 0 (pA 32 b)) (F0 m 0 ls [])) {i1 : Int32} {M : Mem} {H : Heap} {locs : List Loc} {ls : Array Slot} (hf : b12_closesSums_0  rc n i1 M = some (r, M')) (hP : va_P z.1 vwCl (pw (yd z b) 32 b M) H) (hS : va_S (pA 32 b) s.heap H locs) (hl : lv_has ls 2 [(0, .ref (b + 0)), (1, .int i1)]) : W p l e rm12_closesSums s m args below meth c H locs 0 0 (MQ below (va_Qv (fun (M2 : Mem) => M2 = M') (fun M2 t => va_P z.1 vwCl (pw (yd z b) 32 b M2) t.heap) (pA 32 b)) args s 0 0 (pA 32 b)) (F0 m 0 ls []) := by
  have hx := C.1.1
  have hb := C.1.2.1
  unfold b12_closesSums_0 at hf
  refine lv_aload_n hx hb dX12_closesSums_0 rfl (lv_at hl 0 rfl) ?_
  obtain ⟨r1, M2, h3, hf⟩ := bnd_s hf
  refine pcVi (As := []) C hP hS (k := 0) (Nat.le_of_ble_eq_true rfl) (yd_0 _ _) rfl (c12_waitTop  h3) y12_waitTop_w g_1376 rfl rfl rfl ⟨Nat.le_of_ble_eq_true rfl, Nat.le_of_ble_eq_true rfl⟩ hl.1 rfl (Nat.le_of_ble_eq_true rfl) dX12_closesSums_1 ⟨Nat.le_of_ble_eq_true rfl, Nat.le_of_ble_eq_true rfl⟩ (fun H locs hP hS => ?_)
  refine lv_iconst (v := (4 : Int32)) hx hb dX12_closesSums_4 (by decide) ?_
  refine lv_icmp_lt (tgt := 17) hx hb dX12_closesSums_5 (by decide) (fun c4 => ?_) (fun c4 => ?_)
  · replace hf := ite_t c4 hf
    exact w12_closesSums_17 (n := n)  C hr hk q0 hf hP hS (lv_sub hl [0, 1] rfl)
  · replace hf := ite_f c4 hf
    refine lv_aload_n hx hb dX12_closesSums_8 rfl (lv_at hl 0 rfl) ?_
    obtain ⟨r5, M6, h7, hf⟩ := bnd_s hf
    refine pcVi (As := []) C hP hS (k := 0) (Nat.le_of_ble_eq_true rfl) (yd_0 _ _) rfl (c12_waitTop  h7) y12_waitTop_w g_1376 rfl rfl rfl ⟨Nat.le_of_ble_eq_true rfl, Nat.le_of_ble_eq_true rfl⟩ hl.1 rfl (Nat.le_of_ble_eq_true rfl) dX12_closesSums_9 ⟨Nat.le_of_ble_eq_true rfl, Nat.le_of_ble_eq_true rfl⟩ (fun H locs hP hS => ?_)
    refine lv_bipush (v := (6 : Int32)) hx hb dX12_closesSums_12 (by decide) ?_
    refine lv_icmp_le (tgt := 37) hx hb dX12_closesSums_14 (by decide) (fun c8 => ?_) (fun c8 => ?_)
    · replace hf := ite_t c8 hf
      exact w12_closesSums_37 (n := n)  C hr hk q0 hf hP hS (lv_sub hl [0, 1] rfl)
    · replace hf := ite_f c8 hf
      exact w12_closesSums_17 (n := n)  C hr hk q0 hf hP hS (lv_sub hl [0, 1] rfl)
set_option maxHeartbeats 4000000 in
set_option maxRecDepth 100000 in
theorem l12_closesSums {p : Program} {l : Launch} {e : Env} {s : State} {m : MethodId} {args : Array Value} {below : List Frame} {meth : Method} {c : Code} {z : Zt} {b : Nat}  (C : Cx p s m args c cX12_closesSums 2 RX12 z 32 b) (hr : meth.sig.returnType = none) (hk : meth.locks = false) {r : Unit} {M' : Mem} (n : Nat) : (∀ (i1 : Int32) (M : Mem) (H : Heap) (locs : List Loc) (ls : Array Slot), (r12_closesSums  n) 0 [i1] [] M = some (r, M') → va_P z.1 vwCl (pw (yd z b) 32 b M) H → va_S (pA 32 b) s.heap H locs → lv_has ls 2 [(0, .ref (b + 0)), (1, .int i1)] → W p l e rm12_closesSums s m args below meth c H locs 0 0 (MQ below (va_Qv (fun (M2 : Mem) => M2 = M') (fun M2 t => va_P z.1 vwCl (pw (yd z b) 32 b M2) t.heap) (pA 32 b)) args s 0 0 (pA 32 b)) (F0 m 0 ls [])) := by
  induction n with
  | zero => exact fun _ _ _ _ _ hf => (by cases hf)
  | succ n ih => exact fun _ _ _ _ _ hf hP hS hl => w12_closesSums_0 (n := n)  C hr hk ih ((e12_closesSums_0  n _ _).symm.trans hf) hP hS hl
theorem c12_closesSums {l : Launch} {z : Zt} {b n : Nat}  {a1 : Int32} {M M' : Mem} {r : Unit} (hf : f12_closesSums n  a1 M = some (r, M')) : CV l z (yd z b) 32 b yX12_closesSums cX12_closesSums 2 none rm12_closesSums [.ref (b + 0), .int a1] M M' :=
  CV.ofW (lv := [(0, .ref (b + 0)), (1, .int a1)]) (by decide) (Nat.le_of_ble_eq_true rfl) rfl (fun p e s m args below meth c ls C hr hk hP hS hl => w12_closesSums_0 (n := n)  C hr hk (l12_closesSums  C hr hk n) hf hP hS (lv_sub hl [0, 1] rfl))

-- BronzeKingModel.readsFactor()Z
theorem dX12_readsFactor_0 : decode cX12_readsFactor 0 = .ok (.aload_n 0, 1) := by decide +kernel
theorem dX12_readsFactor_1 : decode cX12_readsFactor 1 = .ok (.invokevirtual 149, 3) := by decide +kernel
theorem dX12_readsFactor_4 : decode cX12_readsFactor 4 = .ok (.bipush 91, 2) := by decide +kernel
theorem dX12_readsFactor_6 : decode cX12_readsFactor 6 = .ok (.if_icmp .ne 14, 3) := by decide +kernel
theorem dX12_readsFactor_9 : decode cX12_readsFactor 9 = .ok (.aload_n 0, 1) := by decide +kernel
theorem dX12_readsFactor_10 : decode cX12_readsFactor 10 = .ok (.bipush 14, 2) := by decide +kernel
theorem dX12_readsFactor_12 : decode cX12_readsFactor 12 = .ok (.invokevirtual 183, 3) := by decide +kernel
theorem dX12_readsFactor_15 : decode cX12_readsFactor 15 = .ok (.ifCond .ne (-15), 3) := by decide +kernel
theorem dX12_readsFactor_18 : decode cX12_readsFactor 18 = .ok (.iconst 0, 1) := by decide +kernel
theorem dX12_readsFactor_19 : decode cX12_readsFactor 19 = .ok (.ireturn, 1) := by decide +kernel
theorem dX12_readsFactor_20 : decode cX12_readsFactor 20 = .ok (.aload_n 0, 1) := by decide +kernel
theorem dX12_readsFactor_21 : decode cX12_readsFactor 21 = .ok (.invokevirtual 162, 3) := by decide +kernel
theorem dX12_readsFactor_24 : decode cX12_readsFactor 24 = .ok (.ifCond .eq 23, 3) := by decide +kernel
theorem dX12_readsFactor_27 : decode cX12_readsFactor 27 = .ok (.aload_n 0, 1) := by decide +kernel
theorem dX12_readsFactor_28 : decode cX12_readsFactor 28 = .ok (.invokevirtual 186, 3) := by decide +kernel
theorem dX12_readsFactor_31 : decode cX12_readsFactor 31 = .ok (.ifCond .ne 5, 3) := by decide +kernel
theorem dX12_readsFactor_34 : decode cX12_readsFactor 34 = .ok (.iconst 0, 1) := by decide +kernel
theorem dX12_readsFactor_35 : decode cX12_readsFactor 35 = .ok (.ireturn, 1) := by decide +kernel
theorem dX12_readsFactor_36 : decode cX12_readsFactor 36 = .ok (.aload_n 0, 1) := by decide +kernel
theorem dX12_readsFactor_37 : decode cX12_readsFactor 37 = .ok (.iconst 0, 1) := by decide +kernel
theorem dX12_readsFactor_38 : decode cX12_readsFactor 38 = .ok (.aload_n 0, 1) := by decide +kernel
theorem dX12_readsFactor_39 : decode cX12_readsFactor 39 = .ok (.getfield 159, 3) := by decide +kernel
theorem dX12_readsFactor_42 : decode cX12_readsFactor 42 = .ok (.invokevirtual 179, 3) := by decide +kernel
theorem dX12_readsFactor_45 : decode cX12_readsFactor 45 = .ok (.iconst 1, 1) := by decide +kernel
theorem dX12_readsFactor_46 : decode cX12_readsFactor 46 = .ok (.ireturn, 1) := by decide +kernel
theorem dX12_readsFactor_47 : decode cX12_readsFactor 47 = .ok (.aload_n 0, 1) := by decide +kernel
theorem dX12_readsFactor_48 : decode cX12_readsFactor 48 = .ok (.invokevirtual 149, 3) := by decide +kernel
theorem dX12_readsFactor_51 : decode cX12_readsFactor 51 = .ok (.invokestatic 189, 3) := by decide +kernel
theorem dX12_readsFactor_54 : decode cX12_readsFactor 54 = .ok (.istore_n 1, 1) := by decide +kernel
theorem dX12_readsFactor_55 : decode cX12_readsFactor 55 = .ok (.iload_n 1, 1) := by decide +kernel
theorem dX12_readsFactor_56 : decode cX12_readsFactor 56 = .ok (.iconst (-1), 1) := by decide +kernel
theorem dX12_readsFactor_57 : decode cX12_readsFactor 57 = .ok (.if_icmp .ne 13, 3) := by decide +kernel
theorem dX12_readsFactor_60 : decode cX12_readsFactor 60 = .ok (.aload_n 0, 1) := by decide +kernel
theorem dX12_readsFactor_61 : decode cX12_readsFactor 61 = .ok (.iconst 1, 1) := by decide +kernel
theorem dX12_readsFactor_62 : decode cX12_readsFactor 62 = .ok (.aload_n 0, 1) := by decide +kernel
theorem dX12_readsFactor_63 : decode cX12_readsFactor 63 = .ok (.getfield 143, 3) := by decide +kernel
theorem dX12_readsFactor_66 : decode cX12_readsFactor 66 = .ok (.invokevirtual 156, 3) := by decide +kernel
theorem dX12_readsFactor_69 : decode cX12_readsFactor 69 = .ok (.ireturn, 1) := by decide +kernel
theorem dX12_readsFactor_70 : decode cX12_readsFactor 70 = .ok (.aload_n 0, 1) := by decide +kernel
theorem dX12_readsFactor_71 : decode cX12_readsFactor 71 = .ok (.iconst 1, 1) := by decide +kernel
theorem dX12_readsFactor_72 : decode cX12_readsFactor 72 = .ok (.iload_n 1, 1) := by decide +kernel
theorem dX12_readsFactor_73 : decode cX12_readsFactor 73 = .ok (.invokevirtual 179, 3) := by decide +kernel
theorem dX12_readsFactor_76 : decode cX12_readsFactor 76 = .ok (.aload_n 0, 1) := by decide +kernel
theorem dX12_readsFactor_77 : decode cX12_readsFactor 77 = .ok (.aload_n 0, 1) := by decide +kernel
theorem dX12_readsFactor_78 : decode cX12_readsFactor 78 = .ok (.getfield 143, 3) := by decide +kernel
theorem dX12_readsFactor_81 : decode cX12_readsFactor 81 = .ok (.iconst 1, 1) := by decide +kernel
theorem dX12_readsFactor_82 : decode cX12_readsFactor 82 = .ok (.iadd, 1) := by decide +kernel
theorem dX12_readsFactor_83 : decode cX12_readsFactor 83 = .ok (.putfield 143, 3) := by decide +kernel
theorem dX12_readsFactor_86 : decode cX12_readsFactor 86 = .ok (.iconst 1, 1) := by decide +kernel
theorem dX12_readsFactor_87 : decode cX12_readsFactor 87 = .ok (.ireturn, 1) := by decide +kernel
def b12_readsFactor_0 (rc : Nat → List Int32 → List Int64 → Mem → Option (Int32 × Mem)) (n : Nat) (M : Mem) : Option (Int32 × Mem) :=
  bnd (f12_here n M) fun r1 M2 =>
  (if r1 = (91 : Int32) then (
   bnd (f12_opens n (14 : Int32) M2) fun r31 M32 =>
   (if r31 = 0 then (
    some ((0 : Int32), M32))
   else (
    rc 0 [] [] M32)))
  else (
   bnd (f12_isDigit n M2) fun r5 M6 =>
   (if r5 = 0 then (
    bnd (f12_here n M6) fun r9 M10 =>
    bnd (f12_factOf n r9 M10) fun r12 M13 =>
    (if r12 = (-1 : Int32) then (
     bnd (f12_wrongAt n (1 : Int32) (M13.1 0 12) M13) fun r20 M21 =>
     chk (isb r20) <|
     some (r20, M21))
    else (
     bnd (f12_codesOf n (1 : Int32) r12 M13) fun r16 M17 =>
     lt (wI M17 0 12 ((M17.1 0 12) + (1 : Int32))) fun M19 =>
     some ((1 : Int32), M19))))
   else (
    bnd (f12_readsNumber n M6) fun r24 M25 =>
    (if r24 = 0 then (
     some ((0 : Int32), M25))
    else (
     bnd (f12_codesOf n (0 : Int32) (M25.1 0 15) M25) fun r28 M29 =>
     some ((1 : Int32), M29)))))))
def r12_readsFactor : Nat → Nat → List Int32 → List Int64 → Mem → Option (Int32 × Mem)
  | 0 => fun _ _ _ _ => none
  | n + 1 => fun pc li lj M =>
    if pc = 0 then (match li, lj with | [], [] => b12_readsFactor_0  (r12_readsFactor  n) n  M | _, _ => none) else
    none
theorem e12_readsFactor_0  (n : Nat)  (M : Mem) : r12_readsFactor  (n + 1) 0 [] [] M = b12_readsFactor_0  (r12_readsFactor  n) n  M := by
  rw [r12_readsFactor]
  simp
def f12_readsFactor (n : Nat)  (M : Mem) : Option (Int32 × Mem) := b12_readsFactor_0 (r12_readsFactor n) n M
abbrev rm12_readsFactor : Room := { frames := 3, cells := 0, slots := 0, locals := 61 }
theorem y12_readsFactor_w : yV RX12 yX12_readsFactor cX12_readsFactor 2 (some .boolean) 0 := ⟨g_1347, gp 42 rfl rfl, g_14, g_1348, rfl, by decide, by decide, by decide +kernel⟩
set_option maxHeartbeats 4000000 in
set_option maxRecDepth 100000 in
theorem w12_readsFactor_0 {p : Program} {l : Launch} {e : Env} {s : State} {m : MethodId} {args : Array Value} {below : List Frame} {meth : Method} {c : Code} {z : Zt} {b : Nat}  (C : Cx p s m args c cX12_readsFactor 2 RX12 z 32 b) (hr : meth.sig.returnType = (some .boolean)) (hk : meth.locks = false) {r : Int32} {M' : Mem} {rc : Nat → List Int32 → List Int64 → Mem → Option (Int32 × Mem)} {n : Nat} (q0 : ∀  (M : Mem) (H : Heap) (locs : List Loc) (ls : Array Slot), rc 0 [] [] M = some (r, M') → va_P z.1 vwCl (pw (yd z b) 32 b M) H → va_S (pA 32 b) s.heap H locs → lv_has ls 2 [(0, .ref (b + 0))] → W p l e rm12_readsFactor s m args below meth c H locs 0 0 (MQ below (va_Qi (fun (r' : Int32) (M2 : Mem) => r' = r ∧ M2 = M') (fun M2 t => va_P z.1 vwCl (pw (yd z b) 32 b M2) t.heap) (pA 32 b)) args s 0 0 (pA 32 b)) (F0 m 0 ls []))  {M : Mem} {H : Heap} {locs : List Loc} {ls : Array Slot} (hf : b12_readsFactor_0  rc n  M = some (r, M')) (hP : va_P z.1 vwCl (pw (yd z b) 32 b M) H) (hS : va_S (pA 32 b) s.heap H locs) (hl : lv_has ls 2 [(0, .ref (b + 0))]) : W p l e rm12_readsFactor s m args below meth c H locs 0 0 (MQ below (va_Qi (fun (r' : Int32) (M2 : Mem) => r' = r ∧ M2 = M') (fun M2 t => va_P z.1 vwCl (pw (yd z b) 32 b M2) t.heap) (pA 32 b)) args s 0 0 (pA 32 b)) (F0 m 0 ls []) := by
  have hx := C.1.1
  have hb := C.1.2.1
  unfold b12_readsFactor_0 at hf
  refine lv_aload_n hx hb dX12_readsFactor_0 rfl (lv_at hl 0 rfl) ?_
  obtain ⟨r1, M2, h3, hf⟩ := bnd_s hf
  refine pcVi (As := []) C hP hS (k := 0) (Nat.le_of_ble_eq_true rfl) (yd_0 _ _) rfl (c12_here  h3) y12_here_w g_1333 rfl rfl rfl ⟨Nat.le_of_ble_eq_true rfl, Nat.le_of_ble_eq_true rfl⟩ hl.1 rfl (Nat.le_of_ble_eq_true rfl) dX12_readsFactor_1 ⟨Nat.le_of_ble_eq_true rfl, Nat.le_of_ble_eq_true rfl⟩ (fun H locs hP hS => ?_)
  refine lv_bipush (v := (91 : Int32)) hx hb dX12_readsFactor_4 (by decide) ?_
  refine lv_icmp_ne (tgt := 20) hx hb dX12_readsFactor_6 (by decide) (fun c4 => ?_) (fun c4 => ?_)
  · replace hf := ite_f c4 hf
    refine lv_aload_n hx hb dX12_readsFactor_20 rfl (lv_at hl 0 rfl) ?_
    obtain ⟨r5, M6, h7, hf⟩ := bnd_s hf
    refine pcVi (As := []) C hP hS (k := 0) (Nat.le_of_ble_eq_true rfl) (yd_0 _ _) rfl (c12_isDigit  h7) y12_isDigit_w g_1354 rfl rfl rfl ⟨Nat.le_of_ble_eq_true rfl, Nat.le_of_ble_eq_true rfl⟩ hl.1 rfl (Nat.le_of_ble_eq_true rfl) dX12_readsFactor_21 ⟨Nat.le_of_ble_eq_true rfl, Nat.le_of_ble_eq_true rfl⟩ (fun H locs hP hS => ?_)
    refine lv_if_eq (tgt := 47) hx hb dX12_readsFactor_24 (by decide) (fun c8 => ?_) (fun c8 => ?_)
    · replace hf := ite_t c8 hf
      refine lv_aload_n hx hb dX12_readsFactor_47 rfl (lv_at hl 0 rfl) ?_
      obtain ⟨r9, M10, h11, hf⟩ := bnd_s hf
      refine pcVi (As := []) C hP hS (k := 0) (Nat.le_of_ble_eq_true rfl) (yd_0 _ _) rfl (c12_here  h11) y12_here_w g_1333 rfl rfl rfl ⟨Nat.le_of_ble_eq_true rfl, Nat.le_of_ble_eq_true rfl⟩ hl.1 rfl (Nat.le_of_ble_eq_true rfl) dX12_readsFactor_48 ⟨Nat.le_of_ble_eq_true rfl, Nat.le_of_ble_eq_true rfl⟩ (fun H locs hP hS => ?_)
      obtain ⟨r12, M13, h14, hf⟩ := bnd_s hf
      refine pcSi (As := [.int r9]) C hP hS (c12_factOf  h14) y12_factOf_w g_1366 rfl rfl rfl ⟨Nat.le_of_ble_eq_true rfl, Nat.le_of_ble_eq_true rfl⟩ hl.1 rfl (Nat.le_of_ble_eq_true rfl) dX12_readsFactor_51 ⟨Nat.le_of_ble_eq_true rfl, Nat.le_of_ble_eq_true rfl⟩ (fun H locs hP hS => ?_)
      refine lv_istore_n (lv' := [(1, .int r12), (0, .ref (b + 0))]) hx hb dX12_readsFactor_54 rfl hl (by decide) rfl (fun ls hl => ?_)
      refine lv_iload_n hx hb dX12_readsFactor_55 rfl (lv_at hl 0 rfl) ?_
      refine lv_iconst (v := (-1 : Int32)) hx hb dX12_readsFactor_56 (by decide) ?_
      refine lv_icmp_ne (tgt := 70) hx hb dX12_readsFactor_57 (by decide) (fun c15 => ?_) (fun c15 => ?_)
      · replace hf := ite_f c15 hf
        refine lv_aload_n hx hb dX12_readsFactor_70 rfl (lv_at hl 1 rfl) ?_
        refine lv_iconst (v := (1 : Int32)) hx hb dX12_readsFactor_71 (by decide) ?_
        refine lv_iload_n hx hb dX12_readsFactor_72 rfl (lv_at hl 0 rfl) ?_
        obtain ⟨r16, M17, h18, hf⟩ := bnd_s hf
        refine pcVv (As := [.int (1 : Int32), .int r12]) C hP hS (k := 0) (Nat.le_of_ble_eq_true rfl) (yd_0 _ _) rfl (c12_codesOf  h18) y12_codesOf_w g_1362 rfl rfl rfl ⟨Nat.le_of_ble_eq_true rfl, Nat.le_of_ble_eq_true rfl⟩ hl.1 rfl (Nat.le_of_ble_eq_true rfl) dX12_readsFactor_73 ⟨Nat.le_of_ble_eq_true rfl, Nat.le_of_ble_eq_true rfl⟩ (fun H locs hP hS => ?_)
        refine lv_aload_n hx hb dX12_readsFactor_76 rfl (lv_at hl 1 rfl) ?_
        refine lv_aload_n hx hb dX12_readsFactor_77 rfl (lv_at hl 1 rfl) ?_
        refine pg C hP (k := 0) (j := 12) (Nat.le_of_ble_eq_true rfl) (yd_0 _ _) rfl iw_12 (Nat.le_of_ble_eq_true rfl) g_1147 rfl rfl dX12_readsFactor_78 ?_
        refine lv_iconst (v := (1 : Int32)) hx hb dX12_readsFactor_81 (by decide) ?_
        refine lv_iadd hx hb dX12_readsFactor_82 ?_
        refine ppI C hP hS (k := 0) (j := 12) (ty := .int) (Nat.le_of_ble_eq_true rfl) (yd_0 _ _) rfl iw_12 tyX12 tyX12_ok nmX12 (Nat.le_of_ble_eq_true rfl) g_1147 rfl rfl (by decide +kernel) rfl rfl (Nat.le_of_ble_eq_true rfl) (yu_0_12 _ _ _) dX12_readsFactor_83 (fun M19 H locs eM19 hP hS => ?_)
        replace hf := lt_c eM19 hf
        refine lv_iconst (v := (1 : Int32)) hx hb dX12_readsFactor_86 (by decide) ?_
        exact prZ C hr hk hP hS hf rfl dX12_readsFactor_87
      · replace hf := ite_t c15 hf
        refine lv_aload_n hx hb dX12_readsFactor_60 rfl (lv_at hl 1 rfl) ?_
        refine lv_iconst (v := (1 : Int32)) hx hb dX12_readsFactor_61 (by decide) ?_
        refine lv_aload_n hx hb dX12_readsFactor_62 rfl (lv_at hl 1 rfl) ?_
        refine pg C hP (k := 0) (j := 12) (Nat.le_of_ble_eq_true rfl) (yd_0 _ _) rfl iw_12 (Nat.le_of_ble_eq_true rfl) g_1147 rfl rfl dX12_readsFactor_63 ?_
        obtain ⟨r20, M21, h22, hf⟩ := bnd_s hf
        refine pcVi (As := [.int (1 : Int32), .int (M13.1 0 12)]) C hP hS (k := 0) (Nat.le_of_ble_eq_true rfl) (yd_0 _ _) rfl (c12_wrongAt  h22) y12_wrongAt_w g_1337 rfl rfl rfl ⟨Nat.le_of_ble_eq_true rfl, Nat.le_of_ble_eq_true rfl⟩ hl.1 rfl (Nat.le_of_ble_eq_true rfl) dX12_readsFactor_66 ⟨Nat.le_of_ble_eq_true rfl, Nat.le_of_ble_eq_true rfl⟩ (fun H locs hP hS => ?_)
        have h23 := chk_1 hf
        replace hf := chk_2 hf
        exact prZ C hr hk hP hS hf (isb_n h23) dX12_readsFactor_69
    · replace hf := ite_f c8 hf
      refine lv_aload_n hx hb dX12_readsFactor_27 rfl (lv_at hl 0 rfl) ?_
      obtain ⟨r24, M25, h26, hf⟩ := bnd_s hf
      refine pcVi (As := []) C hP hS (k := 0) (Nat.le_of_ble_eq_true rfl) (yd_0 _ _) rfl (c12_readsNumber  h26) y12_readsNumber_w g_1358 rfl rfl rfl ⟨Nat.le_of_ble_eq_true rfl, Nat.le_of_ble_eq_true rfl⟩ hl.1 rfl (Nat.le_of_ble_eq_true rfl) dX12_readsFactor_28 ⟨Nat.le_of_ble_eq_true rfl, Nat.le_of_ble_eq_true rfl⟩ (fun H locs hP hS => ?_)
      refine lv_if_ne (tgt := 36) hx hb dX12_readsFactor_31 (by decide) (fun c27 => ?_) (fun c27 => ?_)
      · replace hf := ite_f c27 hf
        refine lv_aload_n hx hb dX12_readsFactor_36 rfl (lv_at hl 0 rfl) ?_
        refine lv_iconst (v := (0 : Int32)) hx hb dX12_readsFactor_37 (by decide) ?_
        refine lv_aload_n hx hb dX12_readsFactor_38 rfl (lv_at hl 0 rfl) ?_
        refine pg C hP (k := 0) (j := 15) (Nat.le_of_ble_eq_true rfl) (yd_0 _ _) rfl iw_12 (Nat.le_of_ble_eq_true rfl) g_1150 rfl rfl dX12_readsFactor_39 ?_
        obtain ⟨r28, M29, h30, hf⟩ := bnd_s hf
        refine pcVv (As := [.int (0 : Int32), .int (M25.1 0 15)]) C hP hS (k := 0) (Nat.le_of_ble_eq_true rfl) (yd_0 _ _) rfl (c12_codesOf  h30) y12_codesOf_w g_1362 rfl rfl rfl ⟨Nat.le_of_ble_eq_true rfl, Nat.le_of_ble_eq_true rfl⟩ hl.1 rfl (Nat.le_of_ble_eq_true rfl) dX12_readsFactor_42 ⟨Nat.le_of_ble_eq_true rfl, Nat.le_of_ble_eq_true rfl⟩ (fun H locs hP hS => ?_)
        refine lv_iconst (v := (1 : Int32)) hx hb dX12_readsFactor_45 (by decide) ?_
        exact prZ C hr hk hP hS hf rfl dX12_readsFactor_46
      · replace hf := ite_t c27 hf
        refine lv_iconst (v := (0 : Int32)) hx hb dX12_readsFactor_34 (by decide) ?_
        exact prZ C hr hk hP hS hf rfl dX12_readsFactor_35
  · replace hf := ite_t c4 hf
    refine lv_aload_n hx hb dX12_readsFactor_9 rfl (lv_at hl 0 rfl) ?_
    refine lv_bipush (v := (14 : Int32)) hx hb dX12_readsFactor_10 (by decide) ?_
    obtain ⟨r31, M32, h33, hf⟩ := bnd_s hf
    refine pcVi (As := [.int (14 : Int32)]) C hP hS (k := 0) (Nat.le_of_ble_eq_true rfl) (yd_0 _ _) rfl (c12_opens  h33) y12_opens_w g_1349 rfl rfl rfl ⟨Nat.le_of_ble_eq_true rfl, Nat.le_of_ble_eq_true rfl⟩ hl.1 rfl (Nat.le_of_ble_eq_true rfl) dX12_readsFactor_12 ⟨Nat.le_of_ble_eq_true rfl, Nat.le_of_ble_eq_true rfl⟩ (fun H locs hP hS => ?_)
    refine lv_if_ne (tgt := 0) hx hb dX12_readsFactor_15 (by decide) (fun c34 => ?_) (fun c34 => ?_)
    · replace hf := ite_f c34 hf
      exact q0  M32 _ _ _ hf hP hS (lv_sub hl [0] rfl)
    · replace hf := ite_t c34 hf
      refine lv_iconst (v := (0 : Int32)) hx hb dX12_readsFactor_18 (by decide) ?_
      exact prZ C hr hk hP hS hf rfl dX12_readsFactor_19
set_option maxHeartbeats 4000000 in
set_option maxRecDepth 100000 in
theorem l12_readsFactor {p : Program} {l : Launch} {e : Env} {s : State} {m : MethodId} {args : Array Value} {below : List Frame} {meth : Method} {c : Code} {z : Zt} {b : Nat}  (C : Cx p s m args c cX12_readsFactor 2 RX12 z 32 b) (hr : meth.sig.returnType = (some .boolean)) (hk : meth.locks = false) {r : Int32} {M' : Mem} (n : Nat) : (∀  (M : Mem) (H : Heap) (locs : List Loc) (ls : Array Slot), (r12_readsFactor  n) 0 [] [] M = some (r, M') → va_P z.1 vwCl (pw (yd z b) 32 b M) H → va_S (pA 32 b) s.heap H locs → lv_has ls 2 [(0, .ref (b + 0))] → W p l e rm12_readsFactor s m args below meth c H locs 0 0 (MQ below (va_Qi (fun (r' : Int32) (M2 : Mem) => r' = r ∧ M2 = M') (fun M2 t => va_P z.1 vwCl (pw (yd z b) 32 b M2) t.heap) (pA 32 b)) args s 0 0 (pA 32 b)) (F0 m 0 ls [])) := by
  induction n with
  | zero => exact fun  _ _ _ _ hf => (by cases hf)
  | succ n ih => exact fun  _ _ _ _ hf hP hS hl => w12_readsFactor_0 (n := n)  C hr hk ih ((e12_readsFactor_0  n  _).symm.trans hf) hP hS hl
theorem c12_readsFactor {l : Launch} {z : Zt} {b n : Nat}   {M M' : Mem} {r : Int32} (hf : f12_readsFactor n   M = some (r, M')) : CI l z (yd z b) 32 b yX12_readsFactor cX12_readsFactor 2 (some .boolean) rm12_readsFactor [.ref (b + 0)] M M' r :=
  CI.ofW (lv := [(0, .ref (b + 0))]) (by decide) (Nat.le_of_ble_eq_true rfl) rfl (fun p e s m args below meth c ls C hr hk hP hS hl => w12_readsFactor_0 (n := n)  C hr hk (l12_readsFactor  C hr hk n) hf hP hS (lv_sub hl [0] rfl))

-- BronzeKingModel.hasOpenSum(I)Z
theorem dX12_hasOpenSum_0 : decode cX12_hasOpenSum 0 = .ok (.iload_n 1, 1) := by decide +kernel
theorem dX12_hasOpenSum_1 : decode cX12_hasOpenSum 1 = .ok (.istore_n 2, 1) := by decide +kernel
theorem dX12_hasOpenSum_2 : decode cX12_hasOpenSum 2 = .ok (.iload_n 2, 1) := by decide +kernel
theorem dX12_hasOpenSum_3 : decode cX12_hasOpenSum 3 = .ok (.aload_n 0, 1) := by decide +kernel
theorem dX12_hasOpenSum_4 : decode cX12_hasOpenSum 4 = .ok (.getfield 173, 3) := by decide +kernel
theorem dX12_hasOpenSum_7 : decode cX12_hasOpenSum 7 = .ok (.if_icmp .ge 25, 3) := by decide +kernel
theorem dX12_hasOpenSum_10 : decode cX12_hasOpenSum 10 = .ok (.aload_n 0, 1) := by decide +kernel
theorem dX12_hasOpenSum_11 : decode cX12_hasOpenSum 11 = .ok (.getfield 38, 3) := by decide +kernel
theorem dX12_hasOpenSum_14 : decode cX12_hasOpenSum 14 = .ok (.iload_n 2, 1) := by decide +kernel
theorem dX12_hasOpenSum_15 : decode cX12_hasOpenSum 15 = .ok (.iaload, 1) := by decide +kernel
theorem dX12_hasOpenSum_16 : decode cX12_hasOpenSum 16 = .ok (.ldc 169, 2) := by decide +kernel
theorem dX12_hasOpenSum_18 : decode cX12_hasOpenSum 18 = .ok (.idiv, 1) := by decide +kernel
theorem dX12_hasOpenSum_19 : decode cX12_hasOpenSum 19 = .ok (.bipush 14, 2) := by decide +kernel
theorem dX12_hasOpenSum_21 : decode cX12_hasOpenSum 21 = .ok (.if_icmp .ne 5, 3) := by decide +kernel
theorem dX12_hasOpenSum_24 : decode cX12_hasOpenSum 24 = .ok (.iconst 1, 1) := by decide +kernel
theorem dX12_hasOpenSum_25 : decode cX12_hasOpenSum 25 = .ok (.ireturn, 1) := by decide +kernel
theorem dX12_hasOpenSum_26 : decode cX12_hasOpenSum 26 = .ok (.iinc 2 1, 3) := by decide +kernel
theorem dX12_hasOpenSum_29 : decode cX12_hasOpenSum 29 = .ok (.goto (-27), 3) := by decide +kernel
theorem dX12_hasOpenSum_32 : decode cX12_hasOpenSum 32 = .ok (.iconst 0, 1) := by decide +kernel
theorem dX12_hasOpenSum_33 : decode cX12_hasOpenSum 33 = .ok (.ireturn, 1) := by decide +kernel
def b12_hasOpenSum_2 (rc : Nat → List Int32 → List Int64 → Mem → Option (Int32 × Mem)) (n : Nat) (i2 : Int32) (M : Mem) : Option (Int32 × Mem) :=
  (if (M.1 0 18) ≤ i2 then (
   some ((0 : Int32), M))
  else (
   chk (inb i2 260) <|
   (if ((M.1 10 i2.toNatClampNeg) / (1048576 : Int32)) = (14 : Int32) then (
    some ((1 : Int32), M))
   else (
    lt (i2 + (1 : Int32)) fun v4 =>
    rc 2 [v4] [] M))))
def b12_hasOpenSum_0 (rc : Nat → List Int32 → List Int64 → Mem → Option (Int32 × Mem)) (n : Nat) (a1 : Int32) (M : Mem) : Option (Int32 × Mem) :=
  b12_hasOpenSum_2  rc n a1 M
def r12_hasOpenSum : Nat → Nat → List Int32 → List Int64 → Mem → Option (Int32 × Mem)
  | 0 => fun _ _ _ _ => none
  | n + 1 => fun pc li lj M =>
    if pc = 2 then (match li, lj with | [i2], [] => b12_hasOpenSum_2  (r12_hasOpenSum  n) n i2 M | _, _ => none) else
    none
theorem e12_hasOpenSum_2  (n : Nat) (i2 : Int32) (M : Mem) : r12_hasOpenSum  (n + 1) 2 [i2] [] M = b12_hasOpenSum_2  (r12_hasOpenSum  n) n i2 M := by
  rw [r12_hasOpenSum]
  simp
def f12_hasOpenSum (n : Nat) (a1 : Int32) (M : Mem) : Option (Int32 × Mem) := b12_hasOpenSum_0 (r12_hasOpenSum n) n a1 M
abbrev rm12_hasOpenSum : Room := { frames := 0, cells := 0, slots := 0, locals := 0 }
theorem y12_hasOpenSum_w : yV RX12 yX12_hasOpenSum cX12_hasOpenSum 3 (some .boolean) 1 := ⟨g_1382, gp 49 rfl rfl, g_14, g_1383, rfl, by decide, by decide, by decide +kernel⟩
set_option maxHeartbeats 4000000 in
set_option maxRecDepth 100000 in
theorem w12_hasOpenSum_2 {p : Program} {l : Launch} {e : Env} {s : State} {m : MethodId} {args : Array Value} {below : List Frame} {meth : Method} {c : Code} {z : Zt} {b : Nat}  (C : Cx p s m args c cX12_hasOpenSum 3 RX12 z 32 b) (hr : meth.sig.returnType = (some .boolean)) (hk : meth.locks = false) {r : Int32} {M' : Mem} {rc : Nat → List Int32 → List Int64 → Mem → Option (Int32 × Mem)} {n : Nat} (q2 : ∀ (i2 : Int32) (M : Mem) (H : Heap) (locs : List Loc) (ls : Array Slot), rc 2 [i2] [] M = some (r, M') → va_P z.1 vwCl (pw (yd z b) 32 b M) H → va_S (pA 32 b) s.heap H locs → lv_has ls 3 [(0, .ref (b + 0)), (2, .int i2)] → W p l e rm12_hasOpenSum s m args below meth c H locs 0 0 (MQ below (va_Qi (fun (r' : Int32) (M2 : Mem) => r' = r ∧ M2 = M') (fun M2 t => va_P z.1 vwCl (pw (yd z b) 32 b M2) t.heap) (pA 32 b)) args s 0 0 (pA 32 b)) (F0 m 2 ls [])) {i2 : Int32} {M : Mem} {H : Heap} {locs : List Loc} {ls : Array Slot} (hf : b12_hasOpenSum_2  rc n i2 M = some (r, M')) (hP : va_P z.1 vwCl (pw (yd z b) 32 b M) H) (hS : va_S (pA 32 b) s.heap H locs) (hl : lv_has ls 3 [(0, .ref (b + 0)), (2, .int i2)]) : W p l e rm12_hasOpenSum s m args below meth c H locs 0 0 (MQ below (va_Qi (fun (r' : Int32) (M2 : Mem) => r' = r ∧ M2 = M') (fun M2 t => va_P z.1 vwCl (pw (yd z b) 32 b M2) t.heap) (pA 32 b)) args s 0 0 (pA 32 b)) (F0 m 2 ls []) := by
  have hx := C.1.1
  have hb := C.1.2.1
  unfold b12_hasOpenSum_2 at hf
  refine lv_iload_n hx hb dX12_hasOpenSum_2 rfl (lv_at hl 1 rfl) ?_
  refine lv_aload_n hx hb dX12_hasOpenSum_3 rfl (lv_at hl 0 rfl) ?_
  refine pg C hP (k := 0) (j := 18) (Nat.le_of_ble_eq_true rfl) (yd_0 _ _) rfl iw_12 (Nat.le_of_ble_eq_true rfl) g_1153 rfl rfl dX12_hasOpenSum_4 ?_
  refine lv_icmp_ge (tgt := 32) hx hb dX12_hasOpenSum_7 (by decide) (fun c1 => ?_) (fun c1 => ?_)
  · replace hf := ite_t c1 hf
    refine lv_iconst (v := (0 : Int32)) hx hb dX12_hasOpenSum_32 (by decide) ?_
    exact prZ C hr hk hP hS hf rfl dX12_hasOpenSum_33
  · replace hf := ite_f c1 hf
    refine lv_aload_n hx hb dX12_hasOpenSum_10 rfl (lv_at hl 0 rfl) ?_
    refine pg C hP (k := 0) (j := 22) (Nat.le_of_ble_eq_true rfl) (yd_0 _ _) rfl iw_12 (Nat.le_of_ble_eq_true rfl) g_1157 rfl rfl dX12_hasOpenSum_11 ?_
    refine lv_iload_n hx hb dX12_hasOpenSum_14 rfl (lv_at hl 1 rfl) ?_
    have h2 := chk_1 hf
    replace hf := chk_2 hf
    refine paI C hP (k := 10) (Nat.le_of_ble_eq_true rfl) (yd_10 _ _) h2 dX12_hasOpenSum_15 ?_
    refine lv_ldc hx hb C.1.2.2.2.1 (C.1.2.2.2.2 _ g_1353) dX12_hasOpenSum_16 ?_
    refine lv_idiv hx hb dX12_hasOpenSum_18 (by decide) ?_
    refine lv_bipush (v := (14 : Int32)) hx hb dX12_hasOpenSum_19 (by decide) ?_
    refine lv_icmp_ne (tgt := 26) hx hb dX12_hasOpenSum_21 (by decide) (fun c3 => ?_) (fun c3 => ?_)
    · replace hf := ite_f c3 hf
      obtain ⟨v4, ev4⟩ : ∃ v : Int32, v = i2 + (1 : Int32) := ⟨_, rfl⟩
      replace hf := lt_c ev4 hf
      refine lv_iinc (v := v4) (lv' := [(2, .int v4), (0, .ref (b + 0))]) hx hb dX12_hasOpenSum_26 hl (k := 1) rfl (by rw [ev4]; rfl) (by decide) rfl (fun ls hl => ?_)
      refine lv_goto (tgt := 2) hx hb dX12_hasOpenSum_29 (by decide) ?_
      exact q2 v4 M _ _ _ hf hP hS (lv_sub hl [1, 0] rfl)
    · replace hf := ite_t c3 hf
      refine lv_iconst (v := (1 : Int32)) hx hb dX12_hasOpenSum_24 (by decide) ?_
      exact prZ C hr hk hP hS hf rfl dX12_hasOpenSum_25
set_option maxHeartbeats 4000000 in
set_option maxRecDepth 100000 in
theorem w12_hasOpenSum_0 {p : Program} {l : Launch} {e : Env} {s : State} {m : MethodId} {args : Array Value} {below : List Frame} {meth : Method} {c : Code} {z : Zt} {b : Nat}  (C : Cx p s m args c cX12_hasOpenSum 3 RX12 z 32 b) (hr : meth.sig.returnType = (some .boolean)) (hk : meth.locks = false) {r : Int32} {M' : Mem} {rc : Nat → List Int32 → List Int64 → Mem → Option (Int32 × Mem)} {n : Nat} (q2 : ∀ (i2 : Int32) (M : Mem) (H : Heap) (locs : List Loc) (ls : Array Slot), rc 2 [i2] [] M = some (r, M') → va_P z.1 vwCl (pw (yd z b) 32 b M) H → va_S (pA 32 b) s.heap H locs → lv_has ls 3 [(0, .ref (b + 0)), (2, .int i2)] → W p l e rm12_hasOpenSum s m args below meth c H locs 0 0 (MQ below (va_Qi (fun (r' : Int32) (M2 : Mem) => r' = r ∧ M2 = M') (fun M2 t => va_P z.1 vwCl (pw (yd z b) 32 b M2) t.heap) (pA 32 b)) args s 0 0 (pA 32 b)) (F0 m 2 ls [])) {a1 : Int32} {M : Mem} {H : Heap} {locs : List Loc} {ls : Array Slot} (hf : b12_hasOpenSum_0  rc n a1 M = some (r, M')) (hP : va_P z.1 vwCl (pw (yd z b) 32 b M) H) (hS : va_S (pA 32 b) s.heap H locs) (hl : lv_has ls 3 [(0, .ref (b + 0)), (1, .int a1)]) : W p l e rm12_hasOpenSum s m args below meth c H locs 0 0 (MQ below (va_Qi (fun (r' : Int32) (M2 : Mem) => r' = r ∧ M2 = M') (fun M2 t => va_P z.1 vwCl (pw (yd z b) 32 b M2) t.heap) (pA 32 b)) args s 0 0 (pA 32 b)) (F0 m 0 ls []) := by
  have hx := C.1.1
  have hb := C.1.2.1
  unfold b12_hasOpenSum_0 at hf
  refine lv_iload_n hx hb dX12_hasOpenSum_0 rfl (lv_at hl 1 rfl) ?_
  refine lv_istore_n (lv' := [(2, .int a1), (0, .ref (b + 0)), (1, .int a1)]) hx hb dX12_hasOpenSum_1 rfl hl (by decide) rfl (fun ls hl => ?_)
  exact w12_hasOpenSum_2 (n := n)  C hr hk q2 hf hP hS (lv_sub hl [1, 0] rfl)
set_option maxHeartbeats 4000000 in
set_option maxRecDepth 100000 in
theorem l12_hasOpenSum {p : Program} {l : Launch} {e : Env} {s : State} {m : MethodId} {args : Array Value} {below : List Frame} {meth : Method} {c : Code} {z : Zt} {b : Nat}  (C : Cx p s m args c cX12_hasOpenSum 3 RX12 z 32 b) (hr : meth.sig.returnType = (some .boolean)) (hk : meth.locks = false) {r : Int32} {M' : Mem} (n : Nat) : (∀ (i2 : Int32) (M : Mem) (H : Heap) (locs : List Loc) (ls : Array Slot), (r12_hasOpenSum  n) 2 [i2] [] M = some (r, M') → va_P z.1 vwCl (pw (yd z b) 32 b M) H → va_S (pA 32 b) s.heap H locs → lv_has ls 3 [(0, .ref (b + 0)), (2, .int i2)] → W p l e rm12_hasOpenSum s m args below meth c H locs 0 0 (MQ below (va_Qi (fun (r' : Int32) (M2 : Mem) => r' = r ∧ M2 = M') (fun M2 t => va_P z.1 vwCl (pw (yd z b) 32 b M2) t.heap) (pA 32 b)) args s 0 0 (pA 32 b)) (F0 m 2 ls [])) := by
  induction n with
  | zero => exact fun _ _ _ _ _ hf => (by cases hf)
  | succ n ih => exact fun _ _ _ _ _ hf hP hS hl => w12_hasOpenSum_2 (n := n)  C hr hk ih ((e12_hasOpenSum_2  n _ _).symm.trans hf) hP hS hl
theorem c12_hasOpenSum {l : Launch} {z : Zt} {b n : Nat}  {a1 : Int32} {M M' : Mem} {r : Int32} (hf : f12_hasOpenSum n  a1 M = some (r, M')) : CI l z (yd z b) 32 b yX12_hasOpenSum cX12_hasOpenSum 3 (some .boolean) rm12_hasOpenSum [.ref (b + 0), .int a1] M M' r :=
  CI.ofW (lv := [(0, .ref (b + 0)), (1, .int a1)]) (by decide) (Nat.le_of_ble_eq_true rfl) rfl (fun p e s m args below meth c ls C hr hk hP hS hl => w12_hasOpenSum_0 (n := n)  C hr hk (l12_hasOpenSum  C hr hk n) hf hP hS hl)

-- BronzeKingModel.readsSum()Z
theorem dX12_readsSum_0 : decode cX12_readsSum 0 = .ok (.aload_n 0, 1) := by decide +kernel
theorem dX12_readsSum_1 : decode cX12_readsSum 1 = .ok (.getfield 173, 3) := by decide +kernel
theorem dX12_readsSum_4 : decode cX12_readsSum 4 = .ok (.istore_n 1, 1) := by decide +kernel
theorem dX12_readsSum_5 : decode cX12_readsSum 5 = .ok (.aload_n 0, 1) := by decide +kernel
theorem dX12_readsSum_6 : decode cX12_readsSum 6 = .ok (.invokevirtual 193, 3) := by decide +kernel
theorem dX12_readsSum_9 : decode cX12_readsSum 9 = .ok (.ifCond .ne 5, 3) := by decide +kernel
theorem dX12_readsSum_12 : decode cX12_readsSum 12 = .ok (.iconst 0, 1) := by decide +kernel
theorem dX12_readsSum_13 : decode cX12_readsSum 13 = .ok (.ireturn, 1) := by decide +kernel
theorem dX12_readsSum_14 : decode cX12_readsSum 14 = .ok (.aload_n 0, 1) := by decide +kernel
theorem dX12_readsSum_15 : decode cX12_readsSum 15 = .ok (.invokevirtual 149, 3) := by decide +kernel
theorem dX12_readsSum_18 : decode cX12_readsSum 18 = .ok (.invokestatic 196, 3) := by decide +kernel
theorem dX12_readsSum_21 : decode cX12_readsSum 21 = .ok (.istore_n 2, 1) := by decide +kernel
theorem dX12_readsSum_22 : decode cX12_readsSum 22 = .ok (.iload_n 2, 1) := by decide +kernel
theorem dX12_readsSum_23 : decode cX12_readsSum 23 = .ok (.iconst (-1), 1) := by decide +kernel
theorem dX12_readsSum_24 : decode cX12_readsSum 24 = .ok (.if_icmp .eq 59, 3) := by decide +kernel
theorem dX12_readsSum_27 : decode cX12_readsSum 27 = .ok (.aload_n 0, 1) := by decide +kernel
theorem dX12_readsSum_28 : decode cX12_readsSum 28 = .ok (.iload_n 2, 1) := by decide +kernel
theorem dX12_readsSum_29 : decode cX12_readsSum 29 = .ok (.iconst 4, 1) := by decide +kernel
theorem dX12_readsSum_30 : decode cX12_readsSum 30 = .ok (.if_icmp .ge 7, 3) := by decide +kernel
theorem dX12_readsSum_33 : decode cX12_readsSum 33 = .ok (.iconst 1, 1) := by decide +kernel
theorem dX12_readsSum_34 : decode cX12_readsSum 34 = .ok (.goto 4, 3) := by decide +kernel
theorem dX12_readsSum_37 : decode cX12_readsSum 37 = .ok (.iconst 0, 1) := by decide +kernel
theorem dX12_readsSum_38 : decode cX12_readsSum 38 = .ok (.invokevirtual 199, 3) := by decide +kernel
theorem dX12_readsSum_41 : decode cX12_readsSum 41 = .ok (.aload_n 0, 1) := by decide +kernel
theorem dX12_readsSum_42 : decode cX12_readsSum 42 = .ok (.getfield 38, 3) := by decide +kernel
theorem dX12_readsSum_45 : decode cX12_readsSum 45 = .ok (.aload_n 0, 1) := by decide +kernel
theorem dX12_readsSum_46 : decode cX12_readsSum 46 = .ok (.getfield 173, 3) := by decide +kernel
theorem dX12_readsSum_49 : decode cX12_readsSum 49 = .ok (.ldc 169, 2) := by decide +kernel
theorem dX12_readsSum_51 : decode cX12_readsSum 51 = .ok (.iload_n 2, 1) := by decide +kernel
theorem dX12_readsSum_52 : decode cX12_readsSum 52 = .ok (.imul, 1) := by decide +kernel
theorem dX12_readsSum_53 : decode cX12_readsSum 53 = .ok (.iastore, 1) := by decide +kernel
theorem dX12_readsSum_54 : decode cX12_readsSum 54 = .ok (.aload_n 0, 1) := by decide +kernel
theorem dX12_readsSum_55 : decode cX12_readsSum 55 = .ok (.aload_n 0, 1) := by decide +kernel
theorem dX12_readsSum_56 : decode cX12_readsSum 56 = .ok (.getfield 173, 3) := by decide +kernel
theorem dX12_readsSum_59 : decode cX12_readsSum 59 = .ok (.iconst 1, 1) := by decide +kernel
theorem dX12_readsSum_60 : decode cX12_readsSum 60 = .ok (.iadd, 1) := by decide +kernel
theorem dX12_readsSum_61 : decode cX12_readsSum 61 = .ok (.putfield 173, 3) := by decide +kernel
theorem dX12_readsSum_64 : decode cX12_readsSum 64 = .ok (.aload_n 0, 1) := by decide +kernel
theorem dX12_readsSum_65 : decode cX12_readsSum 65 = .ok (.aload_n 0, 1) := by decide +kernel
theorem dX12_readsSum_66 : decode cX12_readsSum 66 = .ok (.getfield 143, 3) := by decide +kernel
theorem dX12_readsSum_69 : decode cX12_readsSum 69 = .ok (.iconst 1, 1) := by decide +kernel
theorem dX12_readsSum_70 : decode cX12_readsSum 70 = .ok (.iadd, 1) := by decide +kernel
theorem dX12_readsSum_71 : decode cX12_readsSum 71 = .ok (.putfield 143, 3) := by decide +kernel
theorem dX12_readsSum_74 : decode cX12_readsSum 74 = .ok (.aload_n 0, 1) := by decide +kernel
theorem dX12_readsSum_75 : decode cX12_readsSum 75 = .ok (.invokevirtual 193, 3) := by decide +kernel
theorem dX12_readsSum_78 : decode cX12_readsSum 78 = .ok (.ifCond .ne 85, 3) := by decide +kernel
theorem dX12_readsSum_81 : decode cX12_readsSum 81 = .ok (.iconst 0, 1) := by decide +kernel
theorem dX12_readsSum_82 : decode cX12_readsSum 82 = .ok (.ireturn, 1) := by decide +kernel
theorem dX12_readsSum_83 : decode cX12_readsSum 83 = .ok (.aload_n 0, 1) := by decide +kernel
theorem dX12_readsSum_84 : decode cX12_readsSum 84 = .ok (.invokevirtual 149, 3) := by decide +kernel
theorem dX12_readsSum_87 : decode cX12_readsSum 87 = .ok (.bipush 93, 2) := by decide +kernel
theorem dX12_readsSum_89 : decode cX12_readsSum 89 = .ok (.if_icmp .ne 49, 3) := by decide +kernel
theorem dX12_readsSum_92 : decode cX12_readsSum 92 = .ok (.aload_n 0, 1) := by decide +kernel
theorem dX12_readsSum_93 : decode cX12_readsSum 93 = .ok (.iload_n 1, 1) := by decide +kernel
theorem dX12_readsSum_94 : decode cX12_readsSum 94 = .ok (.invokevirtual 203, 3) := by decide +kernel
theorem dX12_readsSum_97 : decode cX12_readsSum 97 = .ok (.ifCond .eq 41, 3) := by decide +kernel
theorem dX12_readsSum_100 : decode cX12_readsSum 100 = .ok (.aload_n 0, 1) := by decide +kernel
theorem dX12_readsSum_101 : decode cX12_readsSum 101 = .ok (.iconst 1, 1) := by decide +kernel
theorem dX12_readsSum_102 : decode cX12_readsSum 102 = .ok (.invokevirtual 199, 3) := by decide +kernel
theorem dX12_readsSum_105 : decode cX12_readsSum 105 = .ok (.aload_n 0, 1) := by decide +kernel
theorem dX12_readsSum_106 : decode cX12_readsSum 106 = .ok (.aload_n 0, 1) := by decide +kernel
theorem dX12_readsSum_107 : decode cX12_readsSum 107 = .ok (.getfield 173, 3) := by decide +kernel
theorem dX12_readsSum_110 : decode cX12_readsSum 110 = .ok (.iconst 1, 1) := by decide +kernel
theorem dX12_readsSum_111 : decode cX12_readsSum 111 = .ok (.isub, 1) := by decide +kernel
theorem dX12_readsSum_112 : decode cX12_readsSum 112 = .ok (.putfield 173, 3) := by decide +kernel
theorem dX12_readsSum_115 : decode cX12_readsSum 115 = .ok (.aload_n 0, 1) := by decide +kernel
theorem dX12_readsSum_116 : decode cX12_readsSum 116 = .ok (.aload_n 0, 1) := by decide +kernel
theorem dX12_readsSum_117 : decode cX12_readsSum 117 = .ok (.getfield 170, 3) := by decide +kernel
theorem dX12_readsSum_120 : decode cX12_readsSum 120 = .ok (.iconst 1, 1) := by decide +kernel
theorem dX12_readsSum_121 : decode cX12_readsSum 121 = .ok (.isub, 1) := by decide +kernel
theorem dX12_readsSum_122 : decode cX12_readsSum 122 = .ok (.putfield 170, 3) := by decide +kernel
theorem dX12_readsSum_125 : decode cX12_readsSum 125 = .ok (.aload_n 0, 1) := by decide +kernel
theorem dX12_readsSum_126 : decode cX12_readsSum 126 = .ok (.aload_n 0, 1) := by decide +kernel
theorem dX12_readsSum_127 : decode cX12_readsSum 127 = .ok (.getfield 143, 3) := by decide +kernel
theorem dX12_readsSum_130 : decode cX12_readsSum 130 = .ok (.iconst 1, 1) := by decide +kernel
theorem dX12_readsSum_131 : decode cX12_readsSum 131 = .ok (.iadd, 1) := by decide +kernel
theorem dX12_readsSum_132 : decode cX12_readsSum 132 = .ok (.putfield 143, 3) := by decide +kernel
theorem dX12_readsSum_135 : decode cX12_readsSum 135 = .ok (.goto 28, 3) := by decide +kernel
theorem dX12_readsSum_138 : decode cX12_readsSum 138 = .ok (.aload_n 0, 1) := by decide +kernel
theorem dX12_readsSum_139 : decode cX12_readsSum 139 = .ok (.iload_n 1, 1) := by decide +kernel
theorem dX12_readsSum_140 : decode cX12_readsSum 140 = .ok (.invokevirtual 203, 3) := by decide +kernel
theorem dX12_readsSum_143 : decode cX12_readsSum 143 = .ok (.ifCond .eq 13, 3) := by decide +kernel
theorem dX12_readsSum_146 : decode cX12_readsSum 146 = .ok (.aload_n 0, 1) := by decide +kernel
theorem dX12_readsSum_147 : decode cX12_readsSum 147 = .ok (.iconst 1, 1) := by decide +kernel
theorem dX12_readsSum_148 : decode cX12_readsSum 148 = .ok (.aload_n 0, 1) := by decide +kernel
theorem dX12_readsSum_149 : decode cX12_readsSum 149 = .ok (.getfield 143, 3) := by decide +kernel
theorem dX12_readsSum_152 : decode cX12_readsSum 152 = .ok (.invokevirtual 156, 3) := by decide +kernel
theorem dX12_readsSum_155 : decode cX12_readsSum 155 = .ok (.ireturn, 1) := by decide +kernel
theorem dX12_readsSum_156 : decode cX12_readsSum 156 = .ok (.aload_n 0, 1) := by decide +kernel
theorem dX12_readsSum_157 : decode cX12_readsSum 157 = .ok (.iconst 1, 1) := by decide +kernel
theorem dX12_readsSum_158 : decode cX12_readsSum 158 = .ok (.invokevirtual 199, 3) := by decide +kernel
theorem dX12_readsSum_161 : decode cX12_readsSum 161 = .ok (.iconst 1, 1) := by decide +kernel
theorem dX12_readsSum_162 : decode cX12_readsSum 162 = .ok (.ireturn, 1) := by decide +kernel
theorem dX12_readsSum_163 : decode cX12_readsSum 163 = .ok (.goto (-149), 3) := by decide +kernel
def b12_readsSum_138 (rc : Nat → List Int32 → List Int64 → Mem → Option (Int32 × Mem)) (n : Nat) (i1 : Int32) (M : Mem) : Option (Int32 × Mem) :=
  bnd (f12_hasOpenSum n i1 M) fun r39 M40 =>
  (if r39 = 0 then (
   bnd (f12_closesSums n (1 : Int32) M40) fun r43 M44 =>
   some ((1 : Int32), M44))
  else (
   bnd (f12_wrongAt n (1 : Int32) (M40.1 0 12) M40) fun r46 M47 =>
   chk (isb r46) <|
   some (r46, M47)))
def b12_readsSum_163 (rc : Nat → List Int32 → List Int64 → Mem → Option (Int32 × Mem)) (n : Nat) (i1 : Int32) (M : Mem) : Option (Int32 × Mem) :=
  rc 14 [i1] [] M
def b12_readsSum_38 (rc : Nat → List Int32 → List Int64 → Mem → Option (Int32 × Mem)) (n : Nat) (i1 : Int32) (i2 : Int32) (s1 : Int32) (M : Mem) : Option (Int32 × Mem) :=
  bnd (f12_closesSums n s1 M) fun r28 M29 =>
  chk (inb (M29.1 0 18) 260) <|
  lt (wI M29 10 (M29.1 0 18).toNatClampNeg ((1048576 : Int32) * i2)) fun M32 =>
  lt (wI M32 0 18 ((M32.1 0 18) + (1 : Int32))) fun M33 =>
  lt (wI M33 0 12 ((M33.1 0 12) + (1 : Int32))) fun M34 =>
  bnd (f12_readsFactor n M34) fun r35 M36 =>
  (if r35 = 0 then (
   some ((0 : Int32), M36))
  else (
   b12_readsSum_163  rc n i1 M36))
def b12_readsSum_14 (rc : Nat → List Int32 → List Int64 → Mem → Option (Int32 × Mem)) (n : Nat) (i1 : Int32) (M : Mem) : Option (Int32 × Mem) :=
  bnd (f12_here n M) fun r6 M7 =>
  bnd (f12_sumSign n r6 M7) fun r9 M10 =>
  (if r9 = (-1 : Int32) then (
   bnd (f12_here n M10) fun r13 M14 =>
   (if r13 = (93 : Int32) then (
    bnd (f12_hasOpenSum n i1 M14) fun r17 M18 =>
    (if r17 = 0 then (
     b12_readsSum_138  rc n i1 M18)
    else (
     bnd (f12_closesSums n (1 : Int32) M18) fun r21 M22 =>
     lt (wI M22 0 18 ((M22.1 0 18) - (1 : Int32))) fun M24 =>
     lt (wI M24 0 16 ((M24.1 0 16) - (1 : Int32))) fun M25 =>
     lt (wI M25 0 12 ((M25.1 0 12) + (1 : Int32))) fun M26 =>
     b12_readsSum_163  rc n i1 M26)))
   else (
    b12_readsSum_138  rc n i1 M14)))
  else (
   (if (4 : Int32) ≤ r9 then (
    b12_readsSum_38  rc n i1 r9 (0 : Int32) M10)
   else (
    b12_readsSum_38  rc n i1 r9 (1 : Int32) M10))))
def b12_readsSum_0 (rc : Nat → List Int32 → List Int64 → Mem → Option (Int32 × Mem)) (n : Nat) (M : Mem) : Option (Int32 × Mem) :=
  lt (M.1 0 18) fun v1 =>
  bnd (f12_readsFactor n M) fun r2 M3 =>
  (if r2 = 0 then (
   some ((0 : Int32), M3))
  else (
   b12_readsSum_14  rc n v1 M3))
def r12_readsSum : Nat → Nat → List Int32 → List Int64 → Mem → Option (Int32 × Mem)
  | 0 => fun _ _ _ _ => none
  | n + 1 => fun pc li lj M =>
    if pc = 14 then (match li, lj with | [i1], [] => b12_readsSum_14  (r12_readsSum  n) n i1 M | _, _ => none) else
    none
theorem e12_readsSum_14  (n : Nat) (i1 : Int32) (M : Mem) : r12_readsSum  (n + 1) 14 [i1] [] M = b12_readsSum_14  (r12_readsSum  n) n i1 M := by
  rw [r12_readsSum]
  simp
def f12_readsSum (n : Nat)  (M : Mem) : Option (Int32 × Mem) := b12_readsSum_0 (r12_readsSum n) n M
abbrev rm12_readsSum : Room := { frames := 4, cells := 0, slots := 0, locals := 82 }
theorem y12_readsSum_w : yV RX12 yX12_readsSum cX12_readsSum 3 (some .boolean) 0 := ⟨g_1343, gp 41 rfl rfl, g_14, g_1344, rfl, by decide, by decide, by decide +kernel⟩
set_option maxHeartbeats 4000000 in
set_option maxRecDepth 100000 in
theorem w12_readsSum_138 {p : Program} {l : Launch} {e : Env} {s : State} {m : MethodId} {args : Array Value} {below : List Frame} {meth : Method} {c : Code} {z : Zt} {b : Nat}  (C : Cx p s m args c cX12_readsSum 3 RX12 z 32 b) (hr : meth.sig.returnType = (some .boolean)) (hk : meth.locks = false) {r : Int32} {M' : Mem} {rc : Nat → List Int32 → List Int64 → Mem → Option (Int32 × Mem)} {n : Nat} (q14 : ∀ (i1 : Int32) (M : Mem) (H : Heap) (locs : List Loc) (ls : Array Slot), rc 14 [i1] [] M = some (r, M') → va_P z.1 vwCl (pw (yd z b) 32 b M) H → va_S (pA 32 b) s.heap H locs → lv_has ls 3 [(0, .ref (b + 0)), (1, .int i1)] → W p l e rm12_readsSum s m args below meth c H locs 0 0 (MQ below (va_Qi (fun (r' : Int32) (M2 : Mem) => r' = r ∧ M2 = M') (fun M2 t => va_P z.1 vwCl (pw (yd z b) 32 b M2) t.heap) (pA 32 b)) args s 0 0 (pA 32 b)) (F0 m 14 ls [])) {i1 : Int32} {M : Mem} {H : Heap} {locs : List Loc} {ls : Array Slot} (hf : b12_readsSum_138  rc n i1 M = some (r, M')) (hP : va_P z.1 vwCl (pw (yd z b) 32 b M) H) (hS : va_S (pA 32 b) s.heap H locs) (hl : lv_has ls 3 [(0, .ref (b + 0)), (1, .int i1)]) : W p l e rm12_readsSum s m args below meth c H locs 0 0 (MQ below (va_Qi (fun (r' : Int32) (M2 : Mem) => r' = r ∧ M2 = M') (fun M2 t => va_P z.1 vwCl (pw (yd z b) 32 b M2) t.heap) (pA 32 b)) args s 0 0 (pA 32 b)) (F0 m 138 ls []) := by
  have hx := C.1.1
  have hb := C.1.2.1
  unfold b12_readsSum_138 at hf
  refine lv_aload_n hx hb dX12_readsSum_138 rfl (lv_at hl 0 rfl) ?_
  refine lv_iload_n hx hb dX12_readsSum_139 rfl (lv_at hl 1 rfl) ?_
  obtain ⟨r39, M40, h41, hf⟩ := bnd_s hf
  refine pcVi (As := [.int i1]) C hP hS (k := 0) (Nat.le_of_ble_eq_true rfl) (yd_0 _ _) rfl (c12_hasOpenSum  h41) y12_hasOpenSum_w g_1380 rfl rfl rfl ⟨Nat.le_of_ble_eq_true rfl, Nat.le_of_ble_eq_true rfl⟩ hl.1 rfl (Nat.le_of_ble_eq_true rfl) dX12_readsSum_140 ⟨Nat.le_of_ble_eq_true rfl, Nat.le_of_ble_eq_true rfl⟩ (fun H locs hP hS => ?_)
  refine lv_if_eq (tgt := 156) hx hb dX12_readsSum_143 (by decide) (fun c42 => ?_) (fun c42 => ?_)
  · replace hf := ite_t c42 hf
    refine lv_aload_n hx hb dX12_readsSum_156 rfl (lv_at hl 0 rfl) ?_
    refine lv_iconst (v := (1 : Int32)) hx hb dX12_readsSum_157 (by decide) ?_
    obtain ⟨r43, M44, h45, hf⟩ := bnd_s hf
    refine pcVv (As := [.int (1 : Int32)]) C hP hS (k := 0) (Nat.le_of_ble_eq_true rfl) (yd_0 _ _) rfl (c12_closesSums  h45) y12_closesSums_w g_1372 rfl rfl rfl ⟨Nat.le_of_ble_eq_true rfl, Nat.le_of_ble_eq_true rfl⟩ hl.1 rfl (Nat.le_of_ble_eq_true rfl) dX12_readsSum_158 ⟨Nat.le_of_ble_eq_true rfl, Nat.le_of_ble_eq_true rfl⟩ (fun H locs hP hS => ?_)
    refine lv_iconst (v := (1 : Int32)) hx hb dX12_readsSum_161 (by decide) ?_
    exact prZ C hr hk hP hS hf rfl dX12_readsSum_162
  · replace hf := ite_f c42 hf
    refine lv_aload_n hx hb dX12_readsSum_146 rfl (lv_at hl 0 rfl) ?_
    refine lv_iconst (v := (1 : Int32)) hx hb dX12_readsSum_147 (by decide) ?_
    refine lv_aload_n hx hb dX12_readsSum_148 rfl (lv_at hl 0 rfl) ?_
    refine pg C hP (k := 0) (j := 12) (Nat.le_of_ble_eq_true rfl) (yd_0 _ _) rfl iw_12 (Nat.le_of_ble_eq_true rfl) g_1147 rfl rfl dX12_readsSum_149 ?_
    obtain ⟨r46, M47, h48, hf⟩ := bnd_s hf
    refine pcVi (As := [.int (1 : Int32), .int (M40.1 0 12)]) C hP hS (k := 0) (Nat.le_of_ble_eq_true rfl) (yd_0 _ _) rfl (c12_wrongAt  h48) y12_wrongAt_w g_1337 rfl rfl rfl ⟨Nat.le_of_ble_eq_true rfl, Nat.le_of_ble_eq_true rfl⟩ hl.1 rfl (Nat.le_of_ble_eq_true rfl) dX12_readsSum_152 ⟨Nat.le_of_ble_eq_true rfl, Nat.le_of_ble_eq_true rfl⟩ (fun H locs hP hS => ?_)
    have h49 := chk_1 hf
    replace hf := chk_2 hf
    exact prZ C hr hk hP hS hf (isb_n h49) dX12_readsSum_155
set_option maxHeartbeats 4000000 in
set_option maxRecDepth 100000 in
theorem w12_readsSum_163 {p : Program} {l : Launch} {e : Env} {s : State} {m : MethodId} {args : Array Value} {below : List Frame} {meth : Method} {c : Code} {z : Zt} {b : Nat}  (C : Cx p s m args c cX12_readsSum 3 RX12 z 32 b) (hr : meth.sig.returnType = (some .boolean)) (hk : meth.locks = false) {r : Int32} {M' : Mem} {rc : Nat → List Int32 → List Int64 → Mem → Option (Int32 × Mem)} {n : Nat} (q14 : ∀ (i1 : Int32) (M : Mem) (H : Heap) (locs : List Loc) (ls : Array Slot), rc 14 [i1] [] M = some (r, M') → va_P z.1 vwCl (pw (yd z b) 32 b M) H → va_S (pA 32 b) s.heap H locs → lv_has ls 3 [(0, .ref (b + 0)), (1, .int i1)] → W p l e rm12_readsSum s m args below meth c H locs 0 0 (MQ below (va_Qi (fun (r' : Int32) (M2 : Mem) => r' = r ∧ M2 = M') (fun M2 t => va_P z.1 vwCl (pw (yd z b) 32 b M2) t.heap) (pA 32 b)) args s 0 0 (pA 32 b)) (F0 m 14 ls [])) {i1 : Int32} {M : Mem} {H : Heap} {locs : List Loc} {ls : Array Slot} (hf : b12_readsSum_163  rc n i1 M = some (r, M')) (hP : va_P z.1 vwCl (pw (yd z b) 32 b M) H) (hS : va_S (pA 32 b) s.heap H locs) (hl : lv_has ls 3 [(0, .ref (b + 0)), (1, .int i1)]) : W p l e rm12_readsSum s m args below meth c H locs 0 0 (MQ below (va_Qi (fun (r' : Int32) (M2 : Mem) => r' = r ∧ M2 = M') (fun M2 t => va_P z.1 vwCl (pw (yd z b) 32 b M2) t.heap) (pA 32 b)) args s 0 0 (pA 32 b)) (F0 m 163 ls []) := by
  have hx := C.1.1
  have hb := C.1.2.1
  unfold b12_readsSum_163 at hf
  refine lv_goto (tgt := 14) hx hb dX12_readsSum_163 (by decide) ?_
  exact q14 i1 M _ _ _ hf hP hS (lv_sub hl [0, 1] rfl)
set_option maxHeartbeats 4000000 in
set_option maxRecDepth 100000 in
theorem w12_readsSum_38 {p : Program} {l : Launch} {e : Env} {s : State} {m : MethodId} {args : Array Value} {below : List Frame} {meth : Method} {c : Code} {z : Zt} {b : Nat}  (C : Cx p s m args c cX12_readsSum 3 RX12 z 32 b) (hr : meth.sig.returnType = (some .boolean)) (hk : meth.locks = false) {r : Int32} {M' : Mem} {rc : Nat → List Int32 → List Int64 → Mem → Option (Int32 × Mem)} {n : Nat} (q14 : ∀ (i1 : Int32) (M : Mem) (H : Heap) (locs : List Loc) (ls : Array Slot), rc 14 [i1] [] M = some (r, M') → va_P z.1 vwCl (pw (yd z b) 32 b M) H → va_S (pA 32 b) s.heap H locs → lv_has ls 3 [(0, .ref (b + 0)), (1, .int i1)] → W p l e rm12_readsSum s m args below meth c H locs 0 0 (MQ below (va_Qi (fun (r' : Int32) (M2 : Mem) => r' = r ∧ M2 = M') (fun M2 t => va_P z.1 vwCl (pw (yd z b) 32 b M2) t.heap) (pA 32 b)) args s 0 0 (pA 32 b)) (F0 m 14 ls [])) {i1 : Int32} {i2 : Int32} {s1 : Int32} {M : Mem} {H : Heap} {locs : List Loc} {ls : Array Slot} (hf : b12_readsSum_38  rc n i1 i2 s1 M = some (r, M')) (hP : va_P z.1 vwCl (pw (yd z b) 32 b M) H) (hS : va_S (pA 32 b) s.heap H locs) (hl : lv_has ls 3 [(0, .ref (b + 0)), (1, .int i1), (2, .int i2)]) : W p l e rm12_readsSum s m args below meth c H locs 0 0 (MQ below (va_Qi (fun (r' : Int32) (M2 : Mem) => r' = r ∧ M2 = M') (fun M2 t => va_P z.1 vwCl (pw (yd z b) 32 b M2) t.heap) (pA 32 b)) args s 0 0 (pA 32 b)) (F0 m 38 ls [.int s1, .ref (b + 0)]) := by
  have hx := C.1.1
  have hb := C.1.2.1
  unfold b12_readsSum_38 at hf
  obtain ⟨r28, M29, h30, hf⟩ := bnd_s hf
  refine pcVv (As := [.int s1]) C hP hS (k := 0) (Nat.le_of_ble_eq_true rfl) (yd_0 _ _) rfl (c12_closesSums  h30) y12_closesSums_w g_1372 rfl rfl rfl ⟨Nat.le_of_ble_eq_true rfl, Nat.le_of_ble_eq_true rfl⟩ hl.1 rfl (Nat.le_of_ble_eq_true rfl) dX12_readsSum_38 ⟨Nat.le_of_ble_eq_true rfl, Nat.le_of_ble_eq_true rfl⟩ (fun H locs hP hS => ?_)
  refine lv_aload_n hx hb dX12_readsSum_41 rfl (lv_at hl 0 rfl) ?_
  refine pg C hP (k := 0) (j := 22) (Nat.le_of_ble_eq_true rfl) (yd_0 _ _) rfl iw_12 (Nat.le_of_ble_eq_true rfl) g_1157 rfl rfl dX12_readsSum_42 ?_
  refine lv_aload_n hx hb dX12_readsSum_45 rfl (lv_at hl 0 rfl) ?_
  refine pg C hP (k := 0) (j := 18) (Nat.le_of_ble_eq_true rfl) (yd_0 _ _) rfl iw_12 (Nat.le_of_ble_eq_true rfl) g_1153 rfl rfl dX12_readsSum_46 ?_
  refine lv_ldc hx hb C.1.2.2.2.1 (C.1.2.2.2.2 _ g_1353) dX12_readsSum_49 ?_
  refine lv_iload_n hx hb dX12_readsSum_51 rfl (lv_at hl 2 rfl) ?_
  refine lv_imul hx hb dX12_readsSum_52 ?_
  have h31 := chk_1 hf
  replace hf := chk_2 hf
  refine psI C hP hS (k := 10) (Nat.le_of_ble_eq_true rfl) (yd_10) h31 dX12_readsSum_53 (fun M32 H locs eM32 hP hS => ?_)
  replace hf := lt_c eM32 hf
  refine lv_aload_n hx hb dX12_readsSum_54 rfl (lv_at hl 0 rfl) ?_
  refine lv_aload_n hx hb dX12_readsSum_55 rfl (lv_at hl 0 rfl) ?_
  refine pg C hP (k := 0) (j := 18) (Nat.le_of_ble_eq_true rfl) (yd_0 _ _) rfl iw_12 (Nat.le_of_ble_eq_true rfl) g_1153 rfl rfl dX12_readsSum_56 ?_
  refine lv_iconst (v := (1 : Int32)) hx hb dX12_readsSum_59 (by decide) ?_
  refine lv_iadd hx hb dX12_readsSum_60 ?_
  refine ppI C hP hS (k := 0) (j := 18) (ty := .int) (Nat.le_of_ble_eq_true rfl) (yd_0 _ _) rfl iw_12 tyX12 tyX12_ok nmX12 (Nat.le_of_ble_eq_true rfl) g_1153 rfl rfl (by decide +kernel) rfl rfl (Nat.le_of_ble_eq_true rfl) (yu_0_18 _ _ _) dX12_readsSum_61 (fun M33 H locs eM33 hP hS => ?_)
  replace hf := lt_c eM33 hf
  refine lv_aload_n hx hb dX12_readsSum_64 rfl (lv_at hl 0 rfl) ?_
  refine lv_aload_n hx hb dX12_readsSum_65 rfl (lv_at hl 0 rfl) ?_
  refine pg C hP (k := 0) (j := 12) (Nat.le_of_ble_eq_true rfl) (yd_0 _ _) rfl iw_12 (Nat.le_of_ble_eq_true rfl) g_1147 rfl rfl dX12_readsSum_66 ?_
  refine lv_iconst (v := (1 : Int32)) hx hb dX12_readsSum_69 (by decide) ?_
  refine lv_iadd hx hb dX12_readsSum_70 ?_
  refine ppI C hP hS (k := 0) (j := 12) (ty := .int) (Nat.le_of_ble_eq_true rfl) (yd_0 _ _) rfl iw_12 tyX12 tyX12_ok nmX12 (Nat.le_of_ble_eq_true rfl) g_1147 rfl rfl (by decide +kernel) rfl rfl (Nat.le_of_ble_eq_true rfl) (yu_0_12 _ _ _) dX12_readsSum_71 (fun M34 H locs eM34 hP hS => ?_)
  replace hf := lt_c eM34 hf
  refine lv_aload_n hx hb dX12_readsSum_74 rfl (lv_at hl 0 rfl) ?_
  obtain ⟨r35, M36, h37, hf⟩ := bnd_s hf
  refine pcVi (As := []) C hP hS (k := 0) (Nat.le_of_ble_eq_true rfl) (yd_0 _ _) rfl (c12_readsFactor  h37) y12_readsFactor_w g_1345 rfl rfl rfl ⟨Nat.le_of_ble_eq_true rfl, Nat.le_of_ble_eq_true rfl⟩ hl.1 rfl (Nat.le_of_ble_eq_true rfl) dX12_readsSum_75 ⟨Nat.le_of_ble_eq_true rfl, Nat.le_of_ble_eq_true rfl⟩ (fun H locs hP hS => ?_)
  refine lv_if_ne (tgt := 163) hx hb dX12_readsSum_78 (by decide) (fun c38 => ?_) (fun c38 => ?_)
  · replace hf := ite_f c38 hf
    exact w12_readsSum_163 (n := n)  C hr hk q14 hf hP hS (lv_sub hl [0, 1] rfl)
  · replace hf := ite_t c38 hf
    refine lv_iconst (v := (0 : Int32)) hx hb dX12_readsSum_81 (by decide) ?_
    exact prZ C hr hk hP hS hf rfl dX12_readsSum_82
set_option maxHeartbeats 4000000 in
set_option maxRecDepth 100000 in
theorem w12_readsSum_14 {p : Program} {l : Launch} {e : Env} {s : State} {m : MethodId} {args : Array Value} {below : List Frame} {meth : Method} {c : Code} {z : Zt} {b : Nat}  (C : Cx p s m args c cX12_readsSum 3 RX12 z 32 b) (hr : meth.sig.returnType = (some .boolean)) (hk : meth.locks = false) {r : Int32} {M' : Mem} {rc : Nat → List Int32 → List Int64 → Mem → Option (Int32 × Mem)} {n : Nat} (q14 : ∀ (i1 : Int32) (M : Mem) (H : Heap) (locs : List Loc) (ls : Array Slot), rc 14 [i1] [] M = some (r, M') → va_P z.1 vwCl (pw (yd z b) 32 b M) H → va_S (pA 32 b) s.heap H locs → lv_has ls 3 [(0, .ref (b + 0)), (1, .int i1)] → W p l e rm12_readsSum s m args below meth c H locs 0 0 (MQ below (va_Qi (fun (r' : Int32) (M2 : Mem) => r' = r ∧ M2 = M') (fun M2 t => va_P z.1 vwCl (pw (yd z b) 32 b M2) t.heap) (pA 32 b)) args s 0 0 (pA 32 b)) (F0 m 14 ls [])) {i1 : Int32} {M : Mem} {H : Heap} {locs : List Loc} {ls : Array Slot} (hf : b12_readsSum_14  rc n i1 M = some (r, M')) (hP : va_P z.1 vwCl (pw (yd z b) 32 b M) H) (hS : va_S (pA 32 b) s.heap H locs) (hl : lv_has ls 3 [(0, .ref (b + 0)), (1, .int i1)]) : W p l e rm12_readsSum s m args below meth c H locs 0 0 (MQ below (va_Qi (fun (r' : Int32) (M2 : Mem) => r' = r ∧ M2 = M') (fun M2 t => va_P z.1 vwCl (pw (yd z b) 32 b M2) t.heap) (pA 32 b)) args s 0 0 (pA 32 b)) (F0 m 14 ls []) := by
  have hx := C.1.1
  have hb := C.1.2.1
  unfold b12_readsSum_14 at hf
  refine lv_aload_n hx hb dX12_readsSum_14 rfl (lv_at hl 0 rfl) ?_
  obtain ⟨r6, M7, h8, hf⟩ := bnd_s hf
  refine pcVi (As := []) C hP hS (k := 0) (Nat.le_of_ble_eq_true rfl) (yd_0 _ _) rfl (c12_here  h8) y12_here_w g_1333 rfl rfl rfl ⟨Nat.le_of_ble_eq_true rfl, Nat.le_of_ble_eq_true rfl⟩ hl.1 rfl (Nat.le_of_ble_eq_true rfl) dX12_readsSum_15 ⟨Nat.le_of_ble_eq_true rfl, Nat.le_of_ble_eq_true rfl⟩ (fun H locs hP hS => ?_)
  obtain ⟨r9, M10, h11, hf⟩ := bnd_s hf
  refine pcSi (As := [.int r6]) C hP hS (c12_sumSign  h11) y12_sumSign_w g_1369 rfl rfl rfl ⟨Nat.le_of_ble_eq_true rfl, Nat.le_of_ble_eq_true rfl⟩ hl.1 rfl (Nat.le_of_ble_eq_true rfl) dX12_readsSum_18 ⟨Nat.le_of_ble_eq_true rfl, Nat.le_of_ble_eq_true rfl⟩ (fun H locs hP hS => ?_)
  refine lv_istore_n (lv' := [(2, .int r9), (0, .ref (b + 0)), (1, .int i1)]) hx hb dX12_readsSum_21 rfl hl (by decide) rfl (fun ls hl => ?_)
  refine lv_iload_n hx hb dX12_readsSum_22 rfl (lv_at hl 0 rfl) ?_
  refine lv_iconst (v := (-1 : Int32)) hx hb dX12_readsSum_23 (by decide) ?_
  refine lv_icmp_eq (tgt := 83) hx hb dX12_readsSum_24 (by decide) (fun c12 => ?_) (fun c12 => ?_)
  · replace hf := ite_t c12 hf
    refine lv_aload_n hx hb dX12_readsSum_83 rfl (lv_at hl 1 rfl) ?_
    obtain ⟨r13, M14, h15, hf⟩ := bnd_s hf
    refine pcVi (As := []) C hP hS (k := 0) (Nat.le_of_ble_eq_true rfl) (yd_0 _ _) rfl (c12_here  h15) y12_here_w g_1333 rfl rfl rfl ⟨Nat.le_of_ble_eq_true rfl, Nat.le_of_ble_eq_true rfl⟩ hl.1 rfl (Nat.le_of_ble_eq_true rfl) dX12_readsSum_84 ⟨Nat.le_of_ble_eq_true rfl, Nat.le_of_ble_eq_true rfl⟩ (fun H locs hP hS => ?_)
    refine lv_bipush (v := (93 : Int32)) hx hb dX12_readsSum_87 (by decide) ?_
    refine lv_icmp_ne (tgt := 138) hx hb dX12_readsSum_89 (by decide) (fun c16 => ?_) (fun c16 => ?_)
    · replace hf := ite_f c16 hf
      exact w12_readsSum_138 (n := n)  C hr hk q14 hf hP hS (lv_sub hl [1, 2] rfl)
    · replace hf := ite_t c16 hf
      refine lv_aload_n hx hb dX12_readsSum_92 rfl (lv_at hl 1 rfl) ?_
      refine lv_iload_n hx hb dX12_readsSum_93 rfl (lv_at hl 2 rfl) ?_
      obtain ⟨r17, M18, h19, hf⟩ := bnd_s hf
      refine pcVi (As := [.int i1]) C hP hS (k := 0) (Nat.le_of_ble_eq_true rfl) (yd_0 _ _) rfl (c12_hasOpenSum  h19) y12_hasOpenSum_w g_1380 rfl rfl rfl ⟨Nat.le_of_ble_eq_true rfl, Nat.le_of_ble_eq_true rfl⟩ hl.1 rfl (Nat.le_of_ble_eq_true rfl) dX12_readsSum_94 ⟨Nat.le_of_ble_eq_true rfl, Nat.le_of_ble_eq_true rfl⟩ (fun H locs hP hS => ?_)
      refine lv_if_eq (tgt := 138) hx hb dX12_readsSum_97 (by decide) (fun c20 => ?_) (fun c20 => ?_)
      · replace hf := ite_t c20 hf
        exact w12_readsSum_138 (n := n)  C hr hk q14 hf hP hS (lv_sub hl [1, 2] rfl)
      · replace hf := ite_f c20 hf
        refine lv_aload_n hx hb dX12_readsSum_100 rfl (lv_at hl 1 rfl) ?_
        refine lv_iconst (v := (1 : Int32)) hx hb dX12_readsSum_101 (by decide) ?_
        obtain ⟨r21, M22, h23, hf⟩ := bnd_s hf
        refine pcVv (As := [.int (1 : Int32)]) C hP hS (k := 0) (Nat.le_of_ble_eq_true rfl) (yd_0 _ _) rfl (c12_closesSums  h23) y12_closesSums_w g_1372 rfl rfl rfl ⟨Nat.le_of_ble_eq_true rfl, Nat.le_of_ble_eq_true rfl⟩ hl.1 rfl (Nat.le_of_ble_eq_true rfl) dX12_readsSum_102 ⟨Nat.le_of_ble_eq_true rfl, Nat.le_of_ble_eq_true rfl⟩ (fun H locs hP hS => ?_)
        refine lv_aload_n hx hb dX12_readsSum_105 rfl (lv_at hl 1 rfl) ?_
        refine lv_aload_n hx hb dX12_readsSum_106 rfl (lv_at hl 1 rfl) ?_
        refine pg C hP (k := 0) (j := 18) (Nat.le_of_ble_eq_true rfl) (yd_0 _ _) rfl iw_12 (Nat.le_of_ble_eq_true rfl) g_1153 rfl rfl dX12_readsSum_107 ?_
        refine lv_iconst (v := (1 : Int32)) hx hb dX12_readsSum_110 (by decide) ?_
        refine lv_isub hx hb dX12_readsSum_111 ?_
        refine ppI C hP hS (k := 0) (j := 18) (ty := .int) (Nat.le_of_ble_eq_true rfl) (yd_0 _ _) rfl iw_12 tyX12 tyX12_ok nmX12 (Nat.le_of_ble_eq_true rfl) g_1153 rfl rfl (by decide +kernel) rfl rfl (Nat.le_of_ble_eq_true rfl) (yu_0_18 _ _ _) dX12_readsSum_112 (fun M24 H locs eM24 hP hS => ?_)
        replace hf := lt_c eM24 hf
        refine lv_aload_n hx hb dX12_readsSum_115 rfl (lv_at hl 1 rfl) ?_
        refine lv_aload_n hx hb dX12_readsSum_116 rfl (lv_at hl 1 rfl) ?_
        refine pg C hP (k := 0) (j := 16) (Nat.le_of_ble_eq_true rfl) (yd_0 _ _) rfl iw_12 (Nat.le_of_ble_eq_true rfl) g_1151 rfl rfl dX12_readsSum_117 ?_
        refine lv_iconst (v := (1 : Int32)) hx hb dX12_readsSum_120 (by decide) ?_
        refine lv_isub hx hb dX12_readsSum_121 ?_
        refine ppI C hP hS (k := 0) (j := 16) (ty := .int) (Nat.le_of_ble_eq_true rfl) (yd_0 _ _) rfl iw_12 tyX12 tyX12_ok nmX12 (Nat.le_of_ble_eq_true rfl) g_1151 rfl rfl (by decide +kernel) rfl rfl (Nat.le_of_ble_eq_true rfl) (yu_0_16 _ _ _) dX12_readsSum_122 (fun M25 H locs eM25 hP hS => ?_)
        replace hf := lt_c eM25 hf
        refine lv_aload_n hx hb dX12_readsSum_125 rfl (lv_at hl 1 rfl) ?_
        refine lv_aload_n hx hb dX12_readsSum_126 rfl (lv_at hl 1 rfl) ?_
        refine pg C hP (k := 0) (j := 12) (Nat.le_of_ble_eq_true rfl) (yd_0 _ _) rfl iw_12 (Nat.le_of_ble_eq_true rfl) g_1147 rfl rfl dX12_readsSum_127 ?_
        refine lv_iconst (v := (1 : Int32)) hx hb dX12_readsSum_130 (by decide) ?_
        refine lv_iadd hx hb dX12_readsSum_131 ?_
        refine ppI C hP hS (k := 0) (j := 12) (ty := .int) (Nat.le_of_ble_eq_true rfl) (yd_0 _ _) rfl iw_12 tyX12 tyX12_ok nmX12 (Nat.le_of_ble_eq_true rfl) g_1147 rfl rfl (by decide +kernel) rfl rfl (Nat.le_of_ble_eq_true rfl) (yu_0_12 _ _ _) dX12_readsSum_132 (fun M26 H locs eM26 hP hS => ?_)
        replace hf := lt_c eM26 hf
        refine lv_goto (tgt := 163) hx hb dX12_readsSum_135 (by decide) ?_
        exact w12_readsSum_163 (n := n)  C hr hk q14 hf hP hS (lv_sub hl [1, 2] rfl)
  · replace hf := ite_f c12 hf
    refine lv_aload_n hx hb dX12_readsSum_27 rfl (lv_at hl 1 rfl) ?_
    refine lv_iload_n hx hb dX12_readsSum_28 rfl (lv_at hl 0 rfl) ?_
    refine lv_iconst (v := (4 : Int32)) hx hb dX12_readsSum_29 (by decide) ?_
    refine lv_icmp_ge (tgt := 37) hx hb dX12_readsSum_30 (by decide) (fun c27 => ?_) (fun c27 => ?_)
    · replace hf := ite_t c27 hf
      refine lv_iconst (v := (0 : Int32)) hx hb dX12_readsSum_37 (by decide) ?_
      exact w12_readsSum_38 (n := n)  C hr hk q14 hf hP hS (lv_sub hl [1, 2, 0] rfl)
    · replace hf := ite_f c27 hf
      refine lv_iconst (v := (1 : Int32)) hx hb dX12_readsSum_33 (by decide) ?_
      refine lv_goto (tgt := 38) hx hb dX12_readsSum_34 (by decide) ?_
      exact w12_readsSum_38 (n := n)  C hr hk q14 hf hP hS (lv_sub hl [1, 2, 0] rfl)
set_option maxHeartbeats 4000000 in
set_option maxRecDepth 100000 in
theorem w12_readsSum_0 {p : Program} {l : Launch} {e : Env} {s : State} {m : MethodId} {args : Array Value} {below : List Frame} {meth : Method} {c : Code} {z : Zt} {b : Nat}  (C : Cx p s m args c cX12_readsSum 3 RX12 z 32 b) (hr : meth.sig.returnType = (some .boolean)) (hk : meth.locks = false) {r : Int32} {M' : Mem} {rc : Nat → List Int32 → List Int64 → Mem → Option (Int32 × Mem)} {n : Nat} (q14 : ∀ (i1 : Int32) (M : Mem) (H : Heap) (locs : List Loc) (ls : Array Slot), rc 14 [i1] [] M = some (r, M') → va_P z.1 vwCl (pw (yd z b) 32 b M) H → va_S (pA 32 b) s.heap H locs → lv_has ls 3 [(0, .ref (b + 0)), (1, .int i1)] → W p l e rm12_readsSum s m args below meth c H locs 0 0 (MQ below (va_Qi (fun (r' : Int32) (M2 : Mem) => r' = r ∧ M2 = M') (fun M2 t => va_P z.1 vwCl (pw (yd z b) 32 b M2) t.heap) (pA 32 b)) args s 0 0 (pA 32 b)) (F0 m 14 ls []))  {M : Mem} {H : Heap} {locs : List Loc} {ls : Array Slot} (hf : b12_readsSum_0  rc n  M = some (r, M')) (hP : va_P z.1 vwCl (pw (yd z b) 32 b M) H) (hS : va_S (pA 32 b) s.heap H locs) (hl : lv_has ls 3 [(0, .ref (b + 0))]) : W p l e rm12_readsSum s m args below meth c H locs 0 0 (MQ below (va_Qi (fun (r' : Int32) (M2 : Mem) => r' = r ∧ M2 = M') (fun M2 t => va_P z.1 vwCl (pw (yd z b) 32 b M2) t.heap) (pA 32 b)) args s 0 0 (pA 32 b)) (F0 m 0 ls []) := by
  have hx := C.1.1
  have hb := C.1.2.1
  unfold b12_readsSum_0 at hf
  refine lv_aload_n hx hb dX12_readsSum_0 rfl (lv_at hl 0 rfl) ?_
  refine pg C hP (k := 0) (j := 18) (Nat.le_of_ble_eq_true rfl) (yd_0 _ _) rfl iw_12 (Nat.le_of_ble_eq_true rfl) g_1153 rfl rfl dX12_readsSum_1 ?_
  refine lv_topi (fun v1 ev1 => ?_)
  replace hf := lt_c ev1 hf
  refine lv_istore_n (lv' := [(1, .int v1), (0, .ref (b + 0))]) hx hb dX12_readsSum_4 rfl hl (by decide) rfl (fun ls hl => ?_)
  refine lv_aload_n hx hb dX12_readsSum_5 rfl (lv_at hl 1 rfl) ?_
  obtain ⟨r2, M3, h4, hf⟩ := bnd_s hf
  refine pcVi (As := []) C hP hS (k := 0) (Nat.le_of_ble_eq_true rfl) (yd_0 _ _) rfl (c12_readsFactor  h4) y12_readsFactor_w g_1345 rfl rfl rfl ⟨Nat.le_of_ble_eq_true rfl, Nat.le_of_ble_eq_true rfl⟩ hl.1 rfl (Nat.le_of_ble_eq_true rfl) dX12_readsSum_6 ⟨Nat.le_of_ble_eq_true rfl, Nat.le_of_ble_eq_true rfl⟩ (fun H locs hP hS => ?_)
  refine lv_if_ne (tgt := 14) hx hb dX12_readsSum_9 (by decide) (fun c5 => ?_) (fun c5 => ?_)
  · replace hf := ite_f c5 hf
    exact w12_readsSum_14 (n := n)  C hr hk q14 hf hP hS (lv_sub hl [1, 0] rfl)
  · replace hf := ite_t c5 hf
    refine lv_iconst (v := (0 : Int32)) hx hb dX12_readsSum_12 (by decide) ?_
    exact prZ C hr hk hP hS hf rfl dX12_readsSum_13
set_option maxHeartbeats 4000000 in
set_option maxRecDepth 100000 in
theorem l12_readsSum {p : Program} {l : Launch} {e : Env} {s : State} {m : MethodId} {args : Array Value} {below : List Frame} {meth : Method} {c : Code} {z : Zt} {b : Nat}  (C : Cx p s m args c cX12_readsSum 3 RX12 z 32 b) (hr : meth.sig.returnType = (some .boolean)) (hk : meth.locks = false) {r : Int32} {M' : Mem} (n : Nat) : (∀ (i1 : Int32) (M : Mem) (H : Heap) (locs : List Loc) (ls : Array Slot), (r12_readsSum  n) 14 [i1] [] M = some (r, M') → va_P z.1 vwCl (pw (yd z b) 32 b M) H → va_S (pA 32 b) s.heap H locs → lv_has ls 3 [(0, .ref (b + 0)), (1, .int i1)] → W p l e rm12_readsSum s m args below meth c H locs 0 0 (MQ below (va_Qi (fun (r' : Int32) (M2 : Mem) => r' = r ∧ M2 = M') (fun M2 t => va_P z.1 vwCl (pw (yd z b) 32 b M2) t.heap) (pA 32 b)) args s 0 0 (pA 32 b)) (F0 m 14 ls [])) := by
  induction n with
  | zero => exact fun _ _ _ _ _ hf => (by cases hf)
  | succ n ih => exact fun _ _ _ _ _ hf hP hS hl => w12_readsSum_14 (n := n)  C hr hk ih ((e12_readsSum_14  n _ _).symm.trans hf) hP hS hl
theorem c12_readsSum {l : Launch} {z : Zt} {b n : Nat}   {M M' : Mem} {r : Int32} (hf : f12_readsSum n   M = some (r, M')) : CI l z (yd z b) 32 b yX12_readsSum cX12_readsSum 3 (some .boolean) rm12_readsSum [.ref (b + 0)] M M' r :=
  CI.ofW (lv := [(0, .ref (b + 0))]) (by decide) (Nat.le_of_ble_eq_true rfl) rfl (fun p e s m args below meth c ls C hr hk hP hS hl => w12_readsSum_0 (n := n)  C hr hk (l12_readsSum  C hr hk n) hf hP hS hl)

-- BronzeKingModel.endsPiece()V
theorem dX12_endsPiece_0 : decode cX12_endsPiece 0 = .ok (.aload_n 0, 1) := by decide +kernel
theorem dX12_endsPiece_1 : decode cX12_endsPiece 1 = .ok (.invokevirtual 176, 3) := by decide +kernel
theorem dX12_endsPiece_4 : decode cX12_endsPiece 4 = .ok (.bipush 10, 2) := by decide +kernel
theorem dX12_endsPiece_6 : decode cX12_endsPiece 6 = .ok (.if_icmp .ne 33, 3) := by decide +kernel
theorem dX12_endsPiece_9 : decode cX12_endsPiece 9 = .ok (.aload_n 0, 1) := by decide +kernel
theorem dX12_endsPiece_10 : decode cX12_endsPiece 10 = .ok (.bipush 10, 2) := by decide +kernel
theorem dX12_endsPiece_12 : decode cX12_endsPiece 12 = .ok (.iconst 0, 1) := by decide +kernel
theorem dX12_endsPiece_13 : decode cX12_endsPiece 13 = .ok (.invokevirtual 179, 3) := by decide +kernel
theorem dX12_endsPiece_16 : decode cX12_endsPiece 16 = .ok (.aload_n 0, 1) := by decide +kernel
theorem dX12_endsPiece_17 : decode cX12_endsPiece 17 = .ok (.aload_n 0, 1) := by decide +kernel
theorem dX12_endsPiece_18 : decode cX12_endsPiece 18 = .ok (.getfield 173, 3) := by decide +kernel
theorem dX12_endsPiece_21 : decode cX12_endsPiece 21 = .ok (.iconst 1, 1) := by decide +kernel
theorem dX12_endsPiece_22 : decode cX12_endsPiece 22 = .ok (.isub, 1) := by decide +kernel
theorem dX12_endsPiece_23 : decode cX12_endsPiece 23 = .ok (.putfield 173, 3) := by decide +kernel
theorem dX12_endsPiece_26 : decode cX12_endsPiece 26 = .ok (.aload_n 0, 1) := by decide +kernel
theorem dX12_endsPiece_27 : decode cX12_endsPiece 27 = .ok (.aload_n 0, 1) := by decide +kernel
theorem dX12_endsPiece_28 : decode cX12_endsPiece 28 = .ok (.getfield 170, 3) := by decide +kernel
theorem dX12_endsPiece_31 : decode cX12_endsPiece 31 = .ok (.iconst 1, 1) := by decide +kernel
theorem dX12_endsPiece_32 : decode cX12_endsPiece 32 = .ok (.isub, 1) := by decide +kernel
theorem dX12_endsPiece_33 : decode cX12_endsPiece 33 = .ok (.putfield 170, 3) := by decide +kernel
theorem dX12_endsPiece_36 : decode cX12_endsPiece 36 = .ok (.goto (-36), 3) := by decide +kernel
theorem dX12_endsPiece_39 : decode cX12_endsPiece 39 = .ok (.return_, 1) := by decide +kernel
def b12_endsPiece_0 (rc : Nat → List Int32 → List Int64 → Mem → Option (Unit × Mem)) (n : Nat) (M : Mem) : Option (Unit × Mem) :=
  bnd (f12_waitTop n M) fun r1 M2 =>
  (if r1 = (10 : Int32) then (
   bnd (f12_codesOf n (10 : Int32) (0 : Int32) M2) fun r5 M6 =>
   lt (wI M6 0 18 ((M6.1 0 18) - (1 : Int32))) fun M8 =>
   lt (wI M8 0 16 ((M8.1 0 16) - (1 : Int32))) fun M9 =>
   rc 0 [] [] M9)
  else (
   some ((), M2)))
def r12_endsPiece : Nat → Nat → List Int32 → List Int64 → Mem → Option (Unit × Mem)
  | 0 => fun _ _ _ _ => none
  | n + 1 => fun pc li lj M =>
    if pc = 0 then (match li, lj with | [], [] => b12_endsPiece_0  (r12_endsPiece  n) n  M | _, _ => none) else
    none
theorem e12_endsPiece_0  (n : Nat)  (M : Mem) : r12_endsPiece  (n + 1) 0 [] [] M = b12_endsPiece_0  (r12_endsPiece  n) n  M := by
  rw [r12_endsPiece]
  simp
def f12_endsPiece (n : Nat)  (M : Mem) : Option (Unit × Mem) := b12_endsPiece_0 (r12_endsPiece n) n M
abbrev rm12_endsPiece : Room := { frames := 1, cells := 0, slots := 0, locals := 22 }
theorem y12_endsPiece_w : yV RX12 yX12_endsPiece cX12_endsPiece 1 none 0 := ⟨g_1394, gp 52 rfl rfl, g_14, g_1395, rfl, by decide, by decide, by decide +kernel⟩
set_option maxHeartbeats 4000000 in
set_option maxRecDepth 100000 in
theorem w12_endsPiece_0 {p : Program} {l : Launch} {e : Env} {s : State} {m : MethodId} {args : Array Value} {below : List Frame} {meth : Method} {c : Code} {z : Zt} {b : Nat}  (C : Cx p s m args c cX12_endsPiece 1 RX12 z 32 b) (hr : meth.sig.returnType = none) (hk : meth.locks = false) {r : Unit} {M' : Mem} {rc : Nat → List Int32 → List Int64 → Mem → Option (Unit × Mem)} {n : Nat} (q0 : ∀  (M : Mem) (H : Heap) (locs : List Loc) (ls : Array Slot), rc 0 [] [] M = some (r, M') → va_P z.1 vwCl (pw (yd z b) 32 b M) H → va_S (pA 32 b) s.heap H locs → lv_has ls 1 [(0, .ref (b + 0))] → W p l e rm12_endsPiece s m args below meth c H locs 0 0 (MQ below (va_Qv (fun (M2 : Mem) => M2 = M') (fun M2 t => va_P z.1 vwCl (pw (yd z b) 32 b M2) t.heap) (pA 32 b)) args s 0 0 (pA 32 b)) (F0 m 0 ls []))  {M : Mem} {H : Heap} {locs : List Loc} {ls : Array Slot} (hf : b12_endsPiece_0  rc n  M = some (r, M')) (hP : va_P z.1 vwCl (pw (yd z b) 32 b M) H) (hS : va_S (pA 32 b) s.heap H locs) (hl : lv_has ls 1 [(0, .ref (b + 0))]) : W p l e rm12_endsPiece s m args below meth c H locs 0 0 (MQ below (va_Qv (fun (M2 : Mem) => M2 = M') (fun M2 t => va_P z.1 vwCl (pw (yd z b) 32 b M2) t.heap) (pA 32 b)) args s 0 0 (pA 32 b)) (F0 m 0 ls []) := by
  have hx := C.1.1
  have hb := C.1.2.1
  unfold b12_endsPiece_0 at hf
  refine lv_aload_n hx hb dX12_endsPiece_0 rfl (lv_at hl 0 rfl) ?_
  obtain ⟨r1, M2, h3, hf⟩ := bnd_s hf
  refine pcVi (As := []) C hP hS (k := 0) (Nat.le_of_ble_eq_true rfl) (yd_0 _ _) rfl (c12_waitTop  h3) y12_waitTop_w g_1376 rfl rfl rfl ⟨Nat.le_of_ble_eq_true rfl, Nat.le_of_ble_eq_true rfl⟩ hl.1 rfl (Nat.le_of_ble_eq_true rfl) dX12_endsPiece_1 ⟨Nat.le_of_ble_eq_true rfl, Nat.le_of_ble_eq_true rfl⟩ (fun H locs hP hS => ?_)
  refine lv_bipush (v := (10 : Int32)) hx hb dX12_endsPiece_4 (by decide) ?_
  refine lv_icmp_ne (tgt := 39) hx hb dX12_endsPiece_6 (by decide) (fun c4 => ?_) (fun c4 => ?_)
  · replace hf := ite_f c4 hf
    exact prV C hr hk hP hS hf dX12_endsPiece_39
  · replace hf := ite_t c4 hf
    refine lv_aload_n hx hb dX12_endsPiece_9 rfl (lv_at hl 0 rfl) ?_
    refine lv_bipush (v := (10 : Int32)) hx hb dX12_endsPiece_10 (by decide) ?_
    refine lv_iconst (v := (0 : Int32)) hx hb dX12_endsPiece_12 (by decide) ?_
    obtain ⟨r5, M6, h7, hf⟩ := bnd_s hf
    refine pcVv (As := [.int (10 : Int32), .int (0 : Int32)]) C hP hS (k := 0) (Nat.le_of_ble_eq_true rfl) (yd_0 _ _) rfl (c12_codesOf  h7) y12_codesOf_w g_1362 rfl rfl rfl ⟨Nat.le_of_ble_eq_true rfl, Nat.le_of_ble_eq_true rfl⟩ hl.1 rfl (Nat.le_of_ble_eq_true rfl) dX12_endsPiece_13 ⟨Nat.le_of_ble_eq_true rfl, Nat.le_of_ble_eq_true rfl⟩ (fun H locs hP hS => ?_)
    refine lv_aload_n hx hb dX12_endsPiece_16 rfl (lv_at hl 0 rfl) ?_
    refine lv_aload_n hx hb dX12_endsPiece_17 rfl (lv_at hl 0 rfl) ?_
    refine pg C hP (k := 0) (j := 18) (Nat.le_of_ble_eq_true rfl) (yd_0 _ _) rfl iw_12 (Nat.le_of_ble_eq_true rfl) g_1153 rfl rfl dX12_endsPiece_18 ?_
    refine lv_iconst (v := (1 : Int32)) hx hb dX12_endsPiece_21 (by decide) ?_
    refine lv_isub hx hb dX12_endsPiece_22 ?_
    refine ppI C hP hS (k := 0) (j := 18) (ty := .int) (Nat.le_of_ble_eq_true rfl) (yd_0 _ _) rfl iw_12 tyX12 tyX12_ok nmX12 (Nat.le_of_ble_eq_true rfl) g_1153 rfl rfl (by decide +kernel) rfl rfl (Nat.le_of_ble_eq_true rfl) (yu_0_18 _ _ _) dX12_endsPiece_23 (fun M8 H locs eM8 hP hS => ?_)
    replace hf := lt_c eM8 hf
    refine lv_aload_n hx hb dX12_endsPiece_26 rfl (lv_at hl 0 rfl) ?_
    refine lv_aload_n hx hb dX12_endsPiece_27 rfl (lv_at hl 0 rfl) ?_
    refine pg C hP (k := 0) (j := 16) (Nat.le_of_ble_eq_true rfl) (yd_0 _ _) rfl iw_12 (Nat.le_of_ble_eq_true rfl) g_1151 rfl rfl dX12_endsPiece_28 ?_
    refine lv_iconst (v := (1 : Int32)) hx hb dX12_endsPiece_31 (by decide) ?_
    refine lv_isub hx hb dX12_endsPiece_32 ?_
    refine ppI C hP hS (k := 0) (j := 16) (ty := .int) (Nat.le_of_ble_eq_true rfl) (yd_0 _ _) rfl iw_12 tyX12 tyX12_ok nmX12 (Nat.le_of_ble_eq_true rfl) g_1151 rfl rfl (by decide +kernel) rfl rfl (Nat.le_of_ble_eq_true rfl) (yu_0_16 _ _ _) dX12_endsPiece_33 (fun M9 H locs eM9 hP hS => ?_)
    replace hf := lt_c eM9 hf
    refine lv_goto (tgt := 0) hx hb dX12_endsPiece_36 (by decide) ?_
    exact q0  M9 _ _ _ hf hP hS (lv_sub hl [0] rfl)
set_option maxHeartbeats 4000000 in
set_option maxRecDepth 100000 in
theorem l12_endsPiece {p : Program} {l : Launch} {e : Env} {s : State} {m : MethodId} {args : Array Value} {below : List Frame} {meth : Method} {c : Code} {z : Zt} {b : Nat}  (C : Cx p s m args c cX12_endsPiece 1 RX12 z 32 b) (hr : meth.sig.returnType = none) (hk : meth.locks = false) {r : Unit} {M' : Mem} (n : Nat) : (∀  (M : Mem) (H : Heap) (locs : List Loc) (ls : Array Slot), (r12_endsPiece  n) 0 [] [] M = some (r, M') → va_P z.1 vwCl (pw (yd z b) 32 b M) H → va_S (pA 32 b) s.heap H locs → lv_has ls 1 [(0, .ref (b + 0))] → W p l e rm12_endsPiece s m args below meth c H locs 0 0 (MQ below (va_Qv (fun (M2 : Mem) => M2 = M') (fun M2 t => va_P z.1 vwCl (pw (yd z b) 32 b M2) t.heap) (pA 32 b)) args s 0 0 (pA 32 b)) (F0 m 0 ls [])) := by
  induction n with
  | zero => exact fun  _ _ _ _ hf => (by cases hf)
  | succ n ih => exact fun  _ _ _ _ hf hP hS hl => w12_endsPiece_0 (n := n)  C hr hk ih ((e12_endsPiece_0  n  _).symm.trans hf) hP hS hl
theorem c12_endsPiece {l : Launch} {z : Zt} {b n : Nat}   {M M' : Mem} {r : Unit} (hf : f12_endsPiece n   M = some (r, M')) : CV l z (yd z b) 32 b yX12_endsPiece cX12_endsPiece 1 none rm12_endsPiece [.ref (b + 0)] M M' :=
  CV.ofW (lv := [(0, .ref (b + 0))]) (by decide) (Nat.le_of_ble_eq_true rfl) rfl (fun p e s m args below meth c ls C hr hk hP hS hl => w12_endsPiece_0 (n := n)  C hr hk (l12_endsPiece  C hr hk n) hf hP hS (lv_sub hl [0] rfl))

-- BronzeKingModel.lands(Z)V
theorem dX12_lands_0 : decode cX12_lands 0 = .ok (.aload_n 0, 1) := by decide +kernel
theorem dX12_lands_1 : decode cX12_lands 1 = .ok (.invokevirtual 176, 3) := by decide +kernel
theorem dX12_lands_4 : decode cX12_lands 4 = .ok (.bipush 11, 2) := by decide +kernel
theorem dX12_lands_6 : decode cX12_lands 6 = .ok (.if_icmp .eq 16, 3) := by decide +kernel
theorem dX12_lands_9 : decode cX12_lands 9 = .ok (.iload_n 1, 1) := by decide +kernel
theorem dX12_lands_10 : decode cX12_lands 10 = .ok (.ifCond .eq 63, 3) := by decide +kernel
theorem dX12_lands_13 : decode cX12_lands 13 = .ok (.aload_n 0, 1) := by decide +kernel
theorem dX12_lands_14 : decode cX12_lands 14 = .ok (.invokevirtual 176, 3) := by decide +kernel
theorem dX12_lands_17 : decode cX12_lands 17 = .ok (.bipush 12, 2) := by decide +kernel
theorem dX12_lands_19 : decode cX12_lands 19 = .ok (.if_icmp .ne 54, 3) := by decide +kernel
theorem dX12_lands_22 : decode cX12_lands 22 = .ok (.aload_n 0, 1) := by decide +kernel
theorem dX12_lands_23 : decode cX12_lands 23 = .ok (.getfield 38, 3) := by decide +kernel
theorem dX12_lands_26 : decode cX12_lands 26 = .ok (.aload_n 0, 1) := by decide +kernel
theorem dX12_lands_27 : decode cX12_lands 27 = .ok (.getfield 173, 3) := by decide +kernel
theorem dX12_lands_30 : decode cX12_lands 30 = .ok (.iconst 1, 1) := by decide +kernel
theorem dX12_lands_31 : decode cX12_lands 31 = .ok (.isub, 1) := by decide +kernel
theorem dX12_lands_32 : decode cX12_lands 32 = .ok (.iaload, 1) := by decide +kernel
theorem dX12_lands_33 : decode cX12_lands 33 = .ok (.ldc 169, 2) := by decide +kernel
theorem dX12_lands_35 : decode cX12_lands 35 = .ok (.irem, 1) := by decide +kernel
theorem dX12_lands_36 : decode cX12_lands 36 = .ok (.istore_n 2, 1) := by decide +kernel
theorem dX12_lands_37 : decode cX12_lands 37 = .ok (.aload_n 0, 1) := by decide +kernel
theorem dX12_lands_38 : decode cX12_lands 38 = .ok (.getfield 35, 3) := by decide +kernel
theorem dX12_lands_41 : decode cX12_lands 41 = .ok (.iload_n 2, 1) := by decide +kernel
theorem dX12_lands_42 : decode cX12_lands 42 = .ok (.ldc 169, 2) := by decide +kernel
theorem dX12_lands_44 : decode cX12_lands 44 = .ok (.aload_n 0, 1) := by decide +kernel
theorem dX12_lands_45 : decode cX12_lands 45 = .ok (.getfield 35, 3) := by decide +kernel
theorem dX12_lands_48 : decode cX12_lands 48 = .ok (.iload_n 2, 1) := by decide +kernel
theorem dX12_lands_49 : decode cX12_lands 49 = .ok (.iaload, 1) := by decide +kernel
theorem dX12_lands_50 : decode cX12_lands 50 = .ok (.ldc 169, 2) := by decide +kernel
theorem dX12_lands_52 : decode cX12_lands 52 = .ok (.idiv, 1) := by decide +kernel
theorem dX12_lands_53 : decode cX12_lands 53 = .ok (.imul, 1) := by decide +kernel
theorem dX12_lands_54 : decode cX12_lands 54 = .ok (.aload_n 0, 1) := by decide +kernel
theorem dX12_lands_55 : decode cX12_lands 55 = .ok (.getfield 166, 3) := by decide +kernel
theorem dX12_lands_58 : decode cX12_lands 58 = .ok (.iadd, 1) := by decide +kernel
theorem dX12_lands_59 : decode cX12_lands 59 = .ok (.iastore, 1) := by decide +kernel
theorem dX12_lands_60 : decode cX12_lands 60 = .ok (.aload_n 0, 1) := by decide +kernel
theorem dX12_lands_61 : decode cX12_lands 61 = .ok (.aload_n 0, 1) := by decide +kernel
theorem dX12_lands_62 : decode cX12_lands 62 = .ok (.getfield 173, 3) := by decide +kernel
theorem dX12_lands_65 : decode cX12_lands 65 = .ok (.iconst 1, 1) := by decide +kernel
theorem dX12_lands_66 : decode cX12_lands 66 = .ok (.isub, 1) := by decide +kernel
theorem dX12_lands_67 : decode cX12_lands 67 = .ok (.putfield 173, 3) := by decide +kernel
theorem dX12_lands_70 : decode cX12_lands 70 = .ok (.goto (-70), 3) := by decide +kernel
theorem dX12_lands_73 : decode cX12_lands 73 = .ok (.return_, 1) := by decide +kernel
def b12_lands_22 (rc : Nat → List Int32 → List Int64 → Mem → Option (Unit × Mem)) (n : Nat) (i1 : Int32) (M : Mem) : Option (Unit × Mem) :=
  chk (inb ((M.1 0 18) - (1 : Int32)) 260) <|
  lt ((M.1 10 ((M.1 0 18) - (1 : Int32)).toNatClampNeg) - (M.1 10 ((M.1 0 18) - (1 : Int32)).toNatClampNeg) / (1048576 : Int32) * (1048576 : Int32)) fun v11 =>
  chk (inb v11 260) <|
  chk (inb v11 260) <|
  lt (wI M 9 v11.toNatClampNeg (((1048576 : Int32) * ((M.1 9 v11.toNatClampNeg) / (1048576 : Int32))) + (M.1 0 17))) fun M14 =>
  lt (wI M14 0 18 ((M14.1 0 18) - (1 : Int32))) fun M15 =>
  rc 0 [i1] [] M15
def b12_lands_0 (rc : Nat → List Int32 → List Int64 → Mem → Option (Unit × Mem)) (n : Nat) (i1 : Int32) (M : Mem) : Option (Unit × Mem) :=
  bnd (f12_waitTop n M) fun r1 M2 =>
  (if r1 = (11 : Int32) then (
   b12_lands_22  rc n i1 M2)
  else (
   (if i1 = 0 then (
    some ((), M2))
   else (
    bnd (f12_waitTop n M2) fun r6 M7 =>
    (if r6 = (12 : Int32) then (
     b12_lands_22  rc n i1 M7)
    else (
     some ((), M7)))))))
def r12_lands : Nat → Nat → List Int32 → List Int64 → Mem → Option (Unit × Mem)
  | 0 => fun _ _ _ _ => none
  | n + 1 => fun pc li lj M =>
    if pc = 0 then (match li, lj with | [i1], [] => b12_lands_0  (r12_lands  n) n i1 M | _, _ => none) else
    none
theorem e12_lands_0  (n : Nat) (i1 : Int32) (M : Mem) : r12_lands  (n + 1) 0 [i1] [] M = b12_lands_0  (r12_lands  n) n i1 M := by
  rw [r12_lands]
  simp
def f12_lands (n : Nat) (a1 : Int32) (M : Mem) : Option (Unit × Mem) := b12_lands_0 (r12_lands n) n a1 M
abbrev rm12_lands : Room := { frames := 1, cells := 0, slots := 0, locals := 20 }
theorem y12_lands_w : yV RX12 yX12_lands cX12_lands 3 none 1 := ⟨g_1398, gp 53 rfl rfl, g_14, g_1399, rfl, by decide, by decide, by decide +kernel⟩
set_option maxHeartbeats 4000000 in
set_option maxRecDepth 100000 in
theorem w12_lands_22 {p : Program} {l : Launch} {e : Env} {s : State} {m : MethodId} {args : Array Value} {below : List Frame} {meth : Method} {c : Code} {z : Zt} {b : Nat}  (C : Cx p s m args c cX12_lands 3 RX12 z 32 b) (hr : meth.sig.returnType = none) (hk : meth.locks = false) {r : Unit} {M' : Mem} {rc : Nat → List Int32 → List Int64 → Mem → Option (Unit × Mem)} {n : Nat} (q0 : ∀ (i1 : Int32) (M : Mem) (H : Heap) (locs : List Loc) (ls : Array Slot), rc 0 [i1] [] M = some (r, M') → va_P z.1 vwCl (pw (yd z b) 32 b M) H → va_S (pA 32 b) s.heap H locs → lv_has ls 3 [(0, .ref (b + 0)), (1, .int i1)] → W p l e rm12_lands s m args below meth c H locs 0 0 (MQ below (va_Qv (fun (M2 : Mem) => M2 = M') (fun M2 t => va_P z.1 vwCl (pw (yd z b) 32 b M2) t.heap) (pA 32 b)) args s 0 0 (pA 32 b)) (F0 m 0 ls [])) {i1 : Int32} {M : Mem} {H : Heap} {locs : List Loc} {ls : Array Slot} (hf : b12_lands_22  rc n i1 M = some (r, M')) (hP : va_P z.1 vwCl (pw (yd z b) 32 b M) H) (hS : va_S (pA 32 b) s.heap H locs) (hl : lv_has ls 3 [(0, .ref (b + 0)), (1, .int i1)]) : W p l e rm12_lands s m args below meth c H locs 0 0 (MQ below (va_Qv (fun (M2 : Mem) => M2 = M') (fun M2 t => va_P z.1 vwCl (pw (yd z b) 32 b M2) t.heap) (pA 32 b)) args s 0 0 (pA 32 b)) (F0 m 22 ls []) := by
  have hx := C.1.1
  have hb := C.1.2.1
  unfold b12_lands_22 at hf
  refine lv_aload_n hx hb dX12_lands_22 rfl (lv_at hl 0 rfl) ?_
  refine pg C hP (k := 0) (j := 22) (Nat.le_of_ble_eq_true rfl) (yd_0 _ _) rfl iw_12 (Nat.le_of_ble_eq_true rfl) g_1157 rfl rfl dX12_lands_23 ?_
  refine lv_aload_n hx hb dX12_lands_26 rfl (lv_at hl 0 rfl) ?_
  refine pg C hP (k := 0) (j := 18) (Nat.le_of_ble_eq_true rfl) (yd_0 _ _) rfl iw_12 (Nat.le_of_ble_eq_true rfl) g_1153 rfl rfl dX12_lands_27 ?_
  refine lv_iconst (v := (1 : Int32)) hx hb dX12_lands_30 (by decide) ?_
  refine lv_isub hx hb dX12_lands_31 ?_
  have h10 := chk_1 hf
  replace hf := chk_2 hf
  refine paI C hP (k := 10) (Nat.le_of_ble_eq_true rfl) (yd_10 _ _) h10 dX12_lands_32 ?_
  refine lv_ldc hx hb C.1.2.2.2.1 (C.1.2.2.2.2 _ g_1353) dX12_lands_33 ?_
  refine lv_irem hx hb dX12_lands_35 (by decide) ?_
  refine lv_topi (fun v11 ev11 => ?_)
  replace hf := lt_c ev11 hf
  refine lv_istore_n (lv' := [(2, .int v11), (0, .ref (b + 0)), (1, .int i1)]) hx hb dX12_lands_36 rfl hl (by decide) rfl (fun ls hl => ?_)
  refine lv_aload_n hx hb dX12_lands_37 rfl (lv_at hl 1 rfl) ?_
  refine pg C hP (k := 0) (j := 21) (Nat.le_of_ble_eq_true rfl) (yd_0 _ _) rfl iw_12 (Nat.le_of_ble_eq_true rfl) g_1156 rfl rfl dX12_lands_38 ?_
  refine lv_iload_n hx hb dX12_lands_41 rfl (lv_at hl 0 rfl) ?_
  refine lv_ldc hx hb C.1.2.2.2.1 (C.1.2.2.2.2 _ g_1353) dX12_lands_42 ?_
  refine lv_aload_n hx hb dX12_lands_44 rfl (lv_at hl 1 rfl) ?_
  refine pg C hP (k := 0) (j := 21) (Nat.le_of_ble_eq_true rfl) (yd_0 _ _) rfl iw_12 (Nat.le_of_ble_eq_true rfl) g_1156 rfl rfl dX12_lands_45 ?_
  refine lv_iload_n hx hb dX12_lands_48 rfl (lv_at hl 0 rfl) ?_
  have h12 := chk_1 hf
  replace hf := chk_2 hf
  refine paI C hP (k := 9) (Nat.le_of_ble_eq_true rfl) (yd_9 _ _) h12 dX12_lands_49 ?_
  refine lv_ldc hx hb C.1.2.2.2.1 (C.1.2.2.2.2 _ g_1353) dX12_lands_50 ?_
  refine lv_idiv hx hb dX12_lands_52 (by decide) ?_
  refine lv_imul hx hb dX12_lands_53 ?_
  refine lv_aload_n hx hb dX12_lands_54 rfl (lv_at hl 1 rfl) ?_
  refine pg C hP (k := 0) (j := 17) (Nat.le_of_ble_eq_true rfl) (yd_0 _ _) rfl iw_12 (Nat.le_of_ble_eq_true rfl) g_1152 rfl rfl dX12_lands_55 ?_
  refine lv_iadd hx hb dX12_lands_58 ?_
  have h13 := chk_1 hf
  replace hf := chk_2 hf
  refine psI C hP hS (k := 9) (Nat.le_of_ble_eq_true rfl) (yd_9) h13 dX12_lands_59 (fun M14 H locs eM14 hP hS => ?_)
  replace hf := lt_c eM14 hf
  refine lv_aload_n hx hb dX12_lands_60 rfl (lv_at hl 1 rfl) ?_
  refine lv_aload_n hx hb dX12_lands_61 rfl (lv_at hl 1 rfl) ?_
  refine pg C hP (k := 0) (j := 18) (Nat.le_of_ble_eq_true rfl) (yd_0 _ _) rfl iw_12 (Nat.le_of_ble_eq_true rfl) g_1153 rfl rfl dX12_lands_62 ?_
  refine lv_iconst (v := (1 : Int32)) hx hb dX12_lands_65 (by decide) ?_
  refine lv_isub hx hb dX12_lands_66 ?_
  refine ppI C hP hS (k := 0) (j := 18) (ty := .int) (Nat.le_of_ble_eq_true rfl) (yd_0 _ _) rfl iw_12 tyX12 tyX12_ok nmX12 (Nat.le_of_ble_eq_true rfl) g_1153 rfl rfl (by decide +kernel) rfl rfl (Nat.le_of_ble_eq_true rfl) (yu_0_18 _ _ _) dX12_lands_67 (fun M15 H locs eM15 hP hS => ?_)
  replace hf := lt_c eM15 hf
  refine lv_goto (tgt := 0) hx hb dX12_lands_70 (by decide) ?_
  exact q0 i1 M15 _ _ _ hf hP hS (lv_sub hl [1, 2] rfl)
set_option maxHeartbeats 4000000 in
set_option maxRecDepth 100000 in
theorem w12_lands_0 {p : Program} {l : Launch} {e : Env} {s : State} {m : MethodId} {args : Array Value} {below : List Frame} {meth : Method} {c : Code} {z : Zt} {b : Nat}  (C : Cx p s m args c cX12_lands 3 RX12 z 32 b) (hr : meth.sig.returnType = none) (hk : meth.locks = false) {r : Unit} {M' : Mem} {rc : Nat → List Int32 → List Int64 → Mem → Option (Unit × Mem)} {n : Nat} (q0 : ∀ (i1 : Int32) (M : Mem) (H : Heap) (locs : List Loc) (ls : Array Slot), rc 0 [i1] [] M = some (r, M') → va_P z.1 vwCl (pw (yd z b) 32 b M) H → va_S (pA 32 b) s.heap H locs → lv_has ls 3 [(0, .ref (b + 0)), (1, .int i1)] → W p l e rm12_lands s m args below meth c H locs 0 0 (MQ below (va_Qv (fun (M2 : Mem) => M2 = M') (fun M2 t => va_P z.1 vwCl (pw (yd z b) 32 b M2) t.heap) (pA 32 b)) args s 0 0 (pA 32 b)) (F0 m 0 ls [])) {i1 : Int32} {M : Mem} {H : Heap} {locs : List Loc} {ls : Array Slot} (hf : b12_lands_0  rc n i1 M = some (r, M')) (hP : va_P z.1 vwCl (pw (yd z b) 32 b M) H) (hS : va_S (pA 32 b) s.heap H locs) (hl : lv_has ls 3 [(0, .ref (b + 0)), (1, .int i1)]) : W p l e rm12_lands s m args below meth c H locs 0 0 (MQ below (va_Qv (fun (M2 : Mem) => M2 = M') (fun M2 t => va_P z.1 vwCl (pw (yd z b) 32 b M2) t.heap) (pA 32 b)) args s 0 0 (pA 32 b)) (F0 m 0 ls []) := by
  have hx := C.1.1
  have hb := C.1.2.1
  unfold b12_lands_0 at hf
  refine lv_aload_n hx hb dX12_lands_0 rfl (lv_at hl 0 rfl) ?_
  obtain ⟨r1, M2, h3, hf⟩ := bnd_s hf
  refine pcVi (As := []) C hP hS (k := 0) (Nat.le_of_ble_eq_true rfl) (yd_0 _ _) rfl (c12_waitTop  h3) y12_waitTop_w g_1376 rfl rfl rfl ⟨Nat.le_of_ble_eq_true rfl, Nat.le_of_ble_eq_true rfl⟩ hl.1 rfl (Nat.le_of_ble_eq_true rfl) dX12_lands_1 ⟨Nat.le_of_ble_eq_true rfl, Nat.le_of_ble_eq_true rfl⟩ (fun H locs hP hS => ?_)
  refine lv_bipush (v := (11 : Int32)) hx hb dX12_lands_4 (by decide) ?_
  refine lv_icmp_eq (tgt := 22) hx hb dX12_lands_6 (by decide) (fun c4 => ?_) (fun c4 => ?_)
  · replace hf := ite_t c4 hf
    exact w12_lands_22 (n := n)  C hr hk q0 hf hP hS (lv_sub hl [0, 1] rfl)
  · replace hf := ite_f c4 hf
    refine lv_iload_n hx hb dX12_lands_9 rfl (lv_at hl 1 rfl) ?_
    refine lv_if_eq (tgt := 73) hx hb dX12_lands_10 (by decide) (fun c5 => ?_) (fun c5 => ?_)
    · replace hf := ite_t c5 hf
      exact prV C hr hk hP hS hf dX12_lands_73
    · replace hf := ite_f c5 hf
      refine lv_aload_n hx hb dX12_lands_13 rfl (lv_at hl 0 rfl) ?_
      obtain ⟨r6, M7, h8, hf⟩ := bnd_s hf
      refine pcVi (As := []) C hP hS (k := 0) (Nat.le_of_ble_eq_true rfl) (yd_0 _ _) rfl (c12_waitTop  h8) y12_waitTop_w g_1376 rfl rfl rfl ⟨Nat.le_of_ble_eq_true rfl, Nat.le_of_ble_eq_true rfl⟩ hl.1 rfl (Nat.le_of_ble_eq_true rfl) dX12_lands_14 ⟨Nat.le_of_ble_eq_true rfl, Nat.le_of_ble_eq_true rfl⟩ (fun H locs hP hS => ?_)
      refine lv_bipush (v := (12 : Int32)) hx hb dX12_lands_17 (by decide) ?_
      refine lv_icmp_ne (tgt := 73) hx hb dX12_lands_19 (by decide) (fun c9 => ?_) (fun c9 => ?_)
      · replace hf := ite_f c9 hf
        exact prV C hr hk hP hS hf dX12_lands_73
      · replace hf := ite_t c9 hf
        exact w12_lands_22 (n := n)  C hr hk q0 hf hP hS (lv_sub hl [0, 1] rfl)
set_option maxHeartbeats 4000000 in
set_option maxRecDepth 100000 in
theorem l12_lands {p : Program} {l : Launch} {e : Env} {s : State} {m : MethodId} {args : Array Value} {below : List Frame} {meth : Method} {c : Code} {z : Zt} {b : Nat}  (C : Cx p s m args c cX12_lands 3 RX12 z 32 b) (hr : meth.sig.returnType = none) (hk : meth.locks = false) {r : Unit} {M' : Mem} (n : Nat) : (∀ (i1 : Int32) (M : Mem) (H : Heap) (locs : List Loc) (ls : Array Slot), (r12_lands  n) 0 [i1] [] M = some (r, M') → va_P z.1 vwCl (pw (yd z b) 32 b M) H → va_S (pA 32 b) s.heap H locs → lv_has ls 3 [(0, .ref (b + 0)), (1, .int i1)] → W p l e rm12_lands s m args below meth c H locs 0 0 (MQ below (va_Qv (fun (M2 : Mem) => M2 = M') (fun M2 t => va_P z.1 vwCl (pw (yd z b) 32 b M2) t.heap) (pA 32 b)) args s 0 0 (pA 32 b)) (F0 m 0 ls [])) := by
  induction n with
  | zero => exact fun _ _ _ _ _ hf => (by cases hf)
  | succ n ih => exact fun _ _ _ _ _ hf hP hS hl => w12_lands_0 (n := n)  C hr hk ih ((e12_lands_0  n _ _).symm.trans hf) hP hS hl
theorem c12_lands {l : Launch} {z : Zt} {b n : Nat}  {a1 : Int32} {M M' : Mem} {r : Unit} (hf : f12_lands n  a1 M = some (r, M')) : CV l z (yd z b) 32 b yX12_lands cX12_lands 3 none rm12_lands [.ref (b + 0), .int a1] M M' :=
  CV.ofW (lv := [(0, .ref (b + 0)), (1, .int a1)]) (by decide) (Nat.le_of_ble_eq_true rfl) rfl (fun p e s m args below meth c ls C hr hk hP hS hl => w12_lands_0 (n := n)  C hr hk (l12_lands  C hr hk n) hf hP hS (lv_sub hl [0, 1] rfl))

-- BronzeKingModel.jumps(I)V
theorem dX12_jumps_0 : decode cX12_jumps 0 = .ok (.aload_n 0, 1) := by decide +kernel
theorem dX12_jumps_1 : decode cX12_jumps 1 = .ok (.getfield 38, 3) := by decide +kernel
theorem dX12_jumps_4 : decode cX12_jumps 4 = .ok (.aload_n 0, 1) := by decide +kernel
theorem dX12_jumps_5 : decode cX12_jumps 5 = .ok (.getfield 173, 3) := by decide +kernel
theorem dX12_jumps_8 : decode cX12_jumps 8 = .ok (.ldc 169, 2) := by decide +kernel
theorem dX12_jumps_10 : decode cX12_jumps 10 = .ok (.iload_n 1, 1) := by decide +kernel
theorem dX12_jumps_11 : decode cX12_jumps 11 = .ok (.imul, 1) := by decide +kernel
theorem dX12_jumps_12 : decode cX12_jumps 12 = .ok (.aload_n 0, 1) := by decide +kernel
theorem dX12_jumps_13 : decode cX12_jumps 13 = .ok (.getfield 166, 3) := by decide +kernel
theorem dX12_jumps_16 : decode cX12_jumps 16 = .ok (.iadd, 1) := by decide +kernel
theorem dX12_jumps_17 : decode cX12_jumps 17 = .ok (.iastore, 1) := by decide +kernel
theorem dX12_jumps_18 : decode cX12_jumps 18 = .ok (.aload_n 0, 1) := by decide +kernel
theorem dX12_jumps_19 : decode cX12_jumps 19 = .ok (.aload_n 0, 1) := by decide +kernel
theorem dX12_jumps_20 : decode cX12_jumps 20 = .ok (.getfield 173, 3) := by decide +kernel
theorem dX12_jumps_23 : decode cX12_jumps 23 = .ok (.iconst 1, 1) := by decide +kernel
theorem dX12_jumps_24 : decode cX12_jumps 24 = .ok (.iadd, 1) := by decide +kernel
theorem dX12_jumps_25 : decode cX12_jumps 25 = .ok (.putfield 173, 3) := by decide +kernel
theorem dX12_jumps_28 : decode cX12_jumps 28 = .ok (.aload_n 0, 1) := by decide +kernel
theorem dX12_jumps_29 : decode cX12_jumps 29 = .ok (.iload_n 1, 1) := by decide +kernel
theorem dX12_jumps_30 : decode cX12_jumps 30 = .ok (.iconst 0, 1) := by decide +kernel
theorem dX12_jumps_31 : decode cX12_jumps 31 = .ok (.invokevirtual 179, 3) := by decide +kernel
theorem dX12_jumps_34 : decode cX12_jumps 34 = .ok (.aload_n 0, 1) := by decide +kernel
theorem dX12_jumps_35 : decode cX12_jumps 35 = .ok (.aload_n 0, 1) := by decide +kernel
theorem dX12_jumps_36 : decode cX12_jumps 36 = .ok (.getfield 143, 3) := by decide +kernel
theorem dX12_jumps_39 : decode cX12_jumps 39 = .ok (.iconst 1, 1) := by decide +kernel
theorem dX12_jumps_40 : decode cX12_jumps 40 = .ok (.iadd, 1) := by decide +kernel
theorem dX12_jumps_41 : decode cX12_jumps 41 = .ok (.putfield 143, 3) := by decide +kernel
theorem dX12_jumps_44 : decode cX12_jumps 44 = .ok (.return_, 1) := by decide +kernel
def b12_jumps_0 (rc : Nat → List Int32 → List Int64 → Mem → Option (Unit × Mem)) (n : Nat) (a1 : Int32) (M : Mem) : Option (Unit × Mem) :=
  chk (inb (M.1 0 18) 260) <|
  lt (wI M 10 (M.1 0 18).toNatClampNeg (((1048576 : Int32) * a1) + (M.1 0 17))) fun M2 =>
  lt (wI M2 0 18 ((M2.1 0 18) + (1 : Int32))) fun M3 =>
  bnd (f12_codesOf n a1 (0 : Int32) M3) fun r4 M5 =>
  lt (wI M5 0 12 ((M5.1 0 12) + (1 : Int32))) fun M7 =>
  some ((), M7)
def f12_jumps (n : Nat) (a1 : Int32) (M : Mem) : Option (Unit × Mem) := b12_jumps_0 (fun _ _ _ _ => none) n a1 M
abbrev rm12_jumps : Room := { frames := 1, cells := 0, slots := 0, locals := 22 }
theorem y12_jumps_w : yV RX12 yX12_jumps cX12_jumps 2 none 1 := ⟨g_1402, gp 54 rfl rfl, g_14, g_1403, rfl, by decide, by decide, by decide +kernel⟩
set_option maxHeartbeats 4000000 in
set_option maxRecDepth 100000 in
theorem w12_jumps_0 {p : Program} {l : Launch} {e : Env} {s : State} {m : MethodId} {args : Array Value} {below : List Frame} {meth : Method} {c : Code} {z : Zt} {b : Nat}  (C : Cx p s m args c cX12_jumps 2 RX12 z 32 b) (hr : meth.sig.returnType = none) (hk : meth.locks = false) {r : Unit} {M' : Mem} {rc : Nat → List Int32 → List Int64 → Mem → Option (Unit × Mem)} {n : Nat}  {a1 : Int32} {M : Mem} {H : Heap} {locs : List Loc} {ls : Array Slot} (hf : b12_jumps_0  rc n a1 M = some (r, M')) (hP : va_P z.1 vwCl (pw (yd z b) 32 b M) H) (hS : va_S (pA 32 b) s.heap H locs) (hl : lv_has ls 2 [(0, .ref (b + 0)), (1, .int a1)]) : W p l e rm12_jumps s m args below meth c H locs 0 0 (MQ below (va_Qv (fun (M2 : Mem) => M2 = M') (fun M2 t => va_P z.1 vwCl (pw (yd z b) 32 b M2) t.heap) (pA 32 b)) args s 0 0 (pA 32 b)) (F0 m 0 ls []) := by
  have hx := C.1.1
  have hb := C.1.2.1
  unfold b12_jumps_0 at hf
  refine lv_aload_n hx hb dX12_jumps_0 rfl (lv_at hl 0 rfl) ?_
  refine pg C hP (k := 0) (j := 22) (Nat.le_of_ble_eq_true rfl) (yd_0 _ _) rfl iw_12 (Nat.le_of_ble_eq_true rfl) g_1157 rfl rfl dX12_jumps_1 ?_
  refine lv_aload_n hx hb dX12_jumps_4 rfl (lv_at hl 0 rfl) ?_
  refine pg C hP (k := 0) (j := 18) (Nat.le_of_ble_eq_true rfl) (yd_0 _ _) rfl iw_12 (Nat.le_of_ble_eq_true rfl) g_1153 rfl rfl dX12_jumps_5 ?_
  refine lv_ldc hx hb C.1.2.2.2.1 (C.1.2.2.2.2 _ g_1353) dX12_jumps_8 ?_
  refine lv_iload_n hx hb dX12_jumps_10 rfl (lv_at hl 1 rfl) ?_
  refine lv_imul hx hb dX12_jumps_11 ?_
  refine lv_aload_n hx hb dX12_jumps_12 rfl (lv_at hl 0 rfl) ?_
  refine pg C hP (k := 0) (j := 17) (Nat.le_of_ble_eq_true rfl) (yd_0 _ _) rfl iw_12 (Nat.le_of_ble_eq_true rfl) g_1152 rfl rfl dX12_jumps_13 ?_
  refine lv_iadd hx hb dX12_jumps_16 ?_
  have h1 := chk_1 hf
  replace hf := chk_2 hf
  refine psI C hP hS (k := 10) (Nat.le_of_ble_eq_true rfl) (yd_10) h1 dX12_jumps_17 (fun M2 H locs eM2 hP hS => ?_)
  replace hf := lt_c eM2 hf
  refine lv_aload_n hx hb dX12_jumps_18 rfl (lv_at hl 0 rfl) ?_
  refine lv_aload_n hx hb dX12_jumps_19 rfl (lv_at hl 0 rfl) ?_
  refine pg C hP (k := 0) (j := 18) (Nat.le_of_ble_eq_true rfl) (yd_0 _ _) rfl iw_12 (Nat.le_of_ble_eq_true rfl) g_1153 rfl rfl dX12_jumps_20 ?_
  refine lv_iconst (v := (1 : Int32)) hx hb dX12_jumps_23 (by decide) ?_
  refine lv_iadd hx hb dX12_jumps_24 ?_
  refine ppI C hP hS (k := 0) (j := 18) (ty := .int) (Nat.le_of_ble_eq_true rfl) (yd_0 _ _) rfl iw_12 tyX12 tyX12_ok nmX12 (Nat.le_of_ble_eq_true rfl) g_1153 rfl rfl (by decide +kernel) rfl rfl (Nat.le_of_ble_eq_true rfl) (yu_0_18 _ _ _) dX12_jumps_25 (fun M3 H locs eM3 hP hS => ?_)
  replace hf := lt_c eM3 hf
  refine lv_aload_n hx hb dX12_jumps_28 rfl (lv_at hl 0 rfl) ?_
  refine lv_iload_n hx hb dX12_jumps_29 rfl (lv_at hl 1 rfl) ?_
  refine lv_iconst (v := (0 : Int32)) hx hb dX12_jumps_30 (by decide) ?_
  obtain ⟨r4, M5, h6, hf⟩ := bnd_s hf
  refine pcVv (As := [.int a1, .int (0 : Int32)]) C hP hS (k := 0) (Nat.le_of_ble_eq_true rfl) (yd_0 _ _) rfl (c12_codesOf  h6) y12_codesOf_w g_1362 rfl rfl rfl ⟨Nat.le_of_ble_eq_true rfl, Nat.le_of_ble_eq_true rfl⟩ hl.1 rfl (Nat.le_of_ble_eq_true rfl) dX12_jumps_31 ⟨Nat.le_of_ble_eq_true rfl, Nat.le_of_ble_eq_true rfl⟩ (fun H locs hP hS => ?_)
  refine lv_aload_n hx hb dX12_jumps_34 rfl (lv_at hl 0 rfl) ?_
  refine lv_aload_n hx hb dX12_jumps_35 rfl (lv_at hl 0 rfl) ?_
  refine pg C hP (k := 0) (j := 12) (Nat.le_of_ble_eq_true rfl) (yd_0 _ _) rfl iw_12 (Nat.le_of_ble_eq_true rfl) g_1147 rfl rfl dX12_jumps_36 ?_
  refine lv_iconst (v := (1 : Int32)) hx hb dX12_jumps_39 (by decide) ?_
  refine lv_iadd hx hb dX12_jumps_40 ?_
  refine ppI C hP hS (k := 0) (j := 12) (ty := .int) (Nat.le_of_ble_eq_true rfl) (yd_0 _ _) rfl iw_12 tyX12 tyX12_ok nmX12 (Nat.le_of_ble_eq_true rfl) g_1147 rfl rfl (by decide +kernel) rfl rfl (Nat.le_of_ble_eq_true rfl) (yu_0_12 _ _ _) dX12_jumps_41 (fun M7 H locs eM7 hP hS => ?_)
  replace hf := lt_c eM7 hf
  exact prV C hr hk hP hS hf dX12_jumps_44
theorem c12_jumps {l : Launch} {z : Zt} {b n : Nat}  {a1 : Int32} {M M' : Mem} {r : Unit} (hf : f12_jumps n  a1 M = some (r, M')) : CV l z (yd z b) 32 b yX12_jumps cX12_jumps 2 none rm12_jumps [.ref (b + 0), .int a1] M M' :=
  CV.ofW (lv := [(0, .ref (b + 0)), (1, .int a1)]) (by decide) (Nat.le_of_ble_eq_true rfl) rfl (fun p e s m args below meth c ls C hr hk hP hS hl => w12_jumps_0 (n := n)  C hr hk  hf hP hS hl)
