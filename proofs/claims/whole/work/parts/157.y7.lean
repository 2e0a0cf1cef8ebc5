-- BronzeKingModel.old(II)I
theorem dX12_old_0 : decode cX12_old 0 = .ok (.iload_n 1, 1) := by decide +kernel
theorem dX12_old_1 : decode cX12_old 1 = .ok (.iload_n 2, 1) := by decide +kernel
theorem dX12_old_2 : decode cX12_old 2 = .ok (.invokestatic 114, 3) := by decide +kernel
theorem dX12_old_5 : decode cX12_old 5 = .ok (.ifCond .ne 5, 3) := by decide +kernel
theorem dX12_old_8 : decode cX12_old 8 = .ok (.iconst (-1), 1) := by decide +kernel
theorem dX12_old_9 : decode cX12_old 9 = .ok (.ireturn, 1) := by decide +kernel
theorem dX12_old_10 : decode cX12_old 10 = .ok (.aload_n 0, 1) := by decide +kernel
theorem dX12_old_11 : decode cX12_old 11 = .ok (.iconst 1, 1) := by decide +kernel
theorem dX12_old_12 : decode cX12_old 12 = .ok (.iconst 0, 1) := by decide +kernel
theorem dX12_old_13 : decode cX12_old 13 = .ok (.invokevirtual 377, 3) := by decide +kernel
theorem dX12_old_16 : decode cX12_old 16 = .ok (.aload_n 0, 1) := by decide +kernel
theorem dX12_old_17 : decode cX12_old 17 = .ok (.getfield 86, 3) := by decide +kernel
theorem dX12_old_20 : decode cX12_old 20 = .ok (.bipush 12, 2) := by decide +kernel
theorem dX12_old_22 : decode cX12_old 22 = .ok (.iload_n 2, 1) := by decide +kernel
theorem dX12_old_23 : decode cX12_old 23 = .ok (.imul, 1) := by decide +kernel
theorem dX12_old_24 : decode cX12_old 24 = .ok (.iload_n 1, 1) := by decide +kernel
theorem dX12_old_25 : decode cX12_old 25 = .ok (.iadd, 1) := by decide +kernel
theorem dX12_old_26 : decode cX12_old 26 = .ok (.iaload, 1) := by decide +kernel
theorem dX12_old_27 : decode cX12_old 27 = .ok (.istore_n 3, 1) := by decide +kernel
theorem dX12_old_28 : decode cX12_old 28 = .ok (.iload_n 3, 1) := by decide +kernel
theorem dX12_old_29 : decode cX12_old 29 = .ok (.ldc_w 351, 3) := by decide +kernel
theorem dX12_old_32 : decode cX12_old 32 = .ok (.if_icmp .ne 8, 3) := by decide +kernel
theorem dX12_old_35 : decode cX12_old 35 = .ok (.bipush (-2), 2) := by decide +kernel
theorem dX12_old_37 : decode cX12_old 37 = .ok (.goto 4, 3) := by decide +kernel
theorem dX12_old_40 : decode cX12_old 40 = .ok (.iload_n 3, 1) := by decide +kernel
theorem dX12_old_41 : decode cX12_old 41 = .ok (.ireturn, 1) := by decide +kernel
def b12_old_0 (rc : Nat → List Int32 → List Int64 → Mem → Option (Int32 × Mem)) (n : Nat) (a1 : Int32) (a2 : Int32) (M : Mem) : Option (Int32 × Mem) :=
  bnd (f12_isPlace n a1 a2 M) fun r1 M2 =>
  (if r1 = 0 then (
   some ((-1 : Int32), M2))
  else (
   bnd (f12_laysCosts n (1 : Int32) (0 : Int32) M2) fun r5 M6 =>
   chk (inb (((12 : Int32) * a2) + a1) 96) <|
   lt (M6.1 26 (((12 : Int32) * a2) + a1).toNatClampNeg) fun v9 =>
   (if v9 = (1000000 : Int32) then (
    some ((-2 : Int32), M6))
   else (
    some (v9, M6)))))
def f12_old (n : Nat) (a1 : Int32) (a2 : Int32) (M : Mem) : Option (Int32 × Mem) := b12_old_0 (fun _ _ _ _ => none) n a1 a2 M
abbrev rm12_old : Room := { frames := 4, cells := 0, slots := 0, locals := 93 }
theorem y12_old_w : yV RX12 yX12_old cX12_old 4 (some .int) 2 := ⟨g_1602, g_1603, g_14, g_1604, rfl, by decide, by decide, by decide +kernel⟩
set_option maxHeartbeats 4000000 in
set_option maxRecDepth 100000 in
theorem w12_old_0 {p : Program} {l : Launch} {e : Env} {s : State} {m : MethodId} {args : Array Value} {below : List Frame} {meth : Method} {c : Code} {z : Zt} {b : Nat}  (C : Cx p s m args c cX12_old 4 RX12 z 32 b) (hr : meth.sig.returnType = (some .int)) (hk : meth.locks = false) {r : Int32} {M' : Mem} {rc : Nat → List Int32 → List Int64 → Mem → Option (Int32 × Mem)} {n : Nat}  {a1 : Int32} {a2 : Int32} {M : Mem} {H : Heap} {locs : List Loc} {ls : Array Slot} (hf : b12_old_0  rc n a1 a2 M = some (r, M')) (hP : va_P z.1 vwCl (pw (yd z b) 32 b M) H) (hS : va_S (pA 32 b) s.heap H locs) (hl : lv_has ls 4 [(0, .ref (b + 0)), (1, .int a1), (2, .int a2)]) : W p l e rm12_old s m args below meth c H locs 0 0 (MQ below (va_Qi (fun (r' : Int32) (M2 : Mem) => r' = r ∧ M2 = M') (fun M2 t => va_P z.1 vwCl (pw (yd z b) 32 b M2) t.heap) (pA 32 b)) args s 0 0 (pA 32 b)) (F0 m 0 ls []) := by
  have hx := C.1.1
  have hb := C.1.2.1
  unfold b12_old_0 at hf
  refine lv_iload_n hx hb dX12_old_0 rfl (lv_at hl 1 rfl) ?_
  refine lv_iload_n hx hb dX12_old_1 rfl (lv_at hl 2 rfl) ?_
  obtain ⟨r1, M2, h3, hf⟩ := bnd_s hf
  refine pcSi (As := [.int a1, .int a2]) C hP hS (c12_isPlace  h3) y12_isPlace_w g_1303 rfl rfl rfl ⟨Nat.le_of_ble_eq_true rfl, Nat.le_of_ble_eq_true rfl⟩ hl.1 rfl (Nat.le_of_ble_eq_true rfl) dX12_old_2 ⟨Nat.le_of_ble_eq_true rfl, Nat.le_of_ble_eq_true rfl⟩ (fun H locs hP hS => ?_)
  refine lv_if_ne (tgt := 10) hx hb dX12_old_5 (by decide) (fun c4 => ?_) (fun c4 => ?_)
  · replace hf := ite_f c4 hf
    refine lv_aload_n hx hb dX12_old_10 rfl (lv_at hl 0 rfl) ?_
    refine lv_iconst (v := (1 : Int32)) hx hb dX12_old_11 (by decide) ?_
    refine lv_iconst (v := (0 : Int32)) hx hb dX12_old_12 (by decide) ?_
    obtain ⟨r5, M6, h7, hf⟩ := bnd_s hf
    refine pcVv (As := [.int (1 : Int32), .int (0 : Int32)]) C hP hS (k := 0) (Nat.le_of_ble_eq_true rfl) (yd_0 _ _) rfl (c12_laysCosts  h7) y12_laysCosts_w g_1605 rfl rfl rfl ⟨Nat.le_of_ble_eq_true rfl, Nat.le_of_ble_eq_true rfl⟩ hl.1 rfl (Nat.le_of_ble_eq_true rfl) dX12_old_13 ⟨Nat.le_of_ble_eq_true rfl, Nat.le_of_ble_eq_true rfl⟩ (fun H locs hP hS => ?_)
    refine lv_aload_n hx hb dX12_old_16 rfl (lv_at hl 0 rfl) ?_
    refine pg C hP (k := 0) (j := 47) (Nat.le_of_ble_eq_true rfl) (yd_0 _ _) rfl iw_12 (Nat.le_of_ble_eq_true rfl) g_1182 rfl rfl dX12_old_17 ?_
    refine lv_bipush (v := (12 : Int32)) hx hb dX12_old_20 (by decide) ?_
    refine lv_iload_n hx hb dX12_old_22 rfl (lv_at hl 2 rfl) ?_
    refine lv_imul hx hb dX12_old_23 ?_
    refine lv_iload_n hx hb dX12_old_24 rfl (lv_at hl 1 rfl) ?_
    refine lv_iadd hx hb dX12_old_25 ?_
    have h8 := chk_1 hf
    replace hf := chk_2 hf
    refine paI C hP (k := 26) (Nat.le_of_ble_eq_true rfl) (yd_26 _ _) h8 dX12_old_26 ?_
    refine lv_topi (fun v9 ev9 => ?_)
    replace hf := lt_c ev9 hf
    refine lv_istore_n (lv' := [(3, .int v9), (0, .ref (b + 0)), (1, .int a1), (2, .int a2)]) hx hb dX12_old_27 rfl hl (by decide) rfl (fun ls hl => ?_)
    refine lv_iload_n hx hb dX12_old_28 rfl (lv_at hl 0 rfl) ?_
    refine lv_ldcw hx hb C.1.2.2.2.1 (C.1.2.2.2.2 _ g_1588) dX12_old_29 ?_
    refine lv_icmp_ne (tgt := 40) hx hb dX12_old_32 (by decide) (fun c10 => ?_) (fun c10 => ?_)
    · replace hf := ite_f c10 hf
      refine lv_iload_n hx hb dX12_old_40 rfl (lv_at hl 0 rfl) ?_
      exact prI C hr hk hP hS hf dX12_old_41
    · replace hf := ite_t c10 hf
      refine lv_bipush (v := (-2 : Int32)) hx hb dX12_old_35 (by decide) ?_
      refine lv_goto (tgt := 41) hx hb dX12_old_37 (by decide) ?_
      exact prI C hr hk hP hS hf dX12_old_41
  · replace hf := ite_t c4 hf
    refine lv_iconst (v := (-1 : Int32)) hx hb dX12_old_8 (by decide) ?_
    exact prI C hr hk hP hS hf dX12_old_9
theorem c12_old {l : Launch} {z : Zt} {b n : Nat}  {a1 : Int32} {a2 : Int32} {M M' : Mem} {r : Int32} (hf : f12_old n  a1 a2 M = some (r, M')) : CI l z (yd z b) 32 b yX12_old cX12_old 4 (some .int) rm12_old [.ref (b + 0), .int a1, .int a2] M M' r :=
  CI.ofW (lv := [(0, .ref (b + 0)), (1, .int a1), (2, .int a2)]) (by decide) (Nat.le_of_ble_eq_true rfl) rfl (fun p e s m args below meth c ls C hr hk hP hS hl => w12_old_0 (n := n)  C hr hk  hf hP hS hl)

-- BronzeKingModel.barred(III)I
theorem dX12_barred_0 : decode cX12_barred 0 = .ok (.iload_n 1, 1) := by decide +kernel
theorem dX12_barred_1 : decode cX12_barred 1 = .ok (.iload_n 2, 1) := by decide +kernel
theorem dX12_barred_2 : decode cX12_barred 2 = .ok (.invokestatic 114, 3) := by decide +kernel
theorem dX12_barred_5 : decode cX12_barred 5 = .ok (.ifCond .eq 12, 3) := by decide +kernel
theorem dX12_barred_8 : decode cX12_barred 8 = .ok (.iload_n 3, 1) := by decide +kernel
theorem dX12_barred_9 : decode cX12_barred 9 = .ok (.iconst 0, 1) := by decide +kernel
theorem dX12_barred_10 : decode cX12_barred 10 = .ok (.iconst 1, 1) := by decide +kernel
theorem dX12_barred_11 : decode cX12_barred 11 = .ok (.invokestatic 106, 3) := by decide +kernel
theorem dX12_barred_14 : decode cX12_barred 14 = .ok (.ifCond .ne 5, 3) := by decide +kernel
theorem dX12_barred_17 : decode cX12_barred 17 = .ok (.iconst (-1), 1) := by decide +kernel
theorem dX12_barred_18 : decode cX12_barred 18 = .ok (.ireturn, 1) := by decide +kernel
theorem dX12_barred_19 : decode cX12_barred 19 = .ok (.aload_n 0, 1) := by decide +kernel
theorem dX12_barred_20 : decode cX12_barred 20 = .ok (.iload_n 3, 1) := by decide +kernel
theorem dX12_barred_21 : decode cX12_barred 21 = .ok (.ifCond .ne 7, 3) := by decide +kernel
theorem dX12_barred_24 : decode cX12_barred 24 = .ok (.iconst 0, 1) := by decide +kernel
theorem dX12_barred_25 : decode cX12_barred 25 = .ok (.goto 5, 3) := by decide +kernel
theorem dX12_barred_28 : decode cX12_barred 28 = .ok (.bipush 100, 2) := by decide +kernel
theorem dX12_barred_30 : decode cX12_barred 30 = .ok (.iconst 1, 1) := by decide +kernel
theorem dX12_barred_31 : decode cX12_barred 31 = .ok (.invokevirtual 377, 3) := by decide +kernel
theorem dX12_barred_34 : decode cX12_barred 34 = .ok (.aload_n 0, 1) := by decide +kernel
theorem dX12_barred_35 : decode cX12_barred 35 = .ok (.getfield 86, 3) := by decide +kernel
theorem dX12_barred_38 : decode cX12_barred 38 = .ok (.bipush 12, 2) := by decide +kernel
theorem dX12_barred_40 : decode cX12_barred 40 = .ok (.iload_n 2, 1) := by decide +kernel
theorem dX12_barred_41 : decode cX12_barred 41 = .ok (.imul, 1) := by decide +kernel
theorem dX12_barred_42 : decode cX12_barred 42 = .ok (.iload_n 1, 1) := by decide +kernel
theorem dX12_barred_43 : decode cX12_barred 43 = .ok (.iadd, 1) := by decide +kernel
theorem dX12_barred_44 : decode cX12_barred 44 = .ok (.iaload, 1) := by decide +kernel
theorem dX12_barred_45 : decode cX12_barred 45 = .ok (.istore 4, 2) := by decide +kernel
theorem dX12_barred_47 : decode cX12_barred 47 = .ok (.iload 4, 2) := by decide +kernel
theorem dX12_barred_49 : decode cX12_barred 49 = .ok (.ldc_w 351, 3) := by decide +kernel
theorem dX12_barred_52 : decode cX12_barred 52 = .ok (.if_icmp .ne 8, 3) := by decide +kernel
theorem dX12_barred_55 : decode cX12_barred 55 = .ok (.bipush (-2), 2) := by decide +kernel
theorem dX12_barred_57 : decode cX12_barred 57 = .ok (.goto 8, 3) := by decide +kernel
theorem dX12_barred_60 : decode cX12_barred 60 = .ok (.iload 4, 2) := by decide +kernel
theorem dX12_barred_62 : decode cX12_barred 62 = .ok (.bipush 100, 2) := by decide +kernel
theorem dX12_barred_64 : decode cX12_barred 64 = .ok (.irem, 1) := by decide +kernel
theorem dX12_barred_65 : decode cX12_barred 65 = .ok (.ireturn, 1) := by decide +kernel
def b12_barred_17 (rc : Nat → List Int32 → List Int64 → Mem → Option (Int32 × Mem)) (n : Nat) (M : Mem) : Option (Int32 × Mem) :=
  some ((-1 : Int32), M)
def b12_barred_30 (rc : Nat → List Int32 → List Int64 → Mem → Option (Int32 × Mem)) (n : Nat) (i1 : Int32) (i2 : Int32) (s1 : Int32) (M : Mem) : Option (Int32 × Mem) :=
  bnd (f12_laysCosts n s1 (1 : Int32) M) fun r10 M11 =>
  chk (inb (((12 : Int32) * i2) + i1) 96) <|
  lt (M11.1 26 (((12 : Int32) * i2) + i1).toNatClampNeg) fun v14 =>
  (if v14 = (1000000 : Int32) then (
   some ((-2 : Int32), M11))
  else (
   some ((v14 - v14 / (100 : Int32) * (100 : Int32)), M11)))
def b12_barred_0 (rc : Nat → List Int32 → List Int64 → Mem → Option (Int32 × Mem)) (n : Nat) (a1 : Int32) (a2 : Int32) (a3 : Int32) (M : Mem) : Option (Int32 × Mem) :=
  bnd (f12_isPlace n a1 a2 M) fun r1 M2 =>
  (if r1 = 0 then (
   b12_barred_17  rc n  M2)
  else (
   bnd (f12_in n a3 (0 : Int32) (1 : Int32) M2) fun r5 M6 =>
   (if r5 = 0 then (
    b12_barred_17  rc n  M6)
   else (
    (if a3 = 0 then (
     b12_barred_30  rc n a1 a2 (0 : Int32) M6)
    else (
     b12_barred_30  rc n a1 a2 (100 : Int32) M6))))))
def f12_barred (n : Nat) (a1 : Int32) (a2 : Int32) (a3 : Int32) (M : Mem) : Option (Int32 × Mem) := b12_barred_0 (fun _ _ _ _ => none) n a1 a2 a3 M
abbrev rm12_barred : Room := { frames := 4, cells := 0, slots := 0, locals := 93 }
theorem y12_barred_w : yV RX12 yX12_barred cX12_barred 5 (some .int) 3 := ⟨g_1610, g_1611, g_14, g_1612, rfl, by decide, by decide, by decide +kernel⟩
set_option maxHeartbeats 4000000 in
set_option maxRecDepth 100000 in
theorem w12_barred_17 {p : Program} {l : Launch} {e : Env} {s : State} {m : MethodId} {args : Array Value} {below : List Frame} {meth : Method} {c : Code} {z : Zt} {b : Nat}  (C : Cx p s m args c cX12_barred 5 RX12 z 32 b) (hr : meth.sig.returnType = (some .int)) (hk : meth.locks = false) {r : Int32} {M' : Mem} {rc : Nat → List Int32 → List Int64 → Mem → Option (Int32 × Mem)} {n : Nat}   {M : Mem} {H : Heap} {locs : List Loc} {ls : Array Slot} (hf : b12_barred_17  rc n  M = some (r, M')) (hP : va_P z.1 vwCl (pw (yd z b) 32 b M) H) (hS : va_S (pA 32 b) s.heap H locs) (hl : lv_has ls 5 []) : W p l e rm12_barred s m args below meth c H locs 0 0 (MQ below (va_Qi (fun (r' : Int32) (M2 : Mem) => r' = r ∧ M2 = M') (fun M2 t => va_P z.1 vwCl (pw (yd z b) 32 b M2) t.heap) (pA 32 b)) args s 0 0 (pA 32 b)) (F0 m 17 ls []) := by
  have hx := C.1.1
  have hb := C.1.2.1
  unfold b12_barred_17 at hf
  refine lv_iconst (v := (-1 : Int32)) hx hb dX12_barred_17 (by decide) ?_
  exact prI C hr hk hP hS hf dX12_barred_18
set_option maxHeartbeats 4000000 in
set_option maxRecDepth 100000 in
theorem w12_barred_30 {p : Program} {l : Launch} {e : Env} {s : State} {m : MethodId} {args : Array Value} {below : List Frame} {meth : Method} {c : Code} {z : Zt} {b : Nat}  (C : Cx p s m args c cX12_barred 5 RX12 z 32 b) (hr : meth.sig.returnType = (some .int)) (hk : meth.locks = false) {r : Int32} {M' : Mem} {rc : Nat → List Int32 → List Int64 → Mem → Option (Int32 × Mem)} {n : Nat}  {i1 : Int32} {i2 : Int32} {s1 : Int32} {M : Mem} {H : Heap} {locs : List Loc} {ls : Array Slot} (hf : b12_barred_30  rc n i1 i2 s1 M = some (r, M')) (hP : va_P z.1 vwCl (pw (yd z b) 32 b M) H) (hS : va_S (pA 32 b) s.heap H locs) (hl : lv_has ls 5 [(0, .ref (b + 0)), (1, .int i1), (2, .int i2)]) : W p l e rm12_barred s m args below meth c H locs 0 0 (MQ below (va_Qi (fun (r' : Int32) (M2 : Mem) => r' = r ∧ M2 = M') (fun M2 t => va_P z.1 vwCl (pw (yd z b) 32 b M2) t.heap) (pA 32 b)) args s 0 0 (pA 32 b)) (F0 m 30 ls [.int s1, .ref (b + 0)]) := by
  have hx := C.1.1
  have hb := C.1.2.1
  unfold b12_barred_30 at hf
  refine lv_iconst (v := (1 : Int32)) hx hb dX12_barred_30 (by decide) ?_
  obtain ⟨r10, M11, h12, hf⟩ := bnd_s hf
  refine pcVv (As := [.int s1, .int (1 : Int32)]) C hP hS (k := 0) (Nat.le_of_ble_eq_true rfl) (yd_0 _ _) rfl (c12_laysCosts  h12) y12_laysCosts_w g_1605 rfl rfl rfl ⟨Nat.le_of_ble_eq_true rfl, Nat.le_of_ble_eq_true rfl⟩ hl.1 rfl (Nat.le_of_ble_eq_true rfl) dX12_barred_31 ⟨Nat.le_of_ble_eq_true rfl, Nat.le_of_ble_eq_true rfl⟩ (fun H locs hP hS => ?_)
  refine lv_aload_n hx hb dX12_barred_34 rfl (lv_at hl 0 rfl) ?_
  refine pg C hP (k := 0) (j := 47) (Nat.le_of_ble_eq_true rfl) (yd_0 _ _) rfl iw_12 (Nat.le_of_ble_eq_true rfl) g_1182 rfl rfl dX12_barred_35 ?_
  refine lv_bipush (v := (12 : Int32)) hx hb dX12_barred_38 (by decide) ?_
  refine lv_iload_n hx hb dX12_barred_40 rfl (lv_at hl 2 rfl) ?_
  refine lv_imul hx hb dX12_barred_41 ?_
  refine lv_iload_n hx hb dX12_barred_42 rfl (lv_at hl 1 rfl) ?_
  refine lv_iadd hx hb dX12_barred_43 ?_
  have h13 := chk_1 hf
  replace hf := chk_2 hf
  refine paI C hP (k := 26) (Nat.le_of_ble_eq_true rfl) (yd_26 _ _) h13 dX12_barred_44 ?_
  refine lv_topi (fun v14 ev14 => ?_)
  replace hf := lt_c ev14 hf
  refine lv_istore (lv' := [(4, .int v14), (0, .ref (b + 0)), (1, .int i1), (2, .int i2)]) hx hb dX12_barred_45 hl (by decide) rfl (fun ls hl => ?_)
  refine lv_iload hx hb dX12_barred_47 (lv_at hl 0 rfl) ?_
  refine lv_ldcw hx hb C.1.2.2.2.1 (C.1.2.2.2.2 _ g_1588) dX12_barred_49 ?_
  refine lv_icmp_ne (tgt := 60) hx hb dX12_barred_52 (by decide) (fun c15 => ?_) (fun c15 => ?_)
  · replace hf := ite_f c15 hf
    refine lv_iload hx hb dX12_barred_60 (lv_at hl 0 rfl) ?_
    refine lv_bipush (v := (100 : Int32)) hx hb dX12_barred_62 (by decide) ?_
    refine lv_irem hx hb dX12_barred_64 (by decide) ?_
    exact prI C hr hk hP hS hf dX12_barred_65
  · replace hf := ite_t c15 hf
    refine lv_bipush (v := (-2 : Int32)) hx hb dX12_barred_55 (by decide) ?_
    refine lv_goto (tgt := 65) hx hb dX12_barred_57 (by decide) ?_
    exact prI C hr hk hP hS hf dX12_barred_65
set_option maxHeartbeats 4000000 in
set_option maxRecDepth 100000 in
theorem w12_barred_0 {p : Program} {l : Launch} {e : Env} {s : State} {m : MethodId} {args : Array Value} {below : List Frame} {meth : Method} {c : Code} {z : Zt} {b : Nat}  (C : Cx p s m args c cX12_barred 5 RX12 z 32 b) (hr : meth.sig.returnType = (some .int)) (hk : meth.locks = false) {r : Int32} {M' : Mem} {rc : Nat → List Int32 → List Int64 → Mem → Option (Int32 × Mem)} {n : Nat}  {a1 : Int32} {a2 : Int32} {a3 : Int32} {M : Mem} {H : Heap} {locs : List Loc} {ls : Array Slot} (hf : b12_barred_0  rc n a1 a2 a3 M = some (r, M')) (hP : va_P z.1 vwCl (pw (yd z b) 32 b M) H) (hS : va_S (pA 32 b) s.heap H locs) (hl : lv_has ls 5 [(0, .ref (b + 0)), (1, .int a1), (2, .int a2), (3, .int a3)]) : W p l e rm12_barred s m args below meth c H locs 0 0 (MQ below (va_Qi (fun (r' : Int32) (M2 : Mem) => r' = r ∧ M2 = M') (fun M2 t => va_P z.1 vwCl (pw (yd z b) 32 b M2) t.heap) (pA 32 b)) args s 0 0 (pA 32 b)) (F0 m 0 ls []) := by
  have hx := C.1.1
  have hb := C.1.2.1
  unfold b12_barred_0 at hf
  refine lv_iload_n hx hb dX12_barred_0 rfl (lv_at hl 1 rfl) ?_
  refine lv_iload_n hx hb dX12_barred_1 rfl (lv_at hl 2 rfl) ?_
  obtain ⟨r1, M2, h3, hf⟩ := bnd_s hf
  refine pcSi (As := [.int a1, .int a2]) C hP hS (c12_isPlace  h3) y12_isPlace_w g_1303 rfl rfl rfl ⟨Nat.le_of_ble_eq_true rfl, Nat.le_of_ble_eq_true rfl⟩ hl.1 rfl (Nat.le_of_ble_eq_true rfl) dX12_barred_2 ⟨Nat.le_of_ble_eq_true rfl, Nat.le_of_ble_eq_true rfl⟩ (fun H locs hP hS => ?_)
  refine lv_if_eq (tgt := 17) hx hb dX12_barred_5 (by decide) (fun c4 => ?_) (fun c4 => ?_)
  · replace hf := ite_t c4 hf
    exact w12_barred_17 (n := n)  C hr hk  hf hP hS (lv_sub hl [] rfl)
  · replace hf := ite_f c4 hf
    refine lv_iload_n hx hb dX12_barred_8 rfl (lv_at hl 3 rfl) ?_
    refine lv_iconst (v := (0 : Int32)) hx hb dX12_barred_9 (by decide) ?_
    refine lv_iconst (v := (1 : Int32)) hx hb dX12_barred_10 (by decide) ?_
    obtain ⟨r5, M6, h7, hf⟩ := bnd_s hf
    refine pcSi (As := [.int a3, .int (0 : Int32), .int (1 : Int32)]) C hP hS (c12_in  h7) y12_in_w g_1306 rfl rfl rfl ⟨Nat.le_of_ble_eq_true rfl, Nat.le_of_ble_eq_true rfl⟩ hl.1 rfl (Nat.le_of_ble_eq_true rfl) dX12_barred_11 ⟨Nat.le_of_ble_eq_true rfl, Nat.le_of_ble_eq_true rfl⟩ (fun H locs hP hS => ?_)
    refine lv_if_ne (tgt := 19) hx hb dX12_barred_14 (by decide) (fun c8 => ?_) (fun c8 => ?_)
    · replace hf := ite_f c8 hf
      refine lv_aload_n hx hb dX12_barred_19 rfl (lv_at hl 0 rfl) ?_
      refine lv_iload_n hx hb dX12_barred_20 rfl (lv_at hl 3 rfl) ?_
      refine lv_if_ne (tgt := 28) hx hb dX12_barred_21 (by decide) (fun c9 => ?_) (fun c9 => ?_)
      · replace hf := ite_f c9 hf
        refine lv_bipush (v := (100 : Int32)) hx hb dX12_barred_28 (by decide) ?_
        exact w12_barred_30 (n := n)  C hr hk  hf hP hS (lv_sub hl [0, 1, 2] rfl)
      · replace hf := ite_t c9 hf
        refine lv_iconst (v := (0 : Int32)) hx hb dX12_barred_24 (by decide) ?_
        refine lv_goto (tgt := 30) hx hb dX12_barred_25 (by decide) ?_
        exact w12_barred_30 (n := n)  C hr hk  hf hP hS (lv_sub hl [0, 1, 2] rfl)
    · replace hf := ite_t c8 hf
      exact w12_barred_17 (n := n)  C hr hk  hf hP hS (lv_sub hl [] rfl)
theorem c12_barred {l : Launch} {z : Zt} {b n : Nat}  {a1 : Int32} {a2 : Int32} {a3 : Int32} {M M' : Mem} {r : Int32} (hf : f12_barred n  a1 a2 a3 M = some (r, M')) : CI l z (yd z b) 32 b yX12_barred cX12_barred 5 (some .int) rm12_barred [.ref (b + 0), .int a1, .int a2, .int a3] M M' r :=
  CI.ofW (lv := [(0, .ref (b + 0)), (1, .int a1), (2, .int a2), (3, .int a3)]) (by decide) (Nat.le_of_ble_eq_true rfl) rfl (fun p e s m args below meth c ls C hr hk hP hS hl => w12_barred_0 (n := n)  C hr hk  hf hP hS hl)

-- BronzeKingModel.fourOrStay(II)I
theorem dX12_fourOrStay_0 : decode cX12_fourOrStay 0 = .ok (.iload_n 2, 1) := by decide +kernel
theorem dX12_fourOrStay_1 : decode cX12_fourOrStay 1 = .ok (.iconst 4, 1) := by decide +kernel
theorem dX12_fourOrStay_2 : decode cX12_fourOrStay 2 = .ok (.if_icmp .ne 7, 3) := by decide +kernel
theorem dX12_fourOrStay_5 : decode cX12_fourOrStay 5 = .ok (.iload_n 1, 1) := by decide +kernel
theorem dX12_fourOrStay_6 : decode cX12_fourOrStay 6 = .ok (.goto 8, 3) := by decide +kernel
theorem dX12_fourOrStay_9 : decode cX12_fourOrStay 9 = .ok (.iload_n 1, 1) := by decide +kernel
theorem dX12_fourOrStay_10 : decode cX12_fourOrStay 10 = .ok (.iload_n 2, 1) := by decide +kernel
theorem dX12_fourOrStay_11 : decode cX12_fourOrStay 11 = .ok (.invokestatic 126, 3) := by decide +kernel
theorem dX12_fourOrStay_14 : decode cX12_fourOrStay 14 = .ok (.ireturn, 1) := by decide +kernel
def b12_fourOrStay_0 (rc : Nat → List Int32 → List Int64 → Mem → Option (Int32 × Mem)) (n : Nat) (a1 : Int32) (a2 : Int32) (M : Mem) : Option (Int32 × Mem) :=
  (if a2 = (4 : Int32) then (
   some (a1, M))
  else (
   bnd (f12_beside n a1 a2 M) fun r2 M3 =>
   some (r2, M3)))
def f12_fourOrStay (n : Nat) (a1 : Int32) (a2 : Int32) (M : Mem) : Option (Int32 × Mem) := b12_fourOrStay_0 (fun _ _ _ _ => none) n a1 a2 M
abbrev rm12_fourOrStay : Room := { frames := 3, cells := 0, slots := 0, locals := 66 }
theorem y12_fourOrStay_w : yV RX12 yX12_fourOrStay cX12_fourOrStay 3 (some .int) 2 := ⟨g_1623, gp 87 rfl rfl, g_14, g_1624, rfl, by decide, by decide, by decide +kernel⟩
set_option maxHeartbeats 4000000 in
set_option maxRecDepth 100000 in
theorem w12_fourOrStay_0 {p : Program} {l : Launch} {e : Env} {s : State} {m : MethodId} {args : Array Value} {below : List Frame} {meth : Method} {c : Code} {z : Zt} {b : Nat}  (C : Cx p s m args c cX12_fourOrStay 3 RX12 z 32 b) (hr : meth.sig.returnType = (some .int)) (hk : meth.locks = false) {r : Int32} {M' : Mem} {rc : Nat → List Int32 → List Int64 → Mem → Option (Int32 × Mem)} {n : Nat}  {a1 : Int32} {a2 : Int32} {M : Mem} {H : Heap} {locs : List Loc} {ls : Array Slot} (hf : b12_fourOrStay_0  rc n a1 a2 M = some (r, M')) (hP : va_P z.1 vwCl (pw (yd z b) 32 b M) H) (hS : va_S (pA 32 b) s.heap H locs) (hl : lv_has ls 3 [(0, .ref (b + 0)), (1, .int a1), (2, .int a2)]) : W p l e rm12_fourOrStay s m args below meth c H locs 0 0 (MQ below (va_Qi (fun (r' : Int32) (M2 : Mem) => r' = r ∧ M2 = M') (fun M2 t => va_P z.1 vwCl (pw (yd z b) 32 b M2) t.heap) (pA 32 b)) args s 0 0 (pA 32 b)) (F0 m 0 ls []) := by
  have hx := C.1.1
  have hb := C.1.2.1
  unfold b12_fourOrStay_0 at hf
  refine lv_iload_n hx hb dX12_fourOrStay_0 rfl (lv_at hl 2 rfl) ?_
  refine lv_iconst (v := (4 : Int32)) hx hb dX12_fourOrStay_1 (by decide) ?_
  refine lv_icmp_ne (tgt := 9) hx hb dX12_fourOrStay_2 (by decide) (fun c1 => ?_) (fun c1 => ?_)
  · replace hf := ite_f c1 hf
    refine lv_iload_n hx hb dX12_fourOrStay_9 rfl (lv_at hl 1 rfl) ?_
    refine lv_iload_n hx hb dX12_fourOrStay_10 rfl (lv_at hl 2 rfl) ?_
    obtain ⟨r2, M3, h4, hf⟩ := bnd_s hf
    refine pcSi (As := [.int a1, .int a2]) C hP hS (c12_beside  h4) y12_beside_w g_1487 rfl rfl rfl ⟨Nat.le_of_ble_eq_true rfl, Nat.le_of_ble_eq_true rfl⟩ hl.1 rfl (Nat.le_of_ble_eq_true rfl) dX12_fourOrStay_11 ⟨Nat.le_of_ble_eq_true rfl, Nat.le_of_ble_eq_true rfl⟩ (fun H locs hP hS => ?_)
    exact prI C hr hk hP hS hf dX12_fourOrStay_14
  · replace hf := ite_t c1 hf
    refine lv_iload_n hx hb dX12_fourOrStay_5 rfl (lv_at hl 1 rfl) ?_
    refine lv_goto (tgt := 14) hx hb dX12_fourOrStay_6 (by decide) ?_
    exact prI C hr hk hP hS hf dX12_fourOrStay_14
theorem c12_fourOrStay {l : Launch} {z : Zt} {b n : Nat}  {a1 : Int32} {a2 : Int32} {M M' : Mem} {r : Int32} (hf : f12_fourOrStay n  a1 a2 M = some (r, M')) : CI l z (yd z b) 32 b yX12_fourOrStay cX12_fourOrStay 3 (some .int) rm12_fourOrStay [.ref (b + 0), .int a1, .int a2] M M' r :=
  CI.ofW (lv := [(0, .ref (b + 0)), (1, .int a1), (2, .int a2)]) (by decide) (Nat.le_of_ble_eq_true rfl) rfl (fun p e s m args below meth c ls C hr hk hP hS hl => w12_fourOrStay_0 (n := n)  C hr hk  hf hP hS hl)

-- BronzeKingModel.isSure(II)Z
theorem dX12_isSure_0 : decode cX12_isSure 0 = .ok (.iload_n 1, 1) := by decide +kernel
theorem dX12_isSure_1 : decode cX12_isSure 1 = .ok (.iload_n 2, 1) := by decide +kernel
theorem dX12_isSure_2 : decode cX12_isSure 2 = .ok (.if_icmp .ne 5, 3) := by decide +kernel
theorem dX12_isSure_5 : decode cX12_isSure 5 = .ok (.iconst 1, 1) := by decide +kernel
theorem dX12_isSure_6 : decode cX12_isSure 6 = .ok (.ireturn, 1) := by decide +kernel
theorem dX12_isSure_7 : decode cX12_isSure 7 = .ok (.iconst 0, 1) := by decide +kernel
theorem dX12_isSure_8 : decode cX12_isSure 8 = .ok (.istore_n 3, 1) := by decide +kernel
theorem dX12_isSure_9 : decode cX12_isSure 9 = .ok (.iload_n 3, 1) := by decide +kernel
theorem dX12_isSure_10 : decode cX12_isSure 10 = .ok (.iconst 5, 1) := by decide +kernel
theorem dX12_isSure_11 : decode cX12_isSure 11 = .ok (.if_icmp .ge 50, 3) := by decide +kernel
theorem dX12_isSure_14 : decode cX12_isSure 14 = .ok (.aload_n 0, 1) := by decide +kernel
theorem dX12_isSure_15 : decode cX12_isSure 15 = .ok (.iload_n 2, 1) := by decide +kernel
theorem dX12_isSure_16 : decode cX12_isSure 16 = .ok (.iload_n 3, 1) := by decide +kernel
theorem dX12_isSure_17 : decode cX12_isSure 17 = .ok (.invokevirtual 380, 3) := by decide +kernel
theorem dX12_isSure_20 : decode cX12_isSure 20 = .ok (.istore 4, 2) := by decide +kernel
theorem dX12_isSure_22 : decode cX12_isSure 22 = .ok (.iload 4, 2) := by decide +kernel
theorem dX12_isSure_24 : decode cX12_isSure 24 = .ok (.iconst (-1), 1) := by decide +kernel
theorem dX12_isSure_25 : decode cX12_isSure 25 = .ok (.if_icmp .eq 30, 3) := by decide +kernel
theorem dX12_isSure_28 : decode cX12_isSure 28 = .ok (.aload_n 0, 1) := by decide +kernel
theorem dX12_isSure_29 : decode cX12_isSure 29 = .ok (.iload 4, 2) := by decide +kernel
theorem dX12_isSure_31 : decode cX12_isSure 31 = .ok (.invokevirtual 122, 3) := by decide +kernel
theorem dX12_isSure_34 : decode cX12_isSure 34 = .ok (.ifCond .eq 21, 3) := by decide +kernel
theorem dX12_isSure_37 : decode cX12_isSure 37 = .ok (.aload_n 0, 1) := by decide +kernel
theorem dX12_isSure_38 : decode cX12_isSure 38 = .ok (.getfield 89, 3) := by decide +kernel
theorem dX12_isSure_41 : decode cX12_isSure 41 = .ok (.bipush 96, 2) := by decide +kernel
theorem dX12_isSure_43 : decode cX12_isSure 43 = .ok (.iload_n 1, 1) := by decide +kernel
theorem dX12_isSure_44 : decode cX12_isSure 44 = .ok (.imul, 1) := by decide +kernel
theorem dX12_isSure_45 : decode cX12_isSure 45 = .ok (.iload 4, 2) := by decide +kernel
theorem dX12_isSure_47 : decode cX12_isSure 47 = .ok (.iadd, 1) := by decide +kernel
theorem dX12_isSure_48 : decode cX12_isSure 48 = .ok (.baload, 1) := by decide +kernel
theorem dX12_isSure_49 : decode cX12_isSure 49 = .ok (.iconst (-1), 1) := by decide +kernel
theorem dX12_isSure_50 : decode cX12_isSure 50 = .ok (.if_icmp .ne 5, 3) := by decide +kernel
theorem dX12_isSure_53 : decode cX12_isSure 53 = .ok (.iconst 0, 1) := by decide +kernel
theorem dX12_isSure_54 : decode cX12_isSure 54 = .ok (.ireturn, 1) := by decide +kernel
theorem dX12_isSure_55 : decode cX12_isSure 55 = .ok (.iinc 3 1, 3) := by decide +kernel
theorem dX12_isSure_58 : decode cX12_isSure 58 = .ok (.goto (-49), 3) := by decide +kernel
theorem dX12_isSure_61 : decode cX12_isSure 61 = .ok (.iconst 1, 1) := by decide +kernel
theorem dX12_isSure_62 : decode cX12_isSure 62 = .ok (.ireturn, 1) := by decide +kernel
def b12_isSure_55 (rc : Nat → List Int32 → List Int64 → Mem → Option (Int32 × Mem)) (n : Nat) (i1 : Int32) (i2 : Int32) (i3 : Int32) (M : Mem) : Option (Int32 × Mem) :=
  lt (i3 + (1 : Int32)) fun v13 =>
  rc 9 [i1, i2, v13] [] M
def b12_isSure_9 (rc : Nat → List Int32 → List Int64 → Mem → Option (Int32 × Mem)) (n : Nat) (i1 : Int32) (i2 : Int32) (i3 : Int32) (M : Mem) : Option (Int32 × Mem) :=
  (if (5 : Int32) ≤ i3 then (
   some ((1 : Int32), M))
  else (
   bnd (f12_fourOrStay n i2 i3 M) fun r3 M4 =>
   (if r3 = (-1 : Int32) then (
    b12_isSure_55  rc n i1 i2 i3 M4)
   else (
    bnd (f12_isOpen n r3 M4) fun r7 M8 =>
    (if r7 = 0 then (
     b12_isSure_55  rc n i1 i2 i3 M8)
    else (
     chk (inb (((96 : Int32) * i1) + r3) 9216) <|
     (if (M8.1 27 (((96 : Int32) * i1) + r3).toNatClampNeg) = (-1 : Int32) then (
      some ((0 : Int32), M8))
     else (
      b12_isSure_55  rc n i1 i2 i3 M8))))))))
def b12_isSure_0 (rc : Nat → List Int32 → List Int64 → Mem → Option (Int32 × Mem)) (n : Nat) (a1 : Int32) (a2 : Int32) (M : Mem) : Option (Int32 × Mem) :=
  (if a1 = a2 then (
   some ((1 : Int32), M))
  else (
   b12_isSure_9  rc n a1 a2 (0 : Int32) M))
def r12_isSure : Nat → Nat → List Int32 → List Int64 → Mem → Option (Int32 × Mem)
  | 0 => fun _ _ _ _ => none
  | n + 1 => fun pc li lj M =>
    if pc = 9 then (match li, lj with | [i1, i2, i3], [] => b12_isSure_9  (r12_isSure  n) n i1 i2 i3 M | _, _ => none) else
    none
theorem e12_isSure_9  (n : Nat) (i1 : Int32) (i2 : Int32) (i3 : Int32) (M : Mem) : r12_isSure  (n + 1) 9 [i1, i2, i3] [] M = b12_isSure_9  (r12_isSure  n) n i1 i2 i3 M := by
  rw [r12_isSure]
  simp
def f12_isSure (n : Nat) (a1 : Int32) (a2 : Int32) (M : Mem) : Option (Int32 × Mem) := b12_isSure_0 (r12_isSure n) n a1 a2 M
abbrev rm12_isSure : Room := { frames := 4, cells := 0, slots := 0, locals := 88 }
theorem y12_isSure_w : yV RX12 yX12_isSure cX12_isSure 5 (some .boolean) 2 := ⟨g_1627, gp 88 rfl rfl, g_14, g_1628, rfl, by decide, by decide, by decide +kernel⟩
set_option maxHeartbeats 4000000 in
set_option maxRecDepth 100000 in
theorem w12_isSure_55 {p : Program} {l : Launch} {e : Env} {s : State} {m : MethodId} {args : Array Value} {below : List Frame} {meth : Method} {c : Code} {z : Zt} {b : Nat}  (C : Cx p s m args c cX12_isSure 5 RX12 z 32 b) (hr : meth.sig.returnType = (some .boolean)) (hk : meth.locks = false) {r : Int32} {M' : Mem} {rc : Nat → List Int32 → List Int64 → Mem → Option (Int32 × Mem)} {n : Nat} (q9 : ∀ (i1 : Int32) (i2 : Int32) (i3 : Int32) (M : Mem) (H : Heap) (locs : List Loc) (ls : Array Slot), rc 9 [i1, i2, i3] [] M = some (r, M') → va_P z.1 vwCl (pw (yd z b) 32 b M) H → va_S (pA 32 b) s.heap H locs → lv_has ls 5 [(0, .ref (b + 0)), (1, .int i1), (2, .int i2), (3, .int i3)] → W p l e rm12_isSure s m args below meth c H locs 0 0 (MQ below (va_Qi (fun (r' : Int32) (M2 : Mem) => r' = r ∧ M2 = M') (fun M2 t => va_P z.1 vwCl (pw (yd z b) 32 b M2) t.heap) (pA 32 b)) args s 0 0 (pA 32 b)) (F0 m 9 ls [])) {i1 : Int32} {i2 : Int32} {i3 : Int32} {M : Mem} {H : Heap} {locs : List Loc} {ls : Array Slot} (hf : b12_isSure_55  rc n i1 i2 i3 M = some (r, M')) (hP : va_P z.1 vwCl (pw (yd z b) 32 b M) H) (hS : va_S (pA 32 b) s.heap H locs) (hl : lv_has ls 5 [(0, .ref (b + 0)), (1, .int i1), (2, .int i2), (3, .int i3)]) : W p l e rm12_isSure s m args below meth c H locs 0 0 (MQ below (va_Qi (fun (r' : Int32) (M2 : Mem) => r' = r ∧ M2 = M') (fun M2 t => va_P z.1 vwCl (pw (yd z b) 32 b M2) t.heap) (pA 32 b)) args s 0 0 (pA 32 b)) (F0 m 55 ls []) := by
  have hx := C.1.1
  have hb := C.1.2.1
  unfold b12_isSure_55 at hf
  obtain ⟨v13, ev13⟩ : ∃ v : Int32, v = i3 + (1 : Int32) := ⟨_, rfl⟩
  replace hf := lt_c ev13 hf
  refine lv_iinc (v := v13) (lv' := [(3, .int v13), (0, .ref (b + 0)), (1, .int i1), (2, .int i2)]) hx hb dX12_isSure_55 hl (k := 3) rfl (by rw [ev13]; rfl) (by decide) rfl (fun ls hl => ?_)
  refine lv_goto (tgt := 9) hx hb dX12_isSure_58 (by decide) ?_
  exact q9 i1 i2 v13 M _ _ _ hf hP hS (lv_sub hl [1, 2, 3, 0] rfl)
set_option maxHeartbeats 4000000 in
set_option maxRecDepth 100000 in
theorem w12_isSure_9 {p : Program} {l : Launch} {e : Env} {s : State} {m : MethodId} {args : Array Value} {below : List Frame} {meth : Method} {c : Code} {z : Zt} {b : Nat}  (C : Cx p s m args c cX12_isSure 5 RX12 z 32 b) (hr : meth.sig.returnType = (some .boolean)) (hk : meth.locks = false) {r : Int32} {M' : Mem} {rc : Nat → List Int32 → List Int64 → Mem → Option (Int32 × Mem)} {n : Nat} (q9 : ∀ (i1 : Int32) (i2 : Int32) (i3 : Int32) (M : Mem) (H : Heap) (locs : List Loc) (ls : Array Slot), rc 9 [i1, i2, i3] [] M = some (r, M') → va_P z.1 vwCl (pw (yd z b) 32 b M) H → va_S (pA 32 b) s.heap H locs → lv_has ls 5 [(0, .ref (b + 0)), (1, .int i1), (2, .int i2), (3, .int i3)] → W p l e rm12_isSure s m args below meth c H locs 0 0 (MQ below (va_Qi (fun (r' : Int32) (M2 : Mem) => r' = r ∧ M2 = M') (fun M2 t => va_P z.1 vwCl (pw (yd z b) 32 b M2) t.heap) (pA 32 b)) args s 0 0 (pA 32 b)) (F0 m 9 ls [])) {i1 : Int32} {i2 : Int32} {i3 : Int32} {M : Mem} {H : Heap} {locs : List Loc} {ls : Array Slot} (hf : b12_isSure_9  rc n i1 i2 i3 M = some (r, M')) (hP : va_P z.1 vwCl (pw (yd z b) 32 b M) H) (hS : va_S (pA 32 b) s.heap H locs) (hl : lv_has ls 5 [(0, .ref (b + 0)), (1, .int i1), (2, .int i2), (3, .int i3)]) : W p l e rm12_isSure s m args below meth c H locs 0 0 (MQ below (va_Qi (fun (r' : Int32) (M2 : Mem) => r' = r ∧ M2 = M') (fun M2 t => va_P z.1 vwCl (pw (yd z b) 32 b M2) t.heap) (pA 32 b)) args s 0 0 (pA 32 b)) (F0 m 9 ls []) := by
  have hx := C.1.1
  have hb := C.1.2.1
  unfold b12_isSure_9 at hf
  refine lv_iload_n hx hb dX12_isSure_9 rfl (lv_at hl 3 rfl) ?_
  refine lv_iconst (v := (5 : Int32)) hx hb dX12_isSure_10 (by decide) ?_
  refine lv_icmp_ge (tgt := 61) hx hb dX12_isSure_11 (by decide) (fun c2 => ?_) (fun c2 => ?_)
  · replace hf := ite_t c2 hf
    refine lv_iconst (v := (1 : Int32)) hx hb dX12_isSure_61 (by decide) ?_
    exact prZ C hr hk hP hS hf rfl dX12_isSure_62
  · replace hf := ite_f c2 hf
    refine lv_aload_n hx hb dX12_isSure_14 rfl (lv_at hl 0 rfl) ?_
    refine lv_iload_n hx hb dX12_isSure_15 rfl (lv_at hl 2 rfl) ?_
    refine lv_iload_n hx hb dX12_isSure_16 rfl (lv_at hl 3 rfl) ?_
    obtain ⟨r3, M4, h5, hf⟩ := bnd_s hf
    refine pcVi (As := [.int i2, .int i3]) C hP hS (k := 0) (Nat.le_of_ble_eq_true rfl) (yd_0 _ _) rfl (c12_fourOrStay  h5) y12_fourOrStay_w g_1621 rfl rfl rfl ⟨Nat.le_of_ble_eq_true rfl, Nat.le_of_ble_eq_true rfl⟩ hl.1 rfl (Nat.le_of_ble_eq_true rfl) dX12_isSure_17 ⟨Nat.le_of_ble_eq_true rfl, Nat.le_of_ble_eq_true rfl⟩ (fun H locs hP hS => ?_)
    refine lv_istore (lv' := [(4, .int r3), (0, .ref (b + 0)), (1, .int i1), (2, .int i2), (3, .int i3)]) hx hb dX12_isSure_20 hl (by decide) rfl (fun ls hl => ?_)
    refine lv_iload hx hb dX12_isSure_22 (lv_at hl 0 rfl) ?_
    refine lv_iconst (v := (-1 : Int32)) hx hb dX12_isSure_24 (by decide) ?_
    refine lv_icmp_eq (tgt := 55) hx hb dX12_isSure_25 (by decide) (fun c6 => ?_) (fun c6 => ?_)
    · replace hf := ite_t c6 hf
      exact w12_isSure_55 (n := n)  C hr hk q9 hf hP hS (lv_sub hl [1, 2, 3, 4] rfl)
    · replace hf := ite_f c6 hf
      refine lv_aload_n hx hb dX12_isSure_28 rfl (lv_at hl 1 rfl) ?_
      refine lv_iload hx hb dX12_isSure_29 (lv_at hl 0 rfl) ?_
      obtain ⟨r7, M8, h9, hf⟩ := bnd_s hf
      refine pcVi (As := [.int r3]) C hP hS (k := 0) (Nat.le_of_ble_eq_true rfl) (yd_0 _ _) rfl (c12_isOpen  h9) y12_isOpen_w g_1483 rfl rfl rfl ⟨Nat.le_of_ble_eq_true rfl, Nat.le_of_ble_eq_true rfl⟩ hl.1 rfl (Nat.le_of_ble_eq_true rfl) dX12_isSure_31 ⟨Nat.le_of_ble_eq_true rfl, Nat.le_of_ble_eq_true rfl⟩ (fun H locs hP hS => ?_)
      refine lv_if_eq (tgt := 55) hx hb dX12_isSure_34 (by decide) (fun c10 => ?_) (fun c10 => ?_)
      · replace hf := ite_t c10 hf
        exact w12_isSure_55 (n := n)  C hr hk q9 hf hP hS (lv_sub hl [1, 2, 3, 4] rfl)
      · replace hf := ite_f c10 hf
        refine lv_aload_n hx hb dX12_isSure_37 rfl (lv_at hl 1 rfl) ?_
        refine pg C hP (k := 0) (j := 48) (Nat.le_of_ble_eq_true rfl) (yd_0 _ _) rfl iw_12 (Nat.le_of_ble_eq_true rfl) g_1183 rfl rfl dX12_isSure_38 ?_
        refine lv_bipush (v := (96 : Int32)) hx hb dX12_isSure_41 (by decide) ?_
        refine lv_iload_n hx hb dX12_isSure_43 rfl (lv_at hl 2 rfl) ?_
        refine lv_imul hx hb dX12_isSure_44 ?_
        refine lv_iload hx hb dX12_isSure_45 (lv_at hl 0 rfl) ?_
        refine lv_iadd hx hb dX12_isSure_47 ?_
        have h11 := chk_1 hf
        replace hf := chk_2 hf
        refine paB C hP (k := 27) (Nat.le_of_ble_eq_true rfl) (yd_27 _ _) h11 dX12_isSure_48 ?_
        refine lv_iconst (v := (-1 : Int32)) hx hb dX12_isSure_49 (by decide) ?_
        refine lv_icmp_ne (tgt := 55) hx hb dX12_isSure_50 (by decide) (fun c12 => ?_) (fun c12 => ?_)
        · replace hf := ite_f c12 hf
          exact w12_isSure_55 (n := n)  C hr hk q9 hf hP hS (lv_sub hl [1, 2, 3, 4] rfl)
        · replace hf := ite_t c12 hf
          refine lv_iconst (v := (0 : Int32)) hx hb dX12_isSure_53 (by decide) ?_
          exact prZ C hr hk hP hS hf rfl dX12_isSure_54
set_option maxHeartbeats 4000000 in
set_option maxRecDepth 100000 in
theorem w12_isSure_0 {p : Program} {l : Launch} {e : Env} {s : State} {m : MethodId} {args : Array Value} {below : List Frame} {meth : Method} {c : Code} {z : Zt} {b : Nat}  (C : Cx p s m args c cX12_isSure 5 RX12 z 32 b) (hr : meth.sig.returnType = (some .boolean)) (hk : meth.locks = false) {r : Int32} {M' : Mem} {rc : Nat → List Int32 → List Int64 → Mem → Option (Int32 × Mem)} {n : Nat} (q9 : ∀ (i1 : Int32) (i2 : Int32) (i3 : Int32) (M : Mem) (H : Heap) (locs : List Loc) (ls : Array Slot), rc 9 [i1, i2, i3] [] M = some (r, M') → va_P z.1 vwCl (pw (yd z b) 32 b M) H → va_S (pA 32 b) s.heap H locs → lv_has ls 5 [(0, .ref (b + 0)), (1, .int i1), (2, .int i2), (3, .int i3)] → W p l e rm12_isSure s m args below meth c H locs 0 0 (MQ below (va_Qi (fun (r' : Int32) (M2 : Mem) => r' = r ∧ M2 = M') (fun M2 t => va_P z.1 vwCl (pw (yd z b) 32 b M2) t.heap) (pA 32 b)) args s 0 0 (pA 32 b)) (F0 m 9 ls [])) {a1 : Int32} {a2 : Int32} {M : Mem} {H : Heap} {locs : List Loc} {ls : Array Slot} (hf : b12_isSure_0  rc n a1 a2 M = some (r, M')) (hP : va_P z.1 vwCl (pw (yd z b) 32 b M) H) (hS : va_S (pA 32 b) s.heap H locs) (hl : lv_has ls 5 [(0, .ref (b + 0)), (1, .int a1), (2, .int a2)]) : W p l e rm12_isSure s m args below meth c H locs 0 0 (MQ below (va_Qi (fun (r' : Int32) (M2 : Mem) => r' = r ∧ M2 = M') (fun M2 t => va_P z.1 vwCl (pw (yd z b) 32 b M2) t.heap) (pA 32 b)) args s 0 0 (pA 32 b)) (F0 m 0 ls []) := by
  have hx := C.1.1
  have hb := C.1.2.1
  unfold b12_isSure_0 at hf
  refine lv_iload_n hx hb dX12_isSure_0 rfl (lv_at hl 1 rfl) ?_
  refine lv_iload_n hx hb dX12_isSure_1 rfl (lv_at hl 2 rfl) ?_
  refine lv_icmp_ne (tgt := 7) hx hb dX12_isSure_2 (by decide) (fun c1 => ?_) (fun c1 => ?_)
  · replace hf := ite_f c1 hf
    refine lv_iconst (v := (0 : Int32)) hx hb dX12_isSure_7 (by decide) ?_
    refine lv_istore_n (lv' := [(3, .int (0 : Int32)), (0, .ref (b + 0)), (1, .int a1), (2, .int a2)]) hx hb dX12_isSure_8 rfl hl (by decide) rfl (fun ls hl => ?_)
    exact w12_isSure_9 (n := n)  C hr hk q9 hf hP hS (lv_sub hl [1, 2, 3, 0] rfl)
  · replace hf := ite_t c1 hf
    refine lv_iconst (v := (1 : Int32)) hx hb dX12_isSure_5 (by decide) ?_
    exact prZ C hr hk hP hS hf rfl dX12_isSure_6
set_option maxHeartbeats 4000000 in
set_option maxRecDepth 100000 in
theorem l12_isSure {p : Program} {l : Launch} {e : Env} {s : State} {m : MethodId} {args : Array Value} {below : List Frame} {meth : Method} {c : Code} {z : Zt} {b : Nat}  (C : Cx p s m args c cX12_isSure 5 RX12 z 32 b) (hr : meth.sig.returnType = (some .boolean)) (hk : meth.locks = false) {r : Int32} {M' : Mem} (n : Nat) : (∀ (i1 : Int32) (i2 : Int32) (i3 : Int32) (M : Mem) (H : Heap) (locs : List Loc) (ls : Array Slot), (r12_isSure  n) 9 [i1, i2, i3] [] M = some (r, M') → va_P z.1 vwCl (pw (yd z b) 32 b M) H → va_S (pA 32 b) s.heap H locs → lv_has ls 5 [(0, .ref (b + 0)), (1, .int i1), (2, .int i2), (3, .int i3)] → W p l e rm12_isSure s m args below meth c H locs 0 0 (MQ below (va_Qi (fun (r' : Int32) (M2 : Mem) => r' = r ∧ M2 = M') (fun M2 t => va_P z.1 vwCl (pw (yd z b) 32 b M2) t.heap) (pA 32 b)) args s 0 0 (pA 32 b)) (F0 m 9 ls [])) := by
  induction n with
  | zero => exact fun _ _ _ _ _ _ _ hf => (by cases hf)
  | succ n ih => exact fun _ _ _ _ _ _ _ hf hP hS hl => w12_isSure_9 (n := n)  C hr hk ih ((e12_isSure_9  n _ _ _ _).symm.trans hf) hP hS hl
theorem c12_isSure {l : Launch} {z : Zt} {b n : Nat}  {a1 : Int32} {a2 : Int32} {M M' : Mem} {r : Int32} (hf : f12_isSure n  a1 a2 M = some (r, M')) : CI l z (yd z b) 32 b yX12_isSure cX12_isSure 5 (some .boolean) rm12_isSure [.ref (b + 0), .int a1, .int a2] M M' r :=
  CI.ofW (lv := [(0, .ref (b + 0)), (1, .int a1), (2, .int a2)]) (by decide) (Nat.le_of_ble_eq_true rfl) rfl (fun p e s m args below meth c ls C hr hk hP hS hl => w12_isSure_0 (n := n)  C hr hk (l12_isSure  C hr hk n) hf hP hS hl)

-- BronzeKingModel.winsBy(II)Z
theorem dX12_winsBy_0 : decode cX12_winsBy 0 = .ok (.iconst 0, 1) := by decide +kernel
theorem dX12_winsBy_1 : decode cX12_winsBy 1 = .ok (.istore_n 3, 1) := by decide +kernel
theorem dX12_winsBy_2 : decode cX12_winsBy 2 = .ok (.iload_n 3, 1) := by decide +kernel
theorem dX12_winsBy_3 : decode cX12_winsBy 3 = .ok (.iconst 5, 1) := by decide +kernel
theorem dX12_winsBy_4 : decode cX12_winsBy 4 = .ok (.if_icmp .ge 44, 3) := by decide +kernel
theorem dX12_winsBy_7 : decode cX12_winsBy 7 = .ok (.aload_n 0, 1) := by decide +kernel
theorem dX12_winsBy_8 : decode cX12_winsBy 8 = .ok (.iload_n 1, 1) := by decide +kernel
theorem dX12_winsBy_9 : decode cX12_winsBy 9 = .ok (.iload_n 3, 1) := by decide +kernel
theorem dX12_winsBy_10 : decode cX12_winsBy 10 = .ok (.invokevirtual 380, 3) := by decide +kernel
theorem dX12_winsBy_13 : decode cX12_winsBy 13 = .ok (.istore 4, 2) := by decide +kernel
theorem dX12_winsBy_15 : decode cX12_winsBy 15 = .ok (.iload 4, 2) := by decide +kernel
theorem dX12_winsBy_17 : decode cX12_winsBy 17 = .ok (.iconst (-1), 1) := by decide +kernel
theorem dX12_winsBy_18 : decode cX12_winsBy 18 = .ok (.if_icmp .eq 24, 3) := by decide +kernel
theorem dX12_winsBy_21 : decode cX12_winsBy 21 = .ok (.aload_n 0, 1) := by decide +kernel
theorem dX12_winsBy_22 : decode cX12_winsBy 22 = .ok (.iload 4, 2) := by decide +kernel
theorem dX12_winsBy_24 : decode cX12_winsBy 24 = .ok (.invokevirtual 122, 3) := by decide +kernel
theorem dX12_winsBy_27 : decode cX12_winsBy 27 = .ok (.ifCond .eq 15, 3) := by decide +kernel
theorem dX12_winsBy_30 : decode cX12_winsBy 30 = .ok (.aload_n 0, 1) := by decide +kernel
theorem dX12_winsBy_31 : decode cX12_winsBy 31 = .ok (.iload 4, 2) := by decide +kernel
theorem dX12_winsBy_33 : decode cX12_winsBy 33 = .ok (.iload_n 2, 1) := by decide +kernel
theorem dX12_winsBy_34 : decode cX12_winsBy 34 = .ok (.invokevirtual 383, 3) := by decide +kernel
theorem dX12_winsBy_37 : decode cX12_winsBy 37 = .ok (.ifCond .eq 5, 3) := by decide +kernel
theorem dX12_winsBy_40 : decode cX12_winsBy 40 = .ok (.iconst 1, 1) := by decide +kernel
theorem dX12_winsBy_41 : decode cX12_winsBy 41 = .ok (.ireturn, 1) := by decide +kernel
theorem dX12_winsBy_42 : decode cX12_winsBy 42 = .ok (.iinc 3 1, 3) := by decide +kernel
theorem dX12_winsBy_45 : decode cX12_winsBy 45 = .ok (.goto (-43), 3) := by decide +kernel
theorem dX12_winsBy_48 : decode cX12_winsBy 48 = .ok (.iconst 0, 1) := by decide +kernel
theorem dX12_winsBy_49 : decode cX12_winsBy 49 = .ok (.ireturn, 1) := by decide +kernel
def b12_winsBy_42 (rc : Nat → List Int32 → List Int64 → Mem → Option (Int32 × Mem)) (n : Nat) (i1 : Int32) (i2 : Int32) (i3 : Int32) (M : Mem) : Option (Int32 × Mem) :=
  lt (i3 + (1 : Int32)) fun v14 =>
  rc 2 [i1, i2, v14] [] M
def b12_winsBy_2 (rc : Nat → List Int32 → List Int64 → Mem → Option (Int32 × Mem)) (n : Nat) (i1 : Int32) (i2 : Int32) (i3 : Int32) (M : Mem) : Option (Int32 × Mem) :=
  (if (5 : Int32) ≤ i3 then (
   some ((0 : Int32), M))
  else (
   bnd (f12_fourOrStay n i1 i3 M) fun r2 M3 =>
   (if r2 = (-1 : Int32) then (
    b12_winsBy_42  rc n i1 i2 i3 M3)
   else (
    bnd (f12_isOpen n r2 M3) fun r6 M7 =>
    (if r6 = 0 then (
     b12_winsBy_42  rc n i1 i2 i3 M7)
    else (
     bnd (f12_isSure n r2 i2 M7) fun r10 M11 =>
     (if r10 = 0 then (
      b12_winsBy_42  rc n i1 i2 i3 M11)
     else (
      some ((1 : Int32), M11)))))))))
def b12_winsBy_0 (rc : Nat → List Int32 → List Int64 → Mem → Option (Int32 × Mem)) (n : Nat) (a1 : Int32) (a2 : Int32) (M : Mem) : Option (Int32 × Mem) :=
  b12_winsBy_2  rc n a1 a2 (0 : Int32) M
def r12_winsBy : Nat → Nat → List Int32 → List Int64 → Mem → Option (Int32 × Mem)
  | 0 => fun _ _ _ _ => none
  | n + 1 => fun pc li lj M =>
    if pc = 2 then (match li, lj with | [i1, i2, i3], [] => b12_winsBy_2  (r12_winsBy  n) n i1 i2 i3 M | _, _ => none) else
    none
theorem e12_winsBy_2  (n : Nat) (i1 : Int32) (i2 : Int32) (i3 : Int32) (M : Mem) : r12_winsBy  (n + 1) 2 [i1, i2, i3] [] M = b12_winsBy_2  (r12_winsBy  n) n i1 i2 i3 M := by
  rw [r12_winsBy]
  simp
def f12_winsBy (n : Nat) (a1 : Int32) (a2 : Int32) (M : Mem) : Option (Int32 × Mem) := b12_winsBy_0 (r12_winsBy n) n a1 a2 M
abbrev rm12_winsBy : Room := { frames := 5, cells := 0, slots := 0, locals := 112 }
theorem y12_winsBy_w : yV RX12 yX12_winsBy cX12_winsBy 5 (some .boolean) 2 := ⟨g_1619, gp 86 rfl rfl, g_14, g_1620, rfl, by decide, by decide, by decide +kernel⟩
set_option maxHeartbeats 4000000 in
set_option maxRecDepth 100000 in
theorem w12_winsBy_42 {p : Program} {l : Launch} {e : Env} {s : State} {m : MethodId} {args : Array Value} {below : List Frame} {meth : Method} {c : Code} {z : Zt} {b : Nat}  (C : Cx p s m args c cX12_winsBy 5 RX12 z 32 b) (hr : meth.sig.returnType = (some .boolean)) (hk : meth.locks = false) {r : Int32} {M' : Mem} {rc : Nat → List Int32 → List Int64 → Mem → Option (Int32 × Mem)} {n : Nat} (q2 : ∀ (i1 : Int32) (i2 : Int32) (i3 : Int32) (M : Mem) (H : Heap) (locs : List Loc) (ls : Array Slot), rc 2 [i1, i2, i3] [] M = some (r, M') → va_P z.1 vwCl (pw (yd z b) 32 b M) H → va_S (pA 32 b) s.heap H locs → lv_has ls 5 [(0, .ref (b + 0)), (1, .int i1), (2, .int i2), (3, .int i3)] → W p l e rm12_winsBy s m args below meth c H locs 0 0 (MQ below (va_Qi (fun (r' : Int32) (M2 : Mem) => r' = r ∧ M2 = M') (fun M2 t => va_P z.1 vwCl (pw (yd z b) 32 b M2) t.heap) (pA 32 b)) args s 0 0 (pA 32 b)) (F0 m 2 ls [])) {i1 : Int32} {i2 : Int32} {i3 : Int32} {M : Mem} {H : Heap} {locs : List Loc} {ls : Array Slot} (hf : b12_winsBy_42  rc n i1 i2 i3 M = some (r, M')) (hP : va_P z.1 vwCl (pw (yd z b) 32 b M) H) (hS : va_S (pA 32 b) s.heap H locs) (hl : lv_has ls 5 [(0, .ref (b + 0)), (1, .int i1), (2, .int i2), (3, .int i3)]) : W p l e rm12_winsBy s m args below meth c H locs 0 0 (MQ below (va_Qi (fun (r' : Int32) (M2 : Mem) => r' = r ∧ M2 = M') (fun M2 t => va_P z.1 vwCl (pw (yd z b) 32 b M2) t.heap) (pA 32 b)) args s 0 0 (pA 32 b)) (F0 m 42 ls []) := by
  have hx := C.1.1
  have hb := C.1.2.1
  unfold b12_winsBy_42 at hf
  obtain ⟨v14, ev14⟩ : ∃ v : Int32, v = i3 + (1 : Int32) := ⟨_, rfl⟩
  replace hf := lt_c ev14 hf
  refine lv_iinc (v := v14) (lv' := [(3, .int v14), (0, .ref (b + 0)), (1, .int i1), (2, .int i2)]) hx hb dX12_winsBy_42 hl (k := 3) rfl (by rw [ev14]; rfl) (by decide) rfl (fun ls hl => ?_)
  refine lv_goto (tgt := 2) hx hb dX12_winsBy_45 (by decide) ?_
  exact q2 i1 i2 v14 M _ _ _ hf hP hS (lv_sub hl [1, 2, 3, 0] rfl)
set_option maxHeartbeats 4000000 in
set_option maxRecDepth 100000 in
theorem w12_winsBy_2 {p : Program} {l : Launch} {e : Env} {s : State} {m : MethodId} {args : Array Value} {below : List Frame} {meth : Method} {c : Code} {z : Zt} {b : Nat}  (C : Cx p s m args c cX12_winsBy 5 RX12 z 32 b) (hr : meth.sig.returnType = (some .boolean)) (hk : meth.locks = false) {r : Int32} {M' : Mem} {rc : Nat → List Int32 → List Int64 → Mem → Option (Int32 × Mem)} {n : Nat} (q2 : ∀ (i1 : Int32) (i2 : Int32) (i3 : Int32) (M : Mem) (H : Heap) (locs : List Loc) (ls : Array Slot), rc 2 [i1, i2, i3] [] M = some (r, M') → va_P z.1 vwCl (pw (yd z b) 32 b M) H → va_S (pA 32 b) s.heap H locs → lv_has ls 5 [(0, .ref (b + 0)), (1, .int i1), (2, .int i2), (3, .int i3)] → W p l e rm12_winsBy s m args below meth c H locs 0 0 (MQ below (va_Qi (fun (r' : Int32) (M2 : Mem) => r' = r ∧ M2 = M') (fun M2 t => va_P z.1 vwCl (pw (yd z b) 32 b M2) t.heap) (pA 32 b)) args s 0 0 (pA 32 b)) (F0 m 2 ls [])) {i1 : Int32} {i2 : Int32} {i3 : Int32} {M : Mem} {H : Heap} {locs : List Loc} {ls : Array Slot} (hf : b12_winsBy_2  rc n i1 i2 i3 M = some (r, M')) (hP : va_P z.1 vwCl (pw (yd z b) 32 b M) H) (hS : va_S (pA 32 b) s.heap H locs) (hl : lv_has ls 5 [(0, .ref (b + 0)), (1, .int i1), (2, .int i2), (3, .int i3)]) : W p l e rm12_winsBy s m args below meth c H locs 0 0 (MQ below (va_Qi (fun (r' : Int32) (M2 : Mem) => r' = r ∧ M2 = M') (fun M2 t => va_P z.1 vwCl (pw (yd z b) 32 b M2) t.heap) (pA 32 b)) args s 0 0 (pA 32 b)) (F0 m 2 ls []) := by
  have hx := C.1.1
  have hb := C.1.2.1
  unfold b12_winsBy_2 at hf
  refine lv_iload_n hx hb dX12_winsBy_2 rfl (lv_at hl 3 rfl) ?_
  refine lv_iconst (v := (5 : Int32)) hx hb dX12_winsBy_3 (by decide) ?_
  refine lv_icmp_ge (tgt := 48) hx hb dX12_winsBy_4 (by decide) (fun c1 => ?_) (fun c1 => ?_)
  · replace hf := ite_t c1 hf
    refine lv_iconst (v := (0 : Int32)) hx hb dX12_winsBy_48 (by decide) ?_
    exact prZ C hr hk hP hS hf rfl dX12_winsBy_49
  · replace hf := ite_f c1 hf
    refine lv_aload_n hx hb dX12_winsBy_7 rfl (lv_at hl 0 rfl) ?_
    refine lv_iload_n hx hb dX12_winsBy_8 rfl (lv_at hl 1 rfl) ?_
    refine lv_iload_n hx hb dX12_winsBy_9 rfl (lv_at hl 3 rfl) ?_
    obtain ⟨r2, M3, h4, hf⟩ := bnd_s hf
    refine pcVi (As := [.int i1, .int i3]) C hP hS (k := 0) (Nat.le_of_ble_eq_true rfl) (yd_0 _ _) rfl (c12_fourOrStay  h4) y12_fourOrStay_w g_1621 rfl rfl rfl ⟨Nat.le_of_ble_eq_true rfl, Nat.le_of_ble_eq_true rfl⟩ hl.1 rfl (Nat.le_of_ble_eq_true rfl) dX12_winsBy_10 ⟨Nat.le_of_ble_eq_true rfl, Nat.le_of_ble_eq_true rfl⟩ (fun H locs hP hS => ?_)
    refine lv_istore (lv' := [(4, .int r2), (0, .ref (b + 0)), (1, .int i1), (2, .int i2), (3, .int i3)]) hx hb dX12_winsBy_13 hl (by decide) rfl (fun ls hl => ?_)
    refine lv_iload hx hb dX12_winsBy_15 (lv_at hl 0 rfl) ?_
    refine lv_iconst (v := (-1 : Int32)) hx hb dX12_winsBy_17 (by decide) ?_
    refine lv_icmp_eq (tgt := 42) hx hb dX12_winsBy_18 (by decide) (fun c5 => ?_) (fun c5 => ?_)
    · replace hf := ite_t c5 hf
      exact w12_winsBy_42 (n := n)  C hr hk q2 hf hP hS (lv_sub hl [1, 2, 3, 4] rfl)
    · replace hf := ite_f c5 hf
      refine lv_aload_n hx hb dX12_winsBy_21 rfl (lv_at hl 1 rfl) ?_
      refine lv_iload hx hb dX12_winsBy_22 (lv_at hl 0 rfl) ?_
      obtain ⟨r6, M7, h8, hf⟩ := bnd_s hf
      refine pcVi (As := [.int r2]) C hP hS (k := 0) (Nat.le_of_ble_eq_true rfl) (yd_0 _ _) rfl (c12_isOpen  h8) y12_isOpen_w g_1483 rfl rfl rfl ⟨Nat.le_of_ble_eq_true rfl, Nat.le_of_ble_eq_true rfl⟩ hl.1 rfl (Nat.le_of_ble_eq_true rfl) dX12_winsBy_24 ⟨Nat.le_of_ble_eq_true rfl, Nat.le_of_ble_eq_true rfl⟩ (fun H locs hP hS => ?_)
      refine lv_if_eq (tgt := 42) hx hb dX12_winsBy_27 (by decide) (fun c9 => ?_) (fun c9 => ?_)
      · replace hf := ite_t c9 hf
        exact w12_winsBy_42 (n := n)  C hr hk q2 hf hP hS (lv_sub hl [1, 2, 3, 4] rfl)
      · replace hf := ite_f c9 hf
        refine lv_aload_n hx hb dX12_winsBy_30 rfl (lv_at hl 1 rfl) ?_
        refine lv_iload hx hb dX12_winsBy_31 (lv_at hl 0 rfl) ?_
        refine lv_iload_n hx hb dX12_winsBy_33 rfl (lv_at hl 3 rfl) ?_
        obtain ⟨r10, M11, h12, hf⟩ := bnd_s hf
        refine pcVi (As := [.int r2, .int i2]) C hP hS (k := 0) (Nat.le_of_ble_eq_true rfl) (yd_0 _ _) rfl (c12_isSure  h12) y12_isSure_w g_1625 rfl rfl rfl ⟨Nat.le_of_ble_eq_true rfl, Nat.le_of_ble_eq_true rfl⟩ hl.1 rfl (Nat.le_of_ble_eq_true rfl) dX12_winsBy_34 ⟨Nat.le_of_ble_eq_true rfl, Nat.le_of_ble_eq_true rfl⟩ (fun H locs hP hS => ?_)
        refine lv_if_eq (tgt := 42) hx hb dX12_winsBy_37 (by decide) (fun c13 => ?_) (fun c13 => ?_)
        · replace hf := ite_t c13 hf
          exact w12_winsBy_42 (n := n)  C hr hk q2 hf hP hS (lv_sub hl [1, 2, 3, 4] rfl)
        · replace hf := ite_f c13 hf
          refine lv_iconst (v := (1 : Int32)) hx hb dX12_winsBy_40 (by decide) ?_
          exact prZ C hr hk hP hS hf rfl dX12_winsBy_41
set_option maxHeartbeats 4000000 in
set_option maxRecDepth 100000 in
theorem w12_winsBy_0 {p : Program} {l : Launch} {e : Env} {s : State} {m : MethodId} {args : Array Value} {below : List Frame} {meth : Method} {c : Code} {z : Zt} {b : Nat}  (C : Cx p s m args c cX12_winsBy 5 RX12 z 32 b) (hr : meth.sig.returnType = (some .boolean)) (hk : meth.locks = false) {r : Int32} {M' : Mem} {rc : Nat → List Int32 → List Int64 → Mem → Option (Int32 × Mem)} {n : Nat} (q2 : ∀ (i1 : Int32) (i2 : Int32) (i3 : Int32) (M : Mem) (H : Heap) (locs : List Loc) (ls : Array Slot), rc 2 [i1, i2, i3] [] M = some (r, M') → va_P z.1 vwCl (pw (yd z b) 32 b M) H → va_S (pA 32 b) s.heap H locs → lv_has ls 5 [(0, .ref (b + 0)), (1, .int i1), (2, .int i2), (3, .int i3)] → W p l e rm12_winsBy s m args below meth c H locs 0 0 (MQ below (va_Qi (fun (r' : Int32) (M2 : Mem) => r' = r ∧ M2 = M') (fun M2 t => va_P z.1 vwCl (pw (yd z b) 32 b M2) t.heap) (pA 32 b)) args s 0 0 (pA 32 b)) (F0 m 2 ls [])) {a1 : Int32} {a2 : Int32} {M : Mem} {H : Heap} {locs : List Loc} {ls : Array Slot} (hf : b12_winsBy_0  rc n a1 a2 M = some (r, M')) (hP : va_P z.1 vwCl (pw (yd z b) 32 b M) H) (hS : va_S (pA 32 b) s.heap H locs) (hl : lv_has ls 5 [(0, .ref (b + 0)), (1, .int a1), (2, .int a2)]) : W p l e rm12_winsBy s m args below meth c H locs 0 0 (MQ below (va_Qi (fun (r' : Int32) (M2 : Mem) => r' = r ∧ M2 = M') (fun M2 t => va_P z.1 vwCl (pw (yd z b) 32 b M2) t.heap) (pA 32 b)) args s 0 0 (pA 32 b)) (F0 m 0 ls []) := by
  have hx := C.1.1
  have hb := C.1.2.1
  unfold b12_winsBy_0 at hf
  refine lv_iconst (v := (0 : Int32)) hx hb dX12_winsBy_0 (by decide) ?_
  refine lv_istore_n (lv' := [(3, .int (0 : Int32)), (0, .ref (b + 0)), (1, .int a1), (2, .int a2)]) hx hb dX12_winsBy_1 rfl hl (by decide) rfl (fun ls hl => ?_)
  exact w12_winsBy_2 (n := n)  C hr hk q2 hf hP hS (lv_sub hl [1, 2, 3, 0] rfl)
set_option maxHeartbeats 4000000 in
set_option maxRecDepth 100000 in
theorem l12_winsBy {p : Program} {l : Launch} {e : Env} {s : State} {m : MethodId} {args : Array Value} {below : List Frame} {meth : Method} {c : Code} {z : Zt} {b : Nat}  (C : Cx p s m args c cX12_winsBy 5 RX12 z 32 b) (hr : meth.sig.returnType = (some .boolean)) (hk : meth.locks = false) {r : Int32} {M' : Mem} (n : Nat) : (∀ (i1 : Int32) (i2 : Int32) (i3 : Int32) (M : Mem) (H : Heap) (locs : List Loc) (ls : Array Slot), (r12_winsBy  n) 2 [i1, i2, i3] [] M = some (r, M') → va_P z.1 vwCl (pw (yd z b) 32 b M) H → va_S (pA 32 b) s.heap H locs → lv_has ls 5 [(0, .ref (b + 0)), (1, .int i1), (2, .int i2), (3, .int i3)] → W p l e rm12_winsBy s m args below meth c H locs 0 0 (MQ below (va_Qi (fun (r' : Int32) (M2 : Mem) => r' = r ∧ M2 = M') (fun M2 t => va_P z.1 vwCl (pw (yd z b) 32 b M2) t.heap) (pA 32 b)) args s 0 0 (pA 32 b)) (F0 m 2 ls [])) := by
  induction n with
  | zero => exact fun _ _ _ _ _ _ _ hf => (by cases hf)
  | succ n ih => exact fun _ _ _ _ _ _ _ hf hP hS hl => w12_winsBy_2 (n := n)  C hr hk ih ((e12_winsBy_2  n _ _ _ _).symm.trans hf) hP hS hl
theorem c12_winsBy {l : Launch} {z : Zt} {b n : Nat}  {a1 : Int32} {a2 : Int32} {M M' : Mem} {r : Int32} (hf : f12_winsBy n  a1 a2 M = some (r, M')) : CI l z (yd z b) 32 b yX12_winsBy cX12_winsBy 5 (some .boolean) rm12_winsBy [.ref (b + 0), .int a1, .int a2] M M' r :=
  CI.ofW (lv := [(0, .ref (b + 0)), (1, .int a1), (2, .int a2)]) (by decide) (Nat.le_of_ble_eq_true rfl) rfl (fun p e s m args below meth c ls C hr hk hP hS hl => w12_winsBy_0 (n := n)  C hr hk (l12_winsBy  C hr hk n) hf hP hS hl)

-- BronzeKingModel.chase(II)I
theorem dX12_chase_0 : decode cX12_chase 0 = .ok (.iload_n 1, 1) := by decide +kernel
theorem dX12_chase_1 : decode cX12_chase 1 = .ok (.iconst 0, 1) := by decide +kernel
theorem dX12_chase_2 : decode cX12_chase 2 = .ok (.bipush 95, 2) := by decide +kernel
theorem dX12_chase_4 : decode cX12_chase 4 = .ok (.invokestatic 106, 3) := by decide +kernel
theorem dX12_chase_7 : decode cX12_chase 7 = .ok (.ifCond .eq 29, 3) := by decide +kernel
theorem dX12_chase_10 : decode cX12_chase 10 = .ok (.iload_n 2, 1) := by decide +kernel
theorem dX12_chase_11 : decode cX12_chase 11 = .ok (.iconst 0, 1) := by decide +kernel
theorem dX12_chase_12 : decode cX12_chase 12 = .ok (.bipush 95, 2) := by decide +kernel
theorem dX12_chase_14 : decode cX12_chase 14 = .ok (.invokestatic 106, 3) := by decide +kernel
theorem dX12_chase_17 : decode cX12_chase 17 = .ok (.ifCond .eq 19, 3) := by decide +kernel
theorem dX12_chase_20 : decode cX12_chase 20 = .ok (.aload_n 0, 1) := by decide +kernel
theorem dX12_chase_21 : decode cX12_chase 21 = .ok (.iload_n 1, 1) := by decide +kernel
theorem dX12_chase_22 : decode cX12_chase 22 = .ok (.invokevirtual 122, 3) := by decide +kernel
theorem dX12_chase_25 : decode cX12_chase 25 = .ok (.ifCond .eq 11, 3) := by decide +kernel
theorem dX12_chase_28 : decode cX12_chase 28 = .ok (.aload_n 0, 1) := by decide +kernel
theorem dX12_chase_29 : decode cX12_chase 29 = .ok (.iload_n 2, 1) := by decide +kernel
theorem dX12_chase_30 : decode cX12_chase 30 = .ok (.invokevirtual 122, 3) := by decide +kernel
theorem dX12_chase_33 : decode cX12_chase 33 = .ok (.ifCond .ne 5, 3) := by decide +kernel
theorem dX12_chase_36 : decode cX12_chase 36 = .ok (.iconst (-1), 1) := by decide +kernel
theorem dX12_chase_37 : decode cX12_chase 37 = .ok (.ireturn, 1) := by decide +kernel
theorem dX12_chase_38 : decode cX12_chase 38 = .ok (.iconst 0, 1) := by decide +kernel
theorem dX12_chase_39 : decode cX12_chase 39 = .ok (.istore_n 3, 1) := by decide +kernel
theorem dX12_chase_40 : decode cX12_chase 40 = .ok (.iload_n 3, 1) := by decide +kernel
theorem dX12_chase_41 : decode cX12_chase 41 = .ok (.sipush 9216, 3) := by decide +kernel
theorem dX12_chase_44 : decode cX12_chase 44 = .ok (.if_icmp .ge 32, 3) := by decide +kernel
theorem dX12_chase_47 : decode cX12_chase 47 = .ok (.aload_n 0, 1) := by decide +kernel
theorem dX12_chase_48 : decode cX12_chase 48 = .ok (.getfield 89, 3) := by decide +kernel
theorem dX12_chase_51 : decode cX12_chase 51 = .ok (.iload_n 3, 1) := by decide +kernel
theorem dX12_chase_52 : decode cX12_chase 52 = .ok (.iload_n 3, 1) := by decide +kernel
theorem dX12_chase_53 : decode cX12_chase 53 = .ok (.bipush 96, 2) := by decide +kernel
theorem dX12_chase_55 : decode cX12_chase 55 = .ok (.idiv, 1) := by decide +kernel
theorem dX12_chase_56 : decode cX12_chase 56 = .ok (.iload_n 3, 1) := by decide +kernel
theorem dX12_chase_57 : decode cX12_chase 57 = .ok (.bipush 96, 2) := by decide +kernel
theorem dX12_chase_59 : decode cX12_chase 59 = .ok (.irem, 1) := by decide +kernel
theorem dX12_chase_60 : decode cX12_chase 60 = .ok (.if_icmp .ne 7, 3) := by decide +kernel
theorem dX12_chase_63 : decode cX12_chase 63 = .ok (.iconst 0, 1) := by decide +kernel
theorem dX12_chase_64 : decode cX12_chase 64 = .ok (.goto 4, 3) := by decide +kernel
theorem dX12_chase_67 : decode cX12_chase 67 = .ok (.iconst (-1), 1) := by decide +kernel
theorem dX12_chase_68 : decode cX12_chase 68 = .ok (.i2b, 1) := by decide +kernel
theorem dX12_chase_69 : decode cX12_chase 69 = .ok (.bastore, 1) := by decide +kernel
theorem dX12_chase_70 : decode cX12_chase 70 = .ok (.iinc 3 1, 3) := by decide +kernel
theorem dX12_chase_73 : decode cX12_chase 73 = .ok (.goto (-33), 3) := by decide +kernel
theorem dX12_chase_76 : decode cX12_chase 76 = .ok (.iconst 1, 1) := by decide +kernel
theorem dX12_chase_77 : decode cX12_chase 77 = .ok (.istore_n 3, 1) := by decide +kernel
theorem dX12_chase_78 : decode cX12_chase 78 = .ok (.iload_n 3, 1) := by decide +kernel
theorem dX12_chase_79 : decode cX12_chase 79 = .ok (.bipush 60, 2) := by decide +kernel
theorem dX12_chase_81 : decode cX12_chase 81 = .ok (.if_icmp .gt 141, 3) := by decide +kernel
theorem dX12_chase_84 : decode cX12_chase 84 = .ok (.aload_n 0, 1) := by decide +kernel
theorem dX12_chase_85 : decode cX12_chase 85 = .ok (.getfield 89, 3) := by decide +kernel
theorem dX12_chase_88 : decode cX12_chase 88 = .ok (.bipush 96, 2) := by decide +kernel
theorem dX12_chase_90 : decode cX12_chase 90 = .ok (.iload_n 1, 1) := by decide +kernel
theorem dX12_chase_91 : decode cX12_chase 91 = .ok (.imul, 1) := by decide +kernel
theorem dX12_chase_92 : decode cX12_chase 92 = .ok (.iload_n 2, 1) := by decide +kernel
theorem dX12_chase_93 : decode cX12_chase 93 = .ok (.iadd, 1) := by decide +kernel
theorem dX12_chase_94 : decode cX12_chase 94 = .ok (.baload, 1) := by decide +kernel
theorem dX12_chase_95 : decode cX12_chase 95 = .ok (.iconst (-1), 1) := by decide +kernel
theorem dX12_chase_96 : decode cX12_chase 96 = .ok (.if_icmp .ne 126, 3) := by decide +kernel
theorem dX12_chase_99 : decode cX12_chase 99 = .ok (.iconst 0, 1) := by decide +kernel
theorem dX12_chase_100 : decode cX12_chase 100 = .ok (.istore 4, 2) := by decide +kernel
theorem dX12_chase_102 : decode cX12_chase 102 = .ok (.iload 4, 2) := by decide +kernel
theorem dX12_chase_104 : decode cX12_chase 104 = .ok (.sipush 9216, 3) := by decide +kernel
theorem dX12_chase_107 : decode cX12_chase 107 = .ok (.if_icmp .ge 73, 3) := by decide +kernel
theorem dX12_chase_110 : decode cX12_chase 110 = .ok (.aload_n 0, 1) := by decide +kernel
theorem dX12_chase_111 : decode cX12_chase 111 = .ok (.getfield 92, 3) := by decide +kernel
theorem dX12_chase_114 : decode cX12_chase 114 = .ok (.iload 4, 2) := by decide +kernel
theorem dX12_chase_116 : decode cX12_chase 116 = .ok (.aload_n 0, 1) := by decide +kernel
theorem dX12_chase_117 : decode cX12_chase 117 = .ok (.getfield 89, 3) := by decide +kernel
theorem dX12_chase_120 : decode cX12_chase 120 = .ok (.iload 4, 2) := by decide +kernel
theorem dX12_chase_122 : decode cX12_chase 122 = .ok (.baload, 1) := by decide +kernel
theorem dX12_chase_123 : decode cX12_chase 123 = .ok (.iconst (-1), 1) := by decide +kernel
theorem dX12_chase_124 : decode cX12_chase 124 = .ok (.if_icmp .ne 48, 3) := by decide +kernel
theorem dX12_chase_127 : decode cX12_chase 127 = .ok (.aload_n 0, 1) := by decide +kernel
theorem dX12_chase_128 : decode cX12_chase 128 = .ok (.iload 4, 2) := by decide +kernel
theorem dX12_chase_130 : decode cX12_chase 130 = .ok (.bipush 96, 2) := by decide +kernel
theorem dX12_chase_132 : decode cX12_chase 132 = .ok (.idiv, 1) := by decide +kernel
theorem dX12_chase_133 : decode cX12_chase 133 = .ok (.invokevirtual 122, 3) := by decide +kernel
theorem dX12_chase_136 : decode cX12_chase 136 = .ok (.ifCond .eq 36, 3) := by decide +kernel
theorem dX12_chase_139 : decode cX12_chase 139 = .ok (.aload_n 0, 1) := by decide +kernel
theorem dX12_chase_140 : decode cX12_chase 140 = .ok (.iload 4, 2) := by decide +kernel
theorem dX12_chase_142 : decode cX12_chase 142 = .ok (.bipush 96, 2) := by decide +kernel
theorem dX12_chase_144 : decode cX12_chase 144 = .ok (.irem, 1) := by decide +kernel
theorem dX12_chase_145 : decode cX12_chase 145 = .ok (.invokevirtual 122, 3) := by decide +kernel
theorem dX12_chase_148 : decode cX12_chase 148 = .ok (.ifCond .eq 24, 3) := by decide +kernel
theorem dX12_chase_151 : decode cX12_chase 151 = .ok (.aload_n 0, 1) := by decide +kernel
theorem dX12_chase_152 : decode cX12_chase 152 = .ok (.iload 4, 2) := by decide +kernel
theorem dX12_chase_154 : decode cX12_chase 154 = .ok (.bipush 96, 2) := by decide +kernel
theorem dX12_chase_156 : decode cX12_chase 156 = .ok (.idiv, 1) := by decide +kernel
theorem dX12_chase_157 : decode cX12_chase 157 = .ok (.iload 4, 2) := by decide +kernel
theorem dX12_chase_159 : decode cX12_chase 159 = .ok (.bipush 96, 2) := by decide +kernel
theorem dX12_chase_161 : decode cX12_chase 161 = .ok (.irem, 1) := by decide +kernel
theorem dX12_chase_162 : decode cX12_chase 162 = .ok (.invokevirtual 386, 3) := by decide +kernel
theorem dX12_chase_165 : decode cX12_chase 165 = .ok (.ifCond .eq 7, 3) := by decide +kernel
theorem dX12_chase_168 : decode cX12_chase 168 = .ok (.iconst 1, 1) := by decide +kernel
theorem dX12_chase_169 : decode cX12_chase 169 = .ok (.goto 4, 3) := by decide +kernel
theorem dX12_chase_172 : decode cX12_chase 172 = .ok (.iconst 0, 1) := by decide +kernel
theorem dX12_chase_173 : decode cX12_chase 173 = .ok (.bastore, 1) := by decide +kernel
theorem dX12_chase_174 : decode cX12_chase 174 = .ok (.iinc 4 1, 3) := by decide +kernel
theorem dX12_chase_177 : decode cX12_chase 177 = .ok (.goto (-75), 3) := by decide +kernel
theorem dX12_chase_180 : decode cX12_chase 180 = .ok (.iconst 0, 1) := by decide +kernel
theorem dX12_chase_181 : decode cX12_chase 181 = .ok (.istore 4, 2) := by decide +kernel
theorem dX12_chase_183 : decode cX12_chase 183 = .ok (.iload 4, 2) := by decide +kernel
theorem dX12_chase_185 : decode cX12_chase 185 = .ok (.sipush 9216, 3) := by decide +kernel
theorem dX12_chase_188 : decode cX12_chase 188 = .ok (.if_icmp .ge 28, 3) := by decide +kernel
theorem dX12_chase_191 : decode cX12_chase 191 = .ok (.aload_n 0, 1) := by decide +kernel
theorem dX12_chase_192 : decode cX12_chase 192 = .ok (.getfield 92, 3) := by decide +kernel
theorem dX12_chase_195 : decode cX12_chase 195 = .ok (.iload 4, 2) := by decide +kernel
theorem dX12_chase_197 : decode cX12_chase 197 = .ok (.baload, 1) := by decide +kernel
theorem dX12_chase_198 : decode cX12_chase 198 = .ok (.ifCond .eq 12, 3) := by decide +kernel
theorem dX12_chase_201 : decode cX12_chase 201 = .ok (.aload_n 0, 1) := by decide +kernel
theorem dX12_chase_202 : decode cX12_chase 202 = .ok (.getfield 89, 3) := by decide +kernel
theorem dX12_chase_205 : decode cX12_chase 205 = .ok (.iload 4, 2) := by decide +kernel
theorem dX12_chase_207 : decode cX12_chase 207 = .ok (.iload_n 3, 1) := by decide +kernel
theorem dX12_chase_208 : decode cX12_chase 208 = .ok (.i2b, 1) := by decide +kernel
theorem dX12_chase_209 : decode cX12_chase 209 = .ok (.bastore, 1) := by decide +kernel
theorem dX12_chase_210 : decode cX12_chase 210 = .ok (.iinc 4 1, 3) := by decide +kernel
theorem dX12_chase_213 : decode cX12_chase 213 = .ok (.goto (-30), 3) := by decide +kernel
theorem dX12_chase_216 : decode cX12_chase 216 = .ok (.iinc 3 1, 3) := by decide +kernel
theorem dX12_chase_219 : decode cX12_chase 219 = .ok (.goto (-141), 3) := by decide +kernel
theorem dX12_chase_222 : decode cX12_chase 222 = .ok (.aload_n 0, 1) := by decide +kernel
theorem dX12_chase_223 : decode cX12_chase 223 = .ok (.getfield 89, 3) := by decide +kernel
theorem dX12_chase_226 : decode cX12_chase 226 = .ok (.bipush 96, 2) := by decide +kernel
theorem dX12_chase_228 : decode cX12_chase 228 = .ok (.iload_n 1, 1) := by decide +kernel
theorem dX12_chase_229 : decode cX12_chase 229 = .ok (.imul, 1) := by decide +kernel
theorem dX12_chase_230 : decode cX12_chase 230 = .ok (.iload_n 2, 1) := by decide +kernel
theorem dX12_chase_231 : decode cX12_chase 231 = .ok (.iadd, 1) := by decide +kernel
theorem dX12_chase_232 : decode cX12_chase 232 = .ok (.baload, 1) := by decide +kernel
theorem dX12_chase_233 : decode cX12_chase 233 = .ok (.iconst (-1), 1) := by decide +kernel
theorem dX12_chase_234 : decode cX12_chase 234 = .ok (.if_icmp .ne 8, 3) := by decide +kernel
theorem dX12_chase_237 : decode cX12_chase 237 = .ok (.bipush (-2), 2) := by decide +kernel
theorem dX12_chase_239 : decode cX12_chase 239 = .ok (.goto 14, 3) := by decide +kernel
theorem dX12_chase_242 : decode cX12_chase 242 = .ok (.aload_n 0, 1) := by decide +kernel
theorem dX12_chase_243 : decode cX12_chase 243 = .ok (.getfield 89, 3) := by decide +kernel
theorem dX12_chase_246 : decode cX12_chase 246 = .ok (.bipush 96, 2) := by decide +kernel
theorem dX12_chase_248 : decode cX12_chase 248 = .ok (.iload_n 1, 1) := by decide +kernel
theorem dX12_chase_249 : decode cX12_chase 249 = .ok (.imul, 1) := by decide +kernel
theorem dX12_chase_250 : decode cX12_chase 250 = .ok (.iload_n 2, 1) := by decide +kernel
theorem dX12_chase_251 : decode cX12_chase 251 = .ok (.iadd, 1) := by decide +kernel
theorem dX12_chase_252 : decode cX12_chase 252 = .ok (.baload, 1) := by decide +kernel
theorem dX12_chase_253 : decode cX12_chase 253 = .ok (.ireturn, 1) := by decide +kernel
def b12_chase_36 (rc : Nat → List Int32 → List Int64 → Mem → Option (Int32 × Mem)) (n : Nat) (M : Mem) : Option (Int32 × Mem) :=
  some ((-1 : Int32), M)
def b12_chase_222 (rc : Nat → List Int32 → List Int64 → Mem → Option (Int32 × Mem)) (n : Nat) (i1 : Int32) (i2 : Int32) (M : Mem) : Option (Int32 × Mem) :=
  chk (inb (((96 : Int32) * i1) + i2) 9216) <|
  (if (M.1 27 (((96 : Int32) * i1) + i2).toNatClampNeg) = (-1 : Int32) then (
   some ((-2 : Int32), M))
  else (
   chk (inb (((96 : Int32) * i1) + i2) 9216) <|
   some ((M.1 27 (((96 : Int32) * i1) + i2).toNatClampNeg), M)))
def b12_chase_210 (rc : Nat → List Int32 → List Int64 → Mem → Option (Int32 × Mem)) (n : Nat) (i1 : Int32) (i2 : Int32) (i3 : Int32) (i4 : Int32) (M : Mem) : Option (Int32 × Mem) :=
  lt (i4 + (1 : Int32)) fun v49 =>
  rc 183 [i1, i2, i3, v49] [] M
def b12_chase_183 (rc : Nat → List Int32 → List Int64 → Mem → Option (Int32 × Mem)) (n : Nat) (i1 : Int32) (i2 : Int32) (i3 : Int32) (i4 : Int32) (M : Mem) : Option (Int32 × Mem) :=
  (if (9216 : Int32) ≤ i4 then (
   lt (i3 + (1 : Int32)) fun v44 =>
   rc 78 [i1, i2, v44] [] M)
  else (
   chk (inb i4 9216) <|
   (if (M.1 28 i4.toNatClampNeg) = 0 then (
    b12_chase_210  rc n i1 i2 i3 i4 M)
   else (
    chk (inb i4 9216) <|
    lt (wI M 27 i4.toNatClampNeg i3.toInt8.toInt32.toInt8.toInt32) fun M48 =>
    b12_chase_210  rc n i1 i2 i3 i4 M48))))
def b12_chase_173 (rc : Nat → List Int32 → List Int64 → Mem → Option (Int32 × Mem)) (n : Nat) (i1 : Int32) (i2 : Int32) (i3 : Int32) (i4 : Int32) (s1 : Int32) (s2 : Int32) (M : Mem) : Option (Int32 × Mem) :=
  chk (inb s1 9216) <|
  lt (wI M 28 s1.toNatClampNeg (vp_nar .boolean s2)) fun M41 =>
  lt (i4 + (1 : Int32)) fun v42 =>
  rc 102 [i1, i2, i3, v42] [] M41
def b12_chase_172 (rc : Nat → List Int32 → List Int64 → Mem → Option (Int32 × Mem)) (n : Nat) (i1 : Int32) (i2 : Int32) (i3 : Int32) (i4 : Int32) (s1 : Int32) (M : Mem) : Option (Int32 × Mem) :=
  b12_chase_173  rc n i1 i2 i3 i4 s1 (0 : Int32) M
def b12_chase_102 (rc : Nat → List Int32 → List Int64 → Mem → Option (Int32 × Mem)) (n : Nat) (i1 : Int32) (i2 : Int32) (i3 : Int32) (i4 : Int32) (M : Mem) : Option (Int32 × Mem) :=
  (if (9216 : Int32) ≤ i4 then (
   b12_chase_183  rc n i1 i2 i3 (0 : Int32) M)
  else (
   chk (inb i4 9216) <|
   (if (M.1 27 i4.toNatClampNeg) = (-1 : Int32) then (
    bnd (f12_isOpen n (i4 / (96 : Int32)) M) fun r28 M29 =>
    (if r28 = 0 then (
     b12_chase_172  rc n i1 i2 i3 i4 i4 M29)
    else (
     bnd (f12_isOpen n (i4 - i4 / (96 : Int32) * (96 : Int32)) M29) fun r32 M33 =>
     (if r32 = 0 then (
      b12_chase_172  rc n i1 i2 i3 i4 i4 M33)
     else (
      bnd (f12_winsBy n (i4 / (96 : Int32)) (i4 - i4 / (96 : Int32) * (96 : Int32)) M33) fun r36 M37 =>
      (if r36 = 0 then (
       b12_chase_172  rc n i1 i2 i3 i4 i4 M37)
      else (
       b12_chase_173  rc n i1 i2 i3 i4 i4 (1 : Int32) M37)))))))
   else (
    b12_chase_172  rc n i1 i2 i3 i4 i4 M))))
def b12_chase_78 (rc : Nat → List Int32 → List Int64 → Mem → Option (Int32 × Mem)) (n : Nat) (i1 : Int32) (i2 : Int32) (i3 : Int32) (M : Mem) : Option (Int32 × Mem) :=
  (if (60 : Int32) < i3 then (
   b12_chase_222  rc n i1 i2 M)
  else (
   chk (inb (((96 : Int32) * i1) + i2) 9216) <|
   (if (M.1 27 (((96 : Int32) * i1) + i2).toNatClampNeg) = (-1 : Int32) then (
    b12_chase_102  rc n i1 i2 i3 (0 : Int32) M)
   else (
    b12_chase_222  rc n i1 i2 M))))
def b12_chase_68 (rc : Nat → List Int32 → List Int64 → Mem → Option (Int32 × Mem)) (n : Nat) (i1 : Int32) (i2 : Int32) (i3 : Int32) (s1 : Int32) (s2 : Int32) (M : Mem) : Option (Int32 × Mem) :=
  chk (inb s1 9216) <|
  lt (wI M 27 s1.toNatClampNeg s2.toInt8.toInt32.toInt8.toInt32) fun M20 =>
  lt (i3 + (1 : Int32)) fun v21 =>
  rc 40 [i1, i2, v21] [] M20
def b12_chase_40 (rc : Nat → List Int32 → List Int64 → Mem → Option (Int32 × Mem)) (n : Nat) (i1 : Int32) (i2 : Int32) (i3 : Int32) (M : Mem) : Option (Int32 × Mem) :=
  (if (9216 : Int32) ≤ i3 then (
   b12_chase_78  rc n i1 i2 (1 : Int32) M)
  else (
   (if (i3 / (96 : Int32)) = (i3 - i3 / (96 : Int32) * (96 : Int32)) then (
    b12_chase_68  rc n i1 i2 i3 i3 (0 : Int32) M)
   else (
    b12_chase_68  rc n i1 i2 i3 i3 (-1 : Int32) M))))
def b12_chase_0 (rc : Nat → List Int32 → List Int64 → Mem → Option (Int32 × Mem)) (n : Nat) (a1 : Int32) (a2 : Int32) (M : Mem) : Option (Int32 × Mem) :=
  bnd (f12_in n a1 (0 : Int32) (95 : Int32) M) fun r1 M2 =>
  (if r1 = 0 then (
   b12_chase_36  rc n  M2)
  else (
   bnd (f12_in n a2 (0 : Int32) (95 : Int32) M2) fun r5 M6 =>
   (if r5 = 0 then (
    b12_chase_36  rc n  M6)
   else (
    bnd (f12_isOpen n a1 M6) fun r9 M10 =>
    (if r9 = 0 then (
     b12_chase_36  rc n  M10)
    else (
     bnd (f12_isOpen n a2 M10) fun r13 M14 =>
     (if r13 = 0 then (
      b12_chase_36  rc n  M14)
     else (
      b12_chase_40  rc n a1 a2 (0 : Int32) M14))))))))
def r12_chase : Nat → Nat → List Int32 → List Int64 → Mem → Option (Int32 × Mem)
  | 0 => fun _ _ _ _ => none
  | n + 1 => fun pc li lj M =>
    if pc = 40 then (match li, lj with | [i1, i2, i3], [] => b12_chase_40  (r12_chase  n) n i1 i2 i3 M | _, _ => none) else
    if pc = 78 then (match li, lj with | [i1, i2, i3], [] => b12_chase_78  (r12_chase  n) n i1 i2 i3 M | _, _ => none) else
    if pc = 102 then (match li, lj with | [i1, i2, i3, i4], [] => b12_chase_102  (r12_chase  n) n i1 i2 i3 i4 M | _, _ => none) else
    if pc = 183 then (match li, lj with | [i1, i2, i3, i4], [] => b12_chase_183  (r12_chase  n) n i1 i2 i3 i4 M | _, _ => none) else
    none
theorem e12_chase_40  (n : Nat) (i1 : Int32) (i2 : Int32) (i3 : Int32) (M : Mem) : r12_chase  (n + 1) 40 [i1, i2, i3] [] M = b12_chase_40  (r12_chase  n) n i1 i2 i3 M := by
  rw [r12_chase]
  simp
theorem e12_chase_78  (n : Nat) (i1 : Int32) (i2 : Int32) (i3 : Int32) (M : Mem) : r12_chase  (n + 1) 78 [i1, i2, i3] [] M = b12_chase_78  (r12_chase  n) n i1 i2 i3 M := by
  rw [r12_chase]
  simp
theorem e12_chase_102  (n : Nat) (i1 : Int32) (i2 : Int32) (i3 : Int32) (i4 : Int32) (M : Mem) : r12_chase  (n + 1) 102 [i1, i2, i3, i4] [] M = b12_chase_102  (r12_chase  n) n i1 i2 i3 i4 M := by
  rw [r12_chase]
  simp
theorem e12_chase_183  (n : Nat) (i1 : Int32) (i2 : Int32) (i3 : Int32) (i4 : Int32) (M : Mem) : r12_chase  (n + 1) 183 [i1, i2, i3, i4] [] M = b12_chase_183  (r12_chase  n) n i1 i2 i3 i4 M := by
  rw [r12_chase]
  simp
def f12_chase (n : Nat) (a1 : Int32) (a2 : Int32) (M : Mem) : Option (Int32 × Mem) := b12_chase_0 (r12_chase n) n a1 a2 M
abbrev rm12_chase : Room := { frames := 6, cells := 0, slots := 0, locals := 136 }
theorem y12_chase_w : yV RX12 yX12_chase cX12_chase 5 (some .int) 2 := ⟨g_1614, g_1615, g_14, g_1616, rfl, by decide, by decide, by decide +kernel⟩
set_option maxHeartbeats 4000000 in
set_option maxRecDepth 100000 in
theorem w12_chase_36 {p : Program} {l : Launch} {e : Env} {s : State} {m : MethodId} {args : Array Value} {below : List Frame} {meth : Method} {c : Code} {z : Zt} {b : Nat}  (C : Cx p s m args c cX12_chase 5 RX12 z 32 b) (hr : meth.sig.returnType = (some .int)) (hk : meth.locks = false) {r : Int32} {M' : Mem} {rc : Nat → List Int32 → List Int64 → Mem → Option (Int32 × Mem)} {n : Nat} (q40 : ∀ (i1 : Int32) (i2 : Int32) (i3 : Int32) (M : Mem) (H : Heap) (locs : List Loc) (ls : Array Slot), rc 40 [i1, i2, i3] [] M = some (r, M') → va_P z.1 vwCl (pw (yd z b) 32 b M) H → va_S (pA 32 b) s.heap H locs → lv_has ls 5 [(0, .ref (b + 0)), (1, .int i1), (2, .int i2), (3, .int i3)] → W p l e rm12_chase s m args below meth c H locs 0 0 (MQ below (va_Qi (fun (r' : Int32) (M2 : Mem) => r' = r ∧ M2 = M') (fun M2 t => va_P z.1 vwCl (pw (yd z b) 32 b M2) t.heap) (pA 32 b)) args s 0 0 (pA 32 b)) (F0 m 40 ls [])) (q78 : ∀ (i1 : Int32) (i2 : Int32) (i3 : Int32) (M : Mem) (H : Heap) (locs : List Loc) (ls : Array Slot), rc 78 [i1, i2, i3] [] M = some (r, M') → va_P z.1 vwCl (pw (yd z b) 32 b M) H → va_S (pA 32 b) s.heap H locs → lv_has ls 5 [(0, .ref (b + 0)), (1, .int i1), (2, .int i2), (3, .int i3)] → W p l e rm12_chase s m args below meth c H locs 0 0 (MQ below (va_Qi (fun (r' : Int32) (M2 : Mem) => r' = r ∧ M2 = M') (fun M2 t => va_P z.1 vwCl (pw (yd z b) 32 b M2) t.heap) (pA 32 b)) args s 0 0 (pA 32 b)) (F0 m 78 ls [])) (q102 : ∀ (i1 : Int32) (i2 : Int32) (i3 : Int32) (i4 : Int32) (M : Mem) (H : Heap) (locs : List Loc) (ls : Array Slot), rc 102 [i1, i2, i3, i4] [] M = some (r, M') → va_P z.1 vwCl (pw (yd z b) 32 b M) H → va_S (pA 32 b) s.heap H locs → lv_has ls 5 [(0, .ref (b + 0)), (1, .int i1), (2, .int i2), (3, .int i3), (4, .int i4)] → W p l e rm12_chase s m args below meth c H locs 0 0 (MQ below (va_Qi (fun (r' : Int32) (M2 : Mem) => r' = r ∧ M2 = M') (fun M2 t => va_P z.1 vwCl (pw (yd z b) 32 b M2) t.heap) (pA 32 b)) args s 0 0 (pA 32 b)) (F0 m 102 ls [])) (q183 : ∀ (i1 : Int32) (i2 : Int32) (i3 : Int32) (i4 : Int32) (M : Mem) (H : Heap) (locs : List Loc) (ls : Array Slot), rc 183 [i1, i2, i3, i4] [] M = some (r, M') → va_P z.1 vwCl (pw (yd z b) 32 b M) H → va_S (pA 32 b) s.heap H locs → lv_has ls 5 [(0, .ref (b + 0)), (1, .int i1), (2, .int i2), (3, .int i3), (4, .int i4)] → W p l e rm12_chase s m args below meth c H locs 0 0 (MQ below (va_Qi (fun (r' : Int32) (M2 : Mem) => r' = r ∧ M2 = M') (fun M2 t => va_P z.1 vwCl (pw (yd z b) 32 b M2) t.heap) (pA 32 b)) args s 0 0 (pA 32 b)) (F0 m 183 ls []))  {M : Mem} {H : Heap} {locs : List Loc} {ls : Array Slot} (hf : b12_chase_36  rc n  M = some (r, M')) (hP : va_P z.1 vwCl (pw (yd z b) 32 b M) H) (hS : va_S (pA 32 b) s.heap H locs) (hl : lv_has ls 5 []) : W p l e rm12_chase s m args below meth c H locs 0 0 (MQ below (va_Qi (fun (r' : Int32) (M2 : Mem) => r' = r ∧ M2 = M') (fun M2 t => va_P z.1 vwCl (pw (yd z b) 32 b M2) t.heap) (pA 32 b)) args s 0 0 (pA 32 b)) (F0 m 36 ls []) := by
  have hx := C.1.1
  have hb := C.1.2.1
  unfold b12_chase_36 at hf
  refine lv_iconst (v := (-1 : Int32)) hx hb dX12_chase_36 (by decide) ?_
  exact prI C hr hk hP hS hf dX12_chase_37
set_option maxHeartbeats 4000000 in
set_option maxRecDepth 100000 in
theorem w12_chase_222 {p : Program} {l : Launch} {e : Env} {s : State} {m : MethodId} {args : Array Value} {below : List Frame} {meth : Method} {c : Code} {z : Zt} {b : Nat}  (C : Cx p s m args c cX12_chase 5 RX12 z 32 b) (hr : meth.sig.returnType = (some .int)) (hk : meth.locks = false) {r : Int32} {M' : Mem} {rc : Nat → List Int32 → List Int64 → Mem → Option (Int32 × Mem)} {n : Nat} (q40 : ∀ (i1 : Int32) (i2 : Int32) (i3 : Int32) (M : Mem) (H : Heap) (locs : List Loc) (ls : Array Slot), rc 40 [i1, i2, i3] [] M = some (r, M') → va_P z.1 vwCl (pw (yd z b) 32 b M) H → va_S (pA 32 b) s.heap H locs → lv_has ls 5 [(0, .ref (b + 0)), (1, .int i1), (2, .int i2), (3, .int i3)] → W p l e rm12_chase s m args below meth c H locs 0 0 (MQ below (va_Qi (fun (r' : Int32) (M2 : Mem) => r' = r ∧ M2 = M') (fun M2 t => va_P z.1 vwCl (pw (yd z b) 32 b M2) t.heap) (pA 32 b)) args s 0 0 (pA 32 b)) (F0 m 40 ls [])) (q78 : ∀ (i1 : Int32) (i2 : Int32) (i3 : Int32) (M : Mem) (H : Heap) (locs : List Loc) (ls : Array Slot), rc 78 [i1, i2, i3] [] M = some (r, M') → va_P z.1 vwCl (pw (yd z b) 32 b M) H → va_S (pA 32 b) s.heap H locs → lv_has ls 5 [(0, .ref (b + 0)), (1, .int i1), (2, .int i2), (3, .int i3)] → W p l e rm12_chase s m args below meth c H locs 0 0 (MQ below (va_Qi (fun (r' : Int32) (M2 : Mem) => r' = r ∧ M2 = M') (fun M2 t => va_P z.1 vwCl (pw (yd z b) 32 b M2) t.heap) (pA 32 b)) args s 0 0 (pA 32 b)) (F0 m 78 ls [])) (q102 : ∀ (i1 : Int32) (i2 : Int32) (i3 : Int32) (i4 : Int32) (M : Mem) (H : Heap) (locs : List Loc) (ls : Array Slot), rc 102 [i1, i2, i3, i4] [] M = some (r, M') → va_P z.1 vwCl (pw (yd z b) 32 b M) H → va_S (pA 32 b) s.heap H locs → lv_has ls 5 [(0, .ref (b + 0)), (1, .int i1), (2, .int i2), (3, .int i3), (4, .int i4)] → W p l e rm12_chase s m args below meth c H locs 0 0 (MQ below (va_Qi (fun (r' : Int32) (M2 : Mem) => r' = r ∧ M2 = M') (fun M2 t => va_P z.1 vwCl (pw (yd z b) 32 b M2) t.heap) (pA 32 b)) args s 0 0 (pA 32 b)) (F0 m 102 ls [])) (q183 : ∀ (i1 : Int32) (i2 : Int32) (i3 : Int32) (i4 : Int32) (M : Mem) (H : Heap) (locs : List Loc) (ls : Array Slot), rc 183 [i1, i2, i3, i4] [] M = some (r, M') → va_P z.1 vwCl (pw (yd z b) 32 b M) H → va_S (pA 32 b) s.heap H locs → lv_has ls 5 [(0, .ref (b + 0)), (1, .int i1), (2, .int i2), (3, .int i3), (4, .int i4)] → W p l e rm12_chase s m args below meth c H locs 0 0 (MQ below (va_Qi (fun (r' : Int32) (M2 : Mem) => r' = r ∧ M2 = M') (fun M2 t => va_P z.1 vwCl (pw (yd z b) 32 b M2) t.heap) (pA 32 b)) args s 0 0 (pA 32 b)) (F0 m 183 ls [])) {i1 : Int32} {i2 : Int32} {M : Mem} {H : Heap} {locs : List Loc} {ls : Array Slot} (hf : b12_chase_222  rc n i1 i2 M = some (r, M')) (hP : va_P z.1 vwCl (pw (yd z b) 32 b M) H) (hS : va_S (pA 32 b) s.heap H locs) (hl : lv_has ls 5 [(0, .ref (b + 0)), (1, .int i1), (2, .int i2)]) : W p l e rm12_chase s m args below meth c H locs 0 0 (MQ below (va_Qi (fun (r' : Int32) (M2 : Mem) => r' = r ∧ M2 = M') (fun M2 t => va_P z.1 vwCl (pw (yd z b) 32 b M2) t.heap) (pA 32 b)) args s 0 0 (pA 32 b)) (F0 m 222 ls []) := by
  have hx := C.1.1
  have hb := C.1.2.1
  unfold b12_chase_222 at hf
  refine lv_aload_n hx hb dX12_chase_222 rfl (lv_at hl 0 rfl) ?_
  refine pg C hP (k := 0) (j := 48) (Nat.le_of_ble_eq_true rfl) (yd_0 _ _) rfl iw_12 (Nat.le_of_ble_eq_true rfl) g_1183 rfl rfl dX12_chase_223 ?_
  refine lv_bipush (v := (96 : Int32)) hx hb dX12_chase_226 (by decide) ?_
  refine lv_iload_n hx hb dX12_chase_228 rfl (lv_at hl 1 rfl) ?_
  refine lv_imul hx hb dX12_chase_229 ?_
  refine lv_iload_n hx hb dX12_chase_230 rfl (lv_at hl 2 rfl) ?_
  refine lv_iadd hx hb dX12_chase_231 ?_
  have h50 := chk_1 hf
  replace hf := chk_2 hf
  refine paB C hP (k := 27) (Nat.le_of_ble_eq_true rfl) (yd_27 _ _) h50 dX12_chase_232 ?_
  refine lv_iconst (v := (-1 : Int32)) hx hb dX12_chase_233 (by decide) ?_
  refine lv_icmp_ne (tgt := 242) hx hb dX12_chase_234 (by decide) (fun c51 => ?_) (fun c51 => ?_)
  · replace hf := ite_f c51 hf
    refine lv_aload_n hx hb dX12_chase_242 rfl (lv_at hl 0 rfl) ?_
    refine pg C hP (k := 0) (j := 48) (Nat.le_of_ble_eq_true rfl) (yd_0 _ _) rfl iw_12 (Nat.le_of_ble_eq_true rfl) g_1183 rfl rfl dX12_chase_243 ?_
    refine lv_bipush (v := (96 : Int32)) hx hb dX12_chase_246 (by decide) ?_
    refine lv_iload_n hx hb dX12_chase_248 rfl (lv_at hl 1 rfl) ?_
    refine lv_imul hx hb dX12_chase_249 ?_
    refine lv_iload_n hx hb dX12_chase_250 rfl (lv_at hl 2 rfl) ?_
    refine lv_iadd hx hb dX12_chase_251 ?_
    have h52 := chk_1 hf
    replace hf := chk_2 hf
    refine paB C hP (k := 27) (Nat.le_of_ble_eq_true rfl) (yd_27 _ _) h52 dX12_chase_252 ?_
    exact prI C hr hk hP hS hf dX12_chase_253
  · replace hf := ite_t c51 hf
    refine lv_bipush (v := (-2 : Int32)) hx hb dX12_chase_237 (by decide) ?_
    refine lv_goto (tgt := 253) hx hb dX12_chase_239 (by decide) ?_
    exact prI C hr hk hP hS hf dX12_chase_253
set_option maxHeartbeats 4000000 in
set_option maxRecDepth 100000 in
theorem w12_chase_210 {p : Program} {l : Launch} {e : Env} {s : State} {m : MethodId} {args : Array Value} {below : List Frame} {meth : Method} {c : Code} {z : Zt} {b : Nat}  (C : Cx p s m args c cX12_chase 5 RX12 z 32 b) (hr : meth.sig.returnType = (some .int)) (hk : meth.locks = false) {r : Int32} {M' : Mem} {rc : Nat → List Int32 → List Int64 → Mem → Option (Int32 × Mem)} {n : Nat} (q40 : ∀ (i1 : Int32) (i2 : Int32) (i3 : Int32) (M : Mem) (H : Heap) (locs : List Loc) (ls : Array Slot), rc 40 [i1, i2, i3] [] M = some (r, M') → va_P z.1 vwCl (pw (yd z b) 32 b M) H → va_S (pA 32 b) s.heap H locs → lv_has ls 5 [(0, .ref (b + 0)), (1, .int i1), (2, .int i2), (3, .int i3)] → W p l e rm12_chase s m args below meth c H locs 0 0 (MQ below (va_Qi (fun (r' : Int32) (M2 : Mem) => r' = r ∧ M2 = M') (fun M2 t => va_P z.1 vwCl (pw (yd z b) 32 b M2) t.heap) (pA 32 b)) args s 0 0 (pA 32 b)) (F0 m 40 ls [])) (q78 : ∀ (i1 : Int32) (i2 : Int32) (i3 : Int32) (M : Mem) (H : Heap) (locs : List Loc) (ls : Array Slot), rc 78 [i1, i2, i3] [] M = some (r, M') → va_P z.1 vwCl (pw (yd z b) 32 b M) H → va_S (pA 32 b) s.heap H locs → lv_has ls 5 [(0, .ref (b + 0)), (1, .int i1), (2, .int i2), (3, .int i3)] → W p l e rm12_chase s m args below meth c H locs 0 0 (MQ below (va_Qi (fun (r' : Int32) (M2 : Mem) => r' = r ∧ M2 = M') (fun M2 t => va_P z.1 vwCl (pw (yd z b) 32 b M2) t.heap) (pA 32 b)) args s 0 0 (pA 32 b)) (F0 m 78 ls [])) (q102 : ∀ (i1 : Int32) (i2 : Int32) (i3 : Int32) (i4 : Int32) (M : Mem) (H : Heap) (locs : List Loc) (ls : Array Slot), rc 102 [i1, i2, i3, i4] [] M = some (r, M') → va_P z.1 vwCl (pw (yd z b) 32 b M) H → va_S (pA 32 b) s.heap H locs → lv_has ls 5 [(0, .ref (b + 0)), (1, .int i1), (2, .int i2), (3, .int i3), (4, .int i4)] → W p l e rm12_chase s m args below meth c H locs 0 0 (MQ below (va_Qi (fun (r' : Int32) (M2 : Mem) => r' = r ∧ M2 = M') (fun M2 t => va_P z.1 vwCl (pw (yd z b) 32 b M2) t.heap) (pA 32 b)) args s 0 0 (pA 32 b)) (F0 m 102 ls [])) (q183 : ∀ (i1 : Int32) (i2 : Int32) (i3 : Int32) (i4 : Int32) (M : Mem) (H : Heap) (locs : List Loc) (ls : Array Slot), rc 183 [i1, i2, i3, i4] [] M = some (r, M') → va_P z.1 vwCl (pw (yd z b) 32 b M) H → va_S (pA 32 b) s.heap H locs → lv_has ls 5 [(0, .ref (b + 0)), (1, .int i1), (2, .int i2), (3, .int i3), (4, .int i4)] → W p l e rm12_chase s m args below meth c H locs 0 0 (MQ below (va_Qi (fun (r' : Int32) (M2 : Mem) => r' = r ∧ M2 = M') (fun M2 t => va_P z.1 vwCl (pw (yd z b) 32 b M2) t.heap) (pA 32 b)) args s 0 0 (pA 32 b)) (F0 m 183 ls [])) {i1 : Int32} {i2 : Int32} {i3 : Int32} {i4 : Int32} {M : Mem} {H : Heap} {locs : List Loc} {ls : Array Slot} (hf : b12_chase_210  rc n i1 i2 i3 i4 M = some (r, M')) (hP : va_P z.1 vwCl (pw (yd z b) 32 b M) H) (hS : va_S (pA 32 b) s.heap H locs) (hl : lv_has ls 5 [(0, .ref (b + 0)), (1, .int i1), (2, .int i2), (3, .int i3), (4, .int i4)]) : W p l e rm12_chase s m args below meth c H locs 0 0 (MQ below (va_Qi (fun (r' : Int32) (M2 : Mem) => r' = r ∧ M2 = M') (fun M2 t => va_P z.1 vwCl (pw (yd z b) 32 b M2) t.heap) (pA 32 b)) args s 0 0 (pA 32 b)) (F0 m 210 ls []) := by
  have hx := C.1.1
  have hb := C.1.2.1
  unfold b12_chase_210 at hf
  obtain ⟨v49, ev49⟩ : ∃ v : Int32, v = i4 + (1 : Int32) := ⟨_, rfl⟩
  replace hf := lt_c ev49 hf
  refine lv_iinc (v := v49) (lv' := [(4, .int v49), (0, .ref (b + 0)), (1, .int i1), (2, .int i2), (3, .int i3)]) hx hb dX12_chase_210 hl (k := 4) rfl (by rw [ev49]; rfl) (by decide) rfl (fun ls hl => ?_)
  refine lv_goto (tgt := 183) hx hb dX12_chase_213 (by decide) ?_
  exact q183 i1 i2 i3 v49 M _ _ _ hf hP hS (lv_sub hl [1, 2, 3, 4, 0] rfl)
set_option maxHeartbeats 4000000 in
set_option maxRecDepth 100000 in
theorem w12_chase_183 {p : Program} {l : Launch} {e : Env} {s : State} {m : MethodId} {args : Array Value} {below : List Frame} {meth : Method} {c : Code} {z : Zt} {b : Nat}  (C : Cx p s m args c cX12_chase 5 RX12 z 32 b) (hr : meth.sig.returnType = (some .int)) (hk : meth.locks = false) {r : Int32} {M' : Mem} {rc : Nat → List Int32 → List Int64 → Mem → Option (Int32 × Mem)} {n : Nat} (q40 : ∀ (i1 : Int32) (i2 : Int32) (i3 : Int32) (M : Mem) (H : Heap) (locs : List Loc) (ls : Array Slot), rc 40 [i1, i2, i3] [] M = some (r, M') → va_P z.1 vwCl (pw (yd z b) 32 b M) H → va_S (pA 32 b) s.heap H locs → lv_has ls 5 [(0, .ref (b + 0)), (1, .int i1), (2, .int i2), (3, .int i3)] → W p l e rm12_chase s m args below meth c H locs 0 0 (MQ below (va_Qi (fun (r' : Int32) (M2 : Mem) => r' = r ∧ M2 = M') (fun M2 t => va_P z.1 vwCl (pw (yd z b) 32 b M2) t.heap) (pA 32 b)) args s 0 0 (pA 32 b)) (F0 m 40 ls [])) (q78 : ∀ (i1 : Int32) (i2 : Int32) (i3 : Int32) (M : Mem) (H : Heap) (locs : List Loc) (ls : Array Slot), rc 78 [i1, i2, i3] [] M = some (r, M') → va_P z.1 vwCl (pw (yd z b) 32 b M) H → va_S (pA 32 b) s.heap H locs → lv_has ls 5 [(0, .ref (b + 0)), (1, .int i1), (2, .int i2), (3, .int i3)] → W p l e rm12_chase s m args below meth c H locs 0 0 (MQ below (va_Qi (fun (r' : Int32) (M2 : Mem) => r' = r ∧ M2 = M') (fun M2 t => va_P z.1 vwCl (pw (yd z b) 32 b M2) t.heap) (pA 32 b)) args s 0 0 (pA 32 b)) (F0 m 78 ls [])) (q102 : ∀ (i1 : Int32) (i2 : Int32) (i3 : Int32) (i4 : Int32) (M : Mem) (H : Heap) (locs : List Loc) (ls : Array Slot), rc 102 [i1, i2, i3, i4] [] M = some (r, M') → va_P z.1 vwCl (pw (yd z b) 32 b M) H → va_S (pA 32 b) s.heap H locs → lv_has ls 5 [(0, .ref (b + 0)), (1, .int i1), (2, .int i2), (3, .int i3), (4, .int i4)] → W p l e rm12_chase s m args below meth c H locs 0 0 (MQ below (va_Qi (fun (r' : Int32) (M2 : Mem) => r' = r ∧ M2 = M') (fun M2 t => va_P z.1 vwCl (pw (yd z b) 32 b M2) t.heap) (pA 32 b)) args s 0 0 (pA 32 b)) (F0 m 102 ls [])) (q183 : ∀ (i1 : Int32) (i2 : Int32) (i3 : Int32) (i4 : Int32) (M : Mem) (H : Heap) (locs : List Loc) (ls : Array Slot), rc 183 [i1, i2, i3, i4] [] M = some (r, M') → va_P z.1 vwCl (pw (yd z b) 32 b M) H → va_S (pA 32 b) s.heap H locs → lv_has ls 5 [(0, .ref (b + 0)), (1, .int i1), (2, .int i2), (3, .int i3), (4, .int i4)] → W p l e rm12_chase s m args below meth c H locs 0 0 (MQ below (va_Qi (fun (r' : Int32) (M2 : Mem) => r' = r ∧ M2 = M') (fun M2 t => va_P z.1 vwCl (pw (yd z b) 32 b M2) t.heap) (pA 32 b)) args s 0 0 (pA 32 b)) (F0 m 183 ls [])) {i1 : Int32} {i2 : Int32} {i3 : Int32} {i4 : Int32} {M : Mem} {H : Heap} {locs : List Loc} {ls : Array Slot} (hf : b12_chase_183  rc n i1 i2 i3 i4 M = some (r, M')) (hP : va_P z.1 vwCl (pw (yd z b) 32 b M) H) (hS : va_S (pA 32 b) s.heap H locs) (hl : lv_has ls 5 [(0, .ref (b + 0)), (1, .int i1), (2, .int i2), (3, .int i3), (4, .int i4)]) : W p l e rm12_chase s m args below meth c H locs 0 0 (MQ below (va_Qi (fun (r' : Int32) (M2 : Mem) => r' = r ∧ M2 = M') (fun M2 t => va_P z.1 vwCl (pw (yd z b) 32 b M2) t.heap) (pA 32 b)) args s 0 0 (pA 32 b)) (F0 m 183 ls []) := by
  have hx := C.1.1
  have hb := C.1.2.1
  unfold b12_chase_183 at hf
  refine lv_iload hx hb dX12_chase_183 (lv_at hl 4 rfl) ?_
  refine lv_sipush (v := (9216 : Int32)) hx hb dX12_chase_185 (by decide) ?_
  refine lv_icmp_ge (tgt := 216) hx hb dX12_chase_188 (by decide) (fun c43 => ?_) (fun c43 => ?_)
  · replace hf := ite_t c43 hf
    obtain ⟨v44, ev44⟩ : ∃ v : Int32, v = i3 + (1 : Int32) := ⟨_, rfl⟩
    replace hf := lt_c ev44 hf
    refine lv_iinc (v := v44) (lv' := [(3, .int v44), (0, .ref (b + 0)), (1, .int i1), (2, .int i2), (4, .int i4)]) hx hb dX12_chase_216 hl (k := 3) rfl (by rw [ev44]; rfl) (by decide) rfl (fun ls hl => ?_)
    refine lv_goto (tgt := 78) hx hb dX12_chase_219 (by decide) ?_
    exact q78 i1 i2 v44 M _ _ _ hf hP hS (lv_sub hl [1, 2, 3, 0] rfl)
  · replace hf := ite_f c43 hf
    refine lv_aload_n hx hb dX12_chase_191 rfl (lv_at hl 0 rfl) ?_
    refine pg C hP (k := 0) (j := 49) (Nat.le_of_ble_eq_true rfl) (yd_0 _ _) rfl iw_12 (Nat.le_of_ble_eq_true rfl) g_1184 rfl rfl dX12_chase_192 ?_
    refine lv_iload hx hb dX12_chase_195 (lv_at hl 4 rfl) ?_
    have h45 := chk_1 hf
    replace hf := chk_2 hf
    refine paZ C hP (k := 28) (Nat.le_of_ble_eq_true rfl) (yd_28 _ _) h45 dX12_chase_197 ?_
    refine lv_if_eq (tgt := 210) hx hb dX12_chase_198 (by decide) (fun c46 => ?_) (fun c46 => ?_)
    · replace hf := ite_t c46 hf
      exact w12_chase_210 (n := n)  C hr hk q40 q78 q102 q183 hf hP hS (lv_sub hl [0, 1, 2, 3, 4] rfl)
    · replace hf := ite_f c46 hf
      refine lv_aload_n hx hb dX12_chase_201 rfl (lv_at hl 0 rfl) ?_
      refine pg C hP (k := 0) (j := 48) (Nat.le_of_ble_eq_true rfl) (yd_0 _ _) rfl iw_12 (Nat.le_of_ble_eq_true rfl) g_1183 rfl rfl dX12_chase_202 ?_
      refine lv_iload hx hb dX12_chase_205 (lv_at hl 4 rfl) ?_
      refine lv_iload_n hx hb dX12_chase_207 rfl (lv_at hl 3 rfl) ?_
      refine lv_i2b hx hb dX12_chase_208 rfl ?_
      have h47 := chk_1 hf
      replace hf := chk_2 hf
      refine psB C hP hS (k := 27) (Nat.le_of_ble_eq_true rfl) (yd_27) h47 dX12_chase_209 (fun M48 H locs eM48 hP hS => ?_)
      replace hf := lt_c eM48 hf
      exact w12_chase_210 (n := n)  C hr hk q40 q78 q102 q183 hf hP hS (lv_sub hl [0, 1, 2, 3, 4] rfl)
set_option maxHeartbeats 4000000 in
set_option maxRecDepth 100000 in
theorem w12_chase_173 {p : Program} {l : Launch} {e : Env} {s : State} {m : MethodId} {args : Array Value} {below : List Frame} {meth : Method} {c : Code} {z : Zt} {b : Nat}  (C : Cx p s m args c cX12_chase 5 RX12 z 32 b) (hr : meth.sig.returnType = (some .int)) (hk : meth.locks = false) {r : Int32} {M' : Mem} {rc : Nat → List Int32 → List Int64 → Mem → Option (Int32 × Mem)} {n : Nat} (q40 : ∀ (i1 : Int32) (i2 : Int32) (i3 : Int32) (M : Mem) (H : Heap) (locs : List Loc) (ls : Array Slot), rc 40 [i1, i2, i3] [] M = some (r, M') → va_P z.1 vwCl (pw (yd z b) 32 b M) H → va_S (pA 32 b) s.heap H locs → lv_has ls 5 [(0, .ref (b + 0)), (1, .int i1), (2, .int i2), (3, .int i3)] → W p l e rm12_chase s m args below meth c H locs 0 0 (MQ below (va_Qi (fun (r' : Int32) (M2 : Mem) => r' = r ∧ M2 = M') (fun M2 t => va_P z.1 vwCl (pw (yd z b) 32 b M2) t.heap) (pA 32 b)) args s 0 0 (pA 32 b)) (F0 m 40 ls [])) (q78 : ∀ (i1 : Int32) (i2 : Int32) (i3 : Int32) (M : Mem) (H : Heap) (locs : List Loc) (ls : Array Slot), rc 78 [i1, i2, i3] [] M = some (r, M') → va_P z.1 vwCl (pw (yd z b) 32 b M) H → va_S (pA 32 b) s.heap H locs → lv_has ls 5 [(0, .ref (b + 0)), (1, .int i1), (2, .int i2), (3, .int i3)] → W p l e rm12_chase s m args below meth c H locs 0 0 (MQ below (va_Qi (fun (r' : Int32) (M2 : Mem) => r' = r ∧ M2 = M') (fun M2 t => va_P z.1 vwCl (pw (yd z b) 32 b M2) t.heap) (pA 32 b)) args s 0 0 (pA 32 b)) (F0 m 78 ls [])) (q102 : ∀ (i1 : Int32) (i2 : Int32) (i3 : Int32) (i4 : Int32) (M : Mem) (H : Heap) (locs : List Loc) (ls : Array Slot), rc 102 [i1, i2, i3, i4] [] M = some (r, M') → va_P z.1 vwCl (pw (yd z b) 32 b M) H → va_S (pA 32 b) s.heap H locs → lv_has ls 5 [(0, .ref (b + 0)), (1, .int i1), (2, .int i2), (3, .int i3), (4, .int i4)] → W p l e rm12_chase s m args below meth c H locs 0 0 (MQ below (va_Qi (fun (r' : Int32) (M2 : Mem) => r' = r ∧ M2 = M') (fun M2 t => va_P z.1 vwCl (pw (yd z b) 32 b M2) t.heap) (pA 32 b)) args s 0 0 (pA 32 b)) (F0 m 102 ls [])) (q183 : ∀ (i1 : Int32) (i2 : Int32) (i3 : Int32) (i4 : Int32) (M : Mem) (H : Heap) (locs : List Loc) (ls : Array Slot), rc 183 [i1, i2, i3, i4] [] M = some (r, M') → va_P z.1 vwCl (pw (yd z b) 32 b M) H → va_S (pA 32 b) s.heap H locs → lv_has ls 5 [(0, .ref (b + 0)), (1, .int i1), (2, .int i2), (3, .int i3), (4, .int i4)] → W p l e rm12_chase s m args below meth c H locs 0 0 (MQ below (va_Qi (fun (r' : Int32) (M2 : Mem) => r' = r ∧ M2 = M') (fun M2 t => va_P z.1 vwCl (pw (yd z b) 32 b M2) t.heap) (pA 32 b)) args s 0 0 (pA 32 b)) (F0 m 183 ls [])) {i1 : Int32} {i2 : Int32} {i3 : Int32} {i4 : Int32} {s1 : Int32} {s2 : Int32} {M : Mem} {H : Heap} {locs : List Loc} {ls : Array Slot} (hf : b12_chase_173  rc n i1 i2 i3 i4 s1 s2 M = some (r, M')) (hP : va_P z.1 vwCl (pw (yd z b) 32 b M) H) (hS : va_S (pA 32 b) s.heap H locs) (hl : lv_has ls 5 [(0, .ref (b + 0)), (1, .int i1), (2, .int i2), (3, .int i3), (4, .int i4)]) : W p l e rm12_chase s m args below meth c H locs 0 0 (MQ below (va_Qi (fun (r' : Int32) (M2 : Mem) => r' = r ∧ M2 = M') (fun M2 t => va_P z.1 vwCl (pw (yd z b) 32 b M2) t.heap) (pA 32 b)) args s 0 0 (pA 32 b)) (F0 m 173 ls [.int s2, .int s1, .ref (b + 28)]) := by
  have hx := C.1.1
  have hb := C.1.2.1
  unfold b12_chase_173 at hf
  have h40 := chk_1 hf
  replace hf := chk_2 hf
  refine psZ C hP hS (k := 28) (Nat.le_of_ble_eq_true rfl) (yd_28) h40 dX12_chase_173 (fun M41 H locs eM41 hP hS => ?_)
  replace hf := lt_c eM41 hf
  obtain ⟨v42, ev42⟩ : ∃ v : Int32, v = i4 + (1 : Int32) := ⟨_, rfl⟩
  replace hf := lt_c ev42 hf
  refine lv_iinc (v := v42) (lv' := [(4, .int v42), (0, .ref (b + 0)), (1, .int i1), (2, .int i2), (3, .int i3)]) hx hb dX12_chase_174 hl (k := 4) rfl (by rw [ev42]; rfl) (by decide) rfl (fun ls hl => ?_)
  refine lv_goto (tgt := 102) hx hb dX12_chase_177 (by decide) ?_
  exact q102 i1 i2 i3 v42 M41 _ _ _ hf hP hS (lv_sub hl [1, 2, 3, 4, 0] rfl)
set_option maxHeartbeats 4000000 in
set_option maxRecDepth 100000 in
theorem w12_chase_172 {p : Program} {l : Launch} {e : Env} {s : State} {m : MethodId} {args : Array Value} {below : List Frame} {meth : Method} {c : Code} {z : Zt} {b : Nat}  (C : Cx p s m args c cX12_chase 5 RX12 z 32 b) (hr : meth.sig.returnType = (some .int)) (hk : meth.locks = false) {r : Int32} {M' : Mem} {rc : Nat → List Int32 → List Int64 → Mem → Option (Int32 × Mem)} {n : Nat} (q40 : ∀ (i1 : Int32) (i2 : Int32) (i3 : Int32) (M : Mem) (H : Heap) (locs : List Loc) (ls : Array Slot), rc 40 [i1, i2, i3] [] M = some (r, M') → va_P z.1 vwCl (pw (yd z b) 32 b M) H → va_S (pA 32 b) s.heap H locs → lv_has ls 5 [(0, .ref (b + 0)), (1, .int i1), (2, .int i2), (3, .int i3)] → W p l e rm12_chase s m args below meth c H locs 0 0 (MQ below (va_Qi (fun (r' : Int32) (M2 : Mem) => r' = r ∧ M2 = M') (fun M2 t => va_P z.1 vwCl (pw (yd z b) 32 b M2) t.heap) (pA 32 b)) args s 0 0 (pA 32 b)) (F0 m 40 ls [])) (q78 : ∀ (i1 : Int32) (i2 : Int32) (i3 : Int32) (M : Mem) (H : Heap) (locs : List Loc) (ls : Array Slot), rc 78 [i1, i2, i3] [] M = some (r, M') → va_P z.1 vwCl (pw (yd z b) 32 b M) H → va_S (pA 32 b) s.heap H locs → lv_has ls 5 [(0, .ref (b + 0)), (1, .int i1), (2, .int i2), (3, .int i3)] → W p l e rm12_chase s m args below meth c H locs 0 0 (MQ below (va_Qi (fun (r' : Int32) (M2 : Mem) => r' = r ∧ M2 = M') (fun M2 t => va_P z.1 vwCl (pw (yd z b) 32 b M2) t.heap) (pA 32 b)) args s 0 0 (pA 32 b)) (F0 m 78 ls [])) (q102 : ∀ (i1 : Int32) (i2 : Int32) (i3 : Int32) (i4 : Int32) (M : Mem) (H : Heap) (locs : List Loc) (ls : Array Slot), rc 102 [i1, i2, i3, i4] [] M = some (r, M') → va_P z.1 vwCl (pw (yd z b) 32 b M) H → va_S (pA 32 b) s.heap H locs → lv_has ls 5 [(0, .ref (b + 0)), (1, .int i1), (2, .int i2), (3, .int i3), (4, .int i4)] → W p l e rm12_chase s m args below meth c H locs 0 0 (MQ below (va_Qi (fun (r' : Int32) (M2 : Mem) => r' = r ∧ M2 = M') (fun M2 t => va_P z.1 vwCl (pw (yd z b) 32 b M2) t.heap) (pA 32 b)) args s 0 0 (pA 32 b)) (F0 m 102 ls [])) (q183 : ∀ (i1 : Int32) (i2 : Int32) (i3 : Int32) (i4 : Int32) (M : Mem) (H : Heap) (locs : List Loc) (ls : Array Slot), rc 183 [i1, i2, i3, i4] [] M = some (r, M') → va_P z.1 vwCl (pw (yd z b) 32 b M) H → va_S (pA 32 b) s.heap H locs → lv_has ls 5 [(0, .ref (b + 0)), (1, .int i1), (2, .int i2), (3, .int i3), (4, .int i4)] → W p l e rm12_chase s m args below meth c H locs 0 0 (MQ below (va_Qi (fun (r' : Int32) (M2 : Mem) => r' = r ∧ M2 = M') (fun M2 t => va_P z.1 vwCl (pw (yd z b) 32 b M2) t.heap) (pA 32 b)) args s 0 0 (pA 32 b)) (F0 m 183 ls [])) {i1 : Int32} {i2 : Int32} {i3 : Int32} {i4 : Int32} {s1 : Int32} {M : Mem} {H : Heap} {locs : List Loc} {ls : Array Slot} (hf : b12_chase_172  rc n i1 i2 i3 i4 s1 M = some (r, M')) (hP : va_P z.1 vwCl (pw (yd z b) 32 b M) H) (hS : va_S (pA 32 b) s.heap H locs) (hl : lv_has ls 5 [(0, .ref (b + 0)), (1, .int i1), (2, .int i2), (3, .int i3), (4, .int i4)]) : W p l e rm12_chase s m args below meth c H locs 0 0 (MQ below (va_Qi (fun (r' : Int32) (M2 : Mem) => r' = r ∧ M2 = M') (fun M2 t => va_P z.1 vwCl (pw (yd z b) 32 b M2) t.heap) (pA 32 b)) args s 0 0 (pA 32 b)) (F0 m 172 ls [.int s1, .ref (b + 28)]) := by
  have hx := C.1.1
  have hb := C.1.2.1
  unfold b12_chase_172 at hf
  refine lv_iconst (v := (0 : Int32)) hx hb dX12_chase_172 (by decide) ?_
  exact w12_chase_173 (n := n)  C hr hk q40 q78 q102 q183 hf hP hS (lv_sub hl [0, 1, 2, 3, 4] rfl)
set_option maxHeartbeats 4000000 in
set_option maxRecDepth 100000 in
theorem w12_chase_102 {p : Program} {l : Launch} {e : Env} {s : State} {m : MethodId} {args : Array Value} {below : List Frame} {meth : Method} {c : Code} {z : Zt} {b : Nat}  (C : Cx p s m args c cX12_chase 5 RX12 z 32 b) (hr : meth.sig.returnType = (some .int)) (hk : meth.locks = false) {r : Int32} {M' : Mem} {rc : Nat → List Int32 → List Int64 → Mem → Option (Int32 × Mem)} {n : Nat} (q40 : ∀ (i1 : Int32) (i2 : Int32) (i3 : Int32) (M : Mem) (H : Heap) (locs : List Loc) (ls : Array Slot), rc 40 [i1, i2, i3] [] M = some (r, M') → va_P z.1 vwCl (pw (yd z b) 32 b M) H → va_S (pA 32 b) s.heap H locs → lv_has ls 5 [(0, .ref (b + 0)), (1, .int i1), (2, .int i2), (3, .int i3)] → W p l e rm12_chase s m args below meth c H locs 0 0 (MQ below (va_Qi (fun (r' : Int32) (M2 : Mem) => r' = r ∧ M2 = M') (fun M2 t => va_P z.1 vwCl (pw (yd z b) 32 b M2) t.heap) (pA 32 b)) args s 0 0 (pA 32 b)) (F0 m 40 ls [])) (q78 : ∀ (i1 : Int32) (i2 : Int32) (i3 : Int32) (M : Mem) (H : Heap) (locs : List Loc) (ls : Array Slot), rc 78 [i1, i2, i3] [] M = some (r, M') → va_P z.1 vwCl (pw (yd z b) 32 b M) H → va_S (pA 32 b) s.heap H locs → lv_has ls 5 [(0, .ref (b + 0)), (1, .int i1), (2, .int i2), (3, .int i3)] → W p l e rm12_chase s m args below meth c H locs 0 0 (MQ below (va_Qi (fun (r' : Int32) (M2 : Mem) => r' = r ∧ M2 = M') (fun M2 t => va_P z.1 vwCl (pw (yd z b) 32 b M2) t.heap) (pA 32 b)) args s 0 0 (pA 32 b)) (F0 m 78 ls [])) (q102 : ∀ (i1 : Int32) (i2 : Int32) (i3 : Int32) (i4 : Int32) (M : Mem) (H : Heap) (locs : List Loc) (ls : Array Slot), rc 102 [i1, i2, i3, i4] [] M = some (r, M') → va_P z.1 vwCl (pw (yd z b) 32 b M) H → va_S (pA 32 b) s.heap H locs → lv_has ls 5 [(0, .ref (b + 0)), (1, .int i1), (2, .int i2), (3, .int i3), (4, .int i4)] → W p l e rm12_chase s m args below meth c H locs 0 0 (MQ below (va_Qi (fun (r' : Int32) (M2 : Mem) => r' = r ∧ M2 = M') (fun M2 t => va_P z.1 vwCl (pw (yd z b) 32 b M2) t.heap) (pA 32 b)) args s 0 0 (pA 32 b)) (F0 m 102 ls [])) (q183 : ∀ (i1 : Int32) (i2 : Int32) (i3 : Int32) (i4 : Int32) (M : Mem) (H : Heap) (locs : List Loc) (ls : Array Slot), rc 183 [i1, i2, i3, i4] [] M = some (r, M') → va_P z.1 vwCl (pw (yd z b) 32 b M) H → va_S (pA 32 b) s.heap H locs → lv_has ls 5 [(0, .ref (b + 0)), (1, .int i1), (2, .int i2), (3, .int i3), (4, .int i4)] → W p l e rm12_chase s m args below meth c H locs 0 0 (MQ below (va_Qi (fun (r' : Int32) (M2 : Mem) => r' = r ∧ M2 = M') (fun M2 t => va_P z.1 vwCl (pw (yd z b) 32 b M2) t.heap) (pA 32 b)) args s 0 0 (pA 32 b)) (F0 m 183 ls [])) {i1 : Int32} {i2 : Int32} {i3 : Int32} {i4 : Int32} {M : Mem} {H : Heap} {locs : List Loc} {ls : Array Slot} (hf : b12_chase_102  rc n i1 i2 i3 i4 M = some (r, M')) (hP : va_P z.1 vwCl (pw (yd z b) 32 b M) H) (hS : va_S (pA 32 b) s.heap H locs) (hl : lv_has ls 5 [(0, .ref (b + 0)), (1, .int i1), (2, .int i2), (3, .int i3), (4, .int i4)]) : W p l e rm12_chase s m args below meth c H locs 0 0 (MQ below (va_Qi (fun (r' : Int32) (M2 : Mem) => r' = r ∧ M2 = M') (fun M2 t => va_P z.1 vwCl (pw (yd z b) 32 b M2) t.heap) (pA 32 b)) args s 0 0 (pA 32 b)) (F0 m 102 ls []) := by
  have hx := C.1.1
  have hb := C.1.2.1
  unfold b12_chase_102 at hf
  refine lv_iload hx hb dX12_chase_102 (lv_at hl 4 rfl) ?_
  refine lv_sipush (v := (9216 : Int32)) hx hb dX12_chase_104 (by decide) ?_
  refine lv_icmp_ge (tgt := 180) hx hb dX12_chase_107 (by decide) (fun c25 => ?_) (fun c25 => ?_)
  · replace hf := ite_t c25 hf
    refine lv_iconst (v := (0 : Int32)) hx hb dX12_chase_180 (by decide) ?_
    refine lv_istore (lv' := [(4, .int (0 : Int32)), (0, .ref (b + 0)), (1, .int i1), (2, .int i2), (3, .int i3)]) hx hb dX12_chase_181 hl (by decide) rfl (fun ls hl => ?_)
    exact w12_chase_183 (n := n)  C hr hk q40 q78 q102 q183 hf hP hS (lv_sub hl [1, 2, 3, 4, 0] rfl)
  · replace hf := ite_f c25 hf
    refine lv_aload_n hx hb dX12_chase_110 rfl (lv_at hl 0 rfl) ?_
    refine pg C hP (k := 0) (j := 49) (Nat.le_of_ble_eq_true rfl) (yd_0 _ _) rfl iw_12 (Nat.le_of_ble_eq_true rfl) g_1184 rfl rfl dX12_chase_111 ?_
    refine lv_iload hx hb dX12_chase_114 (lv_at hl 4 rfl) ?_
    refine lv_aload_n hx hb dX12_chase_116 rfl (lv_at hl 0 rfl) ?_
    refine pg C hP (k := 0) (j := 48) (Nat.le_of_ble_eq_true rfl) (yd_0 _ _) rfl iw_12 (Nat.le_of_ble_eq_true rfl) g_1183 rfl rfl dX12_chase_117 ?_
    refine lv_iload hx hb dX12_chase_120 (lv_at hl 4 rfl) ?_
    have h26 := chk_1 hf
    replace hf := chk_2 hf
    refine paB C hP (k := 27) (Nat.le_of_ble_eq_true rfl) (yd_27 _ _) h26 dX12_chase_122 ?_
    refine lv_iconst (v := (-1 : Int32)) hx hb dX12_chase_123 (by decide) ?_
    refine lv_icmp_ne (tgt := 172) hx hb dX12_chase_124 (by decide) (fun c27 => ?_) (fun c27 => ?_)
    · replace hf := ite_f c27 hf
      exact w12_chase_172 (n := n)  C hr hk q40 q78 q102 q183 hf hP hS (lv_sub hl [0, 1, 2, 3, 4] rfl)
    · replace hf := ite_t c27 hf
      refine lv_aload_n hx hb dX12_chase_127 rfl (lv_at hl 0 rfl) ?_
      refine lv_iload hx hb dX12_chase_128 (lv_at hl 4 rfl) ?_
      refine lv_bipush (v := (96 : Int32)) hx hb dX12_chase_130 (by decide) ?_
      refine lv_idiv hx hb dX12_chase_132 (by decide) ?_
      obtain ⟨r28, M29, h30, hf⟩ := bnd_s hf
      refine pcVi (As := [.int (i4 / (96 : Int32))]) C hP hS (k := 0) (Nat.le_of_ble_eq_true rfl) (yd_0 _ _) rfl (c12_isOpen  h30) y12_isOpen_w g_1483 rfl rfl rfl ⟨Nat.le_of_ble_eq_true rfl, Nat.le_of_ble_eq_true rfl⟩ hl.1 rfl (Nat.le_of_ble_eq_true rfl) dX12_chase_133 ⟨Nat.le_of_ble_eq_true rfl, Nat.le_of_ble_eq_true rfl⟩ (fun H locs hP hS => ?_)
      refine lv_if_eq (tgt := 172) hx hb dX12_chase_136 (by decide) (fun c31 => ?_) (fun c31 => ?_)
      · replace hf := ite_t c31 hf
        exact w12_chase_172 (n := n)  C hr hk q40 q78 q102 q183 hf hP hS (lv_sub hl [0, 1, 2, 3, 4] rfl)
      · replace hf := ite_f c31 hf
        refine lv_aload_n hx hb dX12_chase_139 rfl (lv_at hl 0 rfl) ?_
        refine lv_iload hx hb dX12_chase_140 (lv_at hl 4 rfl) ?_
        refine lv_bipush (v := (96 : Int32)) hx hb dX12_chase_142 (by decide) ?_
        refine lv_irem hx hb dX12_chase_144 (by decide) ?_
        obtain ⟨r32, M33, h34, hf⟩ := bnd_s hf
        refine pcVi (As := [.int (i4 - i4 / (96 : Int32) * (96 : Int32))]) C hP hS (k := 0) (Nat.le_of_ble_eq_true rfl) (yd_0 _ _) rfl (c12_isOpen  h34) y12_isOpen_w g_1483 rfl rfl rfl ⟨Nat.le_of_ble_eq_true rfl, Nat.le_of_ble_eq_true rfl⟩ hl.1 rfl (Nat.le_of_ble_eq_true rfl) dX12_chase_145 ⟨Nat.le_of_ble_eq_true rfl, Nat.le_of_ble_eq_true rfl⟩ (fun H locs hP hS => ?_)
        refine lv_if_eq (tgt := 172) hx hb dX12_chase_148 (by decide) (fun c35 => ?_) (fun c35 => ?_)
        · replace hf := ite_t c35 hf
          exact w12_chase_172 (n := n)  C hr hk q40 q78 q102 q183 hf hP hS (lv_sub hl [0, 1, 2, 3, 4] rfl)
        · replace hf := ite_f c35 hf
          refine lv_aload_n hx hb dX12_chase_151 rfl (lv_at hl 0 rfl) ?_
          refine lv_iload hx hb dX12_chase_152 (lv_at hl 4 rfl) ?_
          refine lv_bipush (v := (96 : Int32)) hx hb dX12_chase_154 (by decide) ?_
          refine lv_idiv hx hb dX12_chase_156 (by decide) ?_
          refine lv_iload hx hb dX12_chase_157 (lv_at hl 4 rfl) ?_
          refine lv_bipush (v := (96 : Int32)) hx hb dX12_chase_159 (by decide) ?_
          refine lv_irem hx hb dX12_chase_161 (by decide) ?_
          obtain ⟨r36, M37, h38, hf⟩ := bnd_s hf
          refine pcVi (As := [.int (i4 / (96 : Int32)), .int (i4 - i4 / (96 : Int32) * (96 : Int32))]) C hP hS (k := 0) (Nat.le_of_ble_eq_true rfl) (yd_0 _ _) rfl (c12_winsBy  h38) y12_winsBy_w g_1617 rfl rfl rfl ⟨Nat.le_of_ble_eq_true rfl, Nat.le_of_ble_eq_true rfl⟩ hl.1 rfl (Nat.le_of_ble_eq_true rfl) dX12_chase_162 ⟨Nat.le_of_ble_eq_true rfl, Nat.le_of_ble_eq_true rfl⟩ (fun H locs hP hS => ?_)
          refine lv_if_eq (tgt := 172) hx hb dX12_chase_165 (by decide) (fun c39 => ?_) (fun c39 => ?_)
          · replace hf := ite_t c39 hf
            exact w12_chase_172 (n := n)  C hr hk q40 q78 q102 q183 hf hP hS (lv_sub hl [0, 1, 2, 3, 4] rfl)
          · replace hf := ite_f c39 hf
            refine lv_iconst (v := (1 : Int32)) hx hb dX12_chase_168 (by decide) ?_
            refine lv_goto (tgt := 173) hx hb dX12_chase_169 (by decide) ?_
            exact w12_chase_173 (n := n)  C hr hk q40 q78 q102 q183 hf hP hS (lv_sub hl [0, 1, 2, 3, 4] rfl)
set_option maxHeartbeats 4000000 in
set_option maxRecDepth 100000 in
theorem w12_chase_78 {p : Program} {l : Launch} {e : Env} {s : State} {m : MethodId} {args : Array Value} {below : List Frame} {meth : Method} {c : Code} {z : Zt} {b : Nat}  (C : Cx p s m args c cX12_chase 5 RX12 z 32 b) (hr : meth.sig.returnType = (some .int)) (hk : meth.locks = false) {r : Int32} {M' : Mem} {rc : Nat → List Int32 → List Int64 → Mem → Option (Int32 × Mem)} {n : Nat} (q40 : ∀ (i1 : Int32) (i2 : Int32) (i3 : Int32) (M : Mem) (H : Heap) (locs : List Loc) (ls : Array Slot), rc 40 [i1, i2, i3] [] M = some (r, M') → va_P z.1 vwCl (pw (yd z b) 32 b M) H → va_S (pA 32 b) s.heap H locs → lv_has ls 5 [(0, .ref (b + 0)), (1, .int i1), (2, .int i2), (3, .int i3)] → W p l e rm12_chase s m args below meth c H locs 0 0 (MQ below (va_Qi (fun (r' : Int32) (M2 : Mem) => r' = r ∧ M2 = M') (fun M2 t => va_P z.1 vwCl (pw (yd z b) 32 b M2) t.heap) (pA 32 b)) args s 0 0 (pA 32 b)) (F0 m 40 ls [])) (q78 : ∀ (i1 : Int32) (i2 : Int32) (i3 : Int32) (M : Mem) (H : Heap) (locs : List Loc) (ls : Array Slot), rc 78 [i1, i2, i3] [] M = some (r, M') → va_P z.1 vwCl (pw (yd z b) 32 b M) H → va_S (pA 32 b) s.heap H locs → lv_has ls 5 [(0, .ref (b + 0)), (1, .int i1), (2, .int i2), (3, .int i3)] → W p l e rm12_chase s m args below meth c H locs 0 0 (MQ below (va_Qi (fun (r' : Int32) (M2 : Mem) => r' = r ∧ M2 = M') (fun M2 t => va_P z.1 vwCl (pw (yd z b) 32 b M2) t.heap) (pA 32 b)) args s 0 0 (pA 32 b)) (F0 m 78 ls [])) (q102 : ∀ (i1 : Int32) (i2 : Int32) (i3 : Int32) (i4 : Int32) (M : Mem) (H : Heap) (locs : List Loc) (ls : Array Slot), rc 102 [i1, i2, i3, i4] [] M = some (r, M') → va_P z.1 vwCl (pw (yd z b) 32 b M) H → va_S (pA 32 b) s.heap H locs → lv_has ls 5 [(0, .ref (b + 0)), (1, .int i1), (2, .int i2), (3, .int i3), (4, .int i4)] → W p l e rm12_chase s m args below meth c H locs 0 0 (MQ below (va_Qi (fun (r' : Int32) (M2 : Mem) => r' = r ∧ M2 = M') (fun M2 t => va_P z.1 vwCl (pw (yd z b) 32 b M2) t.heap) (pA 32 b)) args s 0 0 (pA 32 b)) (F0 m 102 ls [])) (q183 : ∀ (i1 : Int32) (i2 : Int32) (i3 : Int32) (i4 : Int32) (M : Mem) (H : Heap) (locs : List Loc) (ls : Array Slot), rc 183 [i1, i2, i3, i4] [] M = some (r, M') → va_P z.1 vwCl (pw (yd z b) 32 b M) H → va_S (pA 32 b) s.heap H locs → lv_has ls 5 [(0, .ref (b + 0)), (1, .int i1), (2, .int i2), (3, .int i3), (4, .int i4)] → W p l e rm12_chase s m args below meth c H locs 0 0 (MQ below (va_Qi (fun (r' : Int32) (M2 : Mem) => r' = r ∧ M2 = M') (fun M2 t => va_P z.1 vwCl (pw (yd z b) 32 b M2) t.heap) (pA 32 b)) args s 0 0 (pA 32 b)) (F0 m 183 ls [])) {i1 : Int32} {i2 : Int32} {i3 : Int32} {M : Mem} {H : Heap} {locs : List Loc} {ls : Array Slot} (hf : b12_chase_78  rc n i1 i2 i3 M = some (r, M')) (hP : va_P z.1 vwCl (pw (yd z b) 32 b M) H) (hS : va_S (pA 32 b) s.heap H locs) (hl : lv_has ls 5 [(0, .ref (b + 0)), (1, .int i1), (2, .int i2), (3, .int i3)]) : W p l e rm12_chase s m args below meth c H locs 0 0 (MQ below (va_Qi (fun (r' : Int32) (M2 : Mem) => r' = r ∧ M2 = M') (fun M2 t => va_P z.1 vwCl (pw (yd z b) 32 b M2) t.heap) (pA 32 b)) args s 0 0 (pA 32 b)) (F0 m 78 ls []) := by
  have hx := C.1.1
  have hb := C.1.2.1
  unfold b12_chase_78 at hf
  refine lv_iload_n hx hb dX12_chase_78 rfl (lv_at hl 3 rfl) ?_
  refine lv_bipush (v := (60 : Int32)) hx hb dX12_chase_79 (by decide) ?_
  refine lv_icmp_gt (tgt := 222) hx hb dX12_chase_81 (by decide) (fun c22 => ?_) (fun c22 => ?_)
  · replace hf := ite_t c22 hf
    exact w12_chase_222 (n := n)  C hr hk q40 q78 q102 q183 hf hP hS (lv_sub hl [0, 1, 2] rfl)
  · replace hf := ite_f c22 hf
    refine lv_aload_n hx hb dX12_chase_84 rfl (lv_at hl 0 rfl) ?_
    refine pg C hP (k := 0) (j := 48) (Nat.le_of_ble_eq_true rfl) (yd_0 _ _) rfl iw_12 (Nat.le_of_ble_eq_true rfl) g_1183 rfl rfl dX12_chase_85 ?_
    refine lv_bipush (v := (96 : Int32)) hx hb dX12_chase_88 (by decide) ?_
    refine lv_iload_n hx hb dX12_chase_90 rfl (lv_at hl 1 rfl) ?_
    refine lv_imul hx hb dX12_chase_91 ?_
    refine lv_iload_n hx hb dX12_chase_92 rfl (lv_at hl 2 rfl) ?_
    refine lv_iadd hx hb dX12_chase_93 ?_
    have h23 := chk_1 hf
    replace hf := chk_2 hf
    refine paB C hP (k := 27) (Nat.le_of_ble_eq_true rfl) (yd_27 _ _) h23 dX12_chase_94 ?_
    refine lv_iconst (v := (-1 : Int32)) hx hb dX12_chase_95 (by decide) ?_
    refine lv_icmp_ne (tgt := 222) hx hb dX12_chase_96 (by decide) (fun c24 => ?_) (fun c24 => ?_)
    · replace hf := ite_f c24 hf
      exact w12_chase_222 (n := n)  C hr hk q40 q78 q102 q183 hf hP hS (lv_sub hl [0, 1, 2] rfl)
    · replace hf := ite_t c24 hf
      refine lv_iconst (v := (0 : Int32)) hx hb dX12_chase_99 (by decide) ?_
      refine lv_istore (lv' := [(4, .int (0 : Int32)), (0, .ref (b + 0)), (1, .int i1), (2, .int i2), (3, .int i3)]) hx hb dX12_chase_100 hl (by decide) rfl (fun ls hl => ?_)
      exact w12_chase_102 (n := n)  C hr hk q40 q78 q102 q183 hf hP hS (lv_sub hl [1, 2, 3, 4, 0] rfl)
set_option maxHeartbeats 4000000 in
set_option maxRecDepth 100000 in
theorem w12_chase_68 {p : Program} {l : Launch} {e : Env} {s : State} {m : MethodId} {args : Array Value} {below : List Frame} {meth : Method} {c : Code} {z : Zt} {b : Nat}  (C : Cx p s m args c cX12_chase 5 RX12 z 32 b) (hr : meth.sig.returnType = (some .int)) (hk : meth.locks = false) {r : Int32} {M' : Mem} {rc : Nat → List Int32 → List Int64 → Mem → Option (Int32 × Mem)} {n : Nat} (q40 : ∀ (i1 : Int32) (i2 : Int32) (i3 : Int32) (M : Mem) (H : Heap) (locs : List Loc) (ls : Array Slot), rc 40 [i1, i2, i3] [] M = some (r, M') → va_P z.1 vwCl (pw (yd z b) 32 b M) H → va_S (pA 32 b) s.heap H locs → lv_has ls 5 [(0, .ref (b + 0)), (1, .int i1), (2, .int i2), (3, .int i3)] → W p l e rm12_chase s m args below meth c H locs 0 0 (MQ below (va_Qi (fun (r' : Int32) (M2 : Mem) => r' = r ∧ M2 = M') (fun M2 t => va_P z.1 vwCl (pw (yd z b) 32 b M2) t.heap) (pA 32 b)) args s 0 0 (pA 32 b)) (F0 m 40 ls [])) (q78 : ∀ (i1 : Int32) (i2 : Int32) (i3 : Int32) (M : Mem) (H : Heap) (locs : List Loc) (ls : Array Slot), rc 78 [i1, i2, i3] [] M = some (r, M') → va_P z.1 vwCl (pw (yd z b) 32 b M) H → va_S (pA 32 b) s.heap H locs → lv_has ls 5 [(0, .ref (b + 0)), (1, .int i1), (2, .int i2), (3, .int i3)] → W p l e rm12_chase s m args below meth c H locs 0 0 (MQ below (va_Qi (fun (r' : Int32) (M2 : Mem) => r' = r ∧ M2 = M') (fun M2 t => va_P z.1 vwCl (pw (yd z b) 32 b M2) t.heap) (pA 32 b)) args s 0 0 (pA 32 b)) (F0 m 78 ls [])) (q102 : ∀ (i1 : Int32) (i2 : Int32) (i3 : Int32) (i4 : Int32) (M : Mem) (H : Heap) (locs : List Loc) (ls : Array Slot), rc 102 [i1, i2, i3, i4] [] M = some (r, M') → va_P z.1 vwCl (pw (yd z b) 32 b M) H → va_S (pA 32 b) s.heap H locs → lv_has ls 5 [(0, .ref (b + 0)), (1, .int i1), (2, .int i2), (3, .int i3), (4, .int i4)] → W p l e rm12_chase s m args below meth c H locs 0 0 (MQ below (va_Qi (fun (r' : Int32) (M2 : Mem) => r' = r ∧ M2 = M') (fun M2 t => va_P z.1 vwCl (pw (yd z b) 32 b M2) t.heap) (pA 32 b)) args s 0 0 (pA 32 b)) (F0 m 102 ls [])) (q183 : ∀ (i1 : Int32) (i2 : Int32) (i3 : Int32) (i4 : Int32) (M : Mem) (H : Heap) (locs : List Loc) (ls : Array Slot), rc 183 [i1, i2, i3, i4] [] M = some (r, M') → va_P z.1 vwCl (pw (yd z b) 32 b M) H → va_S (pA 32 b) s.heap H locs → lv_has ls 5 [(0, .ref (b + 0)), (1, .int i1), (2, .int i2), (3, .int i3), (4, .int i4)] → W p l e rm12_chase s m args below meth c H locs 0 0 (MQ below (va_Qi (fun (r' : Int32) (M2 : Mem) => r' = r ∧ M2 = M') (fun M2 t => va_P z.1 vwCl (pw (yd z b) 32 b M2) t.heap) (pA 32 b)) args s 0 0 (pA 32 b)) (F0 m 183 ls [])) {i1 : Int32} {i2 : Int32} {i3 : Int32} {s1 : Int32} {s2 : Int32} {M : Mem} {H : Heap} {locs : List Loc} {ls : Array Slot} (hf : b12_chase_68  rc n i1 i2 i3 s1 s2 M = some (r, M')) (hP : va_P z.1 vwCl (pw (yd z b) 32 b M) H) (hS : va_S (pA 32 b) s.heap H locs) (hl : lv_has ls 5 [(0, .ref (b + 0)), (1, .int i1), (2, .int i2), (3, .int i3)]) : W p l e rm12_chase s m args below meth c H locs 0 0 (MQ below (va_Qi (fun (r' : Int32) (M2 : Mem) => r' = r ∧ M2 = M') (fun M2 t => va_P z.1 vwCl (pw (yd z b) 32 b M2) t.heap) (pA 32 b)) args s 0 0 (pA 32 b)) (F0 m 68 ls [.int s2, .int s1, .ref (b + 27)]) := by
  have hx := C.1.1
  have hb := C.1.2.1
  unfold b12_chase_68 at hf
  refine lv_i2b hx hb dX12_chase_68 rfl ?_
  have h19 := chk_1 hf
  replace hf := chk_2 hf
  refine psB C hP hS (k := 27) (Nat.le_of_ble_eq_true rfl) (yd_27) h19 dX12_chase_69 (fun M20 H locs eM20 hP hS => ?_)
  replace hf := lt_c eM20 hf
  obtain ⟨v21, ev21⟩ : ∃ v : Int32, v = i3 + (1 : Int32) := ⟨_, rfl⟩
  replace hf := lt_c ev21 hf
  refine lv_iinc (v := v21) (lv' := [(3, .int v21), (0, .ref (b + 0)), (1, .int i1), (2, .int i2)]) hx hb dX12_chase_70 hl (k := 3) rfl (by rw [ev21]; rfl) (by decide) rfl (fun ls hl => ?_)
  refine lv_goto (tgt := 40) hx hb dX12_chase_73 (by decide) ?_
  exact q40 i1 i2 v21 M20 _ _ _ hf hP hS (lv_sub hl [1, 2, 3, 0] rfl)
set_option maxHeartbeats 4000000 in
set_option maxRecDepth 100000 in
theorem w12_chase_40 {p : Program} {l : Launch} {e : Env} {s : State} {m : MethodId} {args : Array Value} {below : List Frame} {meth : Method} {c : Code} {z : Zt} {b : Nat}  (C : Cx p s m args c cX12_chase 5 RX12 z 32 b) (hr : meth.sig.returnType = (some .int)) (hk : meth.locks = false) {r : Int32} {M' : Mem} {rc : Nat → List Int32 → List Int64 → Mem → Option (Int32 × Mem)} {n : Nat} (q40 : ∀ (i1 : Int32) (i2 : Int32) (i3 : Int32) (M : Mem) (H : Heap) (locs : List Loc) (ls : Array Slot), rc 40 [i1, i2, i3] [] M = some (r, M') → va_P z.1 vwCl (pw (yd z b) 32 b M) H → va_S (pA 32 b) s.heap H locs → lv_has ls 5 [(0, .ref (b + 0)), (1, .int i1), (2, .int i2), (3, .int i3)] → W p l e rm12_chase s m args below meth c H locs 0 0 (MQ below (va_Qi (fun (r' : Int32) (M2 : Mem) => r' = r ∧ M2 = M') (fun M2 t => va_P z.1 vwCl (pw (yd z b) 32 b M2) t.heap) (pA 32 b)) args s 0 0 (pA 32 b)) (F0 m 40 ls [])) (q78 : ∀ (i1 : Int32) (i2 : Int32) (i3 : Int32) (M : Mem) (H : Heap) (locs : List Loc) (ls : Array Slot), rc 78 [i1, i2, i3] [] M = some (r, M') → va_P z.1 vwCl (pw (yd z b) 32 b M) H → va_S (pA 32 b) s.heap H locs → lv_has ls 5 [(0, .ref (b + 0)), (1, .int i1), (2, .int i2), (3, .int i3)] → W p l e rm12_chase s m args below meth c H locs 0 0 (MQ below (va_Qi (fun (r' : Int32) (M2 : Mem) => r' = r ∧ M2 = M') (fun M2 t => va_P z.1 vwCl (pw (yd z b) 32 b M2) t.heap) (pA 32 b)) args s 0 0 (pA 32 b)) (F0 m 78 ls [])) (q102 : ∀ (i1 : Int32) (i2 : Int32) (i3 : Int32) (i4 : Int32) (M : Mem) (H : Heap) (locs : List Loc) (ls : Array Slot), rc 102 [i1, i2, i3, i4] [] M = some (r, M') → va_P z.1 vwCl (pw (yd z b) 32 b M) H → va_S (pA 32 b) s.heap H locs → lv_has ls 5 [(0, .ref (b + 0)), (1, .int i1), (2, .int i2), (3, .int i3), (4, .int i4)] → W p l e rm12_chase s m args below meth c H locs 0 0 (MQ below (va_Qi (fun (r' : Int32) (M2 : Mem) => r' = r ∧ M2 = M') (fun M2 t => va_P z.1 vwCl (pw (yd z b) 32 b M2) t.heap) (pA 32 b)) args s 0 0 (pA 32 b)) (F0 m 102 ls [])) (q183 : ∀ (i1 : Int32) (i2 : Int32) (i3 : Int32) (i4 : Int32) (M : Mem) (H : Heap) (locs : List Loc) (ls : Array Slot), rc 183 [i1, i2, i3, i4] [] M = some (r, M') → va_P z.1 vwCl (pw (yd z b) 32 b M) H → va_S (pA 32 b) s.heap H locs → lv_has ls 5 [(0, .ref (b + 0)), (1, .int i1), (2, .int i2), (3, .int i3), (4, .int i4)] → W p l e rm12_chase s m args below meth c H locs 0 0 (MQ below (va_Qi (fun (r' : Int32) (M2 : Mem) => r' = r ∧ M2 = M') (fun M2 t => va_P z.1 vwCl (pw (yd z b) 32 b M2) t.heap) (pA 32 b)) args s 0 0 (pA 32 b)) (F0 m 183 ls [])) {i1 : Int32} {i2 : Int32} {i3 : Int32} {M : Mem} {H : Heap} {locs : List Loc} {ls : Array Slot} (hf : b12_chase_40  rc n i1 i2 i3 M = some (r, M')) (hP : va_P z.1 vwCl (pw (yd z b) 32 b M) H) (hS : va_S (pA 32 b) s.heap H locs) (hl : lv_has ls 5 [(0, .ref (b + 0)), (1, .int i1), (2, .int i2), (3, .int i3)]) : W p l e rm12_chase s m args below meth c H locs 0 0 (MQ below (va_Qi (fun (r' : Int32) (M2 : Mem) => r' = r ∧ M2 = M') (fun M2 t => va_P z.1 vwCl (pw (yd z b) 32 b M2) t.heap) (pA 32 b)) args s 0 0 (pA 32 b)) (F0 m 40 ls []) := by
  have hx := C.1.1
  have hb := C.1.2.1
  unfold b12_chase_40 at hf
  refine lv_iload_n hx hb dX12_chase_40 rfl (lv_at hl 3 rfl) ?_
  refine lv_sipush (v := (9216 : Int32)) hx hb dX12_chase_41 (by decide) ?_
  refine lv_icmp_ge (tgt := 76) hx hb dX12_chase_44 (by decide) (fun c17 => ?_) (fun c17 => ?_)
  · replace hf := ite_t c17 hf
    refine lv_iconst (v := (1 : Int32)) hx hb dX12_chase_76 (by decide) ?_
    refine lv_istore_n (lv' := [(3, .int (1 : Int32)), (0, .ref (b + 0)), (1, .int i1), (2, .int i2)]) hx hb dX12_chase_77 rfl hl (by decide) rfl (fun ls hl => ?_)
    exact w12_chase_78 (n := n)  C hr hk q40 q78 q102 q183 hf hP hS (lv_sub hl [1, 2, 3, 0] rfl)
  · replace hf := ite_f c17 hf
    refine lv_aload_n hx hb dX12_chase_47 rfl (lv_at hl 0 rfl) ?_
    refine pg C hP (k := 0) (j := 48) (Nat.le_of_ble_eq_true rfl) (yd_0 _ _) rfl iw_12 (Nat.le_of_ble_eq_true rfl) g_1183 rfl rfl dX12_chase_48 ?_
    refine lv_iload_n hx hb dX12_chase_51 rfl (lv_at hl 3 rfl) ?_
    refine lv_iload_n hx hb dX12_chase_52 rfl (lv_at hl 3 rfl) ?_
    refine lv_bipush (v := (96 : Int32)) hx hb dX12_chase_53 (by decide) ?_
    refine lv_idiv hx hb dX12_chase_55 (by decide) ?_
    refine lv_iload_n hx hb dX12_chase_56 rfl (lv_at hl 3 rfl) ?_
    refine lv_bipush (v := (96 : Int32)) hx hb dX12_chase_57 (by decide) ?_
    refine lv_irem hx hb dX12_chase_59 (by decide) ?_
    refine lv_icmp_ne (tgt := 67) hx hb dX12_chase_60 (by decide) (fun c18 => ?_) (fun c18 => ?_)
    · replace hf := ite_f c18 hf
      refine lv_iconst (v := (-1 : Int32)) hx hb dX12_chase_67 (by decide) ?_
      exact w12_chase_68 (n := n)  C hr hk q40 q78 q102 q183 hf hP hS (lv_sub hl [0, 1, 2, 3] rfl)
    · replace hf := ite_t c18 hf
      refine lv_iconst (v := (0 : Int32)) hx hb dX12_chase_63 (by decide) ?_
      refine lv_goto (tgt := 68) hx hb dX12_chase_64 (by decide) ?_
      exact w12_chase_68 (n := n)  C hr hk q40 q78 q102 q183 hf hP hS (lv_sub hl [0, 1, 2, 3] rfl)
set_option maxHeartbeats 4000000 in
set_option maxRecDepth 100000 in
theorem w12_chase_0 {p : Program} {l : Launch} {e : Env} {s : State} {m : MethodId} {args : Array Value} {below : List Frame} {meth : Method} {c : Code} {z : Zt} {b : Nat}  (C : Cx p s m args c cX12_chase 5 RX12 z 32 b) (hr : meth.sig.returnType = (some .int)) (hk : meth.locks = false) {r : Int32} {M' : Mem} {rc : Nat → List Int32 → List Int64 → Mem → Option (Int32 × Mem)} {n : Nat} (q40 : ∀ (i1 : Int32) (i2 : Int32) (i3 : Int32) (M : Mem) (H : Heap) (locs : List Loc) (ls : Array Slot), rc 40 [i1, i2, i3] [] M = some (r, M') → va_P z.1 vwCl (pw (yd z b) 32 b M) H → va_S (pA 32 b) s.heap H locs → lv_has ls 5 [(0, .ref (b + 0)), (1, .int i1), (2, .int i2), (3, .int i3)] → W p l e rm12_chase s m args below meth c H locs 0 0 (MQ below (va_Qi (fun (r' : Int32) (M2 : Mem) => r' = r ∧ M2 = M') (fun M2 t => va_P z.1 vwCl (pw (yd z b) 32 b M2) t.heap) (pA 32 b)) args s 0 0 (pA 32 b)) (F0 m 40 ls [])) (q78 : ∀ (i1 : Int32) (i2 : Int32) (i3 : Int32) (M : Mem) (H : Heap) (locs : List Loc) (ls : Array Slot), rc 78 [i1, i2, i3] [] M = some (r, M') → va_P z.1 vwCl (pw (yd z b) 32 b M) H → va_S (pA 32 b) s.heap H locs → lv_has ls 5 [(0, .ref (b + 0)), (1, .int i1), (2, .int i2), (3, .int i3)] → W p l e rm12_chase s m args below meth c H locs 0 0 (MQ below (va_Qi (fun (r' : Int32) (M2 : Mem) => r' = r ∧ M2 = M') (fun M2 t => va_P z.1 vwCl (pw (yd z b) 32 b M2) t.heap) (pA 32 b)) args s 0 0 (pA 32 b)) (F0 m 78 ls [])) (q102 : ∀ (i1 : Int32) (i2 : Int32) (i3 : Int32) (i4 : Int32) (M : Mem) (H : Heap) (locs : List Loc) (ls : Array Slot), rc 102 [i1, i2, i3, i4] [] M = some (r, M') → va_P z.1 vwCl (pw (yd z b) 32 b M) H → va_S (pA 32 b) s.heap H locs → lv_has ls 5 [(0, .ref (b + 0)), (1, .int i1), (2, .int i2), (3, .int i3), (4, .int i4)] → W p l e rm12_chase s m args below meth c H locs 0 0 (MQ below (va_Qi (fun (r' : Int32) (M2 : Mem) => r' = r ∧ M2 = M') (fun M2 t => va_P z.1 vwCl (pw (yd z b) 32 b M2) t.heap) (pA 32 b)) args s 0 0 (pA 32 b)) (F0 m 102 ls [])) (q183 : ∀ (i1 : Int32) (i2 : Int32) (i3 : Int32) (i4 : Int32) (M : Mem) (H : Heap) (locs : List Loc) (ls : Array Slot), rc 183 [i1, i2, i3, i4] [] M = some (r, M') → va_P z.1 vwCl (pw (yd z b) 32 b M) H → va_S (pA 32 b) s.heap H locs → lv_has ls 5 [(0, .ref (b + 0)), (1, .int i1), (2, .int i2), (3, .int i3), (4, .int i4)] → W p l e rm12_chase s m args below meth c H locs 0 0 (MQ below (va_Qi (fun (r' : Int32) (M2 : Mem) => r' = r ∧ M2 = M') (fun M2 t => va_P z.1 vwCl (pw (yd z b) 32 b M2) t.heap) (pA 32 b)) args s 0 0 (pA 32 b)) (F0 m 183 ls [])) {a1 : Int32} {a2 : Int32} {M : Mem} {H : Heap} {locs : List Loc} {ls : Array Slot} (hf : b12_chase_0  rc n a1 a2 M = some (r, M')) (hP : va_P z.1 vwCl (pw (yd z b) 32 b M) H) (hS : va_S (pA 32 b) s.heap H locs) (hl : lv_has ls 5 [(0, .ref (b + 0)), (1, .int a1), (2, .int a2)]) : W p l e rm12_chase s m args below meth c H locs 0 0 (MQ below (va_Qi (fun (r' : Int32) (M2 : Mem) => r' = r ∧ M2 = M') (fun M2 t => va_P z.1 vwCl (pw (yd z b) 32 b M2) t.heap) (pA 32 b)) args s 0 0 (pA 32 b)) (F0 m 0 ls []) := by
  have hx := C.1.1
  have hb := C.1.2.1
  unfold b12_chase_0 at hf
  refine lv_iload_n hx hb dX12_chase_0 rfl (lv_at hl 1 rfl) ?_
  refine lv_iconst (v := (0 : Int32)) hx hb dX12_chase_1 (by decide) ?_
  refine lv_bipush (v := (95 : Int32)) hx hb dX12_chase_2 (by decide) ?_
  obtain ⟨r1, M2, h3, hf⟩ := bnd_s hf
  refine pcSi (As := [.int a1, .int (0 : Int32), .int (95 : Int32)]) C hP hS (c12_in  h3) y12_in_w g_1306 rfl rfl rfl ⟨Nat.le_of_ble_eq_true rfl, Nat.le_of_ble_eq_true rfl⟩ hl.1 rfl (Nat.le_of_ble_eq_true rfl) dX12_chase_4 ⟨Nat.le_of_ble_eq_true rfl, Nat.le_of_ble_eq_true rfl⟩ (fun H locs hP hS => ?_)
  refine lv_if_eq (tgt := 36) hx hb dX12_chase_7 (by decide) (fun c4 => ?_) (fun c4 => ?_)
  · replace hf := ite_t c4 hf
    exact w12_chase_36 (n := n)  C hr hk q40 q78 q102 q183 hf hP hS (lv_sub hl [] rfl)
  · replace hf := ite_f c4 hf
    refine lv_iload_n hx hb dX12_chase_10 rfl (lv_at hl 2 rfl) ?_
    refine lv_iconst (v := (0 : Int32)) hx hb dX12_chase_11 (by decide) ?_
    refine lv_bipush (v := (95 : Int32)) hx hb dX12_chase_12 (by decide) ?_
    obtain ⟨r5, M6, h7, hf⟩ := bnd_s hf
    refine pcSi (As := [.int a2, .int (0 : Int32), .int (95 : Int32)]) C hP hS (c12_in  h7) y12_in_w g_1306 rfl rfl rfl ⟨Nat.le_of_ble_eq_true rfl, Nat.le_of_ble_eq_true rfl⟩ hl.1 rfl (Nat.le_of_ble_eq_true rfl) dX12_chase_14 ⟨Nat.le_of_ble_eq_true rfl, Nat.le_of_ble_eq_true rfl⟩ (fun H locs hP hS => ?_)
    refine lv_if_eq (tgt := 36) hx hb dX12_chase_17 (by decide) (fun c8 => ?_) (fun c8 => ?_)
    · replace hf := ite_t c8 hf
      exact w12_chase_36 (n := n)  C hr hk q40 q78 q102 q183 hf hP hS (lv_sub hl [] rfl)
    · replace hf := ite_f c8 hf
      refine lv_aload_n hx hb dX12_chase_20 rfl (lv_at hl 0 rfl) ?_
      refine lv_iload_n hx hb dX12_chase_21 rfl (lv_at hl 1 rfl) ?_
      obtain ⟨r9, M10, h11, hf⟩ := bnd_s hf
      refine pcVi (As := [.int a1]) C hP hS (k := 0) (Nat.le_of_ble_eq_true rfl) (yd_0 _ _) rfl (c12_isOpen  h11) y12_isOpen_w g_1483 rfl rfl rfl ⟨Nat.le_of_ble_eq_true rfl, Nat.le_of_ble_eq_true rfl⟩ hl.1 rfl (Nat.le_of_ble_eq_true rfl) dX12_chase_22 ⟨Nat.le_of_ble_eq_true rfl, Nat.le_of_ble_eq_true rfl⟩ (fun H locs hP hS => ?_)
      refine lv_if_eq (tgt := 36) hx hb dX12_chase_25 (by decide) (fun c12 => ?_) (fun c12 => ?_)
      · replace hf := ite_t c12 hf
        exact w12_chase_36 (n := n)  C hr hk q40 q78 q102 q183 hf hP hS (lv_sub hl [] rfl)
      · replace hf := ite_f c12 hf
        refine lv_aload_n hx hb dX12_chase_28 rfl (lv_at hl 0 rfl) ?_
        refine lv_iload_n hx hb dX12_chase_29 rfl (lv_at hl 2 rfl) ?_
        obtain ⟨r13, M14, h15, hf⟩ := bnd_s hf
        refine pcVi (As := [.int a2]) C hP hS (k := 0) (Nat.le_of_ble_eq_true rfl) (yd_0 _ _) rfl (c12_isOpen  h15) y12_isOpen_w g_1483 rfl rfl rfl ⟨Nat.le_of_ble_eq_true rfl, Nat.le_of_ble_eq_true rfl⟩ hl.1 rfl (Nat.le_of_ble_eq_true rfl) dX12_chase_30 ⟨Nat.le_of_ble_eq_true rfl, Nat.le_of_ble_eq_true rfl⟩ (fun H locs hP hS => ?_)
        refine lv_if_ne (tgt := 38) hx hb dX12_chase_33 (by decide) (fun c16 => ?_) (fun c16 => ?_)
        · replace hf := ite_f c16 hf
          refine lv_iconst (v := (0 : Int32)) hx hb dX12_chase_38 (by decide) ?_
          refine lv_istore_n (lv' := [(3, .int (0 : Int32)), (0, .ref (b + 0)), (1, .int a1), (2, .int a2)]) hx hb dX12_chase_39 rfl hl (by decide) rfl (fun ls hl => ?_)
          exact w12_chase_40 (n := n)  C hr hk q40 q78 q102 q183 hf hP hS (lv_sub hl [1, 2, 3, 0] rfl)
        · replace hf := ite_t c16 hf
          exact w12_chase_36 (n := n)  C hr hk q40 q78 q102 q183 hf hP hS (lv_sub hl [] rfl)
set_option maxHeartbeats 4000000 in
set_option maxRecDepth 100000 in
theorem l12_chase {p : Program} {l : Launch} {e : Env} {s : State} {m : MethodId} {args : Array Value} {below : List Frame} {meth : Method} {c : Code} {z : Zt} {b : Nat}  (C : Cx p s m args c cX12_chase 5 RX12 z 32 b) (hr : meth.sig.returnType = (some .int)) (hk : meth.locks = false) {r : Int32} {M' : Mem} (n : Nat) : (∀ (i1 : Int32) (i2 : Int32) (i3 : Int32) (M : Mem) (H : Heap) (locs : List Loc) (ls : Array Slot), (r12_chase  n) 40 [i1, i2, i3] [] M = some (r, M') → va_P z.1 vwCl (pw (yd z b) 32 b M) H → va_S (pA 32 b) s.heap H locs → lv_has ls 5 [(0, .ref (b + 0)), (1, .int i1), (2, .int i2), (3, .int i3)] → W p l e rm12_chase s m args below meth c H locs 0 0 (MQ below (va_Qi (fun (r' : Int32) (M2 : Mem) => r' = r ∧ M2 = M') (fun M2 t => va_P z.1 vwCl (pw (yd z b) 32 b M2) t.heap) (pA 32 b)) args s 0 0 (pA 32 b)) (F0 m 40 ls [])) ∧ (∀ (i1 : Int32) (i2 : Int32) (i3 : Int32) (M : Mem) (H : Heap) (locs : List Loc) (ls : Array Slot), (r12_chase  n) 78 [i1, i2, i3] [] M = some (r, M') → va_P z.1 vwCl (pw (yd z b) 32 b M) H → va_S (pA 32 b) s.heap H locs → lv_has ls 5 [(0, .ref (b + 0)), (1, .int i1), (2, .int i2), (3, .int i3)] → W p l e rm12_chase s m args below meth c H locs 0 0 (MQ below (va_Qi (fun (r' : Int32) (M2 : Mem) => r' = r ∧ M2 = M') (fun M2 t => va_P z.1 vwCl (pw (yd z b) 32 b M2) t.heap) (pA 32 b)) args s 0 0 (pA 32 b)) (F0 m 78 ls [])) ∧ (∀ (i1 : Int32) (i2 : Int32) (i3 : Int32) (i4 : Int32) (M : Mem) (H : Heap) (locs : List Loc) (ls : Array Slot), (r12_chase  n) 102 [i1, i2, i3, i4] [] M = some (r, M') → va_P z.1 vwCl (pw (yd z b) 32 b M) H → va_S (pA 32 b) s.heap H locs → lv_has ls 5 [(0, .ref (b + 0)), (1, .int i1), (2, .int i2), (3, .int i3), (4, .int i4)] → W p l e rm12_chase s m args below meth c H locs 0 0 (MQ below (va_Qi (fun (r' : Int32) (M2 : Mem) => r' = r ∧ M2 = M') (fun M2 t => va_P z.1 vwCl (pw (yd z b) 32 b M2) t.heap) (pA 32 b)) args s 0 0 (pA 32 b)) (F0 m 102 ls [])) ∧ (∀ (i1 : Int32) (i2 : Int32) (i3 : Int32) (i4 : Int32) (M : Mem) (H : Heap) (locs : List Loc) (ls : Array Slot), (r12_chase  n) 183 [i1, i2, i3, i4] [] M = some (r, M') → va_P z.1 vwCl (pw (yd z b) 32 b M) H → va_S (pA 32 b) s.heap H locs → lv_has ls 5 [(0, .ref (b + 0)), (1, .int i1), (2, .int i2), (3, .int i3), (4, .int i4)] → W p l e rm12_chase s m args below meth c H locs 0 0 (MQ below (va_Qi (fun (r' : Int32) (M2 : Mem) => r' = r ∧ M2 = M') (fun M2 t => va_P z.1 vwCl (pw (yd z b) 32 b M2) t.heap) (pA 32 b)) args s 0 0 (pA 32 b)) (F0 m 183 ls [])) := by
  induction n with
  | zero => exact ⟨fun _ _ _ _ _ _ _ hf => (by cases hf), fun _ _ _ _ _ _ _ hf => (by cases hf), fun _ _ _ _ _ _ _ _ hf => (by cases hf), fun _ _ _ _ _ _ _ _ hf => (by cases hf)⟩
  | succ n ih => exact ⟨fun _ _ _ _ _ _ _ hf hP hS hl => w12_chase_40 (n := n)  C hr hk ih.1 ih.2.1 ih.2.2.1 ih.2.2.2 ((e12_chase_40  n _ _ _ _).symm.trans hf) hP hS hl, fun _ _ _ _ _ _ _ hf hP hS hl => w12_chase_78 (n := n)  C hr hk ih.1 ih.2.1 ih.2.2.1 ih.2.2.2 ((e12_chase_78  n _ _ _ _).symm.trans hf) hP hS hl, fun _ _ _ _ _ _ _ _ hf hP hS hl => w12_chase_102 (n := n)  C hr hk ih.1 ih.2.1 ih.2.2.1 ih.2.2.2 ((e12_chase_102  n _ _ _ _ _).symm.trans hf) hP hS hl, fun _ _ _ _ _ _ _ _ hf hP hS hl => w12_chase_183 (n := n)  C hr hk ih.1 ih.2.1 ih.2.2.1 ih.2.2.2 ((e12_chase_183  n _ _ _ _ _).symm.trans hf) hP hS hl⟩
theorem c12_chase {l : Launch} {z : Zt} {b n : Nat}  {a1 : Int32} {a2 : Int32} {M M' : Mem} {r : Int32} (hf : f12_chase n  a1 a2 M = some (r, M')) : CI l z (yd z b) 32 b yX12_chase cX12_chase 5 (some .int) rm12_chase [.ref (b + 0), .int a1, .int a2] M M' r :=
  CI.ofW (lv := [(0, .ref (b + 0)), (1, .int a1), (2, .int a2)]) (by decide) (Nat.le_of_ble_eq_true rfl) rfl (fun p e s m args below meth c ls C hr hk hP hS hl => w12_chase_0 (n := n)  C hr hk (l12_chase  C hr hk n).1 (l12_chase  C hr hk n).2.1 (l12_chase  C hr hk n).2.2.1 (l12_chase  C hr hk n).2.2.2 hf hP hS hl)

-- BronzeKingModel.lovers(II)I
theorem dX12_lovers_0 : decode cX12_lovers 0 = .ok (.iload_n 1, 1) := by decide +kernel
theorem dX12_lovers_1 : decode cX12_lovers 1 = .ok (.iconst 2, 1) := by decide +kernel
theorem dX12_lovers_2 : decode cX12_lovers 2 = .ok (.iconst 4, 1) := by decide +kernel
theorem dX12_lovers_3 : decode cX12_lovers 3 = .ok (.invokestatic 106, 3) := by decide +kernel
theorem dX12_lovers_6 : decode cX12_lovers 6 = .ok (.ifCond .eq 20, 3) := by decide +kernel
theorem dX12_lovers_9 : decode cX12_lovers 9 = .ok (.iload_n 2, 1) := by decide +kernel
theorem dX12_lovers_10 : decode cX12_lovers 10 = .ok (.iconst 0, 1) := by decide +kernel
theorem dX12_lovers_11 : decode cX12_lovers 11 = .ok (.iconst 1, 1) := by decide +kernel
theorem dX12_lovers_12 : decode cX12_lovers 12 = .ok (.invokestatic 106, 3) := by decide +kernel
theorem dX12_lovers_15 : decode cX12_lovers 15 = .ok (.ifCond .eq 11, 3) := by decide +kernel
theorem dX12_lovers_18 : decode cX12_lovers 18 = .ok (.iload_n 1, 1) := by decide +kernel
theorem dX12_lovers_19 : decode cX12_lovers 19 = .ok (.aload_n 0, 1) := by decide +kernel
theorem dX12_lovers_20 : decode cX12_lovers 20 = .ok (.getfield 137, 3) := by decide +kernel
theorem dX12_lovers_23 : decode cX12_lovers 23 = .ok (.if_icmp .le 5, 3) := by decide +kernel
theorem dX12_lovers_26 : decode cX12_lovers 26 = .ok (.iconst (-1), 1) := by decide +kernel
theorem dX12_lovers_27 : decode cX12_lovers 27 = .ok (.ireturn, 1) := by decide +kernel
theorem dX12_lovers_28 : decode cX12_lovers 28 = .ok (.aload_n 0, 1) := by decide +kernel
theorem dX12_lovers_29 : decode cX12_lovers 29 = .ok (.iconst 0, 1) := by decide +kernel
theorem dX12_lovers_30 : decode cX12_lovers 30 = .ok (.putfield 137, 3) := by decide +kernel
theorem dX12_lovers_33 : decode cX12_lovers 33 = .ok (.iconst 0, 1) := by decide +kernel
theorem dX12_lovers_34 : decode cX12_lovers 34 = .ok (.istore_n 3, 1) := by decide +kernel
theorem dX12_lovers_35 : decode cX12_lovers 35 = .ok (.iload_n 3, 1) := by decide +kernel
theorem dX12_lovers_36 : decode cX12_lovers 36 = .ok (.iload_n 1, 1) := by decide +kernel
theorem dX12_lovers_37 : decode cX12_lovers 37 = .ok (.if_icmp .ge 34, 3) := by decide +kernel
theorem dX12_lovers_40 : decode cX12_lovers 40 = .ok (.aload_n 0, 1) := by decide +kernel
theorem dX12_lovers_41 : decode cX12_lovers 41 = .ok (.iload_n 3, 1) := by decide +kernel
theorem dX12_lovers_42 : decode cX12_lovers 42 = .ok (.invokevirtual 389, 3) := by decide +kernel
theorem dX12_lovers_45 : decode cX12_lovers 45 = .ok (.bipush 96, 2) := by decide +kernel
theorem dX12_lovers_47 : decode cX12_lovers 47 = .ok (.if_icmp .ge 15, 3) := by decide +kernel
theorem dX12_lovers_50 : decode cX12_lovers 50 = .ok (.aload_n 0, 1) := by decide +kernel
theorem dX12_lovers_51 : decode cX12_lovers 51 = .ok (.aload_n 0, 1) := by decide +kernel
theorem dX12_lovers_52 : decode cX12_lovers 52 = .ok (.iload_n 3, 1) := by decide +kernel
theorem dX12_lovers_53 : decode cX12_lovers 53 = .ok (.invokevirtual 389, 3) := by decide +kernel
theorem dX12_lovers_56 : decode cX12_lovers 56 = .ok (.invokevirtual 122, 3) := by decide +kernel
theorem dX12_lovers_59 : decode cX12_lovers 59 = .ok (.ifCond .ne 6, 3) := by decide +kernel
theorem dX12_lovers_62 : decode cX12_lovers 62 = .ok (.bipush (-3), 2) := by decide +kernel
theorem dX12_lovers_64 : decode cX12_lovers 64 = .ok (.ireturn, 1) := by decide +kernel
theorem dX12_lovers_65 : decode cX12_lovers 65 = .ok (.iinc 3 1, 3) := by decide +kernel
theorem dX12_lovers_68 : decode cX12_lovers 68 = .ok (.goto (-33), 3) := by decide +kernel
theorem dX12_lovers_71 : decode cX12_lovers 71 = .ok (.bipush (-2), 2) := by decide +kernel
theorem dX12_lovers_73 : decode cX12_lovers 73 = .ok (.istore_n 3, 1) := by decide +kernel
theorem dX12_lovers_74 : decode cX12_lovers 74 = .ok (.ldc_w 351, 3) := by decide +kernel
theorem dX12_lovers_77 : decode cX12_lovers 77 = .ok (.istore 4, 2) := by decide +kernel
theorem dX12_lovers_79 : decode cX12_lovers 79 = .ok (.iconst 0, 1) := by decide +kernel
theorem dX12_lovers_80 : decode cX12_lovers 80 = .ok (.istore 5, 2) := by decide +kernel
theorem dX12_lovers_82 : decode cX12_lovers 82 = .ok (.iload 5, 2) := by decide +kernel
theorem dX12_lovers_84 : decode cX12_lovers 84 = .ok (.bipush 96, 2) := by decide +kernel
theorem dX12_lovers_86 : decode cX12_lovers 86 = .ok (.if_icmp .ge 110, 3) := by decide +kernel
theorem dX12_lovers_89 : decode cX12_lovers 89 = .ok (.iconst 0, 1) := by decide +kernel
theorem dX12_lovers_90 : decode cX12_lovers 90 = .ok (.istore 6, 2) := by decide +kernel
theorem dX12_lovers_92 : decode cX12_lovers 92 = .ok (.iconst 0, 1) := by decide +kernel
theorem dX12_lovers_93 : decode cX12_lovers 93 = .ok (.istore 7, 2) := by decide +kernel
theorem dX12_lovers_95 : decode cX12_lovers 95 = .ok (.iconst 0, 1) := by decide +kernel
theorem dX12_lovers_96 : decode cX12_lovers 96 = .ok (.istore 8, 2) := by decide +kernel
theorem dX12_lovers_98 : decode cX12_lovers 98 = .ok (.iload 8, 2) := by decide +kernel
theorem dX12_lovers_100 : decode cX12_lovers 100 = .ok (.iload_n 1, 1) := by decide +kernel
theorem dX12_lovers_101 : decode cX12_lovers 101 = .ok (.if_icmp .ge 52, 3) := by decide +kernel
theorem dX12_lovers_104 : decode cX12_lovers 104 = .ok (.aload_n 0, 1) := by decide +kernel
theorem dX12_lovers_105 : decode cX12_lovers 105 = .ok (.aload_n 0, 1) := by decide +kernel
theorem dX12_lovers_106 : decode cX12_lovers 106 = .ok (.iload 8, 2) := by decide +kernel
theorem dX12_lovers_108 : decode cX12_lovers 108 = .ok (.invokevirtual 389, 3) := by decide +kernel
theorem dX12_lovers_111 : decode cX12_lovers 111 = .ok (.iload 5, 2) := by decide +kernel
theorem dX12_lovers_113 : decode cX12_lovers 113 = .ok (.invokevirtual 134, 3) := by decide +kernel
theorem dX12_lovers_116 : decode cX12_lovers 116 = .ok (.istore 9, 2) := by decide +kernel
theorem dX12_lovers_118 : decode cX12_lovers 118 = .ok (.iload 6, 2) := by decide +kernel
theorem dX12_lovers_120 : decode cX12_lovers 120 = .ok (.iload 9, 2) := by decide +kernel
theorem dX12_lovers_122 : decode cX12_lovers 122 = .ok (.bipush 99, 2) := by decide +kernel
theorem dX12_lovers_124 : decode cX12_lovers 124 = .ok (.if_icmp .ne 9, 3) := by decide +kernel
theorem dX12_lovers_127 : decode cX12_lovers 127 = .ok (.ldc_w 351, 3) := by decide +kernel
theorem dX12_lovers_130 : decode cX12_lovers 130 = .ok (.goto 5, 3) := by decide +kernel
theorem dX12_lovers_133 : decode cX12_lovers 133 = .ok (.iload 9, 2) := by decide +kernel
theorem dX12_lovers_135 : decode cX12_lovers 135 = .ok (.iadd, 1) := by decide +kernel
theorem dX12_lovers_136 : decode cX12_lovers 136 = .ok (.istore 6, 2) := by decide +kernel
theorem dX12_lovers_138 : decode cX12_lovers 138 = .ok (.iload 7, 2) := by decide +kernel
theorem dX12_lovers_140 : decode cX12_lovers 140 = .ok (.iload 9, 2) := by decide +kernel
theorem dX12_lovers_142 : decode cX12_lovers 142 = .ok (.invokestatic 305, 3) := by decide +kernel
theorem dX12_lovers_145 : decode cX12_lovers 145 = .ok (.istore 7, 2) := by decide +kernel
theorem dX12_lovers_147 : decode cX12_lovers 147 = .ok (.iinc 8 1, 3) := by decide +kernel
theorem dX12_lovers_150 : decode cX12_lovers 150 = .ok (.goto (-52), 3) := by decide +kernel
theorem dX12_lovers_153 : decode cX12_lovers 153 = .ok (.iload 6, 2) := by decide +kernel
theorem dX12_lovers_155 : decode cX12_lovers 155 = .ok (.ldc_w 351, 3) := by decide +kernel
theorem dX12_lovers_158 : decode cX12_lovers 158 = .ok (.if_icmp .ge 32, 3) := by decide +kernel
theorem dX12_lovers_161 : decode cX12_lovers 161 = .ok (.bipush 100, 2) := by decide +kernel
theorem dX12_lovers_163 : decode cX12_lovers 163 = .ok (.iload 6, 2) := by decide +kernel
theorem dX12_lovers_165 : decode cX12_lovers 165 = .ok (.imul, 1) := by decide +kernel
theorem dX12_lovers_166 : decode cX12_lovers 166 = .ok (.iload 7, 2) := by decide +kernel
theorem dX12_lovers_168 : decode cX12_lovers 168 = .ok (.iadd, 1) := by decide +kernel
theorem dX12_lovers_169 : decode cX12_lovers 169 = .ok (.iload 4, 2) := by decide +kernel
theorem dX12_lovers_171 : decode cX12_lovers 171 = .ok (.if_icmp .lt 6, 3) := by decide +kernel
theorem dX12_lovers_174 : decode cX12_lovers 174 = .ok (.goto 16, 3) := by decide +kernel
theorem dX12_lovers_177 : decode cX12_lovers 177 = .ok (.bipush 100, 2) := by decide +kernel
theorem dX12_lovers_179 : decode cX12_lovers 179 = .ok (.iload 6, 2) := by decide +kernel
theorem dX12_lovers_181 : decode cX12_lovers 181 = .ok (.imul, 1) := by decide +kernel
theorem dX12_lovers_182 : decode cX12_lovers 182 = .ok (.iload 7, 2) := by decide +kernel
theorem dX12_lovers_184 : decode cX12_lovers 184 = .ok (.iadd, 1) := by decide +kernel
theorem dX12_lovers_185 : decode cX12_lovers 185 = .ok (.istore 4, 2) := by decide +kernel
theorem dX12_lovers_187 : decode cX12_lovers 187 = .ok (.iload 5, 2) := by decide +kernel
theorem dX12_lovers_189 : decode cX12_lovers 189 = .ok (.istore_n 3, 1) := by decide +kernel
theorem dX12_lovers_190 : decode cX12_lovers 190 = .ok (.iinc 5 1, 3) := by decide +kernel
theorem dX12_lovers_193 : decode cX12_lovers 193 = .ok (.goto (-111), 3) := by decide +kernel
theorem dX12_lovers_196 : decode cX12_lovers 196 = .ok (.iload_n 2, 1) := by decide +kernel
theorem dX12_lovers_197 : decode cX12_lovers 197 = .ok (.ifCond .eq 9, 3) := by decide +kernel
theorem dX12_lovers_200 : decode cX12_lovers 200 = .ok (.iload_n 3, 1) := by decide +kernel
theorem dX12_lovers_201 : decode cX12_lovers 201 = .ok (.bipush (-2), 2) := by decide +kernel
theorem dX12_lovers_203 : decode cX12_lovers 203 = .ok (.if_icmp .ne 7, 3) := by decide +kernel
theorem dX12_lovers_206 : decode cX12_lovers 206 = .ok (.iload_n 3, 1) := by decide +kernel
theorem dX12_lovers_207 : decode cX12_lovers 207 = .ok (.goto 8, 3) := by decide +kernel
theorem dX12_lovers_210 : decode cX12_lovers 210 = .ok (.iload 4, 2) := by decide +kernel
theorem dX12_lovers_212 : decode cX12_lovers 212 = .ok (.bipush 100, 2) := by decide +kernel
theorem dX12_lovers_214 : decode cX12_lovers 214 = .ok (.idiv, 1) := by decide +kernel
theorem dX12_lovers_215 : decode cX12_lovers 215 = .ok (.ireturn, 1) := by decide +kernel
def b12_lovers_26 (rc : Nat → List Int32 → List Int64 → Mem → Option (Int32 × Mem)) (n : Nat) (M : Mem) : Option (Int32 × Mem) :=
  some ((-1 : Int32), M)
def b12_lovers_206 (rc : Nat → List Int32 → List Int64 → Mem → Option (Int32 × Mem)) (n : Nat) (i3 : Int32) (M : Mem) : Option (Int32 × Mem) :=
  some (i3, M)
def b12_lovers_190 (rc : Nat → List Int32 → List Int64 → Mem → Option (Int32 × Mem)) (n : Nat) (i1 : Int32) (i2 : Int32) (i3 : Int32) (i4 : Int32) (i5 : Int32) (M : Mem) : Option (Int32 × Mem) :=
  lt (i5 + (1 : Int32)) fun v43 =>
  rc 82 [i1, i2, i3, i4, v43] [] M
def b12_lovers_135 (rc : Nat → List Int32 → List Int64 → Mem → Option (Int32 × Mem)) (n : Nat) (i1 : Int32) (i2 : Int32) (i3 : Int32) (i4 : Int32) (i5 : Int32) (i7 : Int32) (i8 : Int32) (i9 : Int32) (s0 : Int32) (s1 : Int32) (M : Mem) : Option (Int32 × Mem) :=
  lt (s0 + s1) fun v38 =>
  bnd (f12_max n i7 i9 M) fun r39 M40 =>
  lt (i8 + (1 : Int32)) fun v42 =>
  rc 98 [i1, i2, i3, i4, i5, v38, r39, v42] [] M40
def b12_lovers_98 (rc : Nat → List Int32 → List Int64 → Mem → Option (Int32 × Mem)) (n : Nat) (i1 : Int32) (i2 : Int32) (i3 : Int32) (i4 : Int32) (i5 : Int32) (i6 : Int32) (i7 : Int32) (i8 : Int32) (M : Mem) : Option (Int32 × Mem) :=
  (if i1 ≤ i8 then (
   (if (1000000 : Int32) ≤ i6 then (
    b12_lovers_190  rc n i1 i2 i3 i4 i5 M)
   else (
    (if (((100 : Int32) * i6) + i7) < i4 then (
     lt (((100 : Int32) * i6) + i7) fun v30 =>
     b12_lovers_190  rc n i1 i2 i5 v30 i5 M)
    else (
     b12_lovers_190  rc n i1 i2 i3 i4 i5 M)))))
  else (
   bnd (f12_octet n i8 M) fun r31 M32 =>
   bnd (f12_steps n r31 i5 M32) fun r34 M35 =>
   (if r34 = (99 : Int32) then (
    b12_lovers_135  rc n i1 i2 i3 i4 i5 i7 i8 r34 i6 (1000000 : Int32) M35)
   else (
    b12_lovers_135  rc n i1 i2 i3 i4 i5 i7 i8 r34 i6 r34 M35))))
def b12_lovers_82 (rc : Nat → List Int32 → List Int64 → Mem → Option (Int32 × Mem)) (n : Nat) (i1 : Int32) (i2 : Int32) (i3 : Int32) (i4 : Int32) (i5 : Int32) (M : Mem) : Option (Int32 × Mem) :=
  (if (96 : Int32) ≤ i5 then (
   (if i2 = 0 then (
    b12_lovers_206  rc n i3 M)
   else (
    (if i3 = (-2 : Int32) then (
     b12_lovers_206  rc n i3 M)
    else (
     some ((i4 / (100 : Int32)), M))))))
  else (
   b12_lovers_98  rc n i1 i2 i3 i4 i5 (0 : Int32) (0 : Int32) (0 : Int32) M))
def b12_lovers_62 (rc : Nat → List Int32 → List Int64 → Mem → Option (Int32 × Mem)) (n : Nat) (M : Mem) : Option (Int32 × Mem) :=
  some ((-3 : Int32), M)
def b12_lovers_35 (rc : Nat → List Int32 → List Int64 → Mem → Option (Int32 × Mem)) (n : Nat) (i1 : Int32) (i2 : Int32) (i3 : Int32) (M : Mem) : Option (Int32 × Mem) :=
  (if i1 ≤ i3 then (
   b12_lovers_82  rc n i1 i2 (-2 : Int32) (1000000 : Int32) (0 : Int32) M)
  else (
   bnd (f12_octet n i3 M) fun r12 M13 =>
   (if (96 : Int32) ≤ r12 then (
    b12_lovers_62  rc n  M13)
   else (
    bnd (f12_octet n i3 M13) fun r16 M17 =>
    bnd (f12_isOpen n r16 M17) fun r19 M20 =>
    (if r19 = 0 then (
     b12_lovers_62  rc n  M20)
    else (
     lt (i3 + (1 : Int32)) fun v23 =>
     rc 35 [i1, i2, v23] [] M20))))))
def b12_lovers_0 (rc : Nat → List Int32 → List Int64 → Mem → Option (Int32 × Mem)) (n : Nat) (a1 : Int32) (a2 : Int32) (M : Mem) : Option (Int32 × Mem) :=
  bnd (f12_in n a1 (2 : Int32) (4 : Int32) M) fun r1 M2 =>
  (if r1 = 0 then (
   b12_lovers_26  rc n  M2)
  else (
   bnd (f12_in n a2 (0 : Int32) (1 : Int32) M2) fun r5 M6 =>
   (if r5 = 0 then (
    b12_lovers_26  rc n  M6)
   else (
    (if a1 ≤ (M6.1 0 11) then (
     lt (wI M6 0 11 (0 : Int32)) fun M10 =>
     b12_lovers_35  rc n a1 a2 (0 : Int32) M10)
    else (
     b12_lovers_26  rc n  M6))))))
def r12_lovers : Nat → Nat → List Int32 → List Int64 → Mem → Option (Int32 × Mem)
  | 0 => fun _ _ _ _ => none
  | n + 1 => fun pc li lj M =>
    if pc = 35 then (match li, lj with | [i1, i2, i3], [] => b12_lovers_35  (r12_lovers  n) n i1 i2 i3 M | _, _ => none) else
    if pc = 82 then (match li, lj with | [i1, i2, i3, i4, i5], [] => b12_lovers_82  (r12_lovers  n) n i1 i2 i3 i4 i5 M | _, _ => none) else
    if pc = 98 then (match li, lj with | [i1, i2, i3, i4, i5, i6, i7, i8], [] => b12_lovers_98  (r12_lovers  n) n i1 i2 i3 i4 i5 i6 i7 i8 M | _, _ => none) else
    none
theorem e12_lovers_35  (n : Nat) (i1 : Int32) (i2 : Int32) (i3 : Int32) (M : Mem) : r12_lovers  (n + 1) 35 [i1, i2, i3] [] M = b12_lovers_35  (r12_lovers  n) n i1 i2 i3 M := by
  rw [r12_lovers]
  simp
theorem e12_lovers_82  (n : Nat) (i1 : Int32) (i2 : Int32) (i3 : Int32) (i4 : Int32) (i5 : Int32) (M : Mem) : r12_lovers  (n + 1) 82 [i1, i2, i3, i4, i5] [] M = b12_lovers_82  (r12_lovers  n) n i1 i2 i3 i4 i5 M := by
  rw [r12_lovers]
  simp
theorem e12_lovers_98  (n : Nat) (i1 : Int32) (i2 : Int32) (i3 : Int32) (i4 : Int32) (i5 : Int32) (i6 : Int32) (i7 : Int32) (i8 : Int32) (M : Mem) : r12_lovers  (n + 1) 98 [i1, i2, i3, i4, i5, i6, i7, i8] [] M = b12_lovers_98  (r12_lovers  n) n i1 i2 i3 i4 i5 i6 i7 i8 M := by
  rw [r12_lovers]
  simp
def f12_lovers (n : Nat) (a1 : Int32) (a2 : Int32) (M : Mem) : Option (Int32 × Mem) := b12_lovers_0 (r12_lovers n) n a1 a2 M
abbrev rm12_lovers : Room := { frames := 5, cells := 0, slots := 0, locals := 114 }
theorem y12_lovers_w : yV RX12 yX12_lovers cX12_lovers 10 (some .int) 2 := ⟨g_1630, g_1631, g_14, g_1632, rfl, by decide, by decide, by decide +kernel⟩
set_option maxHeartbeats 4000000 in
set_option maxRecDepth 100000 in
theorem w12_lovers_26 {p : Program} {l : Launch} {e : Env} {s : State} {m : MethodId} {args : Array Value} {below : List Frame} {meth : Method} {c : Code} {z : Zt} {b : Nat}  (C : Cx p s m args c cX12_lovers 10 RX12 z 32 b) (hr : meth.sig.returnType = (some .int)) (hk : meth.locks = false) {r : Int32} {M' : Mem} {rc : Nat → List Int32 → List Int64 → Mem → Option (Int32 × Mem)} {n : Nat} (q35 : ∀ (i1 : Int32) (i2 : Int32) (i3 : Int32) (M : Mem) (H : Heap) (locs : List Loc) (ls : Array Slot), rc 35 [i1, i2, i3] [] M = some (r, M') → va_P z.1 vwCl (pw (yd z b) 32 b M) H → va_S (pA 32 b) s.heap H locs → lv_has ls 10 [(0, .ref (b + 0)), (1, .int i1), (2, .int i2), (3, .int i3)] → W p l e rm12_lovers s m args below meth c H locs 0 0 (MQ below (va_Qi (fun (r' : Int32) (M2 : Mem) => r' = r ∧ M2 = M') (fun M2 t => va_P z.1 vwCl (pw (yd z b) 32 b M2) t.heap) (pA 32 b)) args s 0 0 (pA 32 b)) (F0 m 35 ls [])) (q82 : ∀ (i1 : Int32) (i2 : Int32) (i3 : Int32) (i4 : Int32) (i5 : Int32) (M : Mem) (H : Heap) (locs : List Loc) (ls : Array Slot), rc 82 [i1, i2, i3, i4, i5] [] M = some (r, M') → va_P z.1 vwCl (pw (yd z b) 32 b M) H → va_S (pA 32 b) s.heap H locs → lv_has ls 10 [(0, .ref (b + 0)), (1, .int i1), (2, .int i2), (3, .int i3), (4, .int i4), (5, .int i5)] → W p l e rm12_lovers s m args below meth c H locs 0 0 (MQ below (va_Qi (fun (r' : Int32) (M2 : Mem) => r' = r ∧ M2 = M') (fun M2 t => va_P z.1 vwCl (pw (yd z b) 32 b M2) t.heap) (pA 32 b)) args s 0 0 (pA 32 b)) (F0 m 82 ls [])) (q98 : ∀ (i1 : Int32) (i2 : Int32) (i3 : Int32) (i4 : Int32) (i5 : Int32) (i6 : Int32) (i7 : Int32) (i8 : Int32) (M : Mem) (H : Heap) (locs : List Loc) (ls : Array Slot), rc 98 [i1, i2, i3, i4, i5, i6, i7, i8] [] M = some (r, M') → va_P z.1 vwCl (pw (yd z b) 32 b M) H → va_S (pA 32 b) s.heap H locs → lv_has ls 10 [(0, .ref (b + 0)), (1, .int i1), (2, .int i2), (3, .int i3), (4, .int i4), (5, .int i5), (6, .int i6), (7, .int i7), (8, .int i8)] → W p l e rm12_lovers s m args below meth c H locs 0 0 (MQ below (va_Qi (fun (r' : Int32) (M2 : Mem) => r' = r ∧ M2 = M') (fun M2 t => va_P z.1 vwCl (pw (yd z b) 32 b M2) t.heap) (pA 32 b)) args s 0 0 (pA 32 b)) (F0 m 98 ls []))  {M : Mem} {H : Heap} {locs : List Loc} {ls : Array Slot} (hf : b12_lovers_26  rc n  M = some (r, M')) (hP : va_P z.1 vwCl (pw (yd z b) 32 b M) H) (hS : va_S (pA 32 b) s.heap H locs) (hl : lv_has ls 10 []) : W p l e rm12_lovers s m args below meth c H locs 0 0 (MQ below (va_Qi (fun (r' : Int32) (M2 : Mem) => r' = r ∧ M2 = M') (fun M2 t => va_P z.1 vwCl (pw (yd z b) 32 b M2) t.heap) (pA 32 b)) args s 0 0 (pA 32 b)) (F0 m 26 ls []) := by
  have hx := C.1.1
  have hb := C.1.2.1
  unfold b12_lovers_26 at hf
  refine lv_iconst (v := (-1 : Int32)) hx hb dX12_lovers_26 (by decide) ?_
  exact prI C hr hk hP hS hf dX12_lovers_27
set_option maxHeartbeats 4000000 in
set_option maxRecDepth 100000 in
theorem w12_lovers_206 {p : Program} {l : Launch} {e : Env} {s : State} {m : MethodId} {args : Array Value} {below : List Frame} {meth : Method} {c : Code} {z : Zt} {b : Nat}  (C : Cx p s m args c cX12_lovers 10 RX12 z 32 b) (hr : meth.sig.returnType = (some .int)) (hk : meth.locks = false) {r : Int32} {M' : Mem} {rc : Nat → List Int32 → List Int64 → Mem → Option (Int32 × Mem)} {n : Nat} (q35 : ∀ (i1 : Int32) (i2 : Int32) (i3 : Int32) (M : Mem) (H : Heap) (locs : List Loc) (ls : Array Slot), rc 35 [i1, i2, i3] [] M = some (r, M') → va_P z.1 vwCl (pw (yd z b) 32 b M) H → va_S (pA 32 b) s.heap H locs → lv_has ls 10 [(0, .ref (b + 0)), (1, .int i1), (2, .int i2), (3, .int i3)] → W p l e rm12_lovers s m args below meth c H locs 0 0 (MQ below (va_Qi (fun (r' : Int32) (M2 : Mem) => r' = r ∧ M2 = M') (fun M2 t => va_P z.1 vwCl (pw (yd z b) 32 b M2) t.heap) (pA 32 b)) args s 0 0 (pA 32 b)) (F0 m 35 ls [])) (q82 : ∀ (i1 : Int32) (i2 : Int32) (i3 : Int32) (i4 : Int32) (i5 : Int32) (M : Mem) (H : Heap) (locs : List Loc) (ls : Array Slot), rc 82 [i1, i2, i3, i4, i5] [] M = some (r, M') → va_P z.1 vwCl (pw (yd z b) 32 b M) H → va_S (pA 32 b) s.heap H locs → lv_has ls 10 [(0, .ref (b + 0)), (1, .int i1), (2, .int i2), (3, .int i3), (4, .int i4), (5, .int i5)] → W p l e rm12_lovers s m args below meth c H locs 0 0 (MQ below (va_Qi (fun (r' : Int32) (M2 : Mem) => r' = r ∧ M2 = M') (fun M2 t => va_P z.1 vwCl (pw (yd z b) 32 b M2) t.heap) (pA 32 b)) args s 0 0 (pA 32 b)) (F0 m 82 ls [])) (q98 : ∀ (i1 : Int32) (i2 : Int32) (i3 : Int32) (i4 : Int32) (i5 : Int32) (i6 : Int32) (i7 : Int32) (i8 : Int32) (M : Mem) (H : Heap) (locs : List Loc) (ls : Array Slot), rc 98 [i1, i2, i3, i4, i5, i6, i7, i8] [] M = some (r, M') → va_P z.1 vwCl (pw (yd z b) 32 b M) H → va_S (pA 32 b) s.heap H locs → lv_has ls 10 [(0, .ref (b + 0)), (1, .int i1), (2, .int i2), (3, .int i3), (4, .int i4), (5, .int i5), (6, .int i6), (7, .int i7), (8, .int i8)] → W p l e rm12_lovers s m args below meth c H locs 0 0 (MQ below (va_Qi (fun (r' : Int32) (M2 : Mem) => r' = r ∧ M2 = M') (fun M2 t => va_P z.1 vwCl (pw (yd z b) 32 b M2) t.heap) (pA 32 b)) args s 0 0 (pA 32 b)) (F0 m 98 ls [])) {i3 : Int32} {M : Mem} {H : Heap} {locs : List Loc} {ls : Array Slot} (hf : b12_lovers_206  rc n i3 M = some (r, M')) (hP : va_P z.1 vwCl (pw (yd z b) 32 b M) H) (hS : va_S (pA 32 b) s.heap H locs) (hl : lv_has ls 10 [(3, .int i3)]) : W p l e rm12_lovers s m args below meth c H locs 0 0 (MQ below (va_Qi (fun (r' : Int32) (M2 : Mem) => r' = r ∧ M2 = M') (fun M2 t => va_P z.1 vwCl (pw (yd z b) 32 b M2) t.heap) (pA 32 b)) args s 0 0 (pA 32 b)) (F0 m 206 ls []) := by
  have hx := C.1.1
  have hb := C.1.2.1
  unfold b12_lovers_206 at hf
  refine lv_iload_n hx hb dX12_lovers_206 rfl (lv_at hl 0 rfl) ?_
  refine lv_goto (tgt := 215) hx hb dX12_lovers_207 (by decide) ?_
  exact prI C hr hk hP hS hf dX12_lovers_215
set_option maxHeartbeats 4000000 in
set_option maxRecDepth 100000 in
theorem w12_lovers_190 {p : Program} {l : Launch} {e : Env} {s : State} {m : MethodId} {args : Array Value} {below : List Frame} {meth : Method} {c : Code} {z : Zt} {b : Nat}  (C : Cx p s m args c cX12_lovers 10 RX12 z 32 b) (hr : meth.sig.returnType = (some .int)) (hk : meth.locks = false) {r : Int32} {M' : Mem} {rc : Nat → List Int32 → List Int64 → Mem → Option (Int32 × Mem)} {n : Nat} (q35 : ∀ (i1 : Int32) (i2 : Int32) (i3 : Int32) (M : Mem) (H : Heap) (locs : List Loc) (ls : Array Slot), rc 35 [i1, i2, i3] [] M = some (r, M') → va_P z.1 vwCl (pw (yd z b) 32 b M) H → va_S (pA 32 b) s.heap H locs → lv_has ls 10 [(0, .ref (b + 0)), (1, .int i1), (2, .int i2), (3, .int i3)] → W p l e rm12_lovers s m args below meth c H locs 0 0 (MQ below (va_Qi (fun (r' : Int32) (M2 : Mem) => r' = r ∧ M2 = M') (fun M2 t => va_P z.1 vwCl (pw (yd z b) 32 b M2) t.heap) (pA 32 b)) args s 0 0 (pA 32 b)) (F0 m 35 ls [])) (q82 : ∀ (i1 : Int32) (i2 : Int32) (i3 : Int32) (i4 : Int32) (i5 : Int32) (M : Mem) (H : Heap) (locs : List Loc) (ls : Array Slot), rc 82 [i1, i2, i3, i4, i5] [] M = some (r, M') → va_P z.1 vwCl (pw (yd z b) 32 b M) H → va_S (pA 32 b) s.heap H locs → lv_has ls 10 [(0, .ref (b + 0)), (1, .int i1), (2, .int i2), (3, .int i3), (4, .int i4), (5, .int i5)] → W p l e rm12_lovers s m args below meth c H locs 0 0 (MQ below (va_Qi (fun (r' : Int32) (M2 : Mem) => r' = r ∧ M2 = M') (fun M2 t => va_P z.1 vwCl (pw (yd z b) 32 b M2) t.heap) (pA 32 b)) args s 0 0 (pA 32 b)) (F0 m 82 ls [])) (q98 : ∀ (i1 : Int32) (i2 : Int32) (i3 : Int32) (i4 : Int32) (i5 : Int32) (i6 : Int32) (i7 : Int32) (i8 : Int32) (M : Mem) (H : Heap) (locs : List Loc) (ls : Array Slot), rc 98 [i1, i2, i3, i4, i5, i6, i7, i8] [] M = some (r, M') → va_P z.1 vwCl (pw (yd z b) 32 b M) H → va_S (pA 32 b) s.heap H locs → lv_has ls 10 [(0, .ref (b + 0)), (1, .int i1), (2, .int i2), (3, .int i3), (4, .int i4), (5, .int i5), (6, .int i6), (7, .int i7), (8, .int i8)] → W p l e rm12_lovers s m args below meth c H locs 0 0 (MQ below (va_Qi (fun (r' : Int32) (M2 : Mem) => r' = r ∧ M2 = M') (fun M2 t => va_P z.1 vwCl (pw (yd z b) 32 b M2) t.heap) (pA 32 b)) args s 0 0 (pA 32 b)) (F0 m 98 ls [])) {i1 : Int32} {i2 : Int32} {i3 : Int32} {i4 : Int32} {i5 : Int32} {M : Mem} {H : Heap} {locs : List Loc} {ls : Array Slot} (hf : b12_lovers_190  rc n i1 i2 i3 i4 i5 M = some (r, M')) (hP : va_P z.1 vwCl (pw (yd z b) 32 b M) H) (hS : va_S (pA 32 b) s.heap H locs) (hl : lv_has ls 10 [(0, .ref (b + 0)), (1, .int i1), (2, .int i2), (3, .int i3), (4, .int i4), (5, .int i5)]) : W p l e rm12_lovers s m args below meth c H locs 0 0 (MQ below (va_Qi (fun (r' : Int32) (M2 : Mem) => r' = r ∧ M2 = M') (fun M2 t => va_P z.1 vwCl (pw (yd z b) 32 b M2) t.heap) (pA 32 b)) args s 0 0 (pA 32 b)) (F0 m 190 ls []) := by
  have hx := C.1.1
  have hb := C.1.2.1
  unfold b12_lovers_190 at hf
  obtain ⟨v43, ev43⟩ : ∃ v : Int32, v = i5 + (1 : Int32) := ⟨_, rfl⟩
  replace hf := lt_c ev43 hf
  refine lv_iinc (v := v43) (lv' := [(5, .int v43), (0, .ref (b + 0)), (1, .int i1), (2, .int i2), (3, .int i3), (4, .int i4)]) hx hb dX12_lovers_190 hl (k := 5) rfl (by rw [ev43]; rfl) (by decide) rfl (fun ls hl => ?_)
  refine lv_goto (tgt := 82) hx hb dX12_lovers_193 (by decide) ?_
  exact q82 i1 i2 i3 i4 v43 M _ _ _ hf hP hS (lv_sub hl [1, 2, 3, 4, 5, 0] rfl)
set_option maxHeartbeats 4000000 in
set_option maxRecDepth 100000 in
theorem w12_lovers_135 {p : Program} {l : Launch} {e : Env} {s : State} {m : MethodId} {args : Array Value} {below : List Frame} {meth : Method} {c : Code} {z : Zt} {b : Nat}  (C : Cx p s m args c cX12_lovers 10 RX12 z 32 b) (hr : meth.sig.returnType = (some .int)) (hk : meth.locks = false) {r : Int32} {M' : Mem} {rc : Nat → List Int32 → List Int64 → Mem → Option (Int32 × Mem)} {n : Nat} (q35 : ∀ (i1 : Int32) (i2 : Int32) (i3 : Int32) (M : Mem) (H : Heap) (locs : List Loc) (ls : Array Slot), rc 35 [i1, i2, i3] [] M = some (r, M') → va_P z.1 vwCl (pw (yd z b) 32 b M) H → va_S (pA 32 b) s.heap H locs → lv_has ls 10 [(0, .ref (b + 0)), (1, .int i1), (2, .int i2), (3, .int i3)] → W p l e rm12_lovers s m args below meth c H locs 0 0 (MQ below (va_Qi (fun (r' : Int32) (M2 : Mem) => r' = r ∧ M2 = M') (fun M2 t => va_P z.1 vwCl (pw (yd z b) 32 b M2) t.heap) (pA 32 b)) args s 0 0 (pA 32 b)) (F0 m 35 ls [])) (q82 : ∀ (i1 : Int32) (i2 : Int32) (i3 : Int32) (i4 : Int32) (i5 : Int32) (M : Mem) (H : Heap) (locs : List Loc) (ls : Array Slot), rc 82 [i1, i2, i3, i4, i5] [] M = some (r, M') → va_P z.1 vwCl (pw (yd z b) 32 b M) H → va_S (pA 32 b) s.heap H locs → lv_has ls 10 [(0, .ref (b + 0)), (1, .int i1), (2, .int i2), (3, .int i3), (4, .int i4), (5, .int i5)] → W p l e rm12_lovers s m args below meth c H locs 0 0 (MQ below (va_Qi (fun (r' : Int32) (M2 : Mem) => r' = r ∧ M2 = M') (fun M2 t => va_P z.1 vwCl (pw (yd z b) 32 b M2) t.heap) (pA 32 b)) args s 0 0 (pA 32 b)) (F0 m 82 ls [])) (q98 : ∀ (i1 : Int32) (i2 : Int32) (i3 : Int32) (i4 : Int32) (i5 : Int32) (i6 : Int32) (i7 : Int32) (i8 : Int32) (M : Mem) (H : Heap) (locs : List Loc) (ls : Array Slot), rc 98 [i1, i2, i3, i4, i5, i6, i7, i8] [] M = some (r, M') → va_P z.1 vwCl (pw (yd z b) 32 b M) H → va_S (pA 32 b) s.heap H locs → lv_has ls 10 [(0, .ref (b + 0)), (1, .int i1), (2, .int i2), (3, .int i3), (4, .int i4), (5, .int i5), (6, .int i6), (7, .int i7), (8, .int i8)] → W p l e rm12_lovers s m args below meth c H locs 0 0 (MQ below (va_Qi (fun (r' : Int32) (M2 : Mem) => r' = r ∧ M2 = M') (fun M2 t => va_P z.1 vwCl (pw (yd z b) 32 b M2) t.heap) (pA 32 b)) args s 0 0 (pA 32 b)) (F0 m 98 ls [])) {i1 : Int32} {i2 : Int32} {i3 : Int32} {i4 : Int32} {i5 : Int32} {i7 : Int32} {i8 : Int32} {i9 : Int32} {s0 : Int32} {s1 : Int32} {M : Mem} {H : Heap} {locs : List Loc} {ls : Array Slot} (hf : b12_lovers_135  rc n i1 i2 i3 i4 i5 i7 i8 i9 s0 s1 M = some (r, M')) (hP : va_P z.1 vwCl (pw (yd z b) 32 b M) H) (hS : va_S (pA 32 b) s.heap H locs) (hl : lv_has ls 10 [(0, .ref (b + 0)), (1, .int i1), (2, .int i2), (3, .int i3), (4, .int i4), (5, .int i5), (7, .int i7), (8, .int i8), (9, .int i9)]) : W p l e rm12_lovers s m args below meth c H locs 0 0 (MQ below (va_Qi (fun (r' : Int32) (M2 : Mem) => r' = r ∧ M2 = M') (fun M2 t => va_P z.1 vwCl (pw (yd z b) 32 b M2) t.heap) (pA 32 b)) args s 0 0 (pA 32 b)) (F0 m 135 ls [.int s1, .int s0]) := by
  have hx := C.1.1
  have hb := C.1.2.1
  unfold b12_lovers_135 at hf
  refine lv_iadd hx hb dX12_lovers_135 ?_
  refine lv_topi (fun v38 ev38 => ?_)
  replace hf := lt_c ev38 hf
  refine lv_istore (lv' := [(6, .int v38), (0, .ref (b + 0)), (1, .int i1), (2, .int i2), (3, .int i3), (4, .int i4), (5, .int i5), (7, .int i7), (8, .int i8), (9, .int i9)]) hx hb dX12_lovers_136 hl (by decide) rfl (fun ls hl => ?_)
  refine lv_iload hx hb dX12_lovers_138 (lv_at hl 7 rfl) ?_
  refine lv_iload hx hb dX12_lovers_140 (lv_at hl 9 rfl) ?_
  obtain ⟨r39, M40, h41, hf⟩ := bnd_s hf
  refine pcSi (As := [.int i7, .int i9]) C hP hS (c12_max  h41) y12_max_w g_1512 rfl rfl rfl ⟨Nat.le_of_ble_eq_true rfl, Nat.le_of_ble_eq_true rfl⟩ hl.1 rfl (Nat.le_of_ble_eq_true rfl) dX12_lovers_142 ⟨Nat.le_of_ble_eq_true rfl, Nat.le_of_ble_eq_true rfl⟩ (fun H locs hP hS => ?_)
  refine lv_istore (lv' := [(7, .int r39), (6, .int v38), (0, .ref (b + 0)), (1, .int i1), (2, .int i2), (3, .int i3), (4, .int i4), (5, .int i5), (8, .int i8), (9, .int i9)]) hx hb dX12_lovers_145 hl (by decide) rfl (fun ls hl => ?_)
  obtain ⟨v42, ev42⟩ : ∃ v : Int32, v = i8 + (1 : Int32) := ⟨_, rfl⟩
  replace hf := lt_c ev42 hf
  refine lv_iinc (v := v42) (lv' := [(8, .int v42), (7, .int r39), (6, .int v38), (0, .ref (b + 0)), (1, .int i1), (2, .int i2), (3, .int i3), (4, .int i4), (5, .int i5), (9, .int i9)]) hx hb dX12_lovers_147 hl (k := 8) rfl (by rw [ev42]; rfl) (by decide) rfl (fun ls hl => ?_)
  refine lv_goto (tgt := 98) hx hb dX12_lovers_150 (by decide) ?_
  exact q98 i1 i2 i3 i4 i5 v38 r39 v42 M40 _ _ _ hf hP hS (lv_sub hl [3, 4, 5, 6, 7, 8, 2, 1, 0] rfl)
set_option maxHeartbeats 4000000 in
set_option maxRecDepth 100000 in
theorem w12_lovers_98 {p : Program} {l : Launch} {e : Env} {s : State} {m : MethodId} {args : Array Value} {below : List Frame} {meth : Method} {c : Code} {z : Zt} {b : Nat}  (C : Cx p s m args c cX12_lovers 10 RX12 z 32 b) (hr : meth.sig.returnType = (some .int)) (hk : meth.locks = false) {r : Int32} {M' : Mem} {rc : Nat → List Int32 → List Int64 → Mem → Option (Int32 × Mem)} {n : Nat} (q35 : ∀ (i1 : Int32) (i2 : Int32) (i3 : Int32) (M : Mem) (H : Heap) (locs : List Loc) (ls : Array Slot), rc 35 [i1, i2, i3] [] M = some (r, M') → va_P z.1 vwCl (pw (yd z b) 32 b M) H → va_S (pA 32 b) s.heap H locs → lv_has ls 10 [(0, .ref (b + 0)), (1, .int i1), (2, .int i2), (3, .int i3)] → W p l e rm12_lovers s m args below meth c H locs 0 0 (MQ below (va_Qi (fun (r' : Int32) (M2 : Mem) => r' = r ∧ M2 = M') (fun M2 t => va_P z.1 vwCl (pw (yd z b) 32 b M2) t.heap) (pA 32 b)) args s 0 0 (pA 32 b)) (F0 m 35 ls [])) (q82 : ∀ (i1 : Int32) (i2 : Int32) (i3 : Int32) (i4 : Int32) (i5 : Int32) (M : Mem) (H : Heap) (locs : List Loc) (ls : Array Slot), rc 82 [i1, i2, i3, i4, i5] [] M = some (r, M') → va_P z.1 vwCl (pw (yd z b) 32 b M) H → va_S (pA 32 b) s.heap H locs → lv_has ls 10 [(0, .ref (b + 0)), (1, .int i1), (2, .int i2), (3, .int i3), (4, .int i4), (5, .int i5)] → W p l e rm12_lovers s m args below meth c H locs 0 0 (MQ below (va_Qi (fun (r' : Int32) (M2 : Mem) => r' = r ∧ M2 = M') (fun M2 t => va_P z.1 vwCl (pw (yd z b) 32 b M2) t.heap) (pA 32 b)) args s 0 0 (pA 32 b)) (F0 m 82 ls [])) (q98 : ∀ (i1 : Int32) (i2 : Int32) (i3 : Int32) (i4 : Int32) (i5 : Int32) (i6 : Int32) (i7 : Int32) (i8 : Int32) (M : Mem) (H : Heap) (locs : List Loc) (ls : Array Slot), rc 98 [i1, i2, i3, i4, i5, i6, i7, i8] [] M = some (r, M') → va_P z.1 vwCl (pw (yd z b) 32 b M) H → va_S (pA 32 b) s.heap H locs → lv_has ls 10 [(0, .ref (b + 0)), (1, .int i1), (2, .int i2), (3, .int i3), (4, .int i4), (5, .int i5), (6, .int i6), (7, .int i7), (8, .int i8)] → W p l e rm12_lovers s m args below meth c H locs 0 0 (MQ below (va_Qi (fun (r' : Int32) (M2 : Mem) => r' = r ∧ M2 = M') (fun M2 t => va_P z.1 vwCl (pw (yd z b) 32 b M2) t.heap) (pA 32 b)) args s 0 0 (pA 32 b)) (F0 m 98 ls [])) {i1 : Int32} {i2 : Int32} {i3 : Int32} {i4 : Int32} {i5 : Int32} {i6 : Int32} {i7 : Int32} {i8 : Int32} {M : Mem} {H : Heap} {locs : List Loc} {ls : Array Slot} (hf : b12_lovers_98  rc n i1 i2 i3 i4 i5 i6 i7 i8 M = some (r, M')) (hP : va_P z.1 vwCl (pw (yd z b) 32 b M) H) (hS : va_S (pA 32 b) s.heap H locs) (hl : lv_has ls 10 [(0, .ref (b + 0)), (1, .int i1), (2, .int i2), (3, .int i3), (4, .int i4), (5, .int i5), (6, .int i6), (7, .int i7), (8, .int i8)]) : W p l e rm12_lovers s m args below meth c H locs 0 0 (MQ below (va_Qi (fun (r' : Int32) (M2 : Mem) => r' = r ∧ M2 = M') (fun M2 t => va_P z.1 vwCl (pw (yd z b) 32 b M2) t.heap) (pA 32 b)) args s 0 0 (pA 32 b)) (F0 m 98 ls []) := by
  have hx := C.1.1
  have hb := C.1.2.1
  unfold b12_lovers_98 at hf
  refine lv_iload hx hb dX12_lovers_98 (lv_at hl 8 rfl) ?_
  refine lv_iload_n hx hb dX12_lovers_100 rfl (lv_at hl 1 rfl) ?_
  refine lv_icmp_ge (tgt := 153) hx hb dX12_lovers_101 (by decide) (fun c27 => ?_) (fun c27 => ?_)
  · replace hf := ite_t c27 hf
    refine lv_iload hx hb dX12_lovers_153 (lv_at hl 6 rfl) ?_
    refine lv_ldcw hx hb C.1.2.2.2.1 (C.1.2.2.2.2 _ g_1588) dX12_lovers_155 ?_
    refine lv_icmp_ge (tgt := 190) hx hb dX12_lovers_158 (by decide) (fun c28 => ?_) (fun c28 => ?_)
    · replace hf := ite_t c28 hf
      exact w12_lovers_190 (n := n)  C hr hk q35 q82 q98 hf hP hS (lv_sub hl [0, 1, 2, 3, 4, 5] rfl)
    · replace hf := ite_f c28 hf
      refine lv_bipush (v := (100 : Int32)) hx hb dX12_lovers_161 (by decide) ?_
      refine lv_iload hx hb dX12_lovers_163 (lv_at hl 6 rfl) ?_
      refine lv_imul hx hb dX12_lovers_165 ?_
      refine lv_iload hx hb dX12_lovers_166 (lv_at hl 7 rfl) ?_
      refine lv_iadd hx hb dX12_lovers_168 ?_
      refine lv_iload hx hb dX12_lovers_169 (lv_at hl 4 rfl) ?_
      refine lv_icmp_lt (tgt := 177) hx hb dX12_lovers_171 (by decide) (fun c29 => ?_) (fun c29 => ?_)
      · replace hf := ite_t c29 hf
        refine lv_bipush (v := (100 : Int32)) hx hb dX12_lovers_177 (by decide) ?_
        refine lv_iload hx hb dX12_lovers_179 (lv_at hl 6 rfl) ?_
        refine lv_imul hx hb dX12_lovers_181 ?_
        refine lv_iload hx hb dX12_lovers_182 (lv_at hl 7 rfl) ?_
        refine lv_iadd hx hb dX12_lovers_184 ?_
        refine lv_topi (fun v30 ev30 => ?_)
        replace hf := lt_c ev30 hf
        refine lv_istore (lv' := [(4, .int v30), (0, .ref (b + 0)), (1, .int i1), (2, .int i2), (3, .int i3), (5, .int i5), (6, .int i6), (7, .int i7), (8, .int i8)]) hx hb dX12_lovers_185 hl (by decide) rfl (fun ls hl => ?_)
        refine lv_iload hx hb dX12_lovers_187 (lv_at hl 5 rfl) ?_
        refine lv_istore_n (lv' := [(3, .int i5), (4, .int v30), (0, .ref (b + 0)), (1, .int i1), (2, .int i2), (5, .int i5), (6, .int i6), (7, .int i7), (8, .int i8)]) hx hb dX12_lovers_189 rfl hl (by decide) rfl (fun ls hl => ?_)
        exact w12_lovers_190 (n := n)  C hr hk q35 q82 q98 hf hP hS (lv_sub hl [2, 3, 4, 0, 1, 5] rfl)
      · replace hf := ite_f c29 hf
        refine lv_goto (tgt := 190) hx hb dX12_lovers_174 (by decide) ?_
        exact w12_lovers_190 (n := n)  C hr hk q35 q82 q98 hf hP hS (lv_sub hl [0, 1, 2, 3, 4, 5] rfl)
  · replace hf := ite_f c27 hf
    refine lv_aload_n hx hb dX12_lovers_104 rfl (lv_at hl 0 rfl) ?_
    refine lv_aload_n hx hb dX12_lovers_105 rfl (lv_at hl 0 rfl) ?_
    refine lv_iload hx hb dX12_lovers_106 (lv_at hl 8 rfl) ?_
    obtain ⟨r31, M32, h33, hf⟩ := bnd_s hf
    refine pcVi (As := [.int i8]) C hP hS (k := 0) (Nat.le_of_ble_eq_true rfl) (yd_0 _ _) rfl (c12_octet  h33) y12_octet_w g_1633 rfl rfl rfl ⟨Nat.le_of_ble_eq_true rfl, Nat.le_of_ble_eq_true rfl⟩ hl.1 rfl (Nat.le_of_ble_eq_true rfl) dX12_lovers_108 ⟨Nat.le_of_ble_eq_true rfl, Nat.le_of_ble_eq_true rfl⟩ (fun H locs hP hS => ?_)
    refine lv_iload hx hb dX12_lovers_111 (lv_at hl 5 rfl) ?_
    obtain ⟨r34, M35, h36, hf⟩ := bnd_s hf
    refine pcVi (As := [.int r31, .int i5]) C hP hS (k := 0) (Nat.le_of_ble_eq_true rfl) (yd_0 _ _) rfl (c12_steps  h36) y12_steps_w g_1475 rfl rfl rfl ⟨Nat.le_of_ble_eq_true rfl, Nat.le_of_ble_eq_true rfl⟩ hl.1 rfl (Nat.le_of_ble_eq_true rfl) dX12_lovers_113 ⟨Nat.le_of_ble_eq_true rfl, Nat.le_of_ble_eq_true rfl⟩ (fun H locs hP hS => ?_)
    refine lv_istore (lv' := [(9, .int r34), (0, .ref (b + 0)), (1, .int i1), (2, .int i2), (3, .int i3), (4, .int i4), (5, .int i5), (6, .int i6), (7, .int i7), (8, .int i8)]) hx hb dX12_lovers_116 hl (by decide) rfl (fun ls hl => ?_)
    refine lv_iload hx hb dX12_lovers_118 (lv_at hl 7 rfl) ?_
    refine lv_iload hx hb dX12_lovers_120 (lv_at hl 0 rfl) ?_
    refine lv_bipush (v := (99 : Int32)) hx hb dX12_lovers_122 (by decide) ?_
    refine lv_icmp_ne (tgt := 133) hx hb dX12_lovers_124 (by decide) (fun c37 => ?_) (fun c37 => ?_)
    · replace hf := ite_f c37 hf
      refine lv_iload hx hb dX12_lovers_133 (lv_at hl 0 rfl) ?_
      exact w12_lovers_135 (n := n)  C hr hk q35 q82 q98 hf hP hS (lv_sub hl [1, 2, 3, 4, 5, 6, 8, 9, 0] rfl)
    · replace hf := ite_t c37 hf
      refine lv_ldcw hx hb C.1.2.2.2.1 (C.1.2.2.2.2 _ g_1588) dX12_lovers_127 ?_
      refine lv_goto (tgt := 135) hx hb dX12_lovers_130 (by decide) ?_
      exact w12_lovers_135 (n := n)  C hr hk q35 q82 q98 hf hP hS (lv_sub hl [1, 2, 3, 4, 5, 6, 8, 9, 0] rfl)
set_option maxHeartbeats 4000000 in
set_option maxRecDepth 100000 in
theorem w12_lovers_82 {p : Program} {l : Launch} {e : Env} {s : State} {m : MethodId} {args : Array Value} {below : List Frame} {meth : Method} {c : Code} {z : Zt} {b : Nat}  (C : Cx p s m args c cX12_lovers 10 RX12 z 32 b) (hr : meth.sig.returnType = (some .int)) (hk : meth.locks = false) {r : Int32} {M' : Mem} {rc : Nat → List Int32 → List Int64 → Mem → Option (Int32 × Mem)} {n : Nat} (q35 : ∀ (i1 : Int32) (i2 : Int32) (i3 : Int32) (M : Mem) (H : Heap) (locs : List Loc) (ls : Array Slot), rc 35 [i1, i2, i3] [] M = some (r, M') → va_P z.1 vwCl (pw (yd z b) 32 b M) H → va_S (pA 32 b) s.heap H locs → lv_has ls 10 [(0, .ref (b + 0)), (1, .int i1), (2, .int i2), (3, .int i3)] → W p l e rm12_lovers s m args below meth c H locs 0 0 (MQ below (va_Qi (fun (r' : Int32) (M2 : Mem) => r' = r ∧ M2 = M') (fun M2 t => va_P z.1 vwCl (pw (yd z b) 32 b M2) t.heap) (pA 32 b)) args s 0 0 (pA 32 b)) (F0 m 35 ls [])) (q82 : ∀ (i1 : Int32) (i2 : Int32) (i3 : Int32) (i4 : Int32) (i5 : Int32) (M : Mem) (H : Heap) (locs : List Loc) (ls : Array Slot), rc 82 [i1, i2, i3, i4, i5] [] M = some (r, M') → va_P z.1 vwCl (pw (yd z b) 32 b M) H → va_S (pA 32 b) s.heap H locs → lv_has ls 10 [(0, .ref (b + 0)), (1, .int i1), (2, .int i2), (3, .int i3), (4, .int i4), (5, .int i5)] → W p l e rm12_lovers s m args below meth c H locs 0 0 (MQ below (va_Qi (fun (r' : Int32) (M2 : Mem) => r' = r ∧ M2 = M') (fun M2 t => va_P z.1 vwCl (pw (yd z b) 32 b M2) t.heap) (pA 32 b)) args s 0 0 (pA 32 b)) (F0 m 82 ls [])) (q98 : ∀ (i1 : Int32) (i2 : Int32) (i3 : Int32) (i4 : Int32) (i5 : Int32) (i6 : Int32) (i7 : Int32) (i8 : Int32) (M : Mem) (H : Heap) (locs : List Loc) (ls : Array Slot), rc 98 [i1, i2, i3, i4, i5, i6, i7, i8] [] M = some (r, M') → va_P z.1 vwCl (pw (yd z b) 32 b M) H → va_S (pA 32 b) s.heap H locs → lv_has ls 10 [(0, .ref (b + 0)), (1, .int i1), (2, .int i2), (3, .int i3), (4, .int i4), (5, .int i5), (6, .int i6), (7, .int i7), (8, .int i8)] → W p l e rm12_lovers s m args below meth c H locs 0 0 (MQ below (va_Qi (fun (r' : Int32) (M2 : Mem) => r' = r ∧ M2 = M') (fun M2 t => va_P z.1 vwCl (pw (yd z b) 32 b M2) t.heap) (pA 32 b)) args s 0 0 (pA 32 b)) (F0 m 98 ls [])) {i1 : Int32} {i2 : Int32} {i3 : Int32} {i4 : Int32} {i5 : Int32} {M : Mem} {H : Heap} {locs : List Loc} {ls : Array Slot} (hf : b12_lovers_82  rc n i1 i2 i3 i4 i5 M = some (r, M')) (hP : va_P z.1 vwCl (pw (yd z b) 32 b M) H) (hS : va_S (pA 32 b) s.heap H locs) (hl : lv_has ls 10 [(0, .ref (b + 0)), (1, .int i1), (2, .int i2), (3, .int i3), (4, .int i4), (5, .int i5)]) : W p l e rm12_lovers s m args below meth c H locs 0 0 (MQ below (va_Qi (fun (r' : Int32) (M2 : Mem) => r' = r ∧ M2 = M') (fun M2 t => va_P z.1 vwCl (pw (yd z b) 32 b M2) t.heap) (pA 32 b)) args s 0 0 (pA 32 b)) (F0 m 82 ls []) := by
  have hx := C.1.1
  have hb := C.1.2.1
  unfold b12_lovers_82 at hf
  refine lv_iload hx hb dX12_lovers_82 (lv_at hl 5 rfl) ?_
  refine lv_bipush (v := (96 : Int32)) hx hb dX12_lovers_84 (by decide) ?_
  refine lv_icmp_ge (tgt := 196) hx hb dX12_lovers_86 (by decide) (fun c24 => ?_) (fun c24 => ?_)
  · replace hf := ite_t c24 hf
    refine lv_iload_n hx hb dX12_lovers_196 rfl (lv_at hl 2 rfl) ?_
    refine lv_if_eq (tgt := 206) hx hb dX12_lovers_197 (by decide) (fun c25 => ?_) (fun c25 => ?_)
    · replace hf := ite_t c25 hf
      exact w12_lovers_206 (n := n)  C hr hk q35 q82 q98 hf hP hS (lv_sub hl [3] rfl)
    · replace hf := ite_f c25 hf
      refine lv_iload_n hx hb dX12_lovers_200 rfl (lv_at hl 3 rfl) ?_
      refine lv_bipush (v := (-2 : Int32)) hx hb dX12_lovers_201 (by decide) ?_
      refine lv_icmp_ne (tgt := 210) hx hb dX12_lovers_203 (by decide) (fun c26 => ?_) (fun c26 => ?_)
      · replace hf := ite_f c26 hf
        refine lv_iload hx hb dX12_lovers_210 (lv_at hl 4 rfl) ?_
        refine lv_bipush (v := (100 : Int32)) hx hb dX12_lovers_212 (by decide) ?_
        refine lv_idiv hx hb dX12_lovers_214 (by decide) ?_
        exact prI C hr hk hP hS hf dX12_lovers_215
      · replace hf := ite_t c26 hf
        exact w12_lovers_206 (n := n)  C hr hk q35 q82 q98 hf hP hS (lv_sub hl [3] rfl)
  · replace hf := ite_f c24 hf
    refine lv_iconst (v := (0 : Int32)) hx hb dX12_lovers_89 (by decide) ?_
    refine lv_istore (lv' := [(6, .int (0 : Int32)), (0, .ref (b + 0)), (1, .int i1), (2, .int i2), (3, .int i3), (4, .int i4), (5, .int i5)]) hx hb dX12_lovers_90 hl (by decide) rfl (fun ls hl => ?_)
    refine lv_iconst (v := (0 : Int32)) hx hb dX12_lovers_92 (by decide) ?_
    refine lv_istore (lv' := [(7, .int (0 : Int32)), (6, .int (0 : Int32)), (0, .ref (b + 0)), (1, .int i1), (2, .int i2), (3, .int i3), (4, .int i4), (5, .int i5)]) hx hb dX12_lovers_93 hl (by decide) rfl (fun ls hl => ?_)
    refine lv_iconst (v := (0 : Int32)) hx hb dX12_lovers_95 (by decide) ?_
    refine lv_istore (lv' := [(8, .int (0 : Int32)), (7, .int (0 : Int32)), (6, .int (0 : Int32)), (0, .ref (b + 0)), (1, .int i1), (2, .int i2), (3, .int i3), (4, .int i4), (5, .int i5)]) hx hb dX12_lovers_96 hl (by decide) rfl (fun ls hl => ?_)
    exact w12_lovers_98 (n := n)  C hr hk q35 q82 q98 hf hP hS (lv_sub hl [3, 4, 5, 6, 7, 8, 2, 1, 0] rfl)
set_option maxHeartbeats 4000000 in
set_option maxRecDepth 100000 in
theorem w12_lovers_62 {p : Program} {l : Launch} {e : Env} {s : State} {m : MethodId} {args : Array Value} {below : List Frame} {meth : Method} {c : Code} {z : Zt} {b : Nat}  (C : Cx p s m args c cX12_lovers 10 RX12 z 32 b) (hr : meth.sig.returnType = (some .int)) (hk : meth.locks = false) {r : Int32} {M' : Mem} {rc : Nat → List Int32 → List Int64 → Mem → Option (Int32 × Mem)} {n : Nat} (q35 : ∀ (i1 : Int32) (i2 : Int32) (i3 : Int32) (M : Mem) (H : Heap) (locs : List Loc) (ls : Array Slot), rc 35 [i1, i2, i3] [] M = some (r, M') → va_P z.1 vwCl (pw (yd z b) 32 b M) H → va_S (pA 32 b) s.heap H locs → lv_has ls 10 [(0, .ref (b + 0)), (1, .int i1), (2, .int i2), (3, .int i3)] → W p l e rm12_lovers s m args below meth c H locs 0 0 (MQ below (va_Qi (fun (r' : Int32) (M2 : Mem) => r' = r ∧ M2 = M') (fun M2 t => va_P z.1 vwCl (pw (yd z b) 32 b M2) t.heap) (pA 32 b)) args s 0 0 (pA 32 b)) (F0 m 35 ls [])) (q82 : ∀ (i1 : Int32) (i2 : Int32) (i3 : Int32) (i4 : Int32) (i5 : Int32) (M : Mem) (H : Heap) (locs : List Loc) (ls : Array Slot), rc 82 [i1, i2, i3, i4, i5] [] M = some (r, M') → va_P z.1 vwCl (pw (yd z b) 32 b M) H → va_S (pA 32 b) s.heap H locs → lv_has ls 10 [(0, .ref (b + 0)), (1, .int i1), (2, .int i2), (3, .int i3), (4, .int i4), (5, .int i5)] → W p l e rm12_lovers s m args below meth c H locs 0 0 (MQ below (va_Qi (fun (r' : Int32) (M2 : Mem) => r' = r ∧ M2 = M') (fun M2 t => va_P z.1 vwCl (pw (yd z b) 32 b M2) t.heap) (pA 32 b)) args s 0 0 (pA 32 b)) (F0 m 82 ls [])) (q98 : ∀ (i1 : Int32) (i2 : Int32) (i3 : Int32) (i4 : Int32) (i5 : Int32) (i6 : Int32) (i7 : Int32) (i8 : Int32) (M : Mem) (H : Heap) (locs : List Loc) (ls : Array Slot), rc 98 [i1, i2, i3, i4, i5, i6, i7, i8] [] M = some (r, M') → va_P z.1 vwCl (pw (yd z b) 32 b M) H → va_S (pA 32 b) s.heap H locs → lv_has ls 10 [(0, .ref (b + 0)), (1, .int i1), (2, .int i2), (3, .int i3), (4, .int i4), (5, .int i5), (6, .int i6), (7, .int i7), (8, .int i8)] → W p l e rm12_lovers s m args below meth c H locs 0 0 (MQ below (va_Qi (fun (r' : Int32) (M2 : Mem) => r' = r ∧ M2 = M') (fun M2 t => va_P z.1 vwCl (pw (yd z b) 32 b M2) t.heap) (pA 32 b)) args s 0 0 (pA 32 b)) (F0 m 98 ls []))  {M : Mem} {H : Heap} {locs : List Loc} {ls : Array Slot} (hf : b12_lovers_62  rc n  M = some (r, M')) (hP : va_P z.1 vwCl (pw (yd z b) 32 b M) H) (hS : va_S (pA 32 b) s.heap H locs) (hl : lv_has ls 10 []) : W p l e rm12_lovers s m args below meth c H locs 0 0 (MQ below (va_Qi (fun (r' : Int32) (M2 : Mem) => r' = r ∧ M2 = M') (fun M2 t => va_P z.1 vwCl (pw (yd z b) 32 b M2) t.heap) (pA 32 b)) args s 0 0 (pA 32 b)) (F0 m 62 ls []) := by
  have hx := C.1.1
  have hb := C.1.2.1
  unfold b12_lovers_62 at hf
  refine lv_bipush (v := (-3 : Int32)) hx hb dX12_lovers_62 (by decide) ?_
  exact prI C hr hk hP hS hf dX12_lovers_64
set_option maxHeartbeats 4000000 in
set_option maxRecDepth 100000 in
theorem w12_lovers_35 {p : Program} {l : Launch} {e : Env} {s : State} {m : MethodId} {args : Array Value} {below : List Frame} {meth : Method} {c : Code} {z : Zt} {b : Nat}  (C : Cx p s m args c cX12_lovers 10 RX12 z 32 b) (hr : meth.sig.returnType = (some .int)) (hk : meth.locks = false) {r : Int32} {M' : Mem} {rc : Nat → List Int32 → List Int64 → Mem → Option (Int32 × Mem)} {n : Nat} (q35 : ∀ (i1 : Int32) (i2 : Int32) (i3 : Int32) (M : Mem) (H : Heap) (locs : List Loc) (ls : Array Slot), rc 35 [i1, i2, i3] [] M = some (r, M') → va_P z.1 vwCl (pw (yd z b) 32 b M) H → va_S (pA 32 b) s.heap H locs → lv_has ls 10 [(0, .ref (b + 0)), (1, .int i1), (2, .int i2), (3, .int i3)] → W p l e rm12_lovers s m args below meth c H locs 0 0 (MQ below (va_Qi (fun (r' : Int32) (M2 : Mem) => r' = r ∧ M2 = M') (fun M2 t => va_P z.1 vwCl (pw (yd z b) 32 b M2) t.heap) (pA 32 b)) args s 0 0 (pA 32 b)) (F0 m 35 ls [])) (q82 : ∀ (i1 : Int32) (i2 : Int32) (i3 : Int32) (i4 : Int32) (i5 : Int32) (M : Mem) (H : Heap) (locs : List Loc) (ls : Array Slot), rc 82 [i1, i2, i3, i4, i5] [] M = some (r, M') → va_P z.1 vwCl (pw (yd z b) 32 b M) H → va_S (pA 32 b) s.heap H locs → lv_has ls 10 [(0, .ref (b + 0)), (1, .int i1), (2, .int i2), (3, .int i3), (4, .int i4), (5, .int i5)] → W p l e rm12_lovers s m args below meth c H locs 0 0 (MQ below (va_Qi (fun (r' : Int32) (M2 : Mem) => r' = r ∧ M2 = M') (fun M2 t => va_P z.1 vwCl (pw (yd z b) 32 b M2) t.heap) (pA 32 b)) args s 0 0 (pA 32 b)) (F0 m 82 ls [])) (q98 : ∀ (i1 : Int32) (i2 : Int32) (i3 : Int32) (i4 : Int32) (i5 : Int32) (i6 : Int32) (i7 : Int32) (i8 : Int32) (M : Mem) (H : Heap) (locs : List Loc) (ls : Array Slot), rc 98 [i1, i2, i3, i4, i5, i6, i7, i8] [] M = some (r, M') → va_P z.1 vwCl (pw (yd z b) 32 b M) H → va_S (pA 32 b) s.heap H locs → lv_has ls 10 [(0, .ref (b + 0)), (1, .int i1), (2, .int i2), (3, .int i3), (4, .int i4), (5, .int i5), (6, .int i6), (7, .int i7), (8, .int i8)] → W p l e rm12_lovers s m args below meth c H locs 0 0 (MQ below (va_Qi (fun (r' : Int32) (M2 : Mem) => r' = r ∧ M2 = M') (fun M2 t => va_P z.1 vwCl (pw (yd z b) 32 b M2) t.heap) (pA 32 b)) args s 0 0 (pA 32 b)) (F0 m 98 ls [])) {i1 : Int32} {i2 : Int32} {i3 : Int32} {M : Mem} {H : Heap} {locs : List Loc} {ls : Array Slot} (hf : b12_lovers_35  rc n i1 i2 i3 M = some (r, M')) (hP : va_P z.1 vwCl (pw (yd z b) 32 b M) H) (hS : va_S (pA 32 b) s.heap H locs) (hl : lv_has ls 10 [(0, .ref (b + 0)), (1, .int i1), (2, .int i2), (3, .int i3)]) : W p l e rm12_lovers s m args below meth c H locs 0 0 (MQ below (va_Qi (fun (r' : Int32) (M2 : Mem) => r' = r ∧ M2 = M') (fun M2 t => va_P z.1 vwCl (pw (yd z b) 32 b M2) t.heap) (pA 32 b)) args s 0 0 (pA 32 b)) (F0 m 35 ls []) := by
  have hx := C.1.1
  have hb := C.1.2.1
  unfold b12_lovers_35 at hf
  refine lv_iload_n hx hb dX12_lovers_35 rfl (lv_at hl 3 rfl) ?_
  refine lv_iload_n hx hb dX12_lovers_36 rfl (lv_at hl 1 rfl) ?_
  refine lv_icmp_ge (tgt := 71) hx hb dX12_lovers_37 (by decide) (fun c11 => ?_) (fun c11 => ?_)
  · replace hf := ite_t c11 hf
    refine lv_bipush (v := (-2 : Int32)) hx hb dX12_lovers_71 (by decide) ?_
    refine lv_istore_n (lv' := [(3, .int (-2 : Int32)), (0, .ref (b + 0)), (1, .int i1), (2, .int i2)]) hx hb dX12_lovers_73 rfl hl (by decide) rfl (fun ls hl => ?_)
    refine lv_ldcw hx hb C.1.2.2.2.1 (C.1.2.2.2.2 _ g_1588) dX12_lovers_74 ?_
    refine lv_istore (lv' := [(4, .int (1000000 : Int32)), (3, .int (-2 : Int32)), (0, .ref (b + 0)), (1, .int i1), (2, .int i2)]) hx hb dX12_lovers_77 hl (by decide) rfl (fun ls hl => ?_)
    refine lv_iconst (v := (0 : Int32)) hx hb dX12_lovers_79 (by decide) ?_
    refine lv_istore (lv' := [(5, .int (0 : Int32)), (4, .int (1000000 : Int32)), (3, .int (-2 : Int32)), (0, .ref (b + 0)), (1, .int i1), (2, .int i2)]) hx hb dX12_lovers_80 hl (by decide) rfl (fun ls hl => ?_)
    exact w12_lovers_82 (n := n)  C hr hk q35 q82 q98 hf hP hS (lv_sub hl [3, 4, 5, 2, 1, 0] rfl)
  · replace hf := ite_f c11 hf
    refine lv_aload_n hx hb dX12_lovers_40 rfl (lv_at hl 0 rfl) ?_
    refine lv_iload_n hx hb dX12_lovers_41 rfl (lv_at hl 3 rfl) ?_
    obtain ⟨r12, M13, h14, hf⟩ := bnd_s hf
    refine pcVi (As := [.int i3]) C hP hS (k := 0) (Nat.le_of_ble_eq_true rfl) (yd_0 _ _) rfl (c12_octet  h14) y12_octet_w g_1633 rfl rfl rfl ⟨Nat.le_of_ble_eq_true rfl, Nat.le_of_ble_eq_true rfl⟩ hl.1 rfl (Nat.le_of_ble_eq_true rfl) dX12_lovers_42 ⟨Nat.le_of_ble_eq_true rfl, Nat.le_of_ble_eq_true rfl⟩ (fun H locs hP hS => ?_)
    refine lv_bipush (v := (96 : Int32)) hx hb dX12_lovers_45 (by decide) ?_
    refine lv_icmp_ge (tgt := 62) hx hb dX12_lovers_47 (by decide) (fun c15 => ?_) (fun c15 => ?_)
    · replace hf := ite_t c15 hf
      exact w12_lovers_62 (n := n)  C hr hk q35 q82 q98 hf hP hS (lv_sub hl [] rfl)
    · replace hf := ite_f c15 hf
      refine lv_aload_n hx hb dX12_lovers_50 rfl (lv_at hl 0 rfl) ?_
      refine lv_aload_n hx hb dX12_lovers_51 rfl (lv_at hl 0 rfl) ?_
      refine lv_iload_n hx hb dX12_lovers_52 rfl (lv_at hl 3 rfl) ?_
      obtain ⟨r16, M17, h18, hf⟩ := bnd_s hf
      refine pcVi (As := [.int i3]) C hP hS (k := 0) (Nat.le_of_ble_eq_true rfl) (yd_0 _ _) rfl (c12_octet  h18) y12_octet_w g_1633 rfl rfl rfl ⟨Nat.le_of_ble_eq_true rfl, Nat.le_of_ble_eq_true rfl⟩ hl.1 rfl (Nat.le_of_ble_eq_true rfl) dX12_lovers_53 ⟨Nat.le_of_ble_eq_true rfl, Nat.le_of_ble_eq_true rfl⟩ (fun H locs hP hS => ?_)
      obtain ⟨r19, M20, h21, hf⟩ := bnd_s hf
      refine pcVi (As := [.int r16]) C hP hS (k := 0) (Nat.le_of_ble_eq_true rfl) (yd_0 _ _) rfl (c12_isOpen  h21) y12_isOpen_w g_1483 rfl rfl rfl ⟨Nat.le_of_ble_eq_true rfl, Nat.le_of_ble_eq_true rfl⟩ hl.1 rfl (Nat.le_of_ble_eq_true rfl) dX12_lovers_56 ⟨Nat.le_of_ble_eq_true rfl, Nat.le_of_ble_eq_true rfl⟩ (fun H locs hP hS => ?_)
      refine lv_if_ne (tgt := 65) hx hb dX12_lovers_59 (by decide) (fun c22 => ?_) (fun c22 => ?_)
      · replace hf := ite_f c22 hf
        obtain ⟨v23, ev23⟩ : ∃ v : Int32, v = i3 + (1 : Int32) := ⟨_, rfl⟩
        replace hf := lt_c ev23 hf
        refine lv_iinc (v := v23) (lv' := [(3, .int v23), (0, .ref (b + 0)), (1, .int i1), (2, .int i2)]) hx hb dX12_lovers_65 hl (k := 3) rfl (by rw [ev23]; rfl) (by decide) rfl (fun ls hl => ?_)
        refine lv_goto (tgt := 35) hx hb dX12_lovers_68 (by decide) ?_
        exact q35 i1 i2 v23 M20 _ _ _ hf hP hS (lv_sub hl [1, 2, 3, 0] rfl)
      · replace hf := ite_t c22 hf
        exact w12_lovers_62 (n := n)  C hr hk q35 q82 q98 hf hP hS (lv_sub hl [] rfl)
set_option maxHeartbeats 4000000 in
set_option maxRecDepth 100000 in
theorem w12_lovers_0 {p : Program} {l : Launch} {e : Env} {s : State} {m : MethodId} {args : Array Value} {below : List Frame} {meth : Method} {c : Code} {z : Zt} {b : Nat}  (C : Cx p s m args c cX12_lovers 10 RX12 z 32 b) (hr : meth.sig.returnType = (some .int)) (hk : meth.locks = false) {r : Int32} {M' : Mem} {rc : Nat → List Int32 → List Int64 → Mem → Option (Int32 × Mem)} {n : Nat} (q35 : ∀ (i1 : Int32) (i2 : Int32) (i3 : Int32) (M : Mem) (H : Heap) (locs : List Loc) (ls : Array Slot), rc 35 [i1, i2, i3] [] M = some (r, M') → va_P z.1 vwCl (pw (yd z b) 32 b M) H → va_S (pA 32 b) s.heap H locs → lv_has ls 10 [(0, .ref (b + 0)), (1, .int i1), (2, .int i2), (3, .int i3)] → W p l e rm12_lovers s m args below meth c H locs 0 0 (MQ below (va_Qi (fun (r' : Int32) (M2 : Mem) => r' = r ∧ M2 = M') (fun M2 t => va_P z.1 vwCl (pw (yd z b) 32 b M2) t.heap) (pA 32 b)) args s 0 0 (pA 32 b)) (F0 m 35 ls [])) (q82 : ∀ (i1 : Int32) (i2 : Int32) (i3 : Int32) (i4 : Int32) (i5 : Int32) (M : Mem) (H : Heap) (locs : List Loc) (ls : Array Slot), rc 82 [i1, i2, i3, i4, i5] [] M = some (r, M') → va_P z.1 vwCl (pw (yd z b) 32 b M) H → va_S (pA 32 b) s.heap H locs → lv_has ls 10 [(0, .ref (b + 0)), (1, .int i1), (2, .int i2), (3, .int i3), (4, .int i4), (5, .int i5)] → W p l e rm12_lovers s m args below meth c H locs 0 0 (MQ below (va_Qi (fun (r' : Int32) (M2 : Mem) => r' = r ∧ M2 = M') (fun M2 t => va_P z.1 vwCl (pw (yd z b) 32 b M2) t.heap) (pA 32 b)) args s 0 0 (pA 32 b)) (F0 m 82 ls [])) (q98 : ∀ (i1 : Int32) (i2 : Int32) (i3 : Int32) (i4 : Int32) (i5 : Int32) (i6 : Int32) (i7 : Int32) (i8 : Int32) (M : Mem) (H : Heap) (locs : List Loc) (ls : Array Slot), rc 98 [i1, i2, i3, i4, i5, i6, i7, i8] [] M = some (r, M') → va_P z.1 vwCl (pw (yd z b) 32 b M) H → va_S (pA 32 b) s.heap H locs → lv_has ls 10 [(0, .ref (b + 0)), (1, .int i1), (2, .int i2), (3, .int i3), (4, .int i4), (5, .int i5), (6, .int i6), (7, .int i7), (8, .int i8)] → W p l e rm12_lovers s m args below meth c H locs 0 0 (MQ below (va_Qi (fun (r' : Int32) (M2 : Mem) => r' = r ∧ M2 = M') (fun M2 t => va_P z.1 vwCl (pw (yd z b) 32 b M2) t.heap) (pA 32 b)) args s 0 0 (pA 32 b)) (F0 m 98 ls [])) {a1 : Int32} {a2 : Int32} {M : Mem} {H : Heap} {locs : List Loc} {ls : Array Slot} (hf : b12_lovers_0  rc n a1 a2 M = some (r, M')) (hP : va_P z.1 vwCl (pw (yd z b) 32 b M) H) (hS : va_S (pA 32 b) s.heap H locs) (hl : lv_has ls 10 [(0, .ref (b + 0)), (1, .int a1), (2, .int a2)]) : W p l e rm12_lovers s m args below meth c H locs 0 0 (MQ below (va_Qi (fun (r' : Int32) (M2 : Mem) => r' = r ∧ M2 = M') (fun M2 t => va_P z.1 vwCl (pw (yd z b) 32 b M2) t.heap) (pA 32 b)) args s 0 0 (pA 32 b)) (F0 m 0 ls []) := by
  have hx := C.1.1
  have hb := C.1.2.1
  unfold b12_lovers_0 at hf
  refine lv_iload_n hx hb dX12_lovers_0 rfl (lv_at hl 1 rfl) ?_
  refine lv_iconst (v := (2 : Int32)) hx hb dX12_lovers_1 (by decide) ?_
  refine lv_iconst (v := (4 : Int32)) hx hb dX12_lovers_2 (by decide) ?_
  obtain ⟨r1, M2, h3, hf⟩ := bnd_s hf
  refine pcSi (As := [.int a1, .int (2 : Int32), .int (4 : Int32)]) C hP hS (c12_in  h3) y12_in_w g_1306 rfl rfl rfl ⟨Nat.le_of_ble_eq_true rfl, Nat.le_of_ble_eq_true rfl⟩ hl.1 rfl (Nat.le_of_ble_eq_true rfl) dX12_lovers_3 ⟨Nat.le_of_ble_eq_true rfl, Nat.le_of_ble_eq_true rfl⟩ (fun H locs hP hS => ?_)
  refine lv_if_eq (tgt := 26) hx hb dX12_lovers_6 (by decide) (fun c4 => ?_) (fun c4 => ?_)
  · replace hf := ite_t c4 hf
    exact w12_lovers_26 (n := n)  C hr hk q35 q82 q98 hf hP hS (lv_sub hl [] rfl)
  · replace hf := ite_f c4 hf
    refine lv_iload_n hx hb dX12_lovers_9 rfl (lv_at hl 2 rfl) ?_
    refine lv_iconst (v := (0 : Int32)) hx hb dX12_lovers_10 (by decide) ?_
    refine lv_iconst (v := (1 : Int32)) hx hb dX12_lovers_11 (by decide) ?_
    obtain ⟨r5, M6, h7, hf⟩ := bnd_s hf
    refine pcSi (As := [.int a2, .int (0 : Int32), .int (1 : Int32)]) C hP hS (c12_in  h7) y12_in_w g_1306 rfl rfl rfl ⟨Nat.le_of_ble_eq_true rfl, Nat.le_of_ble_eq_true rfl⟩ hl.1 rfl (Nat.le_of_ble_eq_true rfl) dX12_lovers_12 ⟨Nat.le_of_ble_eq_true rfl, Nat.le_of_ble_eq_true rfl⟩ (fun H locs hP hS => ?_)
    refine lv_if_eq (tgt := 26) hx hb dX12_lovers_15 (by decide) (fun c8 => ?_) (fun c8 => ?_)
    · replace hf := ite_t c8 hf
      exact w12_lovers_26 (n := n)  C hr hk q35 q82 q98 hf hP hS (lv_sub hl [] rfl)
    · replace hf := ite_f c8 hf
      refine lv_iload_n hx hb dX12_lovers_18 rfl (lv_at hl 1 rfl) ?_
      refine lv_aload_n hx hb dX12_lovers_19 rfl (lv_at hl 0 rfl) ?_
      refine pg C hP (k := 0) (j := 11) (Nat.le_of_ble_eq_true rfl) (yd_0 _ _) rfl iw_12 (Nat.le_of_ble_eq_true rfl) g_1146 rfl rfl dX12_lovers_20 ?_
      refine lv_icmp_le (tgt := 28) hx hb dX12_lovers_23 (by decide) (fun c9 => ?_) (fun c9 => ?_)
      · replace hf := ite_t c9 hf
        refine lv_aload_n hx hb dX12_lovers_28 rfl (lv_at hl 0 rfl) ?_
        refine lv_iconst (v := (0 : Int32)) hx hb dX12_lovers_29 (by decide) ?_
        refine ppI C hP hS (k := 0) (j := 11) (ty := .int) (Nat.le_of_ble_eq_true rfl) (yd_0 _ _) rfl iw_12 tyX12 tyX12_ok nmX12 (Nat.le_of_ble_eq_true rfl) g_1146 rfl rfl (by decide +kernel) rfl rfl (Nat.le_of_ble_eq_true rfl) (yu_0_11 _ _ _) dX12_lovers_30 (fun M10 H locs eM10 hP hS => ?_)
        replace hf := lt_c eM10 hf
        refine lv_iconst (v := (0 : Int32)) hx hb dX12_lovers_33 (by decide) ?_
        refine lv_istore_n (lv' := [(3, .int (0 : Int32)), (0, .ref (b + 0)), (1, .int a1), (2, .int a2)]) hx hb dX12_lovers_34 rfl hl (by decide) rfl (fun ls hl => ?_)
        exact w12_lovers_35 (n := n)  C hr hk q35 q82 q98 hf hP hS (lv_sub hl [1, 2, 3, 0] rfl)
      · replace hf := ite_f c9 hf
        exact w12_lovers_26 (n := n)  C hr hk q35 q82 q98 hf hP hS (lv_sub hl [] rfl)
set_option maxHeartbeats 4000000 in
set_option maxRecDepth 100000 in
theorem l12_lovers {p : Program} {l : Launch} {e : Env} {s : State} {m : MethodId} {args : Array Value} {below : List Frame} {meth : Method} {c : Code} {z : Zt} {b : Nat}  (C : Cx p s m args c cX12_lovers 10 RX12 z 32 b) (hr : meth.sig.returnType = (some .int)) (hk : meth.locks = false) {r : Int32} {M' : Mem} (n : Nat) : (∀ (i1 : Int32) (i2 : Int32) (i3 : Int32) (M : Mem) (H : Heap) (locs : List Loc) (ls : Array Slot), (r12_lovers  n) 35 [i1, i2, i3] [] M = some (r, M') → va_P z.1 vwCl (pw (yd z b) 32 b M) H → va_S (pA 32 b) s.heap H locs → lv_has ls 10 [(0, .ref (b + 0)), (1, .int i1), (2, .int i2), (3, .int i3)] → W p l e rm12_lovers s m args below meth c H locs 0 0 (MQ below (va_Qi (fun (r' : Int32) (M2 : Mem) => r' = r ∧ M2 = M') (fun M2 t => va_P z.1 vwCl (pw (yd z b) 32 b M2) t.heap) (pA 32 b)) args s 0 0 (pA 32 b)) (F0 m 35 ls [])) ∧ (∀ (i1 : Int32) (i2 : Int32) (i3 : Int32) (i4 : Int32) (i5 : Int32) (M : Mem) (H : Heap) (locs : List Loc) (ls : Array Slot), (r12_lovers  n) 82 [i1, i2, i3, i4, i5] [] M = some (r, M') → va_P z.1 vwCl (pw (yd z b) 32 b M) H → va_S (pA 32 b) s.heap H locs → lv_has ls 10 [(0, .ref (b + 0)), (1, .int i1), (2, .int i2), (3, .int i3), (4, .int i4), (5, .int i5)] → W p l e rm12_lovers s m args below meth c H locs 0 0 (MQ below (va_Qi (fun (r' : Int32) (M2 : Mem) => r' = r ∧ M2 = M') (fun M2 t => va_P z.1 vwCl (pw (yd z b) 32 b M2) t.heap) (pA 32 b)) args s 0 0 (pA 32 b)) (F0 m 82 ls [])) ∧ (∀ (i1 : Int32) (i2 : Int32) (i3 : Int32) (i4 : Int32) (i5 : Int32) (i6 : Int32) (i7 : Int32) (i8 : Int32) (M : Mem) (H : Heap) (locs : List Loc) (ls : Array Slot), (r12_lovers  n) 98 [i1, i2, i3, i4, i5, i6, i7, i8] [] M = some (r, M') → va_P z.1 vwCl (pw (yd z b) 32 b M) H → va_S (pA 32 b) s.heap H locs → lv_has ls 10 [(0, .ref (b + 0)), (1, .int i1), (2, .int i2), (3, .int i3), (4, .int i4), (5, .int i5), (6, .int i6), (7, .int i7), (8, .int i8)] → W p l e rm12_lovers s m args below meth c H locs 0 0 (MQ below (va_Qi (fun (r' : Int32) (M2 : Mem) => r' = r ∧ M2 = M') (fun M2 t => va_P z.1 vwCl (pw (yd z b) 32 b M2) t.heap) (pA 32 b)) args s 0 0 (pA 32 b)) (F0 m 98 ls [])) := by
  induction n with
  | zero => exact ⟨fun _ _ _ _ _ _ _ hf => (by cases hf), fun _ _ _ _ _ _ _ _ _ hf => (by cases hf), fun _ _ _ _ _ _ _ _ _ _ _ _ hf => (by cases hf)⟩
  | succ n ih => exact ⟨fun _ _ _ _ _ _ _ hf hP hS hl => w12_lovers_35 (n := n)  C hr hk ih.1 ih.2.1 ih.2.2 ((e12_lovers_35  n _ _ _ _).symm.trans hf) hP hS hl, fun _ _ _ _ _ _ _ _ _ hf hP hS hl => w12_lovers_82 (n := n)  C hr hk ih.1 ih.2.1 ih.2.2 ((e12_lovers_82  n _ _ _ _ _ _).symm.trans hf) hP hS hl, fun _ _ _ _ _ _ _ _ _ _ _ _ hf hP hS hl => w12_lovers_98 (n := n)  C hr hk ih.1 ih.2.1 ih.2.2 ((e12_lovers_98  n _ _ _ _ _ _ _ _ _).symm.trans hf) hP hS hl⟩
theorem c12_lovers {l : Launch} {z : Zt} {b n : Nat}  {a1 : Int32} {a2 : Int32} {M M' : Mem} {r : Int32} (hf : f12_lovers n  a1 a2 M = some (r, M')) : CI l z (yd z b) 32 b yX12_lovers cX12_lovers 10 (some .int) rm12_lovers [.ref (b + 0), .int a1, .int a2] M M' r :=
  CI.ofW (lv := [(0, .ref (b + 0)), (1, .int a1), (2, .int a2)]) (by decide) (Nat.le_of_ble_eq_true rfl) rfl (fun p e s m args below meth c ls C hr hk hP hS hl => w12_lovers_0 (n := n)  C hr hk (l12_lovers  C hr hk n).1 (l12_lovers  C hr hk n).2.1 (l12_lovers  C hr hk n).2.2 hf hP hS hl)

-- BronzeKingModel.laysNear()V
theorem dX12_laysNear_0 : decode cX12_laysNear 0 = .ok (.iconst 0, 1) := by decide +kernel
theorem dX12_laysNear_1 : decode cX12_laysNear 1 = .ok (.istore_n 1, 1) := by decide +kernel
theorem dX12_laysNear_2 : decode cX12_laysNear 2 = .ok (.iload_n 1, 1) := by decide +kernel
theorem dX12_laysNear_3 : decode cX12_laysNear 3 = .ok (.bipush 96, 2) := by decide +kernel
theorem dX12_laysNear_5 : decode cX12_laysNear 5 = .ok (.if_icmp .ge 105, 3) := by decide +kernel
theorem dX12_laysNear_8 : decode cX12_laysNear 8 = .ok (.aload_n 0, 1) := by decide +kernel
theorem dX12_laysNear_9 : decode cX12_laysNear 9 = .ok (.getfield 96, 3) := by decide +kernel
theorem dX12_laysNear_12 : decode cX12_laysNear 12 = .ok (.iload_n 1, 1) := by decide +kernel
theorem dX12_laysNear_13 : decode cX12_laysNear 13 = .ok (.lconst 0, 1) := by decide +kernel
theorem dX12_laysNear_14 : decode cX12_laysNear 14 = .ok (.lastore, 1) := by decide +kernel
theorem dX12_laysNear_15 : decode cX12_laysNear 15 = .ok (.aload_n 0, 1) := by decide +kernel
theorem dX12_laysNear_16 : decode cX12_laysNear 16 = .ok (.getfield 100, 3) := by decide +kernel
theorem dX12_laysNear_19 : decode cX12_laysNear 19 = .ok (.iload_n 1, 1) := by decide +kernel
theorem dX12_laysNear_20 : decode cX12_laysNear 20 = .ok (.lconst 0, 1) := by decide +kernel
theorem dX12_laysNear_21 : decode cX12_laysNear 21 = .ok (.lastore, 1) := by decide +kernel
theorem dX12_laysNear_22 : decode cX12_laysNear 22 = .ok (.iconst 0, 1) := by decide +kernel
theorem dX12_laysNear_23 : decode cX12_laysNear 23 = .ok (.istore_n 2, 1) := by decide +kernel
theorem dX12_laysNear_24 : decode cX12_laysNear 24 = .ok (.iload_n 2, 1) := by decide +kernel
theorem dX12_laysNear_25 : decode cX12_laysNear 25 = .ok (.bipush 96, 2) := by decide +kernel
theorem dX12_laysNear_27 : decode cX12_laysNear 27 = .ok (.if_icmp .ge 77, 3) := by decide +kernel
theorem dX12_laysNear_30 : decode cX12_laysNear 30 = .ok (.aload_n 0, 1) := by decide +kernel
theorem dX12_laysNear_31 : decode cX12_laysNear 31 = .ok (.getfield 7, 3) := by decide +kernel
theorem dX12_laysNear_34 : decode cX12_laysNear 34 = .ok (.iconst 0, 1) := by decide +kernel
theorem dX12_laysNear_35 : decode cX12_laysNear 35 = .ok (.iload_n 2, 1) := by decide +kernel
theorem dX12_laysNear_36 : decode cX12_laysNear 36 = .ok (.iadd, 1) := by decide +kernel
theorem dX12_laysNear_37 : decode cX12_laysNear 37 = .ok (.iaload, 1) := by decide +kernel
theorem dX12_laysNear_38 : decode cX12_laysNear 38 = .ok (.ifCond .eq 60, 3) := by decide +kernel
theorem dX12_laysNear_41 : decode cX12_laysNear 41 = .ok (.aload_n 0, 1) := by decide +kernel
theorem dX12_laysNear_42 : decode cX12_laysNear 42 = .ok (.iload_n 1, 1) := by decide +kernel
theorem dX12_laysNear_43 : decode cX12_laysNear 43 = .ok (.iload_n 2, 1) := by decide +kernel
theorem dX12_laysNear_44 : decode cX12_laysNear 44 = .ok (.invokevirtual 134, 3) := by decide +kernel
theorem dX12_laysNear_47 : decode cX12_laysNear 47 = .ok (.iconst 2, 1) := by decide +kernel
theorem dX12_laysNear_48 : decode cX12_laysNear 48 = .ok (.if_icmp .le 6, 3) := by decide +kernel
theorem dX12_laysNear_51 : decode cX12_laysNear 51 = .ok (.goto 47, 3) := by decide +kernel
theorem dX12_laysNear_54 : decode cX12_laysNear 54 = .ok (.iload_n 2, 1) := by decide +kernel
theorem dX12_laysNear_55 : decode cX12_laysNear 55 = .ok (.bipush 48, 2) := by decide +kernel
theorem dX12_laysNear_57 : decode cX12_laysNear 57 = .ok (.if_icmp .ge 22, 3) := by decide +kernel
theorem dX12_laysNear_60 : decode cX12_laysNear 60 = .ok (.aload_n 0, 1) := by decide +kernel
theorem dX12_laysNear_61 : decode cX12_laysNear 61 = .ok (.getfield 96, 3) := by decide +kernel
theorem dX12_laysNear_64 : decode cX12_laysNear 64 = .ok (.iload_n 1, 1) := by decide +kernel
theorem dX12_laysNear_65 : decode cX12_laysNear 65 = .ok (.aload_n 0, 1) := by decide +kernel
theorem dX12_laysNear_66 : decode cX12_laysNear 66 = .ok (.getfield 96, 3) := by decide +kernel
theorem dX12_laysNear_69 : decode cX12_laysNear 69 = .ok (.iload_n 1, 1) := by decide +kernel
theorem dX12_laysNear_70 : decode cX12_laysNear 70 = .ok (.laload, 1) := by decide +kernel
theorem dX12_laysNear_71 : decode cX12_laysNear 71 = .ok (.lconst 1, 1) := by decide +kernel
theorem dX12_laysNear_72 : decode cX12_laysNear 72 = .ok (.iload_n 2, 1) := by decide +kernel
theorem dX12_laysNear_73 : decode cX12_laysNear 73 = .ok (.lshl, 1) := by decide +kernel
theorem dX12_laysNear_74 : decode cX12_laysNear 74 = .ok (.lor, 1) := by decide +kernel
theorem dX12_laysNear_75 : decode cX12_laysNear 75 = .ok (.lastore, 1) := by decide +kernel
theorem dX12_laysNear_76 : decode cX12_laysNear 76 = .ok (.goto 22, 3) := by decide +kernel
theorem dX12_laysNear_79 : decode cX12_laysNear 79 = .ok (.aload_n 0, 1) := by decide +kernel
theorem dX12_laysNear_80 : decode cX12_laysNear 80 = .ok (.getfield 100, 3) := by decide +kernel
theorem dX12_laysNear_83 : decode cX12_laysNear 83 = .ok (.iload_n 1, 1) := by decide +kernel
theorem dX12_laysNear_84 : decode cX12_laysNear 84 = .ok (.aload_n 0, 1) := by decide +kernel
theorem dX12_laysNear_85 : decode cX12_laysNear 85 = .ok (.getfield 100, 3) := by decide +kernel
theorem dX12_laysNear_88 : decode cX12_laysNear 88 = .ok (.iload_n 1, 1) := by decide +kernel
theorem dX12_laysNear_89 : decode cX12_laysNear 89 = .ok (.laload, 1) := by decide +kernel
theorem dX12_laysNear_90 : decode cX12_laysNear 90 = .ok (.lconst 1, 1) := by decide +kernel
theorem dX12_laysNear_91 : decode cX12_laysNear 91 = .ok (.iload_n 2, 1) := by decide +kernel
theorem dX12_laysNear_92 : decode cX12_laysNear 92 = .ok (.bipush 48, 2) := by decide +kernel
theorem dX12_laysNear_94 : decode cX12_laysNear 94 = .ok (.isub, 1) := by decide +kernel
theorem dX12_laysNear_95 : decode cX12_laysNear 95 = .ok (.lshl, 1) := by decide +kernel
theorem dX12_laysNear_96 : decode cX12_laysNear 96 = .ok (.lor, 1) := by decide +kernel
theorem dX12_laysNear_97 : decode cX12_laysNear 97 = .ok (.lastore, 1) := by decide +kernel
theorem dX12_laysNear_98 : decode cX12_laysNear 98 = .ok (.iinc 2 1, 3) := by decide +kernel
theorem dX12_laysNear_101 : decode cX12_laysNear 101 = .ok (.goto (-77), 3) := by decide +kernel
theorem dX12_laysNear_104 : decode cX12_laysNear 104 = .ok (.iinc 1 1, 3) := by decide +kernel
theorem dX12_laysNear_107 : decode cX12_laysNear 107 = .ok (.goto (-105), 3) := by decide +kernel
theorem dX12_laysNear_110 : decode cX12_laysNear 110 = .ok (.return_, 1) := by decide +kernel
def b12_laysNear_98 (rc : Nat → List Int32 → List Int64 → Mem → Option (Unit × Mem)) (n : Nat) (i1 : Int32) (i2 : Int32) (M : Mem) : Option (Unit × Mem) :=
  lt (i2 + (1 : Int32)) fun v21 =>
  rc 24 [i1, v21] [] M
def b12_laysNear_24 (rc : Nat → List Int32 → List Int64 → Mem → Option (Unit × Mem)) (n : Nat) (i1 : Int32) (i2 : Int32) (M : Mem) : Option (Unit × Mem) :=
  (if (96 : Int32) ≤ i2 then (
   lt (i1 + (1 : Int32)) fun v7 =>
   rc 2 [v7] [] M)
  else (
   chk (inb ((0 : Int32) + i2) 162) <|
   (if (M.1 1 ((0 : Int32) + i2).toNatClampNeg) = 0 then (
    b12_laysNear_98  rc n i1 i2 M)
   else (
    bnd (f12_steps n i1 i2 M) fun r10 M11 =>
    (if r10 ≤ (2 : Int32) then (
     (if (48 : Int32) ≤ i2 then (
      chk (inb i1 96) <|
      chk (inb i1 96) <|
      lt (wJ M11 30 i1.toNatClampNeg ((M11.2 30 i1.toNatClampNeg) ||| ((1 : Int64) <<< ((i2 - (48 : Int32)).toInt64 &&& 63)))) fun M17 =>
      b12_laysNear_98  rc n i1 i2 M17)
     else (
      chk (inb i1 96) <|
      chk (inb i1 96) <|
      lt (wJ M11 29 i1.toNatClampNeg ((M11.2 29 i1.toNatClampNeg) ||| ((1 : Int64) <<< (i2.toInt64 &&& 63)))) fun M20 =>
      b12_laysNear_98  rc n i1 i2 M20)))
    else (
     b12_laysNear_98  rc n i1 i2 M11))))))
def b12_laysNear_2 (rc : Nat → List Int32 → List Int64 → Mem → Option (Unit × Mem)) (n : Nat) (i1 : Int32) (M : Mem) : Option (Unit × Mem) :=
  (if (96 : Int32) ≤ i1 then (
   some ((), M))
  else (
   chk (inb i1 96) <|
   lt (wJ M 29 i1.toNatClampNeg (0 : Int64)) fun M3 =>
   chk (inb i1 96) <|
   lt (wJ M3 30 i1.toNatClampNeg (0 : Int64)) fun M5 =>
   b12_laysNear_24  rc n i1 (0 : Int32) M5))
def b12_laysNear_0 (rc : Nat → List Int32 → List Int64 → Mem → Option (Unit × Mem)) (n : Nat) (M : Mem) : Option (Unit × Mem) :=
  b12_laysNear_2  rc n (0 : Int32) M
def r12_laysNear : Nat → Nat → List Int32 → List Int64 → Mem → Option (Unit × Mem)
  | 0 => fun _ _ _ _ => none
  | n + 1 => fun pc li lj M =>
    if pc = 2 then (match li, lj with | [i1], [] => b12_laysNear_2  (r12_laysNear  n) n i1 M | _, _ => none) else
    if pc = 24 then (match li, lj with | [i1, i2], [] => b12_laysNear_24  (r12_laysNear  n) n i1 i2 M | _, _ => none) else
    none
theorem e12_laysNear_2  (n : Nat) (i1 : Int32) (M : Mem) : r12_laysNear  (n + 1) 2 [i1] [] M = b12_laysNear_2  (r12_laysNear  n) n i1 M := by
  rw [r12_laysNear]
  simp
theorem e12_laysNear_24  (n : Nat) (i1 : Int32) (i2 : Int32) (M : Mem) : r12_laysNear  (n + 1) 24 [i1, i2] [] M = b12_laysNear_24  (r12_laysNear  n) n i1 i2 M := by
  rw [r12_laysNear]
  simp
def f12_laysNear (n : Nat)  (M : Mem) : Option (Unit × Mem) := b12_laysNear_0 (r12_laysNear n) n M
abbrev rm12_laysNear : Room := { frames := 5, cells := 0, slots := 0, locals := 114 }
theorem y12_laysNear_w : yV RX12 yX12_laysNear cX12_laysNear 3 none 0 := ⟨g_1648, gp 91 rfl rfl, g_14, g_1649, rfl, by decide, by decide, by decide +kernel⟩
set_option maxHeartbeats 4000000 in
set_option maxRecDepth 100000 in
theorem w12_laysNear_98 {p : Program} {l : Launch} {e : Env} {s : State} {m : MethodId} {args : Array Value} {below : List Frame} {meth : Method} {c : Code} {z : Zt} {b : Nat}  (C : Cx p s m args c cX12_laysNear 3 RX12 z 32 b) (hr : meth.sig.returnType = none) (hk : meth.locks = false) {r : Unit} {M' : Mem} {rc : Nat → List Int32 → List Int64 → Mem → Option (Unit × Mem)} {n : Nat} (q2 : ∀ (i1 : Int32) (M : Mem) (H : Heap) (locs : List Loc) (ls : Array Slot), rc 2 [i1] [] M = some (r, M') → va_P z.1 vwCl (pw (yd z b) 32 b M) H → va_S (pA 32 b) s.heap H locs → lv_has ls 3 [(0, .ref (b + 0)), (1, .int i1)] → W p l e rm12_laysNear s m args below meth c H locs 0 0 (MQ below (va_Qv (fun (M2 : Mem) => M2 = M') (fun M2 t => va_P z.1 vwCl (pw (yd z b) 32 b M2) t.heap) (pA 32 b)) args s 0 0 (pA 32 b)) (F0 m 2 ls [])) (q24 : ∀ (i1 : Int32) (i2 : Int32) (M : Mem) (H : Heap) (locs : List Loc) (ls : Array Slot), rc 24 [i1, i2] [] M = some (r, M') → va_P z.1 vwCl (pw (yd z b) 32 b M) H → va_S (pA 32 b) s.heap H locs → lv_has ls 3 [(0, .ref (b + 0)), (1, .int i1), (2, .int i2)] → W p l e rm12_laysNear s m args below meth c H locs 0 0 (MQ below (va_Qv (fun (M2 : Mem) => M2 = M') (fun M2 t => va_P z.1 vwCl (pw (yd z b) 32 b M2) t.heap) (pA 32 b)) args s 0 0 (pA 32 b)) (F0 m 24 ls [])) {i1 : Int32} {i2 : Int32} {M : Mem} {H : Heap} {locs : List Loc} {ls : Array Slot} (hf : b12_laysNear_98  rc n i1 i2 M = some (r, M')) (hP : va_P z.1 vwCl (pw (yd z b) 32 b M) H) (hS : va_S (pA 32 b) s.heap H locs) (hl : lv_has ls 3 [(0, .ref (b + 0)), (1, .int i1), (2, .int i2)]) : W p l e rm12_laysNear s m args below meth c H locs 0 0 (MQ below (va_Qv (fun (M2 : Mem) => M2 = M') (fun M2 t => va_P z.1 vwCl (pw (yd z b) 32 b M2) t.heap) (pA 32 b)) args s 0 0 (pA 32 b)) (F0 m 98 ls []) := by
  have hx := C.1.1
  have hb := C.1.2.1
  unfold b12_laysNear_98 at hf
  obtain ⟨v21, ev21⟩ : ∃ v : Int32, v = i2 + (1 : Int32) := ⟨_, rfl⟩
  replace hf := lt_c ev21 hf
  refine lv_iinc (v := v21) (lv' := [(2, .int v21), (0, .ref (b + 0)), (1, .int i1)]) hx hb dX12_laysNear_98 hl (k := 2) rfl (by rw [ev21]; rfl) (by decide) rfl (fun ls hl => ?_)
  refine lv_goto (tgt := 24) hx hb dX12_laysNear_101 (by decide) ?_
  exact q24 i1 v21 M _ _ _ hf hP hS (lv_sub hl [1, 2, 0] rfl)
set_option maxHeartbeats 4000000 in
set_option maxRecDepth 100000 in
theorem w12_laysNear_24 {p : Program} {l : Launch} {e : Env} {s : State} {m : MethodId} {args : Array Value} {below : List Frame} {meth : Method} {c : Code} {z : Zt} {b : Nat}  (C : Cx p s m args c cX12_laysNear 3 RX12 z 32 b) (hr : meth.sig.returnType = none) (hk : meth.locks = false) {r : Unit} {M' : Mem} {rc : Nat → List Int32 → List Int64 → Mem → Option (Unit × Mem)} {n : Nat} (q2 : ∀ (i1 : Int32) (M : Mem) (H : Heap) (locs : List Loc) (ls : Array Slot), rc 2 [i1] [] M = some (r, M') → va_P z.1 vwCl (pw (yd z b) 32 b M) H → va_S (pA 32 b) s.heap H locs → lv_has ls 3 [(0, .ref (b + 0)), (1, .int i1)] → W p l e rm12_laysNear s m args below meth c H locs 0 0 (MQ below (va_Qv (fun (M2 : Mem) => M2 = M') (fun M2 t => va_P z.1 vwCl (pw (yd z b) 32 b M2) t.heap) (pA 32 b)) args s 0 0 (pA 32 b)) (F0 m 2 ls [])) (q24 : ∀ (i1 : Int32) (i2 : Int32) (M : Mem) (H : Heap) (locs : List Loc) (ls : Array Slot), rc 24 [i1, i2] [] M = some (r, M') → va_P z.1 vwCl (pw (yd z b) 32 b M) H → va_S (pA 32 b) s.heap H locs → lv_has ls 3 [(0, .ref (b + 0)), (1, .int i1), (2, .int i2)] → W p l e rm12_laysNear s m args below meth c H locs 0 0 (MQ below (va_Qv (fun (M2 : Mem) => M2 = M') (fun M2 t => va_P z.1 vwCl (pw (yd z b) 32 b M2) t.heap) (pA 32 b)) args s 0 0 (pA 32 b)) (F0 m 24 ls [])) {i1 : Int32} {i2 : Int32} {M : Mem} {H : Heap} {locs : List Loc} {ls : Array Slot} (hf : b12_laysNear_24  rc n i1 i2 M = some (r, M')) (hP : va_P z.1 vwCl (pw (yd z b) 32 b M) H) (hS : va_S (pA 32 b) s.heap H locs) (hl : lv_has ls 3 [(0, .ref (b + 0)), (1, .int i1), (2, .int i2)]) : W p l e rm12_laysNear s m args below meth c H locs 0 0 (MQ below (va_Qv (fun (M2 : Mem) => M2 = M') (fun M2 t => va_P z.1 vwCl (pw (yd z b) 32 b M2) t.heap) (pA 32 b)) args s 0 0 (pA 32 b)) (F0 m 24 ls []) := by
  have hx := C.1.1
  have hb := C.1.2.1
  unfold b12_laysNear_24 at hf
  refine lv_iload_n hx hb dX12_laysNear_24 rfl (lv_at hl 2 rfl) ?_
  refine lv_bipush (v := (96 : Int32)) hx hb dX12_laysNear_25 (by decide) ?_
  refine lv_icmp_ge (tgt := 104) hx hb dX12_laysNear_27 (by decide) (fun c6 => ?_) (fun c6 => ?_)
  · replace hf := ite_t c6 hf
    obtain ⟨v7, ev7⟩ : ∃ v : Int32, v = i1 + (1 : Int32) := ⟨_, rfl⟩
    replace hf := lt_c ev7 hf
    refine lv_iinc (v := v7) (lv' := [(1, .int v7), (0, .ref (b + 0)), (2, .int i2)]) hx hb dX12_laysNear_104 hl (k := 1) rfl (by rw [ev7]; rfl) (by decide) rfl (fun ls hl => ?_)
    refine lv_goto (tgt := 2) hx hb dX12_laysNear_107 (by decide) ?_
    exact q2 v7 M _ _ _ hf hP hS (lv_sub hl [1, 0] rfl)
  · replace hf := ite_f c6 hf
    refine lv_aload_n hx hb dX12_laysNear_30 rfl (lv_at hl 0 rfl) ?_
    refine pg C hP (k := 0) (j := 0) (Nat.le_of_ble_eq_true rfl) (yd_0 _ _) rfl iw_12 (Nat.le_of_ble_eq_true rfl) g_1135 rfl rfl dX12_laysNear_31 ?_
    refine lv_iconst (v := (0 : Int32)) hx hb dX12_laysNear_34 (by decide) ?_
    refine lv_iload_n hx hb dX12_laysNear_35 rfl (lv_at hl 2 rfl) ?_
    refine lv_iadd hx hb dX12_laysNear_36 ?_
    have h8 := chk_1 hf
    replace hf := chk_2 hf
    refine paI C hP (k := 1) (Nat.le_of_ble_eq_true rfl) (yd_1 _ _) h8 dX12_laysNear_37 ?_
    refine lv_if_eq (tgt := 98) hx hb dX12_laysNear_38 (by decide) (fun c9 => ?_) (fun c9 => ?_)
    · replace hf := ite_t c9 hf
      exact w12_laysNear_98 (n := n)  C hr hk q2 q24 hf hP hS (lv_sub hl [0, 1, 2] rfl)
    · replace hf := ite_f c9 hf
      refine lv_aload_n hx hb dX12_laysNear_41 rfl (lv_at hl 0 rfl) ?_
      refine lv_iload_n hx hb dX12_laysNear_42 rfl (lv_at hl 1 rfl) ?_
      refine lv_iload_n hx hb dX12_laysNear_43 rfl (lv_at hl 2 rfl) ?_
      obtain ⟨r10, M11, h12, hf⟩ := bnd_s hf
      refine pcVi (As := [.int i1, .int i2]) C hP hS (k := 0) (Nat.le_of_ble_eq_true rfl) (yd_0 _ _) rfl (c12_steps  h12) y12_steps_w g_1475 rfl rfl rfl ⟨Nat.le_of_ble_eq_true rfl, Nat.le_of_ble_eq_true rfl⟩ hl.1 rfl (Nat.le_of_ble_eq_true rfl) dX12_laysNear_44 ⟨Nat.le_of_ble_eq_true rfl, Nat.le_of_ble_eq_true rfl⟩ (fun H locs hP hS => ?_)
      refine lv_iconst (v := (2 : Int32)) hx hb dX12_laysNear_47 (by decide) ?_
      refine lv_icmp_le (tgt := 54) hx hb dX12_laysNear_48 (by decide) (fun c13 => ?_) (fun c13 => ?_)
      · replace hf := ite_t c13 hf
        refine lv_iload_n hx hb dX12_laysNear_54 rfl (lv_at hl 2 rfl) ?_
        refine lv_bipush (v := (48 : Int32)) hx hb dX12_laysNear_55 (by decide) ?_
        refine lv_icmp_ge (tgt := 79) hx hb dX12_laysNear_57 (by decide) (fun c14 => ?_) (fun c14 => ?_)
        · replace hf := ite_t c14 hf
          refine lv_aload_n hx hb dX12_laysNear_79 rfl (lv_at hl 0 rfl) ?_
          refine pg C hP (k := 0) (j := 51) (Nat.le_of_ble_eq_true rfl) (yd_0 _ _) rfl iw_12 (Nat.le_of_ble_eq_true rfl) g_1186 rfl rfl dX12_laysNear_80 ?_
          refine lv_iload_n hx hb dX12_laysNear_83 rfl (lv_at hl 1 rfl) ?_
          refine lv_aload_n hx hb dX12_laysNear_84 rfl (lv_at hl 0 rfl) ?_
          refine pg C hP (k := 0) (j := 51) (Nat.le_of_ble_eq_true rfl) (yd_0 _ _) rfl iw_12 (Nat.le_of_ble_eq_true rfl) g_1186 rfl rfl dX12_laysNear_85 ?_
          refine lv_iload_n hx hb dX12_laysNear_88 rfl (lv_at hl 1 rfl) ?_
          have h15 := chk_1 hf
          replace hf := chk_2 hf
          refine paJ C hP (k := 30) (Nat.le_of_ble_eq_true rfl) (yd_30 _ _) h15 dX12_laysNear_89 ?_
          refine lv_lconst (v := (1 : Int64)) hx hb dX12_laysNear_90 (by decide) ?_
          refine lv_iload_n hx hb dX12_laysNear_91 rfl (lv_at hl 2 rfl) ?_
          refine lv_bipush (v := (48 : Int32)) hx hb dX12_laysNear_92 (by decide) ?_
          refine lv_isub hx hb dX12_laysNear_94 ?_
          refine lv_lshl hx hb dX12_laysNear_95 rfl ?_
          refine lv_lor hx hb dX12_laysNear_96 ?_
          have h16 := chk_1 hf
          replace hf := chk_2 hf
          refine psJ C hP hS (k := 30) (Nat.le_of_ble_eq_true rfl) (yd_30) h16 dX12_laysNear_97 (fun M17 H locs eM17 hP hS => ?_)
          replace hf := lt_c eM17 hf
          exact w12_laysNear_98 (n := n)  C hr hk q2 q24 hf hP hS (lv_sub hl [0, 1, 2] rfl)
        · replace hf := ite_f c14 hf
          refine lv_aload_n hx hb dX12_laysNear_60 rfl (lv_at hl 0 rfl) ?_
          refine pg C hP (k := 0) (j := 50) (Nat.le_of_ble_eq_true rfl) (yd_0 _ _) rfl iw_12 (Nat.le_of_ble_eq_true rfl) g_1185 rfl rfl dX12_laysNear_61 ?_
          refine lv_iload_n hx hb dX12_laysNear_64 rfl (lv_at hl 1 rfl) ?_
          refine lv_aload_n hx hb dX12_laysNear_65 rfl (lv_at hl 0 rfl) ?_
          refine pg C hP (k := 0) (j := 50) (Nat.le_of_ble_eq_true rfl) (yd_0 _ _) rfl iw_12 (Nat.le_of_ble_eq_true rfl) g_1185 rfl rfl dX12_laysNear_66 ?_
          refine lv_iload_n hx hb dX12_laysNear_69 rfl (lv_at hl 1 rfl) ?_
          have h18 := chk_1 hf
          replace hf := chk_2 hf
          refine paJ C hP (k := 29) (Nat.le_of_ble_eq_true rfl) (yd_29 _ _) h18 dX12_laysNear_70 ?_
          refine lv_lconst (v := (1 : Int64)) hx hb dX12_laysNear_71 (by decide) ?_
          refine lv_iload_n hx hb dX12_laysNear_72 rfl (lv_at hl 2 rfl) ?_
          refine lv_lshl hx hb dX12_laysNear_73 rfl ?_
          refine lv_lor hx hb dX12_laysNear_74 ?_
          have h19 := chk_1 hf
          replace hf := chk_2 hf
          refine psJ C hP hS (k := 29) (Nat.le_of_ble_eq_true rfl) (yd_29) h19 dX12_laysNear_75 (fun M20 H locs eM20 hP hS => ?_)
          replace hf := lt_c eM20 hf
          refine lv_goto (tgt := 98) hx hb dX12_laysNear_76 (by decide) ?_
          exact w12_laysNear_98 (n := n)  C hr hk q2 q24 hf hP hS (lv_sub hl [0, 1, 2] rfl)
      · replace hf := ite_f c13 hf
        refine lv_goto (tgt := 98) hx hb dX12_laysNear_51 (by decide) ?_
        exact w12_laysNear_98 (n := n)  C hr hk q2 q24 hf hP hS (lv_sub hl [0, 1, 2] rfl)
set_option maxHeartbeats 4000000 in
set_option maxRecDepth 100000 in
theorem w12_laysNear_2 {p : Program} {l : Launch} {e : Env} {s : State} {m : MethodId} {args : Array Value} {below : List Frame} {meth : Method} {c : Code} {z : Zt} {b : Nat}  (C : Cx p s m args c cX12_laysNear 3 RX12 z 32 b) (hr : meth.sig.returnType = none) (hk : meth.locks = false) {r : Unit} {M' : Mem} {rc : Nat → List Int32 → List Int64 → Mem → Option (Unit × Mem)} {n : Nat} (q2 : ∀ (i1 : Int32) (M : Mem) (H : Heap) (locs : List Loc) (ls : Array Slot), rc 2 [i1] [] M = some (r, M') → va_P z.1 vwCl (pw (yd z b) 32 b M) H → va_S (pA 32 b) s.heap H locs → lv_has ls 3 [(0, .ref (b + 0)), (1, .int i1)] → W p l e rm12_laysNear s m args below meth c H locs 0 0 (MQ below (va_Qv (fun (M2 : Mem) => M2 = M') (fun M2 t => va_P z.1 vwCl (pw (yd z b) 32 b M2) t.heap) (pA 32 b)) args s 0 0 (pA 32 b)) (F0 m 2 ls [])) (q24 : ∀ (i1 : Int32) (i2 : Int32) (M : Mem) (H : Heap) (locs : List Loc) (ls : Array Slot), rc 24 [i1, i2] [] M = some (r, M') → va_P z.1 vwCl (pw (yd z b) 32 b M) H → va_S (pA 32 b) s.heap H locs → lv_has ls 3 [(0, .ref (b + 0)), (1, .int i1), (2, .int i2)] → W p l e rm12_laysNear s m args below meth c H locs 0 0 (MQ below (va_Qv (fun (M2 : Mem) => M2 = M') (fun M2 t => va_P z.1 vwCl (pw (yd z b) 32 b M2) t.heap) (pA 32 b)) args s 0 0 (pA 32 b)) (F0 m 24 ls [])) {i1 : Int32} {M : Mem} {H : Heap} {locs : List Loc} {ls : Array Slot} (hf : b12_laysNear_2  rc n i1 M = some (r, M')) (hP : va_P z.1 vwCl (pw (yd z b) 32 b M) H) (hS : va_S (pA 32 b) s.heap H locs) (hl : lv_has ls 3 [(0, .ref (b + 0)), (1, .int i1)]) : W p l e rm12_laysNear s m args below meth c H locs 0 0 (MQ below (va_Qv (fun (M2 : Mem) => M2 = M') (fun M2 t => va_P z.1 vwCl (pw (yd z b) 32 b M2) t.heap) (pA 32 b)) args s 0 0 (pA 32 b)) (F0 m 2 ls []) := by
  have hx := C.1.1
  have hb := C.1.2.1
  unfold b12_laysNear_2 at hf
  refine lv_iload_n hx hb dX12_laysNear_2 rfl (lv_at hl 1 rfl) ?_
  refine lv_bipush (v := (96 : Int32)) hx hb dX12_laysNear_3 (by decide) ?_
  refine lv_icmp_ge (tgt := 110) hx hb dX12_laysNear_5 (by decide) (fun c1 => ?_) (fun c1 => ?_)
  · replace hf := ite_t c1 hf
    exact prV C hr hk hP hS hf dX12_laysNear_110
  · replace hf := ite_f c1 hf
    refine lv_aload_n hx hb dX12_laysNear_8 rfl (lv_at hl 0 rfl) ?_
    refine pg C hP (k := 0) (j := 50) (Nat.le_of_ble_eq_true rfl) (yd_0 _ _) rfl iw_12 (Nat.le_of_ble_eq_true rfl) g_1185 rfl rfl dX12_laysNear_9 ?_
    refine lv_iload_n hx hb dX12_laysNear_12 rfl (lv_at hl 1 rfl) ?_
    refine lv_lconst (v := (0 : Int64)) hx hb dX12_laysNear_13 (by decide) ?_
    have h2 := chk_1 hf
    replace hf := chk_2 hf
    refine psJ C hP hS (k := 29) (Nat.le_of_ble_eq_true rfl) (yd_29) h2 dX12_laysNear_14 (fun M3 H locs eM3 hP hS => ?_)
    replace hf := lt_c eM3 hf
    refine lv_aload_n hx hb dX12_laysNear_15 rfl (lv_at hl 0 rfl) ?_
    refine pg C hP (k := 0) (j := 51) (Nat.le_of_ble_eq_true rfl) (yd_0 _ _) rfl iw_12 (Nat.le_of_ble_eq_true rfl) g_1186 rfl rfl dX12_laysNear_16 ?_
    refine lv_iload_n hx hb dX12_laysNear_19 rfl (lv_at hl 1 rfl) ?_
    refine lv_lconst (v := (0 : Int64)) hx hb dX12_laysNear_20 (by decide) ?_
    have h4 := chk_1 hf
    replace hf := chk_2 hf
    refine psJ C hP hS (k := 30) (Nat.le_of_ble_eq_true rfl) (yd_30) h4 dX12_laysNear_21 (fun M5 H locs eM5 hP hS => ?_)
    replace hf := lt_c eM5 hf
    refine lv_iconst (v := (0 : Int32)) hx hb dX12_laysNear_22 (by decide) ?_
    refine lv_istore_n (lv' := [(2, .int (0 : Int32)), (0, .ref (b + 0)), (1, .int i1)]) hx hb dX12_laysNear_23 rfl hl (by decide) rfl (fun ls hl => ?_)
    exact w12_laysNear_24 (n := n)  C hr hk q2 q24 hf hP hS (lv_sub hl [1, 2, 0] rfl)
set_option maxHeartbeats 4000000 in
set_option maxRecDepth 100000 in
theorem w12_laysNear_0 {p : Program} {l : Launch} {e : Env} {s : State} {m : MethodId} {args : Array Value} {below : List Frame} {meth : Method} {c : Code} {z : Zt} {b : Nat}  (C : Cx p s m args c cX12_laysNear 3 RX12 z 32 b) (hr : meth.sig.returnType = none) (hk : meth.locks = false) {r : Unit} {M' : Mem} {rc : Nat → List Int32 → List Int64 → Mem → Option (Unit × Mem)} {n : Nat} (q2 : ∀ (i1 : Int32) (M : Mem) (H : Heap) (locs : List Loc) (ls : Array Slot), rc 2 [i1] [] M = some (r, M') → va_P z.1 vwCl (pw (yd z b) 32 b M) H → va_S (pA 32 b) s.heap H locs → lv_has ls 3 [(0, .ref (b + 0)), (1, .int i1)] → W p l e rm12_laysNear s m args below meth c H locs 0 0 (MQ below (va_Qv (fun (M2 : Mem) => M2 = M') (fun M2 t => va_P z.1 vwCl (pw (yd z b) 32 b M2) t.heap) (pA 32 b)) args s 0 0 (pA 32 b)) (F0 m 2 ls [])) (q24 : ∀ (i1 : Int32) (i2 : Int32) (M : Mem) (H : Heap) (locs : List Loc) (ls : Array Slot), rc 24 [i1, i2] [] M = some (r, M') → va_P z.1 vwCl (pw (yd z b) 32 b M) H → va_S (pA 32 b) s.heap H locs → lv_has ls 3 [(0, .ref (b + 0)), (1, .int i1), (2, .int i2)] → W p l e rm12_laysNear s m args below meth c H locs 0 0 (MQ below (va_Qv (fun (M2 : Mem) => M2 = M') (fun M2 t => va_P z.1 vwCl (pw (yd z b) 32 b M2) t.heap) (pA 32 b)) args s 0 0 (pA 32 b)) (F0 m 24 ls []))  {M : Mem} {H : Heap} {locs : List Loc} {ls : Array Slot} (hf : b12_laysNear_0  rc n  M = some (r, M')) (hP : va_P z.1 vwCl (pw (yd z b) 32 b M) H) (hS : va_S (pA 32 b) s.heap H locs) (hl : lv_has ls 3 [(0, .ref (b + 0))]) : W p l e rm12_laysNear s m args below meth c H locs 0 0 (MQ below (va_Qv (fun (M2 : Mem) => M2 = M') (fun M2 t => va_P z.1 vwCl (pw (yd z b) 32 b M2) t.heap) (pA 32 b)) args s 0 0 (pA 32 b)) (F0 m 0 ls []) := by
  have hx := C.1.1
  have hb := C.1.2.1
  unfold b12_laysNear_0 at hf
  refine lv_iconst (v := (0 : Int32)) hx hb dX12_laysNear_0 (by decide) ?_
  refine lv_istore_n (lv' := [(1, .int (0 : Int32)), (0, .ref (b + 0))]) hx hb dX12_laysNear_1 rfl hl (by decide) rfl (fun ls hl => ?_)
  exact w12_laysNear_2 (n := n)  C hr hk q2 q24 hf hP hS (lv_sub hl [1, 0] rfl)
set_option maxHeartbeats 4000000 in
set_option maxRecDepth 100000 in
theorem l12_laysNear {p : Program} {l : Launch} {e : Env} {s : State} {m : MethodId} {args : Array Value} {below : List Frame} {meth : Method} {c : Code} {z : Zt} {b : Nat}  (C : Cx p s m args c cX12_laysNear 3 RX12 z 32 b) (hr : meth.sig.returnType = none) (hk : meth.locks = false) {r : Unit} {M' : Mem} (n : Nat) : (∀ (i1 : Int32) (M : Mem) (H : Heap) (locs : List Loc) (ls : Array Slot), (r12_laysNear  n) 2 [i1] [] M = some (r, M') → va_P z.1 vwCl (pw (yd z b) 32 b M) H → va_S (pA 32 b) s.heap H locs → lv_has ls 3 [(0, .ref (b + 0)), (1, .int i1)] → W p l e rm12_laysNear s m args below meth c H locs 0 0 (MQ below (va_Qv (fun (M2 : Mem) => M2 = M') (fun M2 t => va_P z.1 vwCl (pw (yd z b) 32 b M2) t.heap) (pA 32 b)) args s 0 0 (pA 32 b)) (F0 m 2 ls [])) ∧ (∀ (i1 : Int32) (i2 : Int32) (M : Mem) (H : Heap) (locs : List Loc) (ls : Array Slot), (r12_laysNear  n) 24 [i1, i2] [] M = some (r, M') → va_P z.1 vwCl (pw (yd z b) 32 b M) H → va_S (pA 32 b) s.heap H locs → lv_has ls 3 [(0, .ref (b + 0)), (1, .int i1), (2, .int i2)] → W p l e rm12_laysNear s m args below meth c H locs 0 0 (MQ below (va_Qv (fun (M2 : Mem) => M2 = M') (fun M2 t => va_P z.1 vwCl (pw (yd z b) 32 b M2) t.heap) (pA 32 b)) args s 0 0 (pA 32 b)) (F0 m 24 ls [])) := by
  induction n with
  | zero => exact ⟨fun _ _ _ _ _ hf => (by cases hf), fun _ _ _ _ _ _ hf => (by cases hf)⟩
  | succ n ih => exact ⟨fun _ _ _ _ _ hf hP hS hl => w12_laysNear_2 (n := n)  C hr hk ih.1 ih.2 ((e12_laysNear_2  n _ _).symm.trans hf) hP hS hl, fun _ _ _ _ _ _ hf hP hS hl => w12_laysNear_24 (n := n)  C hr hk ih.1 ih.2 ((e12_laysNear_24  n _ _ _).symm.trans hf) hP hS hl⟩
theorem c12_laysNear {l : Launch} {z : Zt} {b n : Nat}   {M M' : Mem} {r : Unit} (hf : f12_laysNear n   M = some (r, M')) : CV l z (yd z b) 32 b yX12_laysNear cX12_laysNear 3 none rm12_laysNear [.ref (b + 0)] M M' :=
  CV.ofW (lv := [(0, .ref (b + 0))]) (by decide) (Nat.le_of_ble_eq_true rfl) rfl (fun p e s m args below meth c ls C hr hk hP hS hl => w12_laysNear_0 (n := n)  C hr hk (l12_laysNear  C hr hk n).1 (l12_laysNear  C hr hk n).2 hf hP hS hl)
