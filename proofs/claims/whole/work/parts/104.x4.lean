-- BronzeKing$Survey.newWallsTo(IZ)I
theorem dX6_newWallsTo_0 : decode cX6_newWallsTo 0 = .ok (.aload_n 0, 1) := by decide +kernel
theorem dX6_newWallsTo_1 : decode cX6_newWallsTo 1 = .ok (.iload_n 1, 1) := by decide +kernel
theorem dX6_newWallsTo_2 : decode cX6_newWallsTo 2 = .ok (.invokevirtual 67, 3) := by decide +kernel
theorem dX6_newWallsTo_5 : decode cX6_newWallsTo 5 = .ok (.bipush 99, 2) := by decide +kernel
theorem dX6_newWallsTo_7 : decode cX6_newWallsTo 7 = .ok (.if_icmp .ne 6, 3) := by decide +kernel
theorem dX6_newWallsTo_10 : decode cX6_newWallsTo 10 = .ok (.bipush (-2), 2) := by decide +kernel
theorem dX6_newWallsTo_12 : decode cX6_newWallsTo 12 = .ok (.ireturn, 1) := by decide +kernel
theorem dX6_newWallsTo_13 : decode cX6_newWallsTo 13 = .ok (.aload_n 0, 1) := by decide +kernel
theorem dX6_newWallsTo_14 : decode cX6_newWallsTo 14 = .ok (.getfield 15, 3) := by decide +kernel
theorem dX6_newWallsTo_17 : decode cX6_newWallsTo 17 = .ok (.bipush 99, 2) := by decide +kernel
theorem dX6_newWallsTo_19 : decode cX6_newWallsTo 19 = .ok (.invokestatic 71, 3) := by decide +kernel
theorem dX6_newWallsTo_22 : decode cX6_newWallsTo 22 = .ok (.aload_n 0, 1) := by decide +kernel
theorem dX6_newWallsTo_23 : decode cX6_newWallsTo 23 = .ok (.getfield 15, 3) := by decide +kernel
theorem dX6_newWallsTo_26 : decode cX6_newWallsTo 26 = .ok (.aload_n 0, 1) := by decide +kernel
theorem dX6_newWallsTo_27 : decode cX6_newWallsTo 27 = .ok (.getfield 54, 3) := by decide +kernel
theorem dX6_newWallsTo_30 : decode cX6_newWallsTo 30 = .ok (.getfield 58, 3) := by decide +kernel
theorem dX6_newWallsTo_33 : decode cX6_newWallsTo 33 = .ok (.iconst 0, 1) := by decide +kernel
theorem dX6_newWallsTo_34 : decode cX6_newWallsTo 34 = .ok (.iastore, 1) := by decide +kernel
theorem dX6_newWallsTo_35 : decode cX6_newWallsTo 35 = .ok (.iconst 1, 1) := by decide +kernel
theorem dX6_newWallsTo_36 : decode cX6_newWallsTo 36 = .ok (.istore_n 3, 1) := by decide +kernel
theorem dX6_newWallsTo_37 : decode cX6_newWallsTo 37 = .ok (.iconst 0, 1) := by decide +kernel
theorem dX6_newWallsTo_38 : decode cX6_newWallsTo 38 = .ok (.istore 4, 2) := by decide +kernel
theorem dX6_newWallsTo_40 : decode cX6_newWallsTo 40 = .ok (.iload 4, 2) := by decide +kernel
theorem dX6_newWallsTo_42 : decode cX6_newWallsTo 42 = .ok (.bipush 96, 2) := by decide +kernel
theorem dX6_newWallsTo_44 : decode cX6_newWallsTo 44 = .ok (.if_icmp .ge 19, 3) := by decide +kernel
theorem dX6_newWallsTo_47 : decode cX6_newWallsTo 47 = .ok (.iload_n 3, 1) := by decide +kernel
theorem dX6_newWallsTo_48 : decode cX6_newWallsTo 48 = .ok (.ifCond .eq 15, 3) := by decide +kernel
theorem dX6_newWallsTo_51 : decode cX6_newWallsTo 51 = .ok (.aload_n 0, 1) := by decide +kernel
theorem dX6_newWallsTo_52 : decode cX6_newWallsTo 52 = .ok (.iload_n 2, 1) := by decide +kernel
theorem dX6_newWallsTo_53 : decode cX6_newWallsTo 53 = .ok (.invokevirtual 77, 3) := by decide +kernel
theorem dX6_newWallsTo_56 : decode cX6_newWallsTo 56 = .ok (.istore_n 3, 1) := by decide +kernel
theorem dX6_newWallsTo_57 : decode cX6_newWallsTo 57 = .ok (.iinc 4 1, 3) := by decide +kernel
theorem dX6_newWallsTo_60 : decode cX6_newWallsTo 60 = .ok (.goto (-20), 3) := by decide +kernel
theorem dX6_newWallsTo_63 : decode cX6_newWallsTo 63 = .ok (.aload_n 0, 1) := by decide +kernel
theorem dX6_newWallsTo_64 : decode cX6_newWallsTo 64 = .ok (.getfield 15, 3) := by decide +kernel
theorem dX6_newWallsTo_67 : decode cX6_newWallsTo 67 = .ok (.iload_n 1, 1) := by decide +kernel
theorem dX6_newWallsTo_68 : decode cX6_newWallsTo 68 = .ok (.iaload, 1) := by decide +kernel
theorem dX6_newWallsTo_69 : decode cX6_newWallsTo 69 = .ok (.ireturn, 1) := by decide +kernel
def b6_newWallsTo_63 (rc : Nat → List Int32 → List Int64 → Mem → Option (Int32 × Mem)) (n : Nat) (i1 : Int32) (M : Mem) : Option (Int32 × Mem) :=
  chk (inb i1 96) <|
  some ((M.1 29 i1.toNatClampNeg), M)
def b6_newWallsTo_40 (rc : Nat → List Int32 → List Int64 → Mem → Option (Int32 × Mem)) (n : Nat) (i1 : Int32) (i2 : Int32) (i3 : Int32) (i4 : Int32) (M : Mem) : Option (Int32 × Mem) :=
  (if (96 : Int32) ≤ i4 then (
   b6_newWallsTo_63  rc n i1 M)
  else (
   (if i3 = 0 then (
    b6_newWallsTo_63  rc n i1 M)
   else (
    bnd (f6_findFewerWalls n i2 M) fun r12 M13 =>
    lt (i4 + (1 : Int32)) fun v15 =>
    rc 40 [i1, i2, r12, v15] [] M13))))
def b6_newWallsTo_0 (rc : Nat → List Int32 → List Int64 → Mem → Option (Int32 × Mem)) (n : Nat) (a1 : Int32) (a2 : Int32) (M : Mem) : Option (Int32 × Mem) :=
  bnd (f6_stepsByOldMap n a1 M) fun r1 M2 =>
  (if r1 = (99 : Int32) then (
   some ((-2 : Int32), M2))
  else (
   bnd (fZJ7_fill_53178 n 29 96 (99 : Int32) M2) fun r5 M6 =>
   chk (inb (M6.1 3 7) 96) <|
   lt (wI M6 29 (M6.1 3 7).toNatClampNeg (0 : Int32)) fun M9 =>
   b6_newWallsTo_40  rc n a1 a2 (1 : Int32) (0 : Int32) M9))
def r6_newWallsTo : Nat → Nat → List Int32 → List Int64 → Mem → Option (Int32 × Mem)
  | 0 => fun _ _ _ _ => none
  | n + 1 => fun pc li lj M =>
    if pc = 40 then (match li, lj with | [i1, i2, i3, i4], [] => b6_newWallsTo_40  (r6_newWallsTo  n) n i1 i2 i3 i4 M | _, _ => none) else
    none
theorem e6_newWallsTo_40  (n : Nat) (i1 : Int32) (i2 : Int32) (i3 : Int32) (i4 : Int32) (M : Mem) : r6_newWallsTo  (n + 1) 40 [i1, i2, i3, i4] [] M = b6_newWallsTo_40  (r6_newWallsTo  n) n i1 i2 i3 i4 M := by
  rw [r6_newWallsTo]
  simp
def f6_newWallsTo (n : Nat) (a1 : Int32) (a2 : Int32) (M : Mem) : Option (Int32 × Mem) := b6_newWallsTo_0 (r6_newWallsTo n) n a1 a2 M
abbrev rm6_newWallsTo : Room := { frames := 3, cells := 0, slots := 0, locals := 72 }
theorem y6_newWallsTo_w : yV RX6 yX6_newWallsTo cX6_newWallsTo 5 (some .int) 2 := ⟨g_927, g_928, g_10, g_929, rfl, by decide, by decide, by decide +kernel⟩
set_option maxHeartbeats 4000000 in
set_option maxRecDepth 100000 in
theorem w6_newWallsTo_63 {p : Program} {l : Launch} {e : Env} {s : State} {m : MethodId} {args : Array Value} {below : List Frame} {meth : Method} {c : Code} {z : Zt} {b : Nat}  (C : Cx p s m args c cX6_newWallsTo 5 RX6 z 339 b) (hr : meth.sig.returnType = (some .int)) (hk : meth.locks = false) {r : Int32} {M' : Mem} {rc : Nat → List Int32 → List Int64 → Mem → Option (Int32 × Mem)} {n : Nat} (q40 : ∀ (i1 : Int32) (i2 : Int32) (i3 : Int32) (i4 : Int32) (M : Mem) (H : Heap) (locs : List Loc) (ls : Array Slot), rc 40 [i1, i2, i3, i4] [] M = some (r, M') → va_P z.1 vwCl (pw (xd z b) 339 b M) H → va_S (pA 339 b) s.heap H locs → lv_has ls 5 [(0, .ref (b + 27)), (1, .int i1), (2, .int i2), (3, .int i3), (4, .int i4)] → W p l e rm6_newWallsTo s m args below meth c H locs 0 0 (MQ below (va_Qi (fun (r' : Int32) (M2 : Mem) => r' = r ∧ M2 = M') (fun M2 t => va_P z.1 vwCl (pw (xd z b) 339 b M2) t.heap) (pA 339 b)) args s 0 0 (pA 339 b)) (F0 m 40 ls [])) {i1 : Int32} {M : Mem} {H : Heap} {locs : List Loc} {ls : Array Slot} (hf : b6_newWallsTo_63  rc n i1 M = some (r, M')) (hP : va_P z.1 vwCl (pw (xd z b) 339 b M) H) (hS : va_S (pA 339 b) s.heap H locs) (hl : lv_has ls 5 [(0, .ref (b + 27)), (1, .int i1)]) : W p l e rm6_newWallsTo s m args below meth c H locs 0 0 (MQ below (va_Qi (fun (r' : Int32) (M2 : Mem) => r' = r ∧ M2 = M') (fun M2 t => va_P z.1 vwCl (pw (xd z b) 339 b M2) t.heap) (pA 339 b)) args s 0 0 (pA 339 b)) (F0 m 63 ls []) := by
  have hx := C.1.1
  have hb := C.1.2.1
  unfold b6_newWallsTo_63 at hf
  refine lv_aload_n hx hb dX6_newWallsTo_63 rfl (lv_at hl 0 rfl) ?_
  refine pg C hP (k := 27) (j := 2) (Nat.le_of_ble_eq_true rfl) (xd_27 _ _) rfl iw_6 (Nat.le_of_ble_eq_true rfl) g_255 rfl rfl dX6_newWallsTo_64 ?_
  refine lv_iload_n hx hb dX6_newWallsTo_67 rfl (lv_at hl 1 rfl) ?_
  have h16 := chk_1 hf
  replace hf := chk_2 hf
  refine paI C hP (k := 29) (Nat.le_of_ble_eq_true rfl) (xd_29 _ _) h16 dX6_newWallsTo_68 ?_
  exact prI C hr hk hP hS hf dX6_newWallsTo_69
set_option maxHeartbeats 4000000 in
set_option maxRecDepth 100000 in
theorem w6_newWallsTo_40 {p : Program} {l : Launch} {e : Env} {s : State} {m : MethodId} {args : Array Value} {below : List Frame} {meth : Method} {c : Code} {z : Zt} {b : Nat}  (C : Cx p s m args c cX6_newWallsTo 5 RX6 z 339 b) (hr : meth.sig.returnType = (some .int)) (hk : meth.locks = false) {r : Int32} {M' : Mem} {rc : Nat → List Int32 → List Int64 → Mem → Option (Int32 × Mem)} {n : Nat} (q40 : ∀ (i1 : Int32) (i2 : Int32) (i3 : Int32) (i4 : Int32) (M : Mem) (H : Heap) (locs : List Loc) (ls : Array Slot), rc 40 [i1, i2, i3, i4] [] M = some (r, M') → va_P z.1 vwCl (pw (xd z b) 339 b M) H → va_S (pA 339 b) s.heap H locs → lv_has ls 5 [(0, .ref (b + 27)), (1, .int i1), (2, .int i2), (3, .int i3), (4, .int i4)] → W p l e rm6_newWallsTo s m args below meth c H locs 0 0 (MQ below (va_Qi (fun (r' : Int32) (M2 : Mem) => r' = r ∧ M2 = M') (fun M2 t => va_P z.1 vwCl (pw (xd z b) 339 b M2) t.heap) (pA 339 b)) args s 0 0 (pA 339 b)) (F0 m 40 ls [])) {i1 : Int32} {i2 : Int32} {i3 : Int32} {i4 : Int32} {M : Mem} {H : Heap} {locs : List Loc} {ls : Array Slot} (hf : b6_newWallsTo_40  rc n i1 i2 i3 i4 M = some (r, M')) (hP : va_P z.1 vwCl (pw (xd z b) 339 b M) H) (hS : va_S (pA 339 b) s.heap H locs) (hl : lv_has ls 5 [(0, .ref (b + 27)), (1, .int i1), (2, .int i2), (3, .int i3), (4, .int i4)]) : W p l e rm6_newWallsTo s m args below meth c H locs 0 0 (MQ below (va_Qi (fun (r' : Int32) (M2 : Mem) => r' = r ∧ M2 = M') (fun M2 t => va_P z.1 vwCl (pw (xd z b) 339 b M2) t.heap) (pA 339 b)) args s 0 0 (pA 339 b)) (F0 m 40 ls []) := by
  have hx := C.1.1
  have hb := C.1.2.1
  unfold b6_newWallsTo_40 at hf
  refine lv_iload hx hb dX6_newWallsTo_40 (lv_at hl 4 rfl) ?_
  refine lv_bipush (v := (96 : Int32)) hx hb dX6_newWallsTo_42 (by decide) ?_
  refine lv_icmp_ge (tgt := 63) hx hb dX6_newWallsTo_44 (by decide) (fun c10 => ?_) (fun c10 => ?_)
  · replace hf := ite_t c10 hf
    exact w6_newWallsTo_63 (n := n)  C hr hk q40 hf hP hS (lv_sub hl [0, 1] rfl)
  · replace hf := ite_f c10 hf
    refine lv_iload_n hx hb dX6_newWallsTo_47 rfl (lv_at hl 3 rfl) ?_
    refine lv_if_eq (tgt := 63) hx hb dX6_newWallsTo_48 (by decide) (fun c11 => ?_) (fun c11 => ?_)
    · replace hf := ite_t c11 hf
      exact w6_newWallsTo_63 (n := n)  C hr hk q40 hf hP hS (lv_sub hl [0, 1] rfl)
    · replace hf := ite_f c11 hf
      refine lv_aload_n hx hb dX6_newWallsTo_51 rfl (lv_at hl 0 rfl) ?_
      refine lv_iload_n hx hb dX6_newWallsTo_52 rfl (lv_at hl 2 rfl) ?_
      obtain ⟨r12, M13, h14, hf⟩ := bnd_s hf
      refine pcVi (As := [.int i2]) C hP hS (k := 27) (Nat.le_of_ble_eq_true rfl) (xd_27 _ _) rfl (c6_findFewerWalls  h14) y6_findFewerWalls_w g_932 rfl rfl rfl ⟨Nat.le_of_ble_eq_true rfl, Nat.le_of_ble_eq_true rfl⟩ hl.1 rfl (Nat.le_of_ble_eq_true rfl) dX6_newWallsTo_53 ⟨Nat.le_of_ble_eq_true rfl, Nat.le_of_ble_eq_true rfl⟩ (fun H locs hP hS => ?_)
      refine lv_istore_n (lv' := [(3, .int r12), (0, .ref (b + 27)), (1, .int i1), (2, .int i2), (4, .int i4)]) hx hb dX6_newWallsTo_56 rfl hl (by decide) rfl (fun ls hl => ?_)
      obtain ⟨v15, ev15⟩ : ∃ v : Int32, v = i4 + (1 : Int32) := ⟨_, rfl⟩
      replace hf := lt_c ev15 hf
      refine lv_iinc (v := v15) (lv' := [(4, .int v15), (3, .int r12), (0, .ref (b + 27)), (1, .int i1), (2, .int i2)]) hx hb dX6_newWallsTo_57 hl (k := 4) rfl (by rw [ev15]; rfl) (by decide) rfl (fun ls hl => ?_)
      refine lv_goto (tgt := 40) hx hb dX6_newWallsTo_60 (by decide) ?_
      exact q40 i1 i2 r12 v15 M13 _ _ _ hf hP hS (lv_sub hl [2, 3, 4, 1, 0] rfl)
set_option maxHeartbeats 4000000 in
set_option maxRecDepth 100000 in
theorem w6_newWallsTo_0 {p : Program} {l : Launch} {e : Env} {s : State} {m : MethodId} {args : Array Value} {below : List Frame} {meth : Method} {c : Code} {z : Zt} {b : Nat}  (C : Cx p s m args c cX6_newWallsTo 5 RX6 z 339 b) (hr : meth.sig.returnType = (some .int)) (hk : meth.locks = false) {r : Int32} {M' : Mem} {rc : Nat → List Int32 → List Int64 → Mem → Option (Int32 × Mem)} {n : Nat} (q40 : ∀ (i1 : Int32) (i2 : Int32) (i3 : Int32) (i4 : Int32) (M : Mem) (H : Heap) (locs : List Loc) (ls : Array Slot), rc 40 [i1, i2, i3, i4] [] M = some (r, M') → va_P z.1 vwCl (pw (xd z b) 339 b M) H → va_S (pA 339 b) s.heap H locs → lv_has ls 5 [(0, .ref (b + 27)), (1, .int i1), (2, .int i2), (3, .int i3), (4, .int i4)] → W p l e rm6_newWallsTo s m args below meth c H locs 0 0 (MQ below (va_Qi (fun (r' : Int32) (M2 : Mem) => r' = r ∧ M2 = M') (fun M2 t => va_P z.1 vwCl (pw (xd z b) 339 b M2) t.heap) (pA 339 b)) args s 0 0 (pA 339 b)) (F0 m 40 ls [])) {a1 : Int32} {a2 : Int32} {M : Mem} {H : Heap} {locs : List Loc} {ls : Array Slot} (hf : b6_newWallsTo_0  rc n a1 a2 M = some (r, M')) (hP : va_P z.1 vwCl (pw (xd z b) 339 b M) H) (hS : va_S (pA 339 b) s.heap H locs) (hl : lv_has ls 5 [(0, .ref (b + 27)), (1, .int a1), (2, .int a2)]) : W p l e rm6_newWallsTo s m args below meth c H locs 0 0 (MQ below (va_Qi (fun (r' : Int32) (M2 : Mem) => r' = r ∧ M2 = M') (fun M2 t => va_P z.1 vwCl (pw (xd z b) 339 b M2) t.heap) (pA 339 b)) args s 0 0 (pA 339 b)) (F0 m 0 ls []) := by
  have hx := C.1.1
  have hb := C.1.2.1
  unfold b6_newWallsTo_0 at hf
  refine lv_aload_n hx hb dX6_newWallsTo_0 rfl (lv_at hl 0 rfl) ?_
  refine lv_iload_n hx hb dX6_newWallsTo_1 rfl (lv_at hl 1 rfl) ?_
  obtain ⟨r1, M2, h3, hf⟩ := bnd_s hf
  refine pcVi (As := [.int a1]) C hP hS (k := 27) (Nat.le_of_ble_eq_true rfl) (xd_27 _ _) rfl (c6_stepsByOldMap  h3) y6_stepsByOldMap_w g_930 rfl rfl rfl ⟨Nat.le_of_ble_eq_true rfl, Nat.le_of_ble_eq_true rfl⟩ hl.1 rfl (Nat.le_of_ble_eq_true rfl) dX6_newWallsTo_2 ⟨Nat.le_of_ble_eq_true rfl, Nat.le_of_ble_eq_true rfl⟩ (fun H locs hP hS => ?_)
  refine lv_bipush (v := (99 : Int32)) hx hb dX6_newWallsTo_5 (by decide) ?_
  refine lv_icmp_ne (tgt := 13) hx hb dX6_newWallsTo_7 (by decide) (fun c4 => ?_) (fun c4 => ?_)
  · replace hf := ite_f c4 hf
    refine lv_aload_n hx hb dX6_newWallsTo_13 rfl (lv_at hl 0 rfl) ?_
    refine pg C hP (k := 27) (j := 2) (Nat.le_of_ble_eq_true rfl) (xd_27 _ _) rfl iw_6 (Nat.le_of_ble_eq_true rfl) g_255 rfl rfl dX6_newWallsTo_14 ?_
    refine lv_bipush (v := (99 : Int32)) hx hb dX6_newWallsTo_17 (by decide) ?_
    obtain ⟨r5, M6, h7, hf⟩ := bnd_s hf
    refine pcSv (As := [.ref (b + 29), .int (99 : Int32)]) C hP hS (cZJ7_fill_53178 ⟨(Nat.le_of_ble_eq_true rfl), xd_29⟩ h7) yZJ7_fill_53178_w g_931 rfl rfl rfl ⟨Nat.le_of_ble_eq_true rfl, Nat.le_of_ble_eq_true rfl⟩ hl.1 rfl (Nat.le_of_ble_eq_true rfl) dX6_newWallsTo_19 ⟨Nat.le_of_ble_eq_true rfl, Nat.le_of_ble_eq_true rfl⟩ (fun H locs hP hS => ?_)
    refine lv_aload_n hx hb dX6_newWallsTo_22 rfl (lv_at hl 0 rfl) ?_
    refine pg C hP (k := 27) (j := 2) (Nat.le_of_ble_eq_true rfl) (xd_27 _ _) rfl iw_6 (Nat.le_of_ble_eq_true rfl) g_255 rfl rfl dX6_newWallsTo_23 ?_
    refine lv_aload_n hx hb dX6_newWallsTo_26 rfl (lv_at hl 0 rfl) ?_
    refine pg C hP (k := 27) (j := 0) (Nat.le_of_ble_eq_true rfl) (xd_27 _ _) rfl iw_6 (Nat.le_of_ble_eq_true rfl) g_253 rfl rfl dX6_newWallsTo_27 ?_
    refine pgN C hP (k := 3) (j := 7) (Nat.le_of_ble_eq_true rfl) (xd_3 _ _) rfl iw_8 (Nat.le_of_ble_eq_true rfl) g_89 rfl rfl dX6_newWallsTo_30 ?_
    refine lv_iconst (v := (0 : Int32)) hx hb dX6_newWallsTo_33 (by decide) ?_
    have h8 := chk_1 hf
    replace hf := chk_2 hf
    refine psI C hP hS (k := 29) (Nat.le_of_ble_eq_true rfl) (xd_29) h8 dX6_newWallsTo_34 (fun M9 H locs eM9 hP hS => ?_)
    replace hf := lt_c eM9 hf
    refine lv_iconst (v := (1 : Int32)) hx hb dX6_newWallsTo_35 (by decide) ?_
    refine lv_istore_n (lv' := [(3, .int (1 : Int32)), (0, .ref (b + 27)), (1, .int a1), (2, .int a2)]) hx hb dX6_newWallsTo_36 rfl hl (by decide) rfl (fun ls hl => ?_)
    refine lv_iconst (v := (0 : Int32)) hx hb dX6_newWallsTo_37 (by decide) ?_
    refine lv_istore (lv' := [(4, .int (0 : Int32)), (3, .int (1 : Int32)), (0, .ref (b + 27)), (1, .int a1), (2, .int a2)]) hx hb dX6_newWallsTo_38 hl (by decide) rfl (fun ls hl => ?_)
    exact w6_newWallsTo_40 (n := n)  C hr hk q40 hf hP hS (lv_sub hl [2, 3, 4, 1, 0] rfl)
  · replace hf := ite_t c4 hf
    refine lv_bipush (v := (-2 : Int32)) hx hb dX6_newWallsTo_10 (by decide) ?_
    exact prI C hr hk hP hS hf dX6_newWallsTo_12
set_option maxHeartbeats 4000000 in
set_option maxRecDepth 100000 in
theorem l6_newWallsTo {p : Program} {l : Launch} {e : Env} {s : State} {m : MethodId} {args : Array Value} {below : List Frame} {meth : Method} {c : Code} {z : Zt} {b : Nat}  (C : Cx p s m args c cX6_newWallsTo 5 RX6 z 339 b) (hr : meth.sig.returnType = (some .int)) (hk : meth.locks = false) {r : Int32} {M' : Mem} (n : Nat) : (∀ (i1 : Int32) (i2 : Int32) (i3 : Int32) (i4 : Int32) (M : Mem) (H : Heap) (locs : List Loc) (ls : Array Slot), (r6_newWallsTo  n) 40 [i1, i2, i3, i4] [] M = some (r, M') → va_P z.1 vwCl (pw (xd z b) 339 b M) H → va_S (pA 339 b) s.heap H locs → lv_has ls 5 [(0, .ref (b + 27)), (1, .int i1), (2, .int i2), (3, .int i3), (4, .int i4)] → W p l e rm6_newWallsTo s m args below meth c H locs 0 0 (MQ below (va_Qi (fun (r' : Int32) (M2 : Mem) => r' = r ∧ M2 = M') (fun M2 t => va_P z.1 vwCl (pw (xd z b) 339 b M2) t.heap) (pA 339 b)) args s 0 0 (pA 339 b)) (F0 m 40 ls [])) := by
  induction n with
  | zero => exact fun _ _ _ _ _ _ _ _ hf => (by cases hf)
  | succ n ih => exact fun _ _ _ _ _ _ _ _ hf hP hS hl => w6_newWallsTo_40 (n := n)  C hr hk ih ((e6_newWallsTo_40  n _ _ _ _ _).symm.trans hf) hP hS hl
theorem c6_newWallsTo {l : Launch} {z : Zt} {b n : Nat}  {a1 : Int32} {a2 : Int32} {M M' : Mem} {r : Int32} (hf : f6_newWallsTo n  a1 a2 M = some (r, M')) : CI l z (xd z b) 339 b yX6_newWallsTo cX6_newWallsTo 5 (some .int) rm6_newWallsTo [.ref (b + 27), .int a1, .int a2] M M' r :=
  CI.ofW (lv := [(0, .ref (b + 27)), (1, .int a1), (2, .int a2)]) (by decide) (Nat.le_of_ble_eq_true rfl) rfl (fun p e s m args below meth c ls C hr hk hP hS hl => w6_newWallsTo_0 (n := n)  C hr hk (l6_newWallsTo  C hr hk n) hf hP hS hl)

-- BronzeKing$Survey.forgetLovers()V
theorem dX6_forgetLovers_0 : decode cX6_forgetLovers 0 = .ok (.aload_n 0, 1) := by decide +kernel
theorem dX6_forgetLovers_1 : decode cX6_forgetLovers 1 = .ok (.getfield 18, 3) := by decide +kernel
theorem dX6_forgetLovers_4 : decode cX6_forgetLovers 4 = .ok (.iconst 0, 1) := by decide +kernel
theorem dX6_forgetLovers_5 : decode cX6_forgetLovers 5 = .ok (.invokestatic 71, 3) := by decide +kernel
theorem dX6_forgetLovers_8 : decode cX6_forgetLovers 8 = .ok (.aload_n 0, 1) := by decide +kernel
theorem dX6_forgetLovers_9 : decode cX6_forgetLovers 9 = .ok (.getfield 21, 3) := by decide +kernel
theorem dX6_forgetLovers_12 : decode cX6_forgetLovers 12 = .ok (.iconst 0, 1) := by decide +kernel
theorem dX6_forgetLovers_13 : decode cX6_forgetLovers 13 = .ok (.invokestatic 71, 3) := by decide +kernel
theorem dX6_forgetLovers_16 : decode cX6_forgetLovers 16 = .ok (.return_, 1) := by decide +kernel
def b6_forgetLovers_0 (rc : Nat → List Int32 → List Int64 → Mem → Option (Unit × Mem)) (n : Nat) (M : Mem) : Option (Unit × Mem) :=
  bnd (fZJ7_fill_53178 n 30 96 (0 : Int32) M) fun r1 M2 =>
  bnd (fZJ7_fill_53178 n 31 96 (0 : Int32) M2) fun r4 M5 =>
  some ((), M5)
def f6_forgetLovers (n : Nat)  (M : Mem) : Option (Unit × Mem) := b6_forgetLovers_0 (fun _ _ _ _ => none) n M
abbrev rm6_forgetLovers : Room := { frames := 1, cells := 0, slots := 0, locals := 23 }
theorem y6_forgetLovers_w : yV RX6 yX6_forgetLovers cX6_forgetLovers 1 none 0 := ⟨g_1002, g_1003, g_10, g_1004, rfl, by decide, by decide, by decide +kernel⟩
set_option maxHeartbeats 4000000 in
set_option maxRecDepth 100000 in
theorem w6_forgetLovers_0 {p : Program} {l : Launch} {e : Env} {s : State} {m : MethodId} {args : Array Value} {below : List Frame} {meth : Method} {c : Code} {z : Zt} {b : Nat}  (C : Cx p s m args c cX6_forgetLovers 1 RX6 z 339 b) (hr : meth.sig.returnType = none) (hk : meth.locks = false) {r : Unit} {M' : Mem} {rc : Nat → List Int32 → List Int64 → Mem → Option (Unit × Mem)} {n : Nat}   {M : Mem} {H : Heap} {locs : List Loc} {ls : Array Slot} (hf : b6_forgetLovers_0  rc n  M = some (r, M')) (hP : va_P z.1 vwCl (pw (xd z b) 339 b M) H) (hS : va_S (pA 339 b) s.heap H locs) (hl : lv_has ls 1 [(0, .ref (b + 27))]) : W p l e rm6_forgetLovers s m args below meth c H locs 0 0 (MQ below (va_Qv (fun (M2 : Mem) => M2 = M') (fun M2 t => va_P z.1 vwCl (pw (xd z b) 339 b M2) t.heap) (pA 339 b)) args s 0 0 (pA 339 b)) (F0 m 0 ls []) := by
  have hx := C.1.1
  have hb := C.1.2.1
  unfold b6_forgetLovers_0 at hf
  refine lv_aload_n hx hb dX6_forgetLovers_0 rfl (lv_at hl 0 rfl) ?_
  refine pg C hP (k := 27) (j := 3) (Nat.le_of_ble_eq_true rfl) (xd_27 _ _) rfl iw_6 (Nat.le_of_ble_eq_true rfl) g_256 rfl rfl dX6_forgetLovers_1 ?_
  refine lv_iconst (v := (0 : Int32)) hx hb dX6_forgetLovers_4 (by decide) ?_
  obtain ⟨r1, M2, h3, hf⟩ := bnd_s hf
  refine pcSv (As := [.ref (b + 30), .int (0 : Int32)]) C hP hS (cZJ7_fill_53178 ⟨(Nat.le_of_ble_eq_true rfl), xd_30⟩ h3) yZJ7_fill_53178_w g_931 rfl rfl rfl ⟨Nat.le_of_ble_eq_true rfl, Nat.le_of_ble_eq_true rfl⟩ hl.1 rfl (Nat.le_of_ble_eq_true rfl) dX6_forgetLovers_5 ⟨Nat.le_of_ble_eq_true rfl, Nat.le_of_ble_eq_true rfl⟩ (fun H locs hP hS => ?_)
  refine lv_aload_n hx hb dX6_forgetLovers_8 rfl (lv_at hl 0 rfl) ?_
  refine pg C hP (k := 27) (j := 4) (Nat.le_of_ble_eq_true rfl) (xd_27 _ _) rfl iw_6 (Nat.le_of_ble_eq_true rfl) g_258 rfl rfl dX6_forgetLovers_9 ?_
  refine lv_iconst (v := (0 : Int32)) hx hb dX6_forgetLovers_12 (by decide) ?_
  obtain ⟨r4, M5, h6, hf⟩ := bnd_s hf
  refine pcSv (As := [.ref (b + 31), .int (0 : Int32)]) C hP hS (cZJ7_fill_53178 ⟨(Nat.le_of_ble_eq_true rfl), xd_31⟩ h6) yZJ7_fill_53178_w g_931 rfl rfl rfl ⟨Nat.le_of_ble_eq_true rfl, Nat.le_of_ble_eq_true rfl⟩ hl.1 rfl (Nat.le_of_ble_eq_true rfl) dX6_forgetLovers_13 ⟨Nat.le_of_ble_eq_true rfl, Nat.le_of_ble_eq_true rfl⟩ (fun H locs hP hS => ?_)
  exact prV C hr hk hP hS hf dX6_forgetLovers_16
theorem c6_forgetLovers {l : Launch} {z : Zt} {b n : Nat}   {M M' : Mem} {r : Unit} (hf : f6_forgetLovers n   M = some (r, M')) : CV l z (xd z b) 339 b yX6_forgetLovers cX6_forgetLovers 1 none rm6_forgetLovers [.ref (b + 27)] M M' :=
  CV.ofW (lv := [(0, .ref (b + 27))]) (by decide) (Nat.le_of_ble_eq_true rfl) rfl (fun p e s m args below meth c ls C hr hk hP hS hl => w6_forgetLovers_0 (n := n)  C hr hk  hf hP hS hl)

-- BronzeKing$Survey.addLover(I)V
theorem dX6_addLover_0 : decode cX6_addLover 0 = .ok (.aload_n 0, 1) := by decide +kernel
theorem dX6_addLover_1 : decode cX6_addLover 1 = .ok (.getfield 54, 3) := by decide +kernel
theorem dX6_addLover_4 : decode cX6_addLover 4 = .ok (.iload_n 1, 1) := by decide +kernel
theorem dX6_addLover_5 : decode cX6_addLover 5 = .ok (.iconst 2, 1) := by decide +kernel
theorem dX6_addLover_6 : decode cX6_addLover 6 = .ok (.aload_n 0, 1) := by decide +kernel
theorem dX6_addLover_7 : decode cX6_addLover 7 = .ok (.getfield 9, 3) := by decide +kernel
theorem dX6_addLover_10 : decode cX6_addLover 10 = .ok (.invokevirtual 63, 3) := by decide +kernel
theorem dX6_addLover_13 : decode cX6_addLover 13 = .ok (.iconst 0, 1) := by decide +kernel
theorem dX6_addLover_14 : decode cX6_addLover 14 = .ok (.istore_n 2, 1) := by decide +kernel
theorem dX6_addLover_15 : decode cX6_addLover 15 = .ok (.iload_n 2, 1) := by decide +kernel
theorem dX6_addLover_16 : decode cX6_addLover 16 = .ok (.bipush 96, 2) := by decide +kernel
theorem dX6_addLover_18 : decode cX6_addLover 18 = .ok (.if_icmp .ge 62, 3) := by decide +kernel
theorem dX6_addLover_21 : decode cX6_addLover 21 = .ok (.aload_n 0, 1) := by decide +kernel
theorem dX6_addLover_22 : decode cX6_addLover 22 = .ok (.getfield 18, 3) := by decide +kernel
theorem dX6_addLover_25 : decode cX6_addLover 25 = .ok (.iload_n 2, 1) := by decide +kernel
theorem dX6_addLover_26 : decode cX6_addLover 26 = .ok (.dup2, 1) := by decide +kernel
theorem dX6_addLover_27 : decode cX6_addLover 27 = .ok (.iaload, 1) := by decide +kernel
theorem dX6_addLover_28 : decode cX6_addLover 28 = .ok (.aload_n 0, 1) := by decide +kernel
theorem dX6_addLover_29 : decode cX6_addLover 29 = .ok (.getfield 9, 3) := by decide +kernel
theorem dX6_addLover_32 : decode cX6_addLover 32 = .ok (.iload_n 2, 1) := by decide +kernel
theorem dX6_addLover_33 : decode cX6_addLover 33 = .ok (.iaload, 1) := by decide +kernel
theorem dX6_addLover_34 : decode cX6_addLover 34 = .ok (.bipush 99, 2) := by decide +kernel
theorem dX6_addLover_36 : decode cX6_addLover 36 = .ok (.if_icmp .ne 9, 3) := by decide +kernel
theorem dX6_addLover_39 : decode cX6_addLover 39 = .ok (.sipush 1000, 3) := by decide +kernel
theorem dX6_addLover_42 : decode cX6_addLover 42 = .ok (.goto 9, 3) := by decide +kernel
theorem dX6_addLover_45 : decode cX6_addLover 45 = .ok (.aload_n 0, 1) := by decide +kernel
theorem dX6_addLover_46 : decode cX6_addLover 46 = .ok (.getfield 9, 3) := by decide +kernel
theorem dX6_addLover_49 : decode cX6_addLover 49 = .ok (.iload_n 2, 1) := by decide +kernel
theorem dX6_addLover_50 : decode cX6_addLover 50 = .ok (.iaload, 1) := by decide +kernel
theorem dX6_addLover_51 : decode cX6_addLover 51 = .ok (.iadd, 1) := by decide +kernel
theorem dX6_addLover_52 : decode cX6_addLover 52 = .ok (.iastore, 1) := by decide +kernel
theorem dX6_addLover_53 : decode cX6_addLover 53 = .ok (.aload_n 0, 1) := by decide +kernel
theorem dX6_addLover_54 : decode cX6_addLover 54 = .ok (.getfield 21, 3) := by decide +kernel
theorem dX6_addLover_57 : decode cX6_addLover 57 = .ok (.iload_n 2, 1) := by decide +kernel
theorem dX6_addLover_58 : decode cX6_addLover 58 = .ok (.aload_n 0, 1) := by decide +kernel
theorem dX6_addLover_59 : decode cX6_addLover 59 = .ok (.getfield 21, 3) := by decide +kernel
theorem dX6_addLover_62 : decode cX6_addLover 62 = .ok (.iload_n 2, 1) := by decide +kernel
theorem dX6_addLover_63 : decode cX6_addLover 63 = .ok (.iaload, 1) := by decide +kernel
theorem dX6_addLover_64 : decode cX6_addLover 64 = .ok (.aload_n 0, 1) := by decide +kernel
theorem dX6_addLover_65 : decode cX6_addLover 65 = .ok (.getfield 9, 3) := by decide +kernel
theorem dX6_addLover_68 : decode cX6_addLover 68 = .ok (.iload_n 2, 1) := by decide +kernel
theorem dX6_addLover_69 : decode cX6_addLover 69 = .ok (.iaload, 1) := by decide +kernel
theorem dX6_addLover_70 : decode cX6_addLover 70 = .ok (.invokestatic 88, 3) := by decide +kernel
theorem dX6_addLover_73 : decode cX6_addLover 73 = .ok (.iastore, 1) := by decide +kernel
theorem dX6_addLover_74 : decode cX6_addLover 74 = .ok (.iinc 2 1, 3) := by decide +kernel
theorem dX6_addLover_77 : decode cX6_addLover 77 = .ok (.goto (-62), 3) := by decide +kernel
theorem dX6_addLover_80 : decode cX6_addLover 80 = .ok (.return_, 1) := by decide +kernel
def b6_addLover_51 (rc : Nat → List Int32 → List Int64 → Mem → Option (Unit × Mem)) (n : Nat) (i2 : Int32) (s1 : Int32) (s2 : Int32) (s3 : Int32) (M : Mem) : Option (Unit × Mem) :=
  chk (inb s1 96) <|
  lt (wI M 30 s1.toNatClampNeg (s2 + s3)) fun M10 =>
  chk (inb i2 96) <|
  chk (inb i2 96) <|
  chk (inb i2 96) <|
  lt (wI M10 31 i2.toNatClampNeg (if (M10.1 31 i2.toNatClampNeg) < (M10.1 28 i2.toNatClampNeg) then (M10.1 28 i2.toNatClampNeg) else (M10.1 31 i2.toNatClampNeg))) fun M14 =>
  lt (i2 + (1 : Int32)) fun v15 =>
  rc 15 [v15] [] M14
def b6_addLover_15 (rc : Nat → List Int32 → List Int64 → Mem → Option (Unit × Mem)) (n : Nat) (i2 : Int32) (M : Mem) : Option (Unit × Mem) :=
  (if (96 : Int32) ≤ i2 then (
   some ((), M))
  else (
   chk (inb i2 96) <|
   chk (inb i2 96) <|
   (if (M.1 28 i2.toNatClampNeg) = (99 : Int32) then (
    b6_addLover_51  rc n i2 i2 (M.1 30 i2.toNatClampNeg) (1000 : Int32) M)
   else (
    chk (inb i2 96) <|
    b6_addLover_51  rc n i2 i2 (M.1 30 i2.toNatClampNeg) (M.1 28 i2.toNatClampNeg) M))))
def b6_addLover_0 (rc : Nat → List Int32 → List Int64 → Mem → Option (Unit × Mem)) (n : Nat) (a1 : Int32) (M : Mem) : Option (Unit × Mem) :=
  bnd (f8_spread n 28 a1 (2 : Int32) M) fun r1 M2 =>
  b6_addLover_15  rc n (0 : Int32) M2
def r6_addLover : Nat → Nat → List Int32 → List Int64 → Mem → Option (Unit × Mem)
  | 0 => fun _ _ _ _ => none
  | n + 1 => fun pc li lj M =>
    if pc = 15 then (match li, lj with | [i2], [] => b6_addLover_15  (r6_addLover  n) n i2 M | _, _ => none) else
    none
theorem e6_addLover_15  (n : Nat) (i2 : Int32) (M : Mem) : r6_addLover  (n + 1) 15 [i2] [] M = b6_addLover_15  (r6_addLover  n) n i2 M := by
  rw [r6_addLover]
  simp
def f6_addLover (n : Nat) (a1 : Int32) (M : Mem) : Option (Unit × Mem) := b6_addLover_0 (r6_addLover n) n a1 M
abbrev rm6_addLover : Room := { frames := 2, cells := 0, slots := 0, locals := 51 }
theorem y6_addLover_w : yV RX6 yX6_addLover cX6_addLover 3 none 1 := ⟨g_1006, g_1007, g_10, g_1008, rfl, by decide, by decide, by decide +kernel⟩
set_option maxHeartbeats 4000000 in
set_option maxRecDepth 100000 in
theorem w6_addLover_51 {p : Program} {l : Launch} {e : Env} {s : State} {m : MethodId} {args : Array Value} {below : List Frame} {meth : Method} {c : Code} {z : Zt} {b : Nat}  (C : Cx p s m args c cX6_addLover 3 RX6 z 339 b) (hr : meth.sig.returnType = none) (hk : meth.locks = false) {r : Unit} {M' : Mem} {rc : Nat → List Int32 → List Int64 → Mem → Option (Unit × Mem)} {n : Nat} (q15 : ∀ (i2 : Int32) (M : Mem) (H : Heap) (locs : List Loc) (ls : Array Slot), rc 15 [i2] [] M = some (r, M') → va_P z.1 vwCl (pw (xd z b) 339 b M) H → va_S (pA 339 b) s.heap H locs → lv_has ls 3 [(0, .ref (b + 27)), (2, .int i2)] → W p l e rm6_addLover s m args below meth c H locs 0 0 (MQ below (va_Qv (fun (M2 : Mem) => M2 = M') (fun M2 t => va_P z.1 vwCl (pw (xd z b) 339 b M2) t.heap) (pA 339 b)) args s 0 0 (pA 339 b)) (F0 m 15 ls [])) {i2 : Int32} {s1 : Int32} {s2 : Int32} {s3 : Int32} {M : Mem} {H : Heap} {locs : List Loc} {ls : Array Slot} (hf : b6_addLover_51  rc n i2 s1 s2 s3 M = some (r, M')) (hP : va_P z.1 vwCl (pw (xd z b) 339 b M) H) (hS : va_S (pA 339 b) s.heap H locs) (hl : lv_has ls 3 [(0, .ref (b + 27)), (2, .int i2)]) : W p l e rm6_addLover s m args below meth c H locs 0 0 (MQ below (va_Qv (fun (M2 : Mem) => M2 = M') (fun M2 t => va_P z.1 vwCl (pw (xd z b) 339 b M2) t.heap) (pA 339 b)) args s 0 0 (pA 339 b)) (F0 m 51 ls [.int s3, .int s2, .int s1, .ref (b + 30)]) := by
  have hx := C.1.1
  have hb := C.1.2.1
  unfold b6_addLover_51 at hf
  refine lv_iadd hx hb dX6_addLover_51 ?_
  have h9 := chk_1 hf
  replace hf := chk_2 hf
  refine psI C hP hS (k := 30) (Nat.le_of_ble_eq_true rfl) (xd_30) h9 dX6_addLover_52 (fun M10 H locs eM10 hP hS => ?_)
  replace hf := lt_c eM10 hf
  refine lv_aload_n hx hb dX6_addLover_53 rfl (lv_at hl 0 rfl) ?_
  refine pg C hP (k := 27) (j := 4) (Nat.le_of_ble_eq_true rfl) (xd_27 _ _) rfl iw_6 (Nat.le_of_ble_eq_true rfl) g_258 rfl rfl dX6_addLover_54 ?_
  refine lv_iload_n hx hb dX6_addLover_57 rfl (lv_at hl 1 rfl) ?_
  refine lv_aload_n hx hb dX6_addLover_58 rfl (lv_at hl 0 rfl) ?_
  refine pg C hP (k := 27) (j := 4) (Nat.le_of_ble_eq_true rfl) (xd_27 _ _) rfl iw_6 (Nat.le_of_ble_eq_true rfl) g_258 rfl rfl dX6_addLover_59 ?_
  refine lv_iload_n hx hb dX6_addLover_62 rfl (lv_at hl 1 rfl) ?_
  have h11 := chk_1 hf
  replace hf := chk_2 hf
  refine paI C hP (k := 31) (Nat.le_of_ble_eq_true rfl) (xd_31 _ _) h11 dX6_addLover_63 ?_
  refine lv_aload_n hx hb dX6_addLover_64 rfl (lv_at hl 0 rfl) ?_
  refine pg C hP (k := 27) (j := 1) (Nat.le_of_ble_eq_true rfl) (xd_27 _ _) rfl iw_6 (Nat.le_of_ble_eq_true rfl) g_254 rfl rfl dX6_addLover_65 ?_
  refine lv_iload_n hx hb dX6_addLover_68 rfl (lv_at hl 1 rfl) ?_
  have h12 := chk_1 hf
  replace hf := chk_2 hf
  refine paI C hP (k := 28) (Nat.le_of_ble_eq_true rfl) (xd_28 _ _) h12 dX6_addLover_69 ?_
  refine va_mmax hx hb (by rw [C.1.2.2.1]; exact hl.1.symm) C.1.2.2.2.1 (C.1.2.2.2.2 _ g_1009) (C.1.2.2.2.2 _ g_564) (C.1.2.2.2.2 _ g_17) (C.1.2.2.2.2 _ g_565) (Nat.le_of_ble_eq_true rfl) (Nat.le_of_ble_eq_true rfl) (Nat.le_of_ble_eq_true rfl) (Nat.le_of_ble_eq_true rfl) dX6_addLover_70 ?_
  have h13 := chk_1 hf
  replace hf := chk_2 hf
  refine psI C hP hS (k := 31) (Nat.le_of_ble_eq_true rfl) (xd_31) h13 dX6_addLover_73 (fun M14 H locs eM14 hP hS => ?_)
  replace hf := lt_c eM14 hf
  obtain ⟨v15, ev15⟩ : ∃ v : Int32, v = i2 + (1 : Int32) := ⟨_, rfl⟩
  replace hf := lt_c ev15 hf
  refine lv_iinc (v := v15) (lv' := [(2, .int v15), (0, .ref (b + 27))]) hx hb dX6_addLover_74 hl (k := 1) rfl (by rw [ev15]; rfl) (by decide) rfl (fun ls hl => ?_)
  refine lv_goto (tgt := 15) hx hb dX6_addLover_77 (by decide) ?_
  exact q15 v15 M14 _ _ _ hf hP hS (lv_sub hl [1, 0] rfl)
set_option maxHeartbeats 4000000 in
set_option maxRecDepth 100000 in
theorem w6_addLover_15 {p : Program} {l : Launch} {e : Env} {s : State} {m : MethodId} {args : Array Value} {below : List Frame} {meth : Method} {c : Code} {z : Zt} {b : Nat}  (C : Cx p s m args c cX6_addLover 3 RX6 z 339 b) (hr : meth.sig.returnType = none) (hk : meth.locks = false) {r : Unit} {M' : Mem} {rc : Nat → List Int32 → List Int64 → Mem → Option (Unit × Mem)} {n : Nat} (q15 : ∀ (i2 : Int32) (M : Mem) (H : Heap) (locs : List Loc) (ls : Array Slot), rc 15 [i2] [] M = some (r, M') → va_P z.1 vwCl (pw (xd z b) 339 b M) H → va_S (pA 339 b) s.heap H locs → lv_has ls 3 [(0, .ref (b + 27)), (2, .int i2)] → W p l e rm6_addLover s m args below meth c H locs 0 0 (MQ below (va_Qv (fun (M2 : Mem) => M2 = M') (fun M2 t => va_P z.1 vwCl (pw (xd z b) 339 b M2) t.heap) (pA 339 b)) args s 0 0 (pA 339 b)) (F0 m 15 ls [])) {i2 : Int32} {M : Mem} {H : Heap} {locs : List Loc} {ls : Array Slot} (hf : b6_addLover_15  rc n i2 M = some (r, M')) (hP : va_P z.1 vwCl (pw (xd z b) 339 b M) H) (hS : va_S (pA 339 b) s.heap H locs) (hl : lv_has ls 3 [(0, .ref (b + 27)), (2, .int i2)]) : W p l e rm6_addLover s m args below meth c H locs 0 0 (MQ below (va_Qv (fun (M2 : Mem) => M2 = M') (fun M2 t => va_P z.1 vwCl (pw (xd z b) 339 b M2) t.heap) (pA 339 b)) args s 0 0 (pA 339 b)) (F0 m 15 ls []) := by
  have hx := C.1.1
  have hb := C.1.2.1
  unfold b6_addLover_15 at hf
  refine lv_iload_n hx hb dX6_addLover_15 rfl (lv_at hl 1 rfl) ?_
  refine lv_bipush (v := (96 : Int32)) hx hb dX6_addLover_16 (by decide) ?_
  refine lv_icmp_ge (tgt := 80) hx hb dX6_addLover_18 (by decide) (fun c4 => ?_) (fun c4 => ?_)
  · replace hf := ite_t c4 hf
    exact prV C hr hk hP hS hf dX6_addLover_80
  · replace hf := ite_f c4 hf
    refine lv_aload_n hx hb dX6_addLover_21 rfl (lv_at hl 0 rfl) ?_
    refine pg C hP (k := 27) (j := 3) (Nat.le_of_ble_eq_true rfl) (xd_27 _ _) rfl iw_6 (Nat.le_of_ble_eq_true rfl) g_256 rfl rfl dX6_addLover_22 ?_
    refine lv_iload_n hx hb dX6_addLover_25 rfl (lv_at hl 1 rfl) ?_
    refine lv_dup2_11 hx hb dX6_addLover_26 rfl rfl ?_
    have h5 := chk_1 hf
    replace hf := chk_2 hf
    refine paI C hP (k := 30) (Nat.le_of_ble_eq_true rfl) (xd_30 _ _) h5 dX6_addLover_27 ?_
    refine lv_aload_n hx hb dX6_addLover_28 rfl (lv_at hl 0 rfl) ?_
    refine pg C hP (k := 27) (j := 1) (Nat.le_of_ble_eq_true rfl) (xd_27 _ _) rfl iw_6 (Nat.le_of_ble_eq_true rfl) g_254 rfl rfl dX6_addLover_29 ?_
    refine lv_iload_n hx hb dX6_addLover_32 rfl (lv_at hl 1 rfl) ?_
    have h6 := chk_1 hf
    replace hf := chk_2 hf
    refine paI C hP (k := 28) (Nat.le_of_ble_eq_true rfl) (xd_28 _ _) h6 dX6_addLover_33 ?_
    refine lv_bipush (v := (99 : Int32)) hx hb dX6_addLover_34 (by decide) ?_
    refine lv_icmp_ne (tgt := 45) hx hb dX6_addLover_36 (by decide) (fun c7 => ?_) (fun c7 => ?_)
    · replace hf := ite_f c7 hf
      refine lv_aload_n hx hb dX6_addLover_45 rfl (lv_at hl 0 rfl) ?_
      refine pg C hP (k := 27) (j := 1) (Nat.le_of_ble_eq_true rfl) (xd_27 _ _) rfl iw_6 (Nat.le_of_ble_eq_true rfl) g_254 rfl rfl dX6_addLover_46 ?_
      refine lv_iload_n hx hb dX6_addLover_49 rfl (lv_at hl 1 rfl) ?_
      have h8 := chk_1 hf
      replace hf := chk_2 hf
      refine paI C hP (k := 28) (Nat.le_of_ble_eq_true rfl) (xd_28 _ _) h8 dX6_addLover_50 ?_
      exact w6_addLover_51 (n := n)  C hr hk q15 hf hP hS (lv_sub hl [0, 1] rfl)
    · replace hf := ite_t c7 hf
      refine lv_sipush (v := (1000 : Int32)) hx hb dX6_addLover_39 (by decide) ?_
      refine lv_goto (tgt := 51) hx hb dX6_addLover_42 (by decide) ?_
      exact w6_addLover_51 (n := n)  C hr hk q15 hf hP hS (lv_sub hl [0, 1] rfl)
set_option maxHeartbeats 4000000 in
set_option maxRecDepth 100000 in
theorem w6_addLover_0 {p : Program} {l : Launch} {e : Env} {s : State} {m : MethodId} {args : Array Value} {below : List Frame} {meth : Method} {c : Code} {z : Zt} {b : Nat}  (C : Cx p s m args c cX6_addLover 3 RX6 z 339 b) (hr : meth.sig.returnType = none) (hk : meth.locks = false) {r : Unit} {M' : Mem} {rc : Nat → List Int32 → List Int64 → Mem → Option (Unit × Mem)} {n : Nat} (q15 : ∀ (i2 : Int32) (M : Mem) (H : Heap) (locs : List Loc) (ls : Array Slot), rc 15 [i2] [] M = some (r, M') → va_P z.1 vwCl (pw (xd z b) 339 b M) H → va_S (pA 339 b) s.heap H locs → lv_has ls 3 [(0, .ref (b + 27)), (2, .int i2)] → W p l e rm6_addLover s m args below meth c H locs 0 0 (MQ below (va_Qv (fun (M2 : Mem) => M2 = M') (fun M2 t => va_P z.1 vwCl (pw (xd z b) 339 b M2) t.heap) (pA 339 b)) args s 0 0 (pA 339 b)) (F0 m 15 ls [])) {a1 : Int32} {M : Mem} {H : Heap} {locs : List Loc} {ls : Array Slot} (hf : b6_addLover_0  rc n a1 M = some (r, M')) (hP : va_P z.1 vwCl (pw (xd z b) 339 b M) H) (hS : va_S (pA 339 b) s.heap H locs) (hl : lv_has ls 3 [(0, .ref (b + 27)), (1, .int a1)]) : W p l e rm6_addLover s m args below meth c H locs 0 0 (MQ below (va_Qv (fun (M2 : Mem) => M2 = M') (fun M2 t => va_P z.1 vwCl (pw (xd z b) 339 b M2) t.heap) (pA 339 b)) args s 0 0 (pA 339 b)) (F0 m 0 ls []) := by
  have hx := C.1.1
  have hb := C.1.2.1
  unfold b6_addLover_0 at hf
  refine lv_aload_n hx hb dX6_addLover_0 rfl (lv_at hl 0 rfl) ?_
  refine pg C hP (k := 27) (j := 0) (Nat.le_of_ble_eq_true rfl) (xd_27 _ _) rfl iw_6 (Nat.le_of_ble_eq_true rfl) g_253 rfl rfl dX6_addLover_1 ?_
  refine lv_iload_n hx hb dX6_addLover_4 rfl (lv_at hl 1 rfl) ?_
  refine lv_iconst (v := (2 : Int32)) hx hb dX6_addLover_5 (by decide) ?_
  refine lv_aload_n hx hb dX6_addLover_6 rfl (lv_at hl 0 rfl) ?_
  refine pg C hP (k := 27) (j := 1) (Nat.le_of_ble_eq_true rfl) (xd_27 _ _) rfl iw_6 (Nat.le_of_ble_eq_true rfl) g_254 rfl rfl dX6_addLover_7 ?_
  obtain ⟨r1, M2, h3, hf⟩ := bnd_s hf
  refine pcVv (As := [.int a1, .int (2 : Int32), .ref (b + 28)]) C hP hS (k := 3) (Nat.le_of_ble_eq_true rfl) (xd_3 _ _) rfl (c8_spread a9_28 h3) y8_spread_w g_921 rfl rfl rfl ⟨Nat.le_of_ble_eq_true rfl, Nat.le_of_ble_eq_true rfl⟩ hl.1 rfl (Nat.le_of_ble_eq_true rfl) dX6_addLover_10 ⟨Nat.le_of_ble_eq_true rfl, Nat.le_of_ble_eq_true rfl⟩ (fun H locs hP hS => ?_)
  refine lv_iconst (v := (0 : Int32)) hx hb dX6_addLover_13 (by decide) ?_
  refine lv_istore_n (lv' := [(2, .int (0 : Int32)), (0, .ref (b + 27)), (1, .int a1)]) hx hb dX6_addLover_14 rfl hl (by decide) rfl (fun ls hl => ?_)
  exact w6_addLover_15 (n := n)  C hr hk q15 hf hP hS (lv_sub hl [1, 0] rfl)
set_option maxHeartbeats 4000000 in
set_option maxRecDepth 100000 in
theorem l6_addLover {p : Program} {l : Launch} {e : Env} {s : State} {m : MethodId} {args : Array Value} {below : List Frame} {meth : Method} {c : Code} {z : Zt} {b : Nat}  (C : Cx p s m args c cX6_addLover 3 RX6 z 339 b) (hr : meth.sig.returnType = none) (hk : meth.locks = false) {r : Unit} {M' : Mem} (n : Nat) : (∀ (i2 : Int32) (M : Mem) (H : Heap) (locs : List Loc) (ls : Array Slot), (r6_addLover  n) 15 [i2] [] M = some (r, M') → va_P z.1 vwCl (pw (xd z b) 339 b M) H → va_S (pA 339 b) s.heap H locs → lv_has ls 3 [(0, .ref (b + 27)), (2, .int i2)] → W p l e rm6_addLover s m args below meth c H locs 0 0 (MQ below (va_Qv (fun (M2 : Mem) => M2 = M') (fun M2 t => va_P z.1 vwCl (pw (xd z b) 339 b M2) t.heap) (pA 339 b)) args s 0 0 (pA 339 b)) (F0 m 15 ls [])) := by
  induction n with
  | zero => exact fun _ _ _ _ _ hf => (by cases hf)
  | succ n ih => exact fun _ _ _ _ _ hf hP hS hl => w6_addLover_15 (n := n)  C hr hk ih ((e6_addLover_15  n _ _).symm.trans hf) hP hS hl
theorem c6_addLover {l : Launch} {z : Zt} {b n : Nat}  {a1 : Int32} {M M' : Mem} {r : Unit} (hf : f6_addLover n  a1 M = some (r, M')) : CV l z (xd z b) 339 b yX6_addLover cX6_addLover 3 none rm6_addLover [.ref (b + 27), .int a1] M M' :=
  CV.ofW (lv := [(0, .ref (b + 27)), (1, .int a1)]) (by decide) (Nat.le_of_ble_eq_true rfl) rfl (fun p e s m args below meth c ls C hr hk hP hS hl => w6_addLover_0 (n := n)  C hr hk (l6_addLover  C hr hk n) hf hP hS hl)

-- BronzeKing$Survey.meetingPlace()I
theorem dX6_meetingPlace_0 : decode cX6_meetingPlace 0 = .ok (.bipush (-2), 2) := by decide +kernel
theorem dX6_meetingPlace_2 : decode cX6_meetingPlace 2 = .ok (.istore_n 1, 1) := by decide +kernel
theorem dX6_meetingPlace_3 : decode cX6_meetingPlace 3 = .ok (.sipush 1000, 3) := by decide +kernel
theorem dX6_meetingPlace_6 : decode cX6_meetingPlace 6 = .ok (.istore_n 2, 1) := by decide +kernel
theorem dX6_meetingPlace_7 : decode cX6_meetingPlace 7 = .ok (.bipush 99, 2) := by decide +kernel
theorem dX6_meetingPlace_9 : decode cX6_meetingPlace 9 = .ok (.istore_n 3, 1) := by decide +kernel
theorem dX6_meetingPlace_10 : decode cX6_meetingPlace 10 = .ok (.iconst 0, 1) := by decide +kernel
theorem dX6_meetingPlace_11 : decode cX6_meetingPlace 11 = .ok (.istore 4, 2) := by decide +kernel
theorem dX6_meetingPlace_13 : decode cX6_meetingPlace 13 = .ok (.iload 4, 2) := by decide +kernel
theorem dX6_meetingPlace_15 : decode cX6_meetingPlace 15 = .ok (.bipush 96, 2) := by decide +kernel
theorem dX6_meetingPlace_17 : decode cX6_meetingPlace 17 = .ok (.if_icmp .ge 73, 3) := by decide +kernel
theorem dX6_meetingPlace_20 : decode cX6_meetingPlace 20 = .ok (.aload_n 0, 1) := by decide +kernel
theorem dX6_meetingPlace_21 : decode cX6_meetingPlace 21 = .ok (.getfield 18, 3) := by decide +kernel
theorem dX6_meetingPlace_24 : decode cX6_meetingPlace 24 = .ok (.iload 4, 2) := by decide +kernel
theorem dX6_meetingPlace_26 : decode cX6_meetingPlace 26 = .ok (.iaload, 1) := by decide +kernel
theorem dX6_meetingPlace_27 : decode cX6_meetingPlace 27 = .ok (.iload_n 2, 1) := by decide +kernel
theorem dX6_meetingPlace_28 : decode cX6_meetingPlace 28 = .ok (.if_icmp .ne 18, 3) := by decide +kernel
theorem dX6_meetingPlace_31 : decode cX6_meetingPlace 31 = .ok (.aload_n 0, 1) := by decide +kernel
theorem dX6_meetingPlace_32 : decode cX6_meetingPlace 32 = .ok (.getfield 21, 3) := by decide +kernel
theorem dX6_meetingPlace_35 : decode cX6_meetingPlace 35 = .ok (.iload 4, 2) := by decide +kernel
theorem dX6_meetingPlace_37 : decode cX6_meetingPlace 37 = .ok (.iaload, 1) := by decide +kernel
theorem dX6_meetingPlace_38 : decode cX6_meetingPlace 38 = .ok (.iload_n 3, 1) := by decide +kernel
theorem dX6_meetingPlace_39 : decode cX6_meetingPlace 39 = .ok (.if_icmp .ge 7, 3) := by decide +kernel
theorem dX6_meetingPlace_42 : decode cX6_meetingPlace 42 = .ok (.iconst 1, 1) := by decide +kernel
theorem dX6_meetingPlace_43 : decode cX6_meetingPlace 43 = .ok (.goto 4, 3) := by decide +kernel
theorem dX6_meetingPlace_46 : decode cX6_meetingPlace 46 = .ok (.iconst 0, 1) := by decide +kernel
theorem dX6_meetingPlace_47 : decode cX6_meetingPlace 47 = .ok (.istore 5, 2) := by decide +kernel
theorem dX6_meetingPlace_49 : decode cX6_meetingPlace 49 = .ok (.aload_n 0, 1) := by decide +kernel
theorem dX6_meetingPlace_50 : decode cX6_meetingPlace 50 = .ok (.getfield 18, 3) := by decide +kernel
theorem dX6_meetingPlace_53 : decode cX6_meetingPlace 53 = .ok (.iload 4, 2) := by decide +kernel
theorem dX6_meetingPlace_55 : decode cX6_meetingPlace 55 = .ok (.iaload, 1) := by decide +kernel
theorem dX6_meetingPlace_56 : decode cX6_meetingPlace 56 = .ok (.iload_n 2, 1) := by decide +kernel
theorem dX6_meetingPlace_57 : decode cX6_meetingPlace 57 = .ok (.if_icmp .lt 8, 3) := by decide +kernel
theorem dX6_meetingPlace_60 : decode cX6_meetingPlace 60 = .ok (.iload 5, 2) := by decide +kernel
theorem dX6_meetingPlace_62 : decode cX6_meetingPlace 62 = .ok (.ifCond .eq 22, 3) := by decide +kernel
theorem dX6_meetingPlace_65 : decode cX6_meetingPlace 65 = .ok (.iload 4, 2) := by decide +kernel
theorem dX6_meetingPlace_67 : decode cX6_meetingPlace 67 = .ok (.istore_n 1, 1) := by decide +kernel
theorem dX6_meetingPlace_68 : decode cX6_meetingPlace 68 = .ok (.aload_n 0, 1) := by decide +kernel
theorem dX6_meetingPlace_69 : decode cX6_meetingPlace 69 = .ok (.getfield 18, 3) := by decide +kernel
theorem dX6_meetingPlace_72 : decode cX6_meetingPlace 72 = .ok (.iload 4, 2) := by decide +kernel
theorem dX6_meetingPlace_74 : decode cX6_meetingPlace 74 = .ok (.iaload, 1) := by decide +kernel
theorem dX6_meetingPlace_75 : decode cX6_meetingPlace 75 = .ok (.istore_n 2, 1) := by decide +kernel
theorem dX6_meetingPlace_76 : decode cX6_meetingPlace 76 = .ok (.aload_n 0, 1) := by decide +kernel
theorem dX6_meetingPlace_77 : decode cX6_meetingPlace 77 = .ok (.getfield 21, 3) := by decide +kernel
theorem dX6_meetingPlace_80 : decode cX6_meetingPlace 80 = .ok (.iload 4, 2) := by decide +kernel
theorem dX6_meetingPlace_82 : decode cX6_meetingPlace 82 = .ok (.iaload, 1) := by decide +kernel
theorem dX6_meetingPlace_83 : decode cX6_meetingPlace 83 = .ok (.istore_n 3, 1) := by decide +kernel
theorem dX6_meetingPlace_84 : decode cX6_meetingPlace 84 = .ok (.iinc 4 1, 3) := by decide +kernel
theorem dX6_meetingPlace_87 : decode cX6_meetingPlace 87 = .ok (.goto (-74), 3) := by decide +kernel
theorem dX6_meetingPlace_90 : decode cX6_meetingPlace 90 = .ok (.iload_n 1, 1) := by decide +kernel
theorem dX6_meetingPlace_91 : decode cX6_meetingPlace 91 = .ok (.ireturn, 1) := by decide +kernel
def b6_meetingPlace_84 (rc : Nat → List Int32 → List Int64 → Mem → Option (Int32 × Mem)) (n : Nat) (i1 : Int32) (i2 : Int32) (i3 : Int32) (i4 : Int32) (M : Mem) : Option (Int32 × Mem) :=
  lt (i4 + (1 : Int32)) fun v9 =>
  rc 13 [i1, i2, i3, v9] [] M
def b6_meetingPlace_65 (rc : Nat → List Int32 → List Int64 → Mem → Option (Int32 × Mem)) (n : Nat) (i4 : Int32) (M : Mem) : Option (Int32 × Mem) :=
  chk (inb i4 96) <|
  lt (M.1 30 i4.toNatClampNeg) fun v11 =>
  chk (inb i4 96) <|
  lt (M.1 31 i4.toNatClampNeg) fun v13 =>
  b6_meetingPlace_84  rc n i4 v11 v13 i4 M
def b6_meetingPlace_47 (rc : Nat → List Int32 → List Int64 → Mem → Option (Int32 × Mem)) (n : Nat) (i1 : Int32) (i2 : Int32) (i3 : Int32) (i4 : Int32) (s0 : Int32) (M : Mem) : Option (Int32 × Mem) :=
  chk (inb i4 96) <|
  (if (M.1 30 i4.toNatClampNeg) < i2 then (
   b6_meetingPlace_65  rc n i4 M)
  else (
   (if s0 = 0 then (
    b6_meetingPlace_84  rc n i1 i2 i3 i4 M)
   else (
    b6_meetingPlace_65  rc n i4 M))))
def b6_meetingPlace_46 (rc : Nat → List Int32 → List Int64 → Mem → Option (Int32 × Mem)) (n : Nat) (i1 : Int32) (i2 : Int32) (i3 : Int32) (i4 : Int32) (M : Mem) : Option (Int32 × Mem) :=
  b6_meetingPlace_47  rc n i1 i2 i3 i4 (0 : Int32) M
def b6_meetingPlace_13 (rc : Nat → List Int32 → List Int64 → Mem → Option (Int32 × Mem)) (n : Nat) (i1 : Int32) (i2 : Int32) (i3 : Int32) (i4 : Int32) (M : Mem) : Option (Int32 × Mem) :=
  (if (96 : Int32) ≤ i4 then (
   some (i1, M))
  else (
   chk (inb i4 96) <|
   (if (M.1 30 i4.toNatClampNeg) = i2 then (
    chk (inb i4 96) <|
    (if i3 ≤ (M.1 31 i4.toNatClampNeg) then (
     b6_meetingPlace_46  rc n i1 i2 i3 i4 M)
    else (
     b6_meetingPlace_47  rc n i1 i2 i3 i4 (1 : Int32) M)))
   else (
    b6_meetingPlace_46  rc n i1 i2 i3 i4 M))))
def b6_meetingPlace_0 (rc : Nat → List Int32 → List Int64 → Mem → Option (Int32 × Mem)) (n : Nat) (M : Mem) : Option (Int32 × Mem) :=
  b6_meetingPlace_13  rc n (-2 : Int32) (1000 : Int32) (99 : Int32) (0 : Int32) M
def r6_meetingPlace : Nat → Nat → List Int32 → List Int64 → Mem → Option (Int32 × Mem)
  | 0 => fun _ _ _ _ => none
  | n + 1 => fun pc li lj M =>
    if pc = 13 then (match li, lj with | [i1, i2, i3, i4], [] => b6_meetingPlace_13  (r6_meetingPlace  n) n i1 i2 i3 i4 M | _, _ => none) else
    none
theorem e6_meetingPlace_13  (n : Nat) (i1 : Int32) (i2 : Int32) (i3 : Int32) (i4 : Int32) (M : Mem) : r6_meetingPlace  (n + 1) 13 [i1, i2, i3, i4] [] M = b6_meetingPlace_13  (r6_meetingPlace  n) n i1 i2 i3 i4 M := by
  rw [r6_meetingPlace]
  simp
def f6_meetingPlace (n : Nat)  (M : Mem) : Option (Int32 × Mem) := b6_meetingPlace_0 (r6_meetingPlace n) n M
abbrev rm6_meetingPlace : Room := { frames := 0, cells := 0, slots := 0, locals := 0 }
theorem y6_meetingPlace_w : yV RX6 yX6_meetingPlace cX6_meetingPlace 6 (some .int) 0 := ⟨g_1011, g_1012, g_10, g_1013, rfl, by decide, by decide, by decide +kernel⟩
set_option maxHeartbeats 4000000 in
set_option maxRecDepth 100000 in
theorem w6_meetingPlace_84 {p : Program} {l : Launch} {e : Env} {s : State} {m : MethodId} {args : Array Value} {below : List Frame} {meth : Method} {c : Code} {z : Zt} {b : Nat}  (C : Cx p s m args c cX6_meetingPlace 6 RX6 z 339 b) (hr : meth.sig.returnType = (some .int)) (hk : meth.locks = false) {r : Int32} {M' : Mem} {rc : Nat → List Int32 → List Int64 → Mem → Option (Int32 × Mem)} {n : Nat} (q13 : ∀ (i1 : Int32) (i2 : Int32) (i3 : Int32) (i4 : Int32) (M : Mem) (H : Heap) (locs : List Loc) (ls : Array Slot), rc 13 [i1, i2, i3, i4] [] M = some (r, M') → va_P z.1 vwCl (pw (xd z b) 339 b M) H → va_S (pA 339 b) s.heap H locs → lv_has ls 6 [(0, .ref (b + 27)), (1, .int i1), (2, .int i2), (3, .int i3), (4, .int i4)] → W p l e rm6_meetingPlace s m args below meth c H locs 0 0 (MQ below (va_Qi (fun (r' : Int32) (M2 : Mem) => r' = r ∧ M2 = M') (fun M2 t => va_P z.1 vwCl (pw (xd z b) 339 b M2) t.heap) (pA 339 b)) args s 0 0 (pA 339 b)) (F0 m 13 ls [])) {i1 : Int32} {i2 : Int32} {i3 : Int32} {i4 : Int32} {M : Mem} {H : Heap} {locs : List Loc} {ls : Array Slot} (hf : b6_meetingPlace_84  rc n i1 i2 i3 i4 M = some (r, M')) (hP : va_P z.1 vwCl (pw (xd z b) 339 b M) H) (hS : va_S (pA 339 b) s.heap H locs) (hl : lv_has ls 6 [(0, .ref (b + 27)), (1, .int i1), (2, .int i2), (3, .int i3), (4, .int i4)]) : W p l e rm6_meetingPlace s m args below meth c H locs 0 0 (MQ below (va_Qi (fun (r' : Int32) (M2 : Mem) => r' = r ∧ M2 = M') (fun M2 t => va_P z.1 vwCl (pw (xd z b) 339 b M2) t.heap) (pA 339 b)) args s 0 0 (pA 339 b)) (F0 m 84 ls []) := by
  have hx := C.1.1
  have hb := C.1.2.1
  unfold b6_meetingPlace_84 at hf
  obtain ⟨v9, ev9⟩ : ∃ v : Int32, v = i4 + (1 : Int32) := ⟨_, rfl⟩
  replace hf := lt_c ev9 hf
  refine lv_iinc (v := v9) (lv' := [(4, .int v9), (0, .ref (b + 27)), (1, .int i1), (2, .int i2), (3, .int i3)]) hx hb dX6_meetingPlace_84 hl (k := 4) rfl (by rw [ev9]; rfl) (by decide) rfl (fun ls hl => ?_)
  refine lv_goto (tgt := 13) hx hb dX6_meetingPlace_87 (by decide) ?_
  exact q13 i1 i2 i3 v9 M _ _ _ hf hP hS (lv_sub hl [1, 2, 3, 4, 0] rfl)
set_option maxHeartbeats 4000000 in
set_option maxRecDepth 100000 in
theorem w6_meetingPlace_65 {p : Program} {l : Launch} {e : Env} {s : State} {m : MethodId} {args : Array Value} {below : List Frame} {meth : Method} {c : Code} {z : Zt} {b : Nat}  (C : Cx p s m args c cX6_meetingPlace 6 RX6 z 339 b) (hr : meth.sig.returnType = (some .int)) (hk : meth.locks = false) {r : Int32} {M' : Mem} {rc : Nat → List Int32 → List Int64 → Mem → Option (Int32 × Mem)} {n : Nat} (q13 : ∀ (i1 : Int32) (i2 : Int32) (i3 : Int32) (i4 : Int32) (M : Mem) (H : Heap) (locs : List Loc) (ls : Array Slot), rc 13 [i1, i2, i3, i4] [] M = some (r, M') → va_P z.1 vwCl (pw (xd z b) 339 b M) H → va_S (pA 339 b) s.heap H locs → lv_has ls 6 [(0, .ref (b + 27)), (1, .int i1), (2, .int i2), (3, .int i3), (4, .int i4)] → W p l e rm6_meetingPlace s m args below meth c H locs 0 0 (MQ below (va_Qi (fun (r' : Int32) (M2 : Mem) => r' = r ∧ M2 = M') (fun M2 t => va_P z.1 vwCl (pw (xd z b) 339 b M2) t.heap) (pA 339 b)) args s 0 0 (pA 339 b)) (F0 m 13 ls [])) {i4 : Int32} {M : Mem} {H : Heap} {locs : List Loc} {ls : Array Slot} (hf : b6_meetingPlace_65  rc n i4 M = some (r, M')) (hP : va_P z.1 vwCl (pw (xd z b) 339 b M) H) (hS : va_S (pA 339 b) s.heap H locs) (hl : lv_has ls 6 [(0, .ref (b + 27)), (4, .int i4)]) : W p l e rm6_meetingPlace s m args below meth c H locs 0 0 (MQ below (va_Qi (fun (r' : Int32) (M2 : Mem) => r' = r ∧ M2 = M') (fun M2 t => va_P z.1 vwCl (pw (xd z b) 339 b M2) t.heap) (pA 339 b)) args s 0 0 (pA 339 b)) (F0 m 65 ls []) := by
  have hx := C.1.1
  have hb := C.1.2.1
  unfold b6_meetingPlace_65 at hf
  refine lv_iload hx hb dX6_meetingPlace_65 (lv_at hl 1 rfl) ?_
  refine lv_istore_n (lv' := [(1, .int i4), (0, .ref (b + 27)), (4, .int i4)]) hx hb dX6_meetingPlace_67 rfl hl (by decide) rfl (fun ls hl => ?_)
  refine lv_aload_n hx hb dX6_meetingPlace_68 rfl (lv_at hl 1 rfl) ?_
  refine pg C hP (k := 27) (j := 3) (Nat.le_of_ble_eq_true rfl) (xd_27 _ _) rfl iw_6 (Nat.le_of_ble_eq_true rfl) g_256 rfl rfl dX6_meetingPlace_69 ?_
  refine lv_iload hx hb dX6_meetingPlace_72 (lv_at hl 2 rfl) ?_
  have h10 := chk_1 hf
  replace hf := chk_2 hf
  refine paI C hP (k := 30) (Nat.le_of_ble_eq_true rfl) (xd_30 _ _) h10 dX6_meetingPlace_74 ?_
  refine lv_topi (fun v11 ev11 => ?_)
  replace hf := lt_c ev11 hf
  refine lv_istore_n (lv' := [(2, .int v11), (1, .int i4), (0, .ref (b + 27)), (4, .int i4)]) hx hb dX6_meetingPlace_75 rfl hl (by decide) rfl (fun ls hl => ?_)
  refine lv_aload_n hx hb dX6_meetingPlace_76 rfl (lv_at hl 2 rfl) ?_
  refine pg C hP (k := 27) (j := 4) (Nat.le_of_ble_eq_true rfl) (xd_27 _ _) rfl iw_6 (Nat.le_of_ble_eq_true rfl) g_258 rfl rfl dX6_meetingPlace_77 ?_
  refine lv_iload hx hb dX6_meetingPlace_80 (lv_at hl 3 rfl) ?_
  have h12 := chk_1 hf
  replace hf := chk_2 hf
  refine paI C hP (k := 31) (Nat.le_of_ble_eq_true rfl) (xd_31 _ _) h12 dX6_meetingPlace_82 ?_
  refine lv_topi (fun v13 ev13 => ?_)
  replace hf := lt_c ev13 hf
  refine lv_istore_n (lv' := [(3, .int v13), (2, .int v11), (1, .int i4), (0, .ref (b + 27)), (4, .int i4)]) hx hb dX6_meetingPlace_83 rfl hl (by decide) rfl (fun ls hl => ?_)
  exact w6_meetingPlace_84 (n := n)  C hr hk q13 hf hP hS (lv_sub hl [3, 2, 1, 0, 4] rfl)
set_option maxHeartbeats 4000000 in
set_option maxRecDepth 100000 in
theorem w6_meetingPlace_47 {p : Program} {l : Launch} {e : Env} {s : State} {m : MethodId} {args : Array Value} {below : List Frame} {meth : Method} {c : Code} {z : Zt} {b : Nat}  (C : Cx p s m args c cX6_meetingPlace 6 RX6 z 339 b) (hr : meth.sig.returnType = (some .int)) (hk : meth.locks = false) {r : Int32} {M' : Mem} {rc : Nat → List Int32 → List Int64 → Mem → Option (Int32 × Mem)} {n : Nat} (q13 : ∀ (i1 : Int32) (i2 : Int32) (i3 : Int32) (i4 : Int32) (M : Mem) (H : Heap) (locs : List Loc) (ls : Array Slot), rc 13 [i1, i2, i3, i4] [] M = some (r, M') → va_P z.1 vwCl (pw (xd z b) 339 b M) H → va_S (pA 339 b) s.heap H locs → lv_has ls 6 [(0, .ref (b + 27)), (1, .int i1), (2, .int i2), (3, .int i3), (4, .int i4)] → W p l e rm6_meetingPlace s m args below meth c H locs 0 0 (MQ below (va_Qi (fun (r' : Int32) (M2 : Mem) => r' = r ∧ M2 = M') (fun M2 t => va_P z.1 vwCl (pw (xd z b) 339 b M2) t.heap) (pA 339 b)) args s 0 0 (pA 339 b)) (F0 m 13 ls [])) {i1 : Int32} {i2 : Int32} {i3 : Int32} {i4 : Int32} {s0 : Int32} {M : Mem} {H : Heap} {locs : List Loc} {ls : Array Slot} (hf : b6_meetingPlace_47  rc n i1 i2 i3 i4 s0 M = some (r, M')) (hP : va_P z.1 vwCl (pw (xd z b) 339 b M) H) (hS : va_S (pA 339 b) s.heap H locs) (hl : lv_has ls 6 [(0, .ref (b + 27)), (1, .int i1), (2, .int i2), (3, .int i3), (4, .int i4)]) : W p l e rm6_meetingPlace s m args below meth c H locs 0 0 (MQ below (va_Qi (fun (r' : Int32) (M2 : Mem) => r' = r ∧ M2 = M') (fun M2 t => va_P z.1 vwCl (pw (xd z b) 339 b M2) t.heap) (pA 339 b)) args s 0 0 (pA 339 b)) (F0 m 47 ls [.int s0]) := by
  have hx := C.1.1
  have hb := C.1.2.1
  unfold b6_meetingPlace_47 at hf
  refine lv_istore (lv' := [(5, .int s0), (0, .ref (b + 27)), (1, .int i1), (2, .int i2), (3, .int i3), (4, .int i4)]) hx hb dX6_meetingPlace_47 hl (by decide) rfl (fun ls hl => ?_)
  refine lv_aload_n hx hb dX6_meetingPlace_49 rfl (lv_at hl 1 rfl) ?_
  refine pg C hP (k := 27) (j := 3) (Nat.le_of_ble_eq_true rfl) (xd_27 _ _) rfl iw_6 (Nat.le_of_ble_eq_true rfl) g_256 rfl rfl dX6_meetingPlace_50 ?_
  refine lv_iload hx hb dX6_meetingPlace_53 (lv_at hl 5 rfl) ?_
  have h6 := chk_1 hf
  replace hf := chk_2 hf
  refine paI C hP (k := 30) (Nat.le_of_ble_eq_true rfl) (xd_30 _ _) h6 dX6_meetingPlace_55 ?_
  refine lv_iload_n hx hb dX6_meetingPlace_56 rfl (lv_at hl 3 rfl) ?_
  refine lv_icmp_lt (tgt := 65) hx hb dX6_meetingPlace_57 (by decide) (fun c7 => ?_) (fun c7 => ?_)
  · replace hf := ite_t c7 hf
    exact w6_meetingPlace_65 (n := n)  C hr hk q13 hf hP hS (lv_sub hl [1, 5] rfl)
  · replace hf := ite_f c7 hf
    refine lv_iload hx hb dX6_meetingPlace_60 (lv_at hl 0 rfl) ?_
    refine lv_if_eq (tgt := 84) hx hb dX6_meetingPlace_62 (by decide) (fun c8 => ?_) (fun c8 => ?_)
    · replace hf := ite_t c8 hf
      exact w6_meetingPlace_84 (n := n)  C hr hk q13 hf hP hS (lv_sub hl [1, 2, 3, 4, 5] rfl)
    · replace hf := ite_f c8 hf
      exact w6_meetingPlace_65 (n := n)  C hr hk q13 hf hP hS (lv_sub hl [1, 5] rfl)
set_option maxHeartbeats 4000000 in
set_option maxRecDepth 100000 in
theorem w6_meetingPlace_46 {p : Program} {l : Launch} {e : Env} {s : State} {m : MethodId} {args : Array Value} {below : List Frame} {meth : Method} {c : Code} {z : Zt} {b : Nat}  (C : Cx p s m args c cX6_meetingPlace 6 RX6 z 339 b) (hr : meth.sig.returnType = (some .int)) (hk : meth.locks = false) {r : Int32} {M' : Mem} {rc : Nat → List Int32 → List Int64 → Mem → Option (Int32 × Mem)} {n : Nat} (q13 : ∀ (i1 : Int32) (i2 : Int32) (i3 : Int32) (i4 : Int32) (M : Mem) (H : Heap) (locs : List Loc) (ls : Array Slot), rc 13 [i1, i2, i3, i4] [] M = some (r, M') → va_P z.1 vwCl (pw (xd z b) 339 b M) H → va_S (pA 339 b) s.heap H locs → lv_has ls 6 [(0, .ref (b + 27)), (1, .int i1), (2, .int i2), (3, .int i3), (4, .int i4)] → W p l e rm6_meetingPlace s m args below meth c H locs 0 0 (MQ below (va_Qi (fun (r' : Int32) (M2 : Mem) => r' = r ∧ M2 = M') (fun M2 t => va_P z.1 vwCl (pw (xd z b) 339 b M2) t.heap) (pA 339 b)) args s 0 0 (pA 339 b)) (F0 m 13 ls [])) {i1 : Int32} {i2 : Int32} {i3 : Int32} {i4 : Int32} {M : Mem} {H : Heap} {locs : List Loc} {ls : Array Slot} (hf : b6_meetingPlace_46  rc n i1 i2 i3 i4 M = some (r, M')) (hP : va_P z.1 vwCl (pw (xd z b) 339 b M) H) (hS : va_S (pA 339 b) s.heap H locs) (hl : lv_has ls 6 [(0, .ref (b + 27)), (1, .int i1), (2, .int i2), (3, .int i3), (4, .int i4)]) : W p l e rm6_meetingPlace s m args below meth c H locs 0 0 (MQ below (va_Qi (fun (r' : Int32) (M2 : Mem) => r' = r ∧ M2 = M') (fun M2 t => va_P z.1 vwCl (pw (xd z b) 339 b M2) t.heap) (pA 339 b)) args s 0 0 (pA 339 b)) (F0 m 46 ls []) := by
  have hx := C.1.1
  have hb := C.1.2.1
  unfold b6_meetingPlace_46 at hf
  refine lv_iconst (v := (0 : Int32)) hx hb dX6_meetingPlace_46 (by decide) ?_
  exact w6_meetingPlace_47 (n := n)  C hr hk q13 hf hP hS (lv_sub hl [0, 1, 2, 3, 4] rfl)
set_option maxHeartbeats 4000000 in
set_option maxRecDepth 100000 in
theorem w6_meetingPlace_13 {p : Program} {l : Launch} {e : Env} {s : State} {m : MethodId} {args : Array Value} {below : List Frame} {meth : Method} {c : Code} {z : Zt} {b : Nat}  (C : Cx p s m args c cX6_meetingPlace 6 RX6 z 339 b) (hr : meth.sig.returnType = (some .int)) (hk : meth.locks = false) {r : Int32} {M' : Mem} {rc : Nat → List Int32 → List Int64 → Mem → Option (Int32 × Mem)} {n : Nat} (q13 : ∀ (i1 : Int32) (i2 : Int32) (i3 : Int32) (i4 : Int32) (M : Mem) (H : Heap) (locs : List Loc) (ls : Array Slot), rc 13 [i1, i2, i3, i4] [] M = some (r, M') → va_P z.1 vwCl (pw (xd z b) 339 b M) H → va_S (pA 339 b) s.heap H locs → lv_has ls 6 [(0, .ref (b + 27)), (1, .int i1), (2, .int i2), (3, .int i3), (4, .int i4)] → W p l e rm6_meetingPlace s m args below meth c H locs 0 0 (MQ below (va_Qi (fun (r' : Int32) (M2 : Mem) => r' = r ∧ M2 = M') (fun M2 t => va_P z.1 vwCl (pw (xd z b) 339 b M2) t.heap) (pA 339 b)) args s 0 0 (pA 339 b)) (F0 m 13 ls [])) {i1 : Int32} {i2 : Int32} {i3 : Int32} {i4 : Int32} {M : Mem} {H : Heap} {locs : List Loc} {ls : Array Slot} (hf : b6_meetingPlace_13  rc n i1 i2 i3 i4 M = some (r, M')) (hP : va_P z.1 vwCl (pw (xd z b) 339 b M) H) (hS : va_S (pA 339 b) s.heap H locs) (hl : lv_has ls 6 [(0, .ref (b + 27)), (1, .int i1), (2, .int i2), (3, .int i3), (4, .int i4)]) : W p l e rm6_meetingPlace s m args below meth c H locs 0 0 (MQ below (va_Qi (fun (r' : Int32) (M2 : Mem) => r' = r ∧ M2 = M') (fun M2 t => va_P z.1 vwCl (pw (xd z b) 339 b M2) t.heap) (pA 339 b)) args s 0 0 (pA 339 b)) (F0 m 13 ls []) := by
  have hx := C.1.1
  have hb := C.1.2.1
  unfold b6_meetingPlace_13 at hf
  refine lv_iload hx hb dX6_meetingPlace_13 (lv_at hl 4 rfl) ?_
  refine lv_bipush (v := (96 : Int32)) hx hb dX6_meetingPlace_15 (by decide) ?_
  refine lv_icmp_ge (tgt := 90) hx hb dX6_meetingPlace_17 (by decide) (fun c1 => ?_) (fun c1 => ?_)
  · replace hf := ite_t c1 hf
    refine lv_iload_n hx hb dX6_meetingPlace_90 rfl (lv_at hl 1 rfl) ?_
    exact prI C hr hk hP hS hf dX6_meetingPlace_91
  · replace hf := ite_f c1 hf
    refine lv_aload_n hx hb dX6_meetingPlace_20 rfl (lv_at hl 0 rfl) ?_
    refine pg C hP (k := 27) (j := 3) (Nat.le_of_ble_eq_true rfl) (xd_27 _ _) rfl iw_6 (Nat.le_of_ble_eq_true rfl) g_256 rfl rfl dX6_meetingPlace_21 ?_
    refine lv_iload hx hb dX6_meetingPlace_24 (lv_at hl 4 rfl) ?_
    have h2 := chk_1 hf
    replace hf := chk_2 hf
    refine paI C hP (k := 30) (Nat.le_of_ble_eq_true rfl) (xd_30 _ _) h2 dX6_meetingPlace_26 ?_
    refine lv_iload_n hx hb dX6_meetingPlace_27 rfl (lv_at hl 2 rfl) ?_
    refine lv_icmp_ne (tgt := 46) hx hb dX6_meetingPlace_28 (by decide) (fun c3 => ?_) (fun c3 => ?_)
    · replace hf := ite_f c3 hf
      exact w6_meetingPlace_46 (n := n)  C hr hk q13 hf hP hS (lv_sub hl [0, 1, 2, 3, 4] rfl)
    · replace hf := ite_t c3 hf
      refine lv_aload_n hx hb dX6_meetingPlace_31 rfl (lv_at hl 0 rfl) ?_
      refine pg C hP (k := 27) (j := 4) (Nat.le_of_ble_eq_true rfl) (xd_27 _ _) rfl iw_6 (Nat.le_of_ble_eq_true rfl) g_258 rfl rfl dX6_meetingPlace_32 ?_
      refine lv_iload hx hb dX6_meetingPlace_35 (lv_at hl 4 rfl) ?_
      have h4 := chk_1 hf
      replace hf := chk_2 hf
      refine paI C hP (k := 31) (Nat.le_of_ble_eq_true rfl) (xd_31 _ _) h4 dX6_meetingPlace_37 ?_
      refine lv_iload_n hx hb dX6_meetingPlace_38 rfl (lv_at hl 3 rfl) ?_
      refine lv_icmp_ge (tgt := 46) hx hb dX6_meetingPlace_39 (by decide) (fun c5 => ?_) (fun c5 => ?_)
      · replace hf := ite_t c5 hf
        exact w6_meetingPlace_46 (n := n)  C hr hk q13 hf hP hS (lv_sub hl [0, 1, 2, 3, 4] rfl)
      · replace hf := ite_f c5 hf
        refine lv_iconst (v := (1 : Int32)) hx hb dX6_meetingPlace_42 (by decide) ?_
        refine lv_goto (tgt := 47) hx hb dX6_meetingPlace_43 (by decide) ?_
        exact w6_meetingPlace_47 (n := n)  C hr hk q13 hf hP hS (lv_sub hl [0, 1, 2, 3, 4] rfl)
set_option maxHeartbeats 4000000 in
set_option maxRecDepth 100000 in
theorem w6_meetingPlace_0 {p : Program} {l : Launch} {e : Env} {s : State} {m : MethodId} {args : Array Value} {below : List Frame} {meth : Method} {c : Code} {z : Zt} {b : Nat}  (C : Cx p s m args c cX6_meetingPlace 6 RX6 z 339 b) (hr : meth.sig.returnType = (some .int)) (hk : meth.locks = false) {r : Int32} {M' : Mem} {rc : Nat → List Int32 → List Int64 → Mem → Option (Int32 × Mem)} {n : Nat} (q13 : ∀ (i1 : Int32) (i2 : Int32) (i3 : Int32) (i4 : Int32) (M : Mem) (H : Heap) (locs : List Loc) (ls : Array Slot), rc 13 [i1, i2, i3, i4] [] M = some (r, M') → va_P z.1 vwCl (pw (xd z b) 339 b M) H → va_S (pA 339 b) s.heap H locs → lv_has ls 6 [(0, .ref (b + 27)), (1, .int i1), (2, .int i2), (3, .int i3), (4, .int i4)] → W p l e rm6_meetingPlace s m args below meth c H locs 0 0 (MQ below (va_Qi (fun (r' : Int32) (M2 : Mem) => r' = r ∧ M2 = M') (fun M2 t => va_P z.1 vwCl (pw (xd z b) 339 b M2) t.heap) (pA 339 b)) args s 0 0 (pA 339 b)) (F0 m 13 ls []))  {M : Mem} {H : Heap} {locs : List Loc} {ls : Array Slot} (hf : b6_meetingPlace_0  rc n  M = some (r, M')) (hP : va_P z.1 vwCl (pw (xd z b) 339 b M) H) (hS : va_S (pA 339 b) s.heap H locs) (hl : lv_has ls 6 [(0, .ref (b + 27))]) : W p l e rm6_meetingPlace s m args below meth c H locs 0 0 (MQ below (va_Qi (fun (r' : Int32) (M2 : Mem) => r' = r ∧ M2 = M') (fun M2 t => va_P z.1 vwCl (pw (xd z b) 339 b M2) t.heap) (pA 339 b)) args s 0 0 (pA 339 b)) (F0 m 0 ls []) := by
  have hx := C.1.1
  have hb := C.1.2.1
  unfold b6_meetingPlace_0 at hf
  refine lv_bipush (v := (-2 : Int32)) hx hb dX6_meetingPlace_0 (by decide) ?_
  refine lv_istore_n (lv' := [(1, .int (-2 : Int32)), (0, .ref (b + 27))]) hx hb dX6_meetingPlace_2 rfl hl (by decide) rfl (fun ls hl => ?_)
  refine lv_sipush (v := (1000 : Int32)) hx hb dX6_meetingPlace_3 (by decide) ?_
  refine lv_istore_n (lv' := [(2, .int (1000 : Int32)), (1, .int (-2 : Int32)), (0, .ref (b + 27))]) hx hb dX6_meetingPlace_6 rfl hl (by decide) rfl (fun ls hl => ?_)
  refine lv_bipush (v := (99 : Int32)) hx hb dX6_meetingPlace_7 (by decide) ?_
  refine lv_istore_n (lv' := [(3, .int (99 : Int32)), (2, .int (1000 : Int32)), (1, .int (-2 : Int32)), (0, .ref (b + 27))]) hx hb dX6_meetingPlace_9 rfl hl (by decide) rfl (fun ls hl => ?_)
  refine lv_iconst (v := (0 : Int32)) hx hb dX6_meetingPlace_10 (by decide) ?_
  refine lv_istore (lv' := [(4, .int (0 : Int32)), (3, .int (99 : Int32)), (2, .int (1000 : Int32)), (1, .int (-2 : Int32)), (0, .ref (b + 27))]) hx hb dX6_meetingPlace_11 hl (by decide) rfl (fun ls hl => ?_)
  exact w6_meetingPlace_13 (n := n)  C hr hk q13 hf hP hS (lv_sub hl [4, 3, 2, 1, 0] rfl)
set_option maxHeartbeats 4000000 in
set_option maxRecDepth 100000 in
theorem l6_meetingPlace {p : Program} {l : Launch} {e : Env} {s : State} {m : MethodId} {args : Array Value} {below : List Frame} {meth : Method} {c : Code} {z : Zt} {b : Nat}  (C : Cx p s m args c cX6_meetingPlace 6 RX6 z 339 b) (hr : meth.sig.returnType = (some .int)) (hk : meth.locks = false) {r : Int32} {M' : Mem} (n : Nat) : (∀ (i1 : Int32) (i2 : Int32) (i3 : Int32) (i4 : Int32) (M : Mem) (H : Heap) (locs : List Loc) (ls : Array Slot), (r6_meetingPlace  n) 13 [i1, i2, i3, i4] [] M = some (r, M') → va_P z.1 vwCl (pw (xd z b) 339 b M) H → va_S (pA 339 b) s.heap H locs → lv_has ls 6 [(0, .ref (b + 27)), (1, .int i1), (2, .int i2), (3, .int i3), (4, .int i4)] → W p l e rm6_meetingPlace s m args below meth c H locs 0 0 (MQ below (va_Qi (fun (r' : Int32) (M2 : Mem) => r' = r ∧ M2 = M') (fun M2 t => va_P z.1 vwCl (pw (xd z b) 339 b M2) t.heap) (pA 339 b)) args s 0 0 (pA 339 b)) (F0 m 13 ls [])) := by
  induction n with
  | zero => exact fun _ _ _ _ _ _ _ _ hf => (by cases hf)
  | succ n ih => exact fun _ _ _ _ _ _ _ _ hf hP hS hl => w6_meetingPlace_13 (n := n)  C hr hk ih ((e6_meetingPlace_13  n _ _ _ _ _).symm.trans hf) hP hS hl
theorem c6_meetingPlace {l : Launch} {z : Zt} {b n : Nat}   {M M' : Mem} {r : Int32} (hf : f6_meetingPlace n   M = some (r, M')) : CI l z (xd z b) 339 b yX6_meetingPlace cX6_meetingPlace 6 (some .int) rm6_meetingPlace [.ref (b + 27)] M M' r :=
  CI.ofW (lv := [(0, .ref (b + 27))]) (by decide) (Nat.le_of_ble_eq_true rfl) rfl (fun p e s m args below meth c ls C hr hk hP hS hl => w6_meetingPlace_0 (n := n)  C hr hk (l6_meetingPlace  C hr hk n) hf hP hS hl)

-- BronzeKing$Survey.lookAround([I)V
theorem dX6_lookAround_0 : decode cX6_lookAround 0 = .ok (.aload_n 0, 1) := by decide +kernel
theorem dX6_lookAround_1 : decode cX6_lookAround 1 = .ok (.getfield 31, 3) := by decide +kernel
theorem dX6_lookAround_4 : decode cX6_lookAround 4 = .ok (.invokevirtual 93, 3) := by decide +kernel
theorem dX6_lookAround_7 : decode cX6_lookAround 7 = .ok (.iconst 0, 1) := by decide +kernel
theorem dX6_lookAround_8 : decode cX6_lookAround 8 = .ok (.istore_n 2, 1) := by decide +kernel
theorem dX6_lookAround_9 : decode cX6_lookAround 9 = .ok (.iload_n 2, 1) := by decide +kernel
theorem dX6_lookAround_10 : decode cX6_lookAround 10 = .ok (.bipush 96, 2) := by decide +kernel
theorem dX6_lookAround_12 : decode cX6_lookAround 12 = .ok (.if_icmp .ge 29, 3) := by decide +kernel
theorem dX6_lookAround_15 : decode cX6_lookAround 15 = .ok (.iload_n 2, 1) := by decide +kernel
theorem dX6_lookAround_16 : decode cX6_lookAround 16 = .ok (.aload_n 1, 1) := by decide +kernel
theorem dX6_lookAround_17 : decode cX6_lookAround 17 = .ok (.arraylength, 1) := by decide +kernel
theorem dX6_lookAround_18 : decode cX6_lookAround 18 = .ok (.if_icmp .ge 23, 3) := by decide +kernel
theorem dX6_lookAround_21 : decode cX6_lookAround 21 = .ok (.aload_n 1, 1) := by decide +kernel
theorem dX6_lookAround_22 : decode cX6_lookAround 22 = .ok (.iload_n 2, 1) := by decide +kernel
theorem dX6_lookAround_23 : decode cX6_lookAround 23 = .ok (.iaload, 1) := by decide +kernel
theorem dX6_lookAround_24 : decode cX6_lookAround 24 = .ok (.ifCond .le 11, 3) := by decide +kernel
theorem dX6_lookAround_27 : decode cX6_lookAround 27 = .ok (.aload_n 0, 1) := by decide +kernel
theorem dX6_lookAround_28 : decode cX6_lookAround 28 = .ok (.getfield 31, 3) := by decide +kernel
theorem dX6_lookAround_31 : decode cX6_lookAround 31 = .ok (.iload_n 2, 1) := by decide +kernel
theorem dX6_lookAround_32 : decode cX6_lookAround 32 = .ok (.invokevirtual 96, 3) := by decide +kernel
theorem dX6_lookAround_35 : decode cX6_lookAround 35 = .ok (.iinc 2 1, 3) := by decide +kernel
theorem dX6_lookAround_38 : decode cX6_lookAround 38 = .ok (.goto (-29), 3) := by decide +kernel
theorem dX6_lookAround_41 : decode cX6_lookAround 41 = .ok (.iconst 0, 1) := by decide +kernel
theorem dX6_lookAround_42 : decode cX6_lookAround 42 = .ok (.istore_n 2, 1) := by decide +kernel
theorem dX6_lookAround_43 : decode cX6_lookAround 43 = .ok (.iload_n 2, 1) := by decide +kernel
theorem dX6_lookAround_44 : decode cX6_lookAround 44 = .ok (.bipush 96, 2) := by decide +kernel
theorem dX6_lookAround_46 : decode cX6_lookAround 46 = .ok (.if_icmp .ge 95, 3) := by decide +kernel
theorem dX6_lookAround_49 : decode cX6_lookAround 49 = .ok (.aload_n 0, 1) := by decide +kernel
theorem dX6_lookAround_50 : decode cX6_lookAround 50 = .ok (.getfield 26, 3) := by decide +kernel
theorem dX6_lookAround_53 : decode cX6_lookAround 53 = .ok (.iload_n 2, 1) := by decide +kernel
theorem dX6_lookAround_54 : decode cX6_lookAround 54 = .ok (.aaload, 1) := by decide +kernel
theorem dX6_lookAround_55 : decode cX6_lookAround 55 = .ok (.invokevirtual 93, 3) := by decide +kernel
theorem dX6_lookAround_58 : decode cX6_lookAround 58 = .ok (.aload_n 0, 1) := by decide +kernel
theorem dX6_lookAround_59 : decode cX6_lookAround 59 = .ok (.getfield 26, 3) := by decide +kernel
theorem dX6_lookAround_62 : decode cX6_lookAround 62 = .ok (.iload_n 2, 1) := by decide +kernel
theorem dX6_lookAround_63 : decode cX6_lookAround 63 = .ok (.aaload, 1) := by decide +kernel
theorem dX6_lookAround_64 : decode cX6_lookAround 64 = .ok (.iload_n 2, 1) := by decide +kernel
theorem dX6_lookAround_65 : decode cX6_lookAround 65 = .ok (.invokevirtual 96, 3) := by decide +kernel
theorem dX6_lookAround_68 : decode cX6_lookAround 68 = .ok (.iconst 0, 1) := by decide +kernel
theorem dX6_lookAround_69 : decode cX6_lookAround 69 = .ok (.istore_n 3, 1) := by decide +kernel
theorem dX6_lookAround_70 : decode cX6_lookAround 70 = .ok (.iload_n 3, 1) := by decide +kernel
theorem dX6_lookAround_71 : decode cX6_lookAround 71 = .ok (.iconst 2, 1) := by decide +kernel
theorem dX6_lookAround_72 : decode cX6_lookAround 72 = .ok (.if_icmp .ge 34, 3) := by decide +kernel
theorem dX6_lookAround_75 : decode cX6_lookAround 75 = .ok (.aload_n 0, 1) := by decide +kernel
theorem dX6_lookAround_76 : decode cX6_lookAround 76 = .ok (.getfield 26, 3) := by decide +kernel
theorem dX6_lookAround_79 : decode cX6_lookAround 79 = .ok (.iload_n 2, 1) := by decide +kernel
theorem dX6_lookAround_80 : decode cX6_lookAround 80 = .ok (.aaload, 1) := by decide +kernel
theorem dX6_lookAround_81 : decode cX6_lookAround 81 = .ok (.aload_n 0, 1) := by decide +kernel
theorem dX6_lookAround_82 : decode cX6_lookAround 82 = .ok (.getfield 54, 3) := by decide +kernel
theorem dX6_lookAround_85 : decode cX6_lookAround 85 = .ok (.getfield 100, 3) := by decide +kernel
theorem dX6_lookAround_88 : decode cX6_lookAround 88 = .ok (.invokevirtual 103, 3) := by decide +kernel
theorem dX6_lookAround_91 : decode cX6_lookAround 91 = .ok (.aload_n 0, 1) := by decide +kernel
theorem dX6_lookAround_92 : decode cX6_lookAround 92 = .ok (.getfield 26, 3) := by decide +kernel
theorem dX6_lookAround_95 : decode cX6_lookAround 95 = .ok (.iload_n 2, 1) := by decide +kernel
theorem dX6_lookAround_96 : decode cX6_lookAround 96 = .ok (.aaload, 1) := by decide +kernel
theorem dX6_lookAround_97 : decode cX6_lookAround 97 = .ok (.invokevirtual 107, 3) := by decide +kernel
theorem dX6_lookAround_100 : decode cX6_lookAround 100 = .ok (.iinc 3 1, 3) := by decide +kernel
theorem dX6_lookAround_103 : decode cX6_lookAround 103 = .ok (.goto (-33), 3) := by decide +kernel
theorem dX6_lookAround_106 : decode cX6_lookAround 106 = .ok (.aload_n 0, 1) := by decide +kernel
theorem dX6_lookAround_107 : decode cX6_lookAround 107 = .ok (.getfield 26, 3) := by decide +kernel
theorem dX6_lookAround_110 : decode cX6_lookAround 110 = .ok (.iload_n 2, 1) := by decide +kernel
theorem dX6_lookAround_111 : decode cX6_lookAround 111 = .ok (.aaload, 1) := by decide +kernel
theorem dX6_lookAround_112 : decode cX6_lookAround 112 = .ok (.aload_n 0, 1) := by decide +kernel
theorem dX6_lookAround_113 : decode cX6_lookAround 113 = .ok (.getfield 54, 3) := by decide +kernel
theorem dX6_lookAround_116 : decode cX6_lookAround 116 = .ok (.getfield 100, 3) := by decide +kernel
theorem dX6_lookAround_119 : decode cX6_lookAround 119 = .ok (.invokevirtual 103, 3) := by decide +kernel
theorem dX6_lookAround_122 : decode cX6_lookAround 122 = .ok (.aload_n 0, 1) := by decide +kernel
theorem dX6_lookAround_123 : decode cX6_lookAround 123 = .ok (.getfield 26, 3) := by decide +kernel
theorem dX6_lookAround_126 : decode cX6_lookAround 126 = .ok (.iload_n 2, 1) := by decide +kernel
theorem dX6_lookAround_127 : decode cX6_lookAround 127 = .ok (.aaload, 1) := by decide +kernel
theorem dX6_lookAround_128 : decode cX6_lookAround 128 = .ok (.aload_n 0, 1) := by decide +kernel
theorem dX6_lookAround_129 : decode cX6_lookAround 129 = .ok (.getfield 31, 3) := by decide +kernel
theorem dX6_lookAround_132 : decode cX6_lookAround 132 = .ok (.invokevirtual 103, 3) := by decide +kernel
theorem dX6_lookAround_135 : decode cX6_lookAround 135 = .ok (.iinc 2 1, 3) := by decide +kernel
theorem dX6_lookAround_138 : decode cX6_lookAround 138 = .ok (.goto (-95), 3) := by decide +kernel
theorem dX6_lookAround_141 : decode cX6_lookAround 141 = .ok (.aload_n 0, 1) := by decide +kernel
theorem dX6_lookAround_142 : decode cX6_lookAround 142 = .ok (.bipush (-2), 2) := by decide +kernel
theorem dX6_lookAround_144 : decode cX6_lookAround 144 = .ok (.putfield 38, 3) := by decide +kernel
theorem dX6_lookAround_147 : decode cX6_lookAround 147 = .ok (.aload_n 0, 1) := by decide +kernel
theorem dX6_lookAround_148 : decode cX6_lookAround 148 = .ok (.bipush (-2), 2) := by decide +kernel
theorem dX6_lookAround_150 : decode cX6_lookAround 150 = .ok (.putfield 42, 3) := by decide +kernel
theorem dX6_lookAround_153 : decode cX6_lookAround 153 = .ok (.aload_n 0, 1) := by decide +kernel
theorem dX6_lookAround_154 : decode cX6_lookAround 154 = .ok (.iconst 0, 1) := by decide +kernel
theorem dX6_lookAround_155 : decode cX6_lookAround 155 = .ok (.putfield 45, 3) := by decide +kernel
theorem dX6_lookAround_158 : decode cX6_lookAround 158 = .ok (.return_, 1) := by decide +kernel
def b6_lookAround_70 (rc : Nat → List Int32 → List Int64 → Mem → Option (Unit × Mem)) (n : Nat) (i2 : Int32) (i3 : Int32) (M : Mem) : Option (Unit × Mem) :=
  (if (2 : Int32) ≤ i3 then (
   chk (inb i2 96) <|
   bnd (f4_meet n (35 + i2.toNatClampNeg) 10 M) fun r26 M27 =>
   chk (inb i2 96) <|
   bnd (f4_meet n (35 + i2.toNatClampNeg) 33 M27) fun r30 M31 =>
   lt (i2 + (1 : Int32)) fun v33 =>
   rc 43 [v33] [] M31)
  else (
   chk (inb i2 96) <|
   bnd (f4_meet n (35 + i2.toNatClampNeg) 10 M) fun r35 M36 =>
   chk (inb i2 96) <|
   bnd (f4_grow n (35 + i2.toNatClampNeg) M36) fun r39 M40 =>
   lt (i3 + (1 : Int32)) fun v42 =>
   rc 70 [i2, v42] [] M40))
def b6_lookAround_43 (rc : Nat → List Int32 → List Int64 → Mem → Option (Unit × Mem)) (n : Nat) (i2 : Int32) (M : Mem) : Option (Unit × Mem) :=
  (if (96 : Int32) ≤ i2 then (
   lt (wI M 27 8 (-2 : Int32)) fun M13 =>
   lt (wI M13 27 9 (-2 : Int32)) fun M14 =>
   lt (wI M14 27 10 (0 : Int32)) fun M15 =>
   some ((), M15))
  else (
   chk (inb i2 96) <|
   bnd (f4_clear n (35 + i2.toNatClampNeg) M) fun r17 M18 =>
   chk (inb i2 96) <|
   bnd (f4_add n (35 + i2.toNatClampNeg) i2 M18) fun r21 M22 =>
   b6_lookAround_70  rc n i2 (0 : Int32) M22))
def b6_lookAround_41 (rc : Nat → List Int32 → List Int64 → Mem → Option (Unit × Mem)) (n : Nat) (M : Mem) : Option (Unit × Mem) :=
  b6_lookAround_43  rc n (0 : Int32) M
def b6_lookAround_35 (rc : Nat → List Int32 → List Int64 → Mem → Option (Unit × Mem)) (n : Nat) (i2 : Int32) (M : Mem) : Option (Unit × Mem) :=
  lt (i2 + (1 : Int32)) fun v11 =>
  rc 9 [v11] [] M
def b6_lookAround_9 (rc : Nat → List Int32 → List Int64 → Mem → Option (Unit × Mem)) (n : Nat) (i2 : Int32) (M : Mem) : Option (Unit × Mem) :=
  (if (96 : Int32) ≤ i2 then (
   b6_lookAround_41  rc n  M)
  else (
   (if (96 : Int32) ≤ i2 then (
    b6_lookAround_41  rc n  M)
   else (
    chk (inb i2 96) <|
    (if (M.1 (330 + 1) i2.toNatClampNeg) ≤ 0 then (
     b6_lookAround_35  rc n i2 M)
    else (
     bnd (f4_add n 33 i2 M) fun r8 M9 =>
     b6_lookAround_35  rc n i2 M9))))))
def b6_lookAround_0 (rc : Nat → List Int32 → List Int64 → Mem → Option (Unit × Mem)) (n : Nat) (M : Mem) : Option (Unit × Mem) :=
  bnd (f4_clear n 33 M) fun r1 M2 =>
  b6_lookAround_9  rc n (0 : Int32) M2
def r6_lookAround : Nat → Nat → List Int32 → List Int64 → Mem → Option (Unit × Mem)
  | 0 => fun _ _ _ _ => none
  | n + 1 => fun pc li lj M =>
    if pc = 9 then (match li, lj with | [i2], [] => b6_lookAround_9  (r6_lookAround  n) n i2 M | _, _ => none) else
    if pc = 43 then (match li, lj with | [i2], [] => b6_lookAround_43  (r6_lookAround  n) n i2 M | _, _ => none) else
    if pc = 70 then (match li, lj with | [i2, i3], [] => b6_lookAround_70  (r6_lookAround  n) n i2 i3 M | _, _ => none) else
    none
theorem e6_lookAround_9  (n : Nat) (i2 : Int32) (M : Mem) : r6_lookAround  (n + 1) 9 [i2] [] M = b6_lookAround_9  (r6_lookAround  n) n i2 M := by
  rw [r6_lookAround]
  simp
theorem e6_lookAround_43  (n : Nat) (i2 : Int32) (M : Mem) : r6_lookAround  (n + 1) 43 [i2] [] M = b6_lookAround_43  (r6_lookAround  n) n i2 M := by
  rw [r6_lookAround]
  simp
theorem e6_lookAround_70  (n : Nat) (i2 : Int32) (i3 : Int32) (M : Mem) : r6_lookAround  (n + 1) 70 [i2, i3] [] M = b6_lookAround_70  (r6_lookAround  n) n i2 i3 M := by
  rw [r6_lookAround]
  simp
def f6_lookAround (n : Nat)  (M : Mem) : Option (Unit × Mem) := b6_lookAround_0 (r6_lookAround n) n M
abbrev rm6_lookAround : Room := { frames := 2, cells := 0, slots := 0, locals := 45 }
theorem y6_lookAround_w : yV RX6 yX6_lookAround cX6_lookAround 4 none 1 := ⟨g_1019, g_1020, g_10, g_1021, rfl, by decide, by decide, by decide +kernel⟩
set_option maxHeartbeats 4000000 in
set_option maxRecDepth 100000 in
theorem w6_lookAround_70 {p : Program} {l : Launch} {e : Env} {s : State} {m : MethodId} {args : Array Value} {below : List Frame} {meth : Method} {c : Code} {z : Zt} {b : Nat}  (C : Cx p s m args c cX6_lookAround 4 RX6 z 339 b) (hr : meth.sig.returnType = none) (hk : meth.locks = false) {r : Unit} {M' : Mem} {rc : Nat → List Int32 → List Int64 → Mem → Option (Unit × Mem)} {n : Nat} (q9 : ∀ (i2 : Int32) (M : Mem) (H : Heap) (locs : List Loc) (ls : Array Slot), rc 9 [i2] [] M = some (r, M') → va_P z.1 vwCl (pw (xd z b) 339 b M) H → va_S (pA 339 b) s.heap H locs → lv_has ls 4 [(0, .ref (b + 27)), (1, .ref (b + (330 + 1))), (2, .int i2)] → W p l e rm6_lookAround s m args below meth c H locs 0 0 (MQ below (va_Qv (fun (M2 : Mem) => M2 = M') (fun M2 t => va_P z.1 vwCl (pw (xd z b) 339 b M2) t.heap) (pA 339 b)) args s 0 0 (pA 339 b)) (F0 m 9 ls [])) (q43 : ∀ (i2 : Int32) (M : Mem) (H : Heap) (locs : List Loc) (ls : Array Slot), rc 43 [i2] [] M = some (r, M') → va_P z.1 vwCl (pw (xd z b) 339 b M) H → va_S (pA 339 b) s.heap H locs → lv_has ls 4 [(0, .ref (b + 27)), (2, .int i2)] → W p l e rm6_lookAround s m args below meth c H locs 0 0 (MQ below (va_Qv (fun (M2 : Mem) => M2 = M') (fun M2 t => va_P z.1 vwCl (pw (xd z b) 339 b M2) t.heap) (pA 339 b)) args s 0 0 (pA 339 b)) (F0 m 43 ls [])) (q70 : ∀ (i2 : Int32) (i3 : Int32) (M : Mem) (H : Heap) (locs : List Loc) (ls : Array Slot), rc 70 [i2, i3] [] M = some (r, M') → va_P z.1 vwCl (pw (xd z b) 339 b M) H → va_S (pA 339 b) s.heap H locs → lv_has ls 4 [(0, .ref (b + 27)), (2, .int i2), (3, .int i3)] → W p l e rm6_lookAround s m args below meth c H locs 0 0 (MQ below (va_Qv (fun (M2 : Mem) => M2 = M') (fun M2 t => va_P z.1 vwCl (pw (xd z b) 339 b M2) t.heap) (pA 339 b)) args s 0 0 (pA 339 b)) (F0 m 70 ls [])) {i2 : Int32} {i3 : Int32} {M : Mem} {H : Heap} {locs : List Loc} {ls : Array Slot} (hf : b6_lookAround_70  rc n i2 i3 M = some (r, M')) (hP : va_P z.1 vwCl (pw (xd z b) 339 b M) H) (hS : va_S (pA 339 b) s.heap H locs) (hl : lv_has ls 4 [(0, .ref (b + 27)), (2, .int i2), (3, .int i3)]) : W p l e rm6_lookAround s m args below meth c H locs 0 0 (MQ below (va_Qv (fun (M2 : Mem) => M2 = M') (fun M2 t => va_P z.1 vwCl (pw (xd z b) 339 b M2) t.heap) (pA 339 b)) args s 0 0 (pA 339 b)) (F0 m 70 ls []) := by
  have hx := C.1.1
  have hb := C.1.2.1
  unfold b6_lookAround_70 at hf
  refine lv_iload_n hx hb dX6_lookAround_70 rfl (lv_at hl 2 rfl) ?_
  refine lv_iconst (v := (2 : Int32)) hx hb dX6_lookAround_71 (by decide) ?_
  refine lv_icmp_ge (tgt := 106) hx hb dX6_lookAround_72 (by decide) (fun c24 => ?_) (fun c24 => ?_)
  · replace hf := ite_t c24 hf
    refine lv_aload_n hx hb dX6_lookAround_106 rfl (lv_at hl 0 rfl) ?_
    refine pg C hP (k := 27) (j := 5) (Nat.le_of_ble_eq_true rfl) (xd_27 _ _) rfl iw_6 (Nat.le_of_ble_eq_true rfl) g_259 rfl rfl dX6_lookAround_107 ?_
    refine lv_iload_n hx hb dX6_lookAround_110 rfl (lv_at hl 1 rfl) ?_
    have h25 := chk_1 hf
    replace hf := chk_2 hf
    refine paO C hP (k := 32) (k2 := 35 + i2.toNatClampNeg) (Nat.le_of_ble_eq_true rfl) (xd_32 _ _) h25 rfl dX6_lookAround_111 ?_
    refine lv_aload_n hx hb dX6_lookAround_112 rfl (lv_at hl 0 rfl) ?_
    refine pg C hP (k := 27) (j := 0) (Nat.le_of_ble_eq_true rfl) (xd_27 _ _) rfl iw_6 (Nat.le_of_ble_eq_true rfl) g_253 rfl rfl dX6_lookAround_113 ?_
    refine pgN C hP (k := 3) (j := 6) (Nat.le_of_ble_eq_true rfl) (xd_3 _ _) rfl iw_8 (Nat.le_of_ble_eq_true rfl) g_86 rfl rfl dX6_lookAround_116 ?_
    obtain ⟨r26, M27, h28, hf⟩ := bnd_s hf
    refine pcVv (As := [.ref (b + 10)]) C hP hS (k := 35 + i2.toNatClampNeg) (ps_lt (ps_near h25)) ((ps_d (ps_near h25)) _ _) rfl (c4_meet (ps_near h25) ps_10 h28) y4_meet_w g_1024 rfl rfl rfl ⟨Nat.le_of_ble_eq_true rfl, Nat.le_of_ble_eq_true rfl⟩ hl.1 rfl (Nat.le_of_ble_eq_true rfl) dX6_lookAround_119 ⟨Nat.le_of_ble_eq_true rfl, Nat.le_of_ble_eq_true rfl⟩ (fun H locs hP hS => ?_)
    refine lv_aload_n hx hb dX6_lookAround_122 rfl (lv_at hl 0 rfl) ?_
    refine pg C hP (k := 27) (j := 5) (Nat.le_of_ble_eq_true rfl) (xd_27 _ _) rfl iw_6 (Nat.le_of_ble_eq_true rfl) g_259 rfl rfl dX6_lookAround_123 ?_
    refine lv_iload_n hx hb dX6_lookAround_126 rfl (lv_at hl 1 rfl) ?_
    have h29 := chk_1 hf
    replace hf := chk_2 hf
    refine paO C hP (k := 32) (k2 := 35 + i2.toNatClampNeg) (Nat.le_of_ble_eq_true rfl) (xd_32 _ _) h29 rfl dX6_lookAround_127 ?_
    refine lv_aload_n hx hb dX6_lookAround_128 rfl (lv_at hl 0 rfl) ?_
    refine pg C hP (k := 27) (j := 6) (Nat.le_of_ble_eq_true rfl) (xd_27 _ _) rfl iw_6 (Nat.le_of_ble_eq_true rfl) g_260 rfl rfl dX6_lookAround_129 ?_
    obtain ⟨r30, M31, h32, hf⟩ := bnd_s hf
    refine pcVv (As := [.ref (b + 33)]) C hP hS (k := 35 + i2.toNatClampNeg) (ps_lt (ps_near h29)) ((ps_d (ps_near h29)) _ _) rfl (c4_meet (ps_near h29) ps_33 h32) y4_meet_w g_1024 rfl rfl rfl ⟨Nat.le_of_ble_eq_true rfl, Nat.le_of_ble_eq_true rfl⟩ hl.1 rfl (Nat.le_of_ble_eq_true rfl) dX6_lookAround_132 ⟨Nat.le_of_ble_eq_true rfl, Nat.le_of_ble_eq_true rfl⟩ (fun H locs hP hS => ?_)
    obtain ⟨v33, ev33⟩ : ∃ v : Int32, v = i2 + (1 : Int32) := ⟨_, rfl⟩
    replace hf := lt_c ev33 hf
    refine lv_iinc (v := v33) (lv' := [(2, .int v33), (0, .ref (b + 27)), (3, .int i3)]) hx hb dX6_lookAround_135 hl (k := 1) rfl (by rw [ev33]; rfl) (by decide) rfl (fun ls hl => ?_)
    refine lv_goto (tgt := 43) hx hb dX6_lookAround_138 (by decide) ?_
    exact q43 v33 M31 _ _ _ hf hP hS (lv_sub hl [1, 0] rfl)
  · replace hf := ite_f c24 hf
    refine lv_aload_n hx hb dX6_lookAround_75 rfl (lv_at hl 0 rfl) ?_
    refine pg C hP (k := 27) (j := 5) (Nat.le_of_ble_eq_true rfl) (xd_27 _ _) rfl iw_6 (Nat.le_of_ble_eq_true rfl) g_259 rfl rfl dX6_lookAround_76 ?_
    refine lv_iload_n hx hb dX6_lookAround_79 rfl (lv_at hl 1 rfl) ?_
    have h34 := chk_1 hf
    replace hf := chk_2 hf
    refine paO C hP (k := 32) (k2 := 35 + i2.toNatClampNeg) (Nat.le_of_ble_eq_true rfl) (xd_32 _ _) h34 rfl dX6_lookAround_80 ?_
    refine lv_aload_n hx hb dX6_lookAround_81 rfl (lv_at hl 0 rfl) ?_
    refine pg C hP (k := 27) (j := 0) (Nat.le_of_ble_eq_true rfl) (xd_27 _ _) rfl iw_6 (Nat.le_of_ble_eq_true rfl) g_253 rfl rfl dX6_lookAround_82 ?_
    refine pgN C hP (k := 3) (j := 6) (Nat.le_of_ble_eq_true rfl) (xd_3 _ _) rfl iw_8 (Nat.le_of_ble_eq_true rfl) g_86 rfl rfl dX6_lookAround_85 ?_
    obtain ⟨r35, M36, h37, hf⟩ := bnd_s hf
    refine pcVv (As := [.ref (b + 10)]) C hP hS (k := 35 + i2.toNatClampNeg) (ps_lt (ps_near h34)) ((ps_d (ps_near h34)) _ _) rfl (c4_meet (ps_near h34) ps_10 h37) y4_meet_w g_1024 rfl rfl rfl ⟨Nat.le_of_ble_eq_true rfl, Nat.le_of_ble_eq_true rfl⟩ hl.1 rfl (Nat.le_of_ble_eq_true rfl) dX6_lookAround_88 ⟨Nat.le_of_ble_eq_true rfl, Nat.le_of_ble_eq_true rfl⟩ (fun H locs hP hS => ?_)
    refine lv_aload_n hx hb dX6_lookAround_91 rfl (lv_at hl 0 rfl) ?_
    refine pg C hP (k := 27) (j := 5) (Nat.le_of_ble_eq_true rfl) (xd_27 _ _) rfl iw_6 (Nat.le_of_ble_eq_true rfl) g_259 rfl rfl dX6_lookAround_92 ?_
    refine lv_iload_n hx hb dX6_lookAround_95 rfl (lv_at hl 1 rfl) ?_
    have h38 := chk_1 hf
    replace hf := chk_2 hf
    refine paO C hP (k := 32) (k2 := 35 + i2.toNatClampNeg) (Nat.le_of_ble_eq_true rfl) (xd_32 _ _) h38 rfl dX6_lookAround_96 ?_
    obtain ⟨r39, M40, h41, hf⟩ := bnd_s hf
    refine pcVv (As := []) C hP hS (k := 35 + i2.toNatClampNeg) (ps_lt (ps_near h38)) ((ps_d (ps_near h38)) _ _) rfl (c4_grow (ps_near h38) h41) y4_grow_w g_1028 rfl rfl rfl ⟨Nat.le_of_ble_eq_true rfl, Nat.le_of_ble_eq_true rfl⟩ hl.1 rfl (Nat.le_of_ble_eq_true rfl) dX6_lookAround_97 ⟨Nat.le_of_ble_eq_true rfl, Nat.le_of_ble_eq_true rfl⟩ (fun H locs hP hS => ?_)
    obtain ⟨v42, ev42⟩ : ∃ v : Int32, v = i3 + (1 : Int32) := ⟨_, rfl⟩
    replace hf := lt_c ev42 hf
    refine lv_iinc (v := v42) (lv' := [(3, .int v42), (0, .ref (b + 27)), (2, .int i2)]) hx hb dX6_lookAround_100 hl (k := 2) rfl (by rw [ev42]; rfl) (by decide) rfl (fun ls hl => ?_)
    refine lv_goto (tgt := 70) hx hb dX6_lookAround_103 (by decide) ?_
    exact q70 i2 v42 M40 _ _ _ hf hP hS (lv_sub hl [1, 2, 0] rfl)
set_option maxHeartbeats 4000000 in
set_option maxRecDepth 100000 in
theorem w6_lookAround_43 {p : Program} {l : Launch} {e : Env} {s : State} {m : MethodId} {args : Array Value} {below : List Frame} {meth : Method} {c : Code} {z : Zt} {b : Nat}  (C : Cx p s m args c cX6_lookAround 4 RX6 z 339 b) (hr : meth.sig.returnType = none) (hk : meth.locks = false) {r : Unit} {M' : Mem} {rc : Nat → List Int32 → List Int64 → Mem → Option (Unit × Mem)} {n : Nat} (q9 : ∀ (i2 : Int32) (M : Mem) (H : Heap) (locs : List Loc) (ls : Array Slot), rc 9 [i2] [] M = some (r, M') → va_P z.1 vwCl (pw (xd z b) 339 b M) H → va_S (pA 339 b) s.heap H locs → lv_has ls 4 [(0, .ref (b + 27)), (1, .ref (b + (330 + 1))), (2, .int i2)] → W p l e rm6_lookAround s m args below meth c H locs 0 0 (MQ below (va_Qv (fun (M2 : Mem) => M2 = M') (fun M2 t => va_P z.1 vwCl (pw (xd z b) 339 b M2) t.heap) (pA 339 b)) args s 0 0 (pA 339 b)) (F0 m 9 ls [])) (q43 : ∀ (i2 : Int32) (M : Mem) (H : Heap) (locs : List Loc) (ls : Array Slot), rc 43 [i2] [] M = some (r, M') → va_P z.1 vwCl (pw (xd z b) 339 b M) H → va_S (pA 339 b) s.heap H locs → lv_has ls 4 [(0, .ref (b + 27)), (2, .int i2)] → W p l e rm6_lookAround s m args below meth c H locs 0 0 (MQ below (va_Qv (fun (M2 : Mem) => M2 = M') (fun M2 t => va_P z.1 vwCl (pw (xd z b) 339 b M2) t.heap) (pA 339 b)) args s 0 0 (pA 339 b)) (F0 m 43 ls [])) (q70 : ∀ (i2 : Int32) (i3 : Int32) (M : Mem) (H : Heap) (locs : List Loc) (ls : Array Slot), rc 70 [i2, i3] [] M = some (r, M') → va_P z.1 vwCl (pw (xd z b) 339 b M) H → va_S (pA 339 b) s.heap H locs → lv_has ls 4 [(0, .ref (b + 27)), (2, .int i2), (3, .int i3)] → W p l e rm6_lookAround s m args below meth c H locs 0 0 (MQ below (va_Qv (fun (M2 : Mem) => M2 = M') (fun M2 t => va_P z.1 vwCl (pw (xd z b) 339 b M2) t.heap) (pA 339 b)) args s 0 0 (pA 339 b)) (F0 m 70 ls [])) {i2 : Int32} {M : Mem} {H : Heap} {locs : List Loc} {ls : Array Slot} (hf : b6_lookAround_43  rc n i2 M = some (r, M')) (hP : va_P z.1 vwCl (pw (xd z b) 339 b M) H) (hS : va_S (pA 339 b) s.heap H locs) (hl : lv_has ls 4 [(0, .ref (b + 27)), (2, .int i2)]) : W p l e rm6_lookAround s m args below meth c H locs 0 0 (MQ below (va_Qv (fun (M2 : Mem) => M2 = M') (fun M2 t => va_P z.1 vwCl (pw (xd z b) 339 b M2) t.heap) (pA 339 b)) args s 0 0 (pA 339 b)) (F0 m 43 ls []) := by
  have hx := C.1.1
  have hb := C.1.2.1
  unfold b6_lookAround_43 at hf
  refine lv_iload_n hx hb dX6_lookAround_43 rfl (lv_at hl 1 rfl) ?_
  refine lv_bipush (v := (96 : Int32)) hx hb dX6_lookAround_44 (by decide) ?_
  refine lv_icmp_ge (tgt := 141) hx hb dX6_lookAround_46 (by decide) (fun c12 => ?_) (fun c12 => ?_)
  · replace hf := ite_t c12 hf
    refine lv_aload_n hx hb dX6_lookAround_141 rfl (lv_at hl 0 rfl) ?_
    refine lv_bipush (v := (-2 : Int32)) hx hb dX6_lookAround_142 (by decide) ?_
    refine ppI C hP hS (k := 27) (j := 8) (ty := .int) (Nat.le_of_ble_eq_true rfl) (xd_27 _ _) rfl iw_6 tyX6 tyX6_ok nmX6 (Nat.le_of_ble_eq_true rfl) g_262 rfl rfl (by decide +kernel) rfl rfl (Nat.le_of_ble_eq_true rfl) (xu_27_8 _ _ _) dX6_lookAround_144 (fun M13 H locs eM13 hP hS => ?_)
    replace hf := lt_c eM13 hf
    refine lv_aload_n hx hb dX6_lookAround_147 rfl (lv_at hl 0 rfl) ?_
    refine lv_bipush (v := (-2 : Int32)) hx hb dX6_lookAround_148 (by decide) ?_
    refine ppI C hP hS (k := 27) (j := 9) (ty := .int) (Nat.le_of_ble_eq_true rfl) (xd_27 _ _) rfl iw_6 tyX6 tyX6_ok nmX6 (Nat.le_of_ble_eq_true rfl) g_264 rfl rfl (by decide +kernel) rfl rfl (Nat.le_of_ble_eq_true rfl) (xu_27_9 _ _ _) dX6_lookAround_150 (fun M14 H locs eM14 hP hS => ?_)
    replace hf := lt_c eM14 hf
    refine lv_aload_n hx hb dX6_lookAround_153 rfl (lv_at hl 0 rfl) ?_
    refine lv_iconst (v := (0 : Int32)) hx hb dX6_lookAround_154 (by decide) ?_
    refine ppI C hP hS (k := 27) (j := 10) (ty := .int) (Nat.le_of_ble_eq_true rfl) (xd_27 _ _) rfl iw_6 tyX6 tyX6_ok nmX6 (Nat.le_of_ble_eq_true rfl) g_266 rfl rfl (by decide +kernel) rfl rfl (Nat.le_of_ble_eq_true rfl) (xu_27_10 _ _ _) dX6_lookAround_155 (fun M15 H locs eM15 hP hS => ?_)
    replace hf := lt_c eM15 hf
    exact prV C hr hk hP hS hf dX6_lookAround_158
  · replace hf := ite_f c12 hf
    refine lv_aload_n hx hb dX6_lookAround_49 rfl (lv_at hl 0 rfl) ?_
    refine pg C hP (k := 27) (j := 5) (Nat.le_of_ble_eq_true rfl) (xd_27 _ _) rfl iw_6 (Nat.le_of_ble_eq_true rfl) g_259 rfl rfl dX6_lookAround_50 ?_
    refine lv_iload_n hx hb dX6_lookAround_53 rfl (lv_at hl 1 rfl) ?_
    have h16 := chk_1 hf
    replace hf := chk_2 hf
    refine paO C hP (k := 32) (k2 := 35 + i2.toNatClampNeg) (Nat.le_of_ble_eq_true rfl) (xd_32 _ _) h16 rfl dX6_lookAround_54 ?_
    obtain ⟨r17, M18, h19, hf⟩ := bnd_s hf
    refine pcVv (As := []) C hP hS (k := 35 + i2.toNatClampNeg) (ps_lt (ps_near h16)) ((ps_d (ps_near h16)) _ _) rfl (c4_clear (ps_near h16) h19) y4_clear_w g_1022 rfl rfl rfl ⟨Nat.le_of_ble_eq_true rfl, Nat.le_of_ble_eq_true rfl⟩ hl.1 rfl (Nat.le_of_ble_eq_true rfl) dX6_lookAround_55 ⟨Nat.le_of_ble_eq_true rfl, Nat.le_of_ble_eq_true rfl⟩ (fun H locs hP hS => ?_)
    refine lv_aload_n hx hb dX6_lookAround_58 rfl (lv_at hl 0 rfl) ?_
    refine pg C hP (k := 27) (j := 5) (Nat.le_of_ble_eq_true rfl) (xd_27 _ _) rfl iw_6 (Nat.le_of_ble_eq_true rfl) g_259 rfl rfl dX6_lookAround_59 ?_
    refine lv_iload_n hx hb dX6_lookAround_62 rfl (lv_at hl 1 rfl) ?_
    have h20 := chk_1 hf
    replace hf := chk_2 hf
    refine paO C hP (k := 32) (k2 := 35 + i2.toNatClampNeg) (Nat.le_of_ble_eq_true rfl) (xd_32 _ _) h20 rfl dX6_lookAround_63 ?_
    refine lv_iload_n hx hb dX6_lookAround_64 rfl (lv_at hl 1 rfl) ?_
    obtain ⟨r21, M22, h23, hf⟩ := bnd_s hf
    refine pcVv (As := [.int i2]) C hP hS (k := 35 + i2.toNatClampNeg) (ps_lt (ps_near h20)) ((ps_d (ps_near h20)) _ _) rfl (c4_add (ps_near h20) h23) y4_add_w g_1023 rfl rfl rfl ⟨Nat.le_of_ble_eq_true rfl, Nat.le_of_ble_eq_true rfl⟩ hl.1 rfl (Nat.le_of_ble_eq_true rfl) dX6_lookAround_65 ⟨Nat.le_of_ble_eq_true rfl, Nat.le_of_ble_eq_true rfl⟩ (fun H locs hP hS => ?_)
    refine lv_iconst (v := (0 : Int32)) hx hb dX6_lookAround_68 (by decide) ?_
    refine lv_istore_n (lv' := [(3, .int (0 : Int32)), (0, .ref (b + 27)), (2, .int i2)]) hx hb dX6_lookAround_69 rfl hl (by decide) rfl (fun ls hl => ?_)
    exact w6_lookAround_70 (n := n)  C hr hk q9 q43 q70 hf hP hS (lv_sub hl [1, 2, 0] rfl)
set_option maxHeartbeats 4000000 in
set_option maxRecDepth 100000 in
theorem w6_lookAround_41 {p : Program} {l : Launch} {e : Env} {s : State} {m : MethodId} {args : Array Value} {below : List Frame} {meth : Method} {c : Code} {z : Zt} {b : Nat}  (C : Cx p s m args c cX6_lookAround 4 RX6 z 339 b) (hr : meth.sig.returnType = none) (hk : meth.locks = false) {r : Unit} {M' : Mem} {rc : Nat → List Int32 → List Int64 → Mem → Option (Unit × Mem)} {n : Nat} (q9 : ∀ (i2 : Int32) (M : Mem) (H : Heap) (locs : List Loc) (ls : Array Slot), rc 9 [i2] [] M = some (r, M') → va_P z.1 vwCl (pw (xd z b) 339 b M) H → va_S (pA 339 b) s.heap H locs → lv_has ls 4 [(0, .ref (b + 27)), (1, .ref (b + (330 + 1))), (2, .int i2)] → W p l e rm6_lookAround s m args below meth c H locs 0 0 (MQ below (va_Qv (fun (M2 : Mem) => M2 = M') (fun M2 t => va_P z.1 vwCl (pw (xd z b) 339 b M2) t.heap) (pA 339 b)) args s 0 0 (pA 339 b)) (F0 m 9 ls [])) (q43 : ∀ (i2 : Int32) (M : Mem) (H : Heap) (locs : List Loc) (ls : Array Slot), rc 43 [i2] [] M = some (r, M') → va_P z.1 vwCl (pw (xd z b) 339 b M) H → va_S (pA 339 b) s.heap H locs → lv_has ls 4 [(0, .ref (b + 27)), (2, .int i2)] → W p l e rm6_lookAround s m args below meth c H locs 0 0 (MQ below (va_Qv (fun (M2 : Mem) => M2 = M') (fun M2 t => va_P z.1 vwCl (pw (xd z b) 339 b M2) t.heap) (pA 339 b)) args s 0 0 (pA 339 b)) (F0 m 43 ls [])) (q70 : ∀ (i2 : Int32) (i3 : Int32) (M : Mem) (H : Heap) (locs : List Loc) (ls : Array Slot), rc 70 [i2, i3] [] M = some (r, M') → va_P z.1 vwCl (pw (xd z b) 339 b M) H → va_S (pA 339 b) s.heap H locs → lv_has ls 4 [(0, .ref (b + 27)), (2, .int i2), (3, .int i3)] → W p l e rm6_lookAround s m args below meth c H locs 0 0 (MQ below (va_Qv (fun (M2 : Mem) => M2 = M') (fun M2 t => va_P z.1 vwCl (pw (xd z b) 339 b M2) t.heap) (pA 339 b)) args s 0 0 (pA 339 b)) (F0 m 70 ls []))  {M : Mem} {H : Heap} {locs : List Loc} {ls : Array Slot} (hf : b6_lookAround_41  rc n  M = some (r, M')) (hP : va_P z.1 vwCl (pw (xd z b) 339 b M) H) (hS : va_S (pA 339 b) s.heap H locs) (hl : lv_has ls 4 [(0, .ref (b + 27))]) : W p l e rm6_lookAround s m args below meth c H locs 0 0 (MQ below (va_Qv (fun (M2 : Mem) => M2 = M') (fun M2 t => va_P z.1 vwCl (pw (xd z b) 339 b M2) t.heap) (pA 339 b)) args s 0 0 (pA 339 b)) (F0 m 41 ls []) := by
  have hx := C.1.1
  have hb := C.1.2.1
  unfold b6_lookAround_41 at hf
  refine lv_iconst (v := (0 : Int32)) hx hb dX6_lookAround_41 (by decide) ?_
  refine lv_istore_n (lv' := [(2, .int (0 : Int32)), (0, .ref (b + 27))]) hx hb dX6_lookAround_42 rfl hl (by decide) rfl (fun ls hl => ?_)
  exact w6_lookAround_43 (n := n)  C hr hk q9 q43 q70 hf hP hS (lv_sub hl [1, 0] rfl)
set_option maxHeartbeats 4000000 in
set_option maxRecDepth 100000 in
theorem w6_lookAround_35 {p : Program} {l : Launch} {e : Env} {s : State} {m : MethodId} {args : Array Value} {below : List Frame} {meth : Method} {c : Code} {z : Zt} {b : Nat}  (C : Cx p s m args c cX6_lookAround 4 RX6 z 339 b) (hr : meth.sig.returnType = none) (hk : meth.locks = false) {r : Unit} {M' : Mem} {rc : Nat → List Int32 → List Int64 → Mem → Option (Unit × Mem)} {n : Nat} (q9 : ∀ (i2 : Int32) (M : Mem) (H : Heap) (locs : List Loc) (ls : Array Slot), rc 9 [i2] [] M = some (r, M') → va_P z.1 vwCl (pw (xd z b) 339 b M) H → va_S (pA 339 b) s.heap H locs → lv_has ls 4 [(0, .ref (b + 27)), (1, .ref (b + (330 + 1))), (2, .int i2)] → W p l e rm6_lookAround s m args below meth c H locs 0 0 (MQ below (va_Qv (fun (M2 : Mem) => M2 = M') (fun M2 t => va_P z.1 vwCl (pw (xd z b) 339 b M2) t.heap) (pA 339 b)) args s 0 0 (pA 339 b)) (F0 m 9 ls [])) (q43 : ∀ (i2 : Int32) (M : Mem) (H : Heap) (locs : List Loc) (ls : Array Slot), rc 43 [i2] [] M = some (r, M') → va_P z.1 vwCl (pw (xd z b) 339 b M) H → va_S (pA 339 b) s.heap H locs → lv_has ls 4 [(0, .ref (b + 27)), (2, .int i2)] → W p l e rm6_lookAround s m args below meth c H locs 0 0 (MQ below (va_Qv (fun (M2 : Mem) => M2 = M') (fun M2 t => va_P z.1 vwCl (pw (xd z b) 339 b M2) t.heap) (pA 339 b)) args s 0 0 (pA 339 b)) (F0 m 43 ls [])) (q70 : ∀ (i2 : Int32) (i3 : Int32) (M : Mem) (H : Heap) (locs : List Loc) (ls : Array Slot), rc 70 [i2, i3] [] M = some (r, M') → va_P z.1 vwCl (pw (xd z b) 339 b M) H → va_S (pA 339 b) s.heap H locs → lv_has ls 4 [(0, .ref (b + 27)), (2, .int i2), (3, .int i3)] → W p l e rm6_lookAround s m args below meth c H locs 0 0 (MQ below (va_Qv (fun (M2 : Mem) => M2 = M') (fun M2 t => va_P z.1 vwCl (pw (xd z b) 339 b M2) t.heap) (pA 339 b)) args s 0 0 (pA 339 b)) (F0 m 70 ls [])) {i2 : Int32} {M : Mem} {H : Heap} {locs : List Loc} {ls : Array Slot} (hf : b6_lookAround_35  rc n i2 M = some (r, M')) (hP : va_P z.1 vwCl (pw (xd z b) 339 b M) H) (hS : va_S (pA 339 b) s.heap H locs) (hl : lv_has ls 4 [(0, .ref (b + 27)), (1, .ref (b + (330 + 1))), (2, .int i2)]) : W p l e rm6_lookAround s m args below meth c H locs 0 0 (MQ below (va_Qv (fun (M2 : Mem) => M2 = M') (fun M2 t => va_P z.1 vwCl (pw (xd z b) 339 b M2) t.heap) (pA 339 b)) args s 0 0 (pA 339 b)) (F0 m 35 ls []) := by
  have hx := C.1.1
  have hb := C.1.2.1
  unfold b6_lookAround_35 at hf
  obtain ⟨v11, ev11⟩ : ∃ v : Int32, v = i2 + (1 : Int32) := ⟨_, rfl⟩
  replace hf := lt_c ev11 hf
  refine lv_iinc (v := v11) (lv' := [(2, .int v11), (0, .ref (b + 27)), (1, .ref (b + (330 + 1)))]) hx hb dX6_lookAround_35 hl (k := 2) rfl (by rw [ev11]; rfl) (by decide) rfl (fun ls hl => ?_)
  refine lv_goto (tgt := 9) hx hb dX6_lookAround_38 (by decide) ?_
  exact q9 v11 M _ _ _ hf hP hS (lv_sub hl [1, 2, 0] rfl)
set_option maxHeartbeats 4000000 in
set_option maxRecDepth 100000 in
theorem w6_lookAround_9 {p : Program} {l : Launch} {e : Env} {s : State} {m : MethodId} {args : Array Value} {below : List Frame} {meth : Method} {c : Code} {z : Zt} {b : Nat}  (C : Cx p s m args c cX6_lookAround 4 RX6 z 339 b) (hr : meth.sig.returnType = none) (hk : meth.locks = false) {r : Unit} {M' : Mem} {rc : Nat → List Int32 → List Int64 → Mem → Option (Unit × Mem)} {n : Nat} (q9 : ∀ (i2 : Int32) (M : Mem) (H : Heap) (locs : List Loc) (ls : Array Slot), rc 9 [i2] [] M = some (r, M') → va_P z.1 vwCl (pw (xd z b) 339 b M) H → va_S (pA 339 b) s.heap H locs → lv_has ls 4 [(0, .ref (b + 27)), (1, .ref (b + (330 + 1))), (2, .int i2)] → W p l e rm6_lookAround s m args below meth c H locs 0 0 (MQ below (va_Qv (fun (M2 : Mem) => M2 = M') (fun M2 t => va_P z.1 vwCl (pw (xd z b) 339 b M2) t.heap) (pA 339 b)) args s 0 0 (pA 339 b)) (F0 m 9 ls [])) (q43 : ∀ (i2 : Int32) (M : Mem) (H : Heap) (locs : List Loc) (ls : Array Slot), rc 43 [i2] [] M = some (r, M') → va_P z.1 vwCl (pw (xd z b) 339 b M) H → va_S (pA 339 b) s.heap H locs → lv_has ls 4 [(0, .ref (b + 27)), (2, .int i2)] → W p l e rm6_lookAround s m args below meth c H locs 0 0 (MQ below (va_Qv (fun (M2 : Mem) => M2 = M') (fun M2 t => va_P z.1 vwCl (pw (xd z b) 339 b M2) t.heap) (pA 339 b)) args s 0 0 (pA 339 b)) (F0 m 43 ls [])) (q70 : ∀ (i2 : Int32) (i3 : Int32) (M : Mem) (H : Heap) (locs : List Loc) (ls : Array Slot), rc 70 [i2, i3] [] M = some (r, M') → va_P z.1 vwCl (pw (xd z b) 339 b M) H → va_S (pA 339 b) s.heap H locs → lv_has ls 4 [(0, .ref (b + 27)), (2, .int i2), (3, .int i3)] → W p l e rm6_lookAround s m args below meth c H locs 0 0 (MQ below (va_Qv (fun (M2 : Mem) => M2 = M') (fun M2 t => va_P z.1 vwCl (pw (xd z b) 339 b M2) t.heap) (pA 339 b)) args s 0 0 (pA 339 b)) (F0 m 70 ls [])) {i2 : Int32} {M : Mem} {H : Heap} {locs : List Loc} {ls : Array Slot} (hf : b6_lookAround_9  rc n i2 M = some (r, M')) (hP : va_P z.1 vwCl (pw (xd z b) 339 b M) H) (hS : va_S (pA 339 b) s.heap H locs) (hl : lv_has ls 4 [(0, .ref (b + 27)), (1, .ref (b + (330 + 1))), (2, .int i2)]) : W p l e rm6_lookAround s m args below meth c H locs 0 0 (MQ below (va_Qv (fun (M2 : Mem) => M2 = M') (fun M2 t => va_P z.1 vwCl (pw (xd z b) 339 b M2) t.heap) (pA 339 b)) args s 0 0 (pA 339 b)) (F0 m 9 ls []) := by
  have hx := C.1.1
  have hb := C.1.2.1
  unfold b6_lookAround_9 at hf
  refine lv_iload_n hx hb dX6_lookAround_9 rfl (lv_at hl 2 rfl) ?_
  refine lv_bipush (v := (96 : Int32)) hx hb dX6_lookAround_10 (by decide) ?_
  refine lv_icmp_ge (tgt := 41) hx hb dX6_lookAround_12 (by decide) (fun c4 => ?_) (fun c4 => ?_)
  · replace hf := ite_t c4 hf
    exact w6_lookAround_41 (n := n)  C hr hk q9 q43 q70 hf hP hS (lv_sub hl [0] rfl)
  · replace hf := ite_f c4 hf
    refine lv_iload_n hx hb dX6_lookAround_15 rfl (lv_at hl 2 rfl) ?_
    refine lv_aload_n hx hb dX6_lookAround_16 rfl (lv_at hl 1 rfl) ?_
    refine paL C hP (k := 330 + 1) (t0 := 0) (v := (96 : Int32)) (co_lt1 co_330) ((co_d1 co_330) _ _) rfl rfl dX6_lookAround_17 ?_
    refine lv_icmp_ge (tgt := 41) hx hb dX6_lookAround_18 (by decide) (fun c5 => ?_) (fun c5 => ?_)
    · replace hf := ite_t c5 hf
      exact w6_lookAround_41 (n := n)  C hr hk q9 q43 q70 hf hP hS (lv_sub hl [0] rfl)
    · replace hf := ite_f c5 hf
      refine lv_aload_n hx hb dX6_lookAround_21 rfl (lv_at hl 1 rfl) ?_
      refine lv_iload_n hx hb dX6_lookAround_22 rfl (lv_at hl 2 rfl) ?_
      have h6 := chk_1 hf
      replace hf := chk_2 hf
      refine paI C hP (k := 330 + 1) (co_lt1 co_330) ((co_d1 co_330) _ _) h6 dX6_lookAround_23 ?_
      refine lv_if_le (tgt := 35) hx hb dX6_lookAround_24 (by decide) (fun c7 => ?_) (fun c7 => ?_)
      · replace hf := ite_t c7 hf
        exact w6_lookAround_35 (n := n)  C hr hk q9 q43 q70 hf hP hS (lv_sub hl [0, 1, 2] rfl)
      · replace hf := ite_f c7 hf
        refine lv_aload_n hx hb dX6_lookAround_27 rfl (lv_at hl 0 rfl) ?_
        refine pg C hP (k := 27) (j := 6) (Nat.le_of_ble_eq_true rfl) (xd_27 _ _) rfl iw_6 (Nat.le_of_ble_eq_true rfl) g_260 rfl rfl dX6_lookAround_28 ?_
        refine lv_iload_n hx hb dX6_lookAround_31 rfl (lv_at hl 2 rfl) ?_
        obtain ⟨r8, M9, h10, hf⟩ := bnd_s hf
        refine pcVv (As := [.int i2]) C hP hS (k := 33) (ps_lt ps_33) ((ps_d ps_33) _ _) rfl (c4_add ps_33 h10) y4_add_w g_1023 rfl rfl rfl ⟨Nat.le_of_ble_eq_true rfl, Nat.le_of_ble_eq_true rfl⟩ hl.1 rfl (Nat.le_of_ble_eq_true rfl) dX6_lookAround_32 ⟨Nat.le_of_ble_eq_true rfl, Nat.le_of_ble_eq_true rfl⟩ (fun H locs hP hS => ?_)
        exact w6_lookAround_35 (n := n)  C hr hk q9 q43 q70 hf hP hS (lv_sub hl [0, 1, 2] rfl)
set_option maxHeartbeats 4000000 in
set_option maxRecDepth 100000 in
theorem w6_lookAround_0 {p : Program} {l : Launch} {e : Env} {s : State} {m : MethodId} {args : Array Value} {below : List Frame} {meth : Method} {c : Code} {z : Zt} {b : Nat}  (C : Cx p s m args c cX6_lookAround 4 RX6 z 339 b) (hr : meth.sig.returnType = none) (hk : meth.locks = false) {r : Unit} {M' : Mem} {rc : Nat → List Int32 → List Int64 → Mem → Option (Unit × Mem)} {n : Nat} (q9 : ∀ (i2 : Int32) (M : Mem) (H : Heap) (locs : List Loc) (ls : Array Slot), rc 9 [i2] [] M = some (r, M') → va_P z.1 vwCl (pw (xd z b) 339 b M) H → va_S (pA 339 b) s.heap H locs → lv_has ls 4 [(0, .ref (b + 27)), (1, .ref (b + (330 + 1))), (2, .int i2)] → W p l e rm6_lookAround s m args below meth c H locs 0 0 (MQ below (va_Qv (fun (M2 : Mem) => M2 = M') (fun M2 t => va_P z.1 vwCl (pw (xd z b) 339 b M2) t.heap) (pA 339 b)) args s 0 0 (pA 339 b)) (F0 m 9 ls [])) (q43 : ∀ (i2 : Int32) (M : Mem) (H : Heap) (locs : List Loc) (ls : Array Slot), rc 43 [i2] [] M = some (r, M') → va_P z.1 vwCl (pw (xd z b) 339 b M) H → va_S (pA 339 b) s.heap H locs → lv_has ls 4 [(0, .ref (b + 27)), (2, .int i2)] → W p l e rm6_lookAround s m args below meth c H locs 0 0 (MQ below (va_Qv (fun (M2 : Mem) => M2 = M') (fun M2 t => va_P z.1 vwCl (pw (xd z b) 339 b M2) t.heap) (pA 339 b)) args s 0 0 (pA 339 b)) (F0 m 43 ls [])) (q70 : ∀ (i2 : Int32) (i3 : Int32) (M : Mem) (H : Heap) (locs : List Loc) (ls : Array Slot), rc 70 [i2, i3] [] M = some (r, M') → va_P z.1 vwCl (pw (xd z b) 339 b M) H → va_S (pA 339 b) s.heap H locs → lv_has ls 4 [(0, .ref (b + 27)), (2, .int i2), (3, .int i3)] → W p l e rm6_lookAround s m args below meth c H locs 0 0 (MQ below (va_Qv (fun (M2 : Mem) => M2 = M') (fun M2 t => va_P z.1 vwCl (pw (xd z b) 339 b M2) t.heap) (pA 339 b)) args s 0 0 (pA 339 b)) (F0 m 70 ls []))  {M : Mem} {H : Heap} {locs : List Loc} {ls : Array Slot} (hf : b6_lookAround_0  rc n  M = some (r, M')) (hP : va_P z.1 vwCl (pw (xd z b) 339 b M) H) (hS : va_S (pA 339 b) s.heap H locs) (hl : lv_has ls 4 [(0, .ref (b + 27)), (1, .ref (b + (330 + 1)))]) : W p l e rm6_lookAround s m args below meth c H locs 0 0 (MQ below (va_Qv (fun (M2 : Mem) => M2 = M') (fun M2 t => va_P z.1 vwCl (pw (xd z b) 339 b M2) t.heap) (pA 339 b)) args s 0 0 (pA 339 b)) (F0 m 0 ls []) := by
  have hx := C.1.1
  have hb := C.1.2.1
  unfold b6_lookAround_0 at hf
  refine lv_aload_n hx hb dX6_lookAround_0 rfl (lv_at hl 0 rfl) ?_
  refine pg C hP (k := 27) (j := 6) (Nat.le_of_ble_eq_true rfl) (xd_27 _ _) rfl iw_6 (Nat.le_of_ble_eq_true rfl) g_260 rfl rfl dX6_lookAround_1 ?_
  obtain ⟨r1, M2, h3, hf⟩ := bnd_s hf
  refine pcVv (As := []) C hP hS (k := 33) (ps_lt ps_33) ((ps_d ps_33) _ _) rfl (c4_clear ps_33 h3) y4_clear_w g_1022 rfl rfl rfl ⟨Nat.le_of_ble_eq_true rfl, Nat.le_of_ble_eq_true rfl⟩ hl.1 rfl (Nat.le_of_ble_eq_true rfl) dX6_lookAround_4 ⟨Nat.le_of_ble_eq_true rfl, Nat.le_of_ble_eq_true rfl⟩ (fun H locs hP hS => ?_)
  refine lv_iconst (v := (0 : Int32)) hx hb dX6_lookAround_7 (by decide) ?_
  refine lv_istore_n (lv' := [(2, .int (0 : Int32)), (0, .ref (b + 27)), (1, .ref (b + (330 + 1)))]) hx hb dX6_lookAround_8 rfl hl (by decide) rfl (fun ls hl => ?_)
  exact w6_lookAround_9 (n := n)  C hr hk q9 q43 q70 hf hP hS (lv_sub hl [1, 2, 0] rfl)
set_option maxHeartbeats 4000000 in
set_option maxRecDepth 100000 in
theorem l6_lookAround {p : Program} {l : Launch} {e : Env} {s : State} {m : MethodId} {args : Array Value} {below : List Frame} {meth : Method} {c : Code} {z : Zt} {b : Nat}  (C : Cx p s m args c cX6_lookAround 4 RX6 z 339 b) (hr : meth.sig.returnType = none) (hk : meth.locks = false) {r : Unit} {M' : Mem} (n : Nat) : (∀ (i2 : Int32) (M : Mem) (H : Heap) (locs : List Loc) (ls : Array Slot), (r6_lookAround  n) 9 [i2] [] M = some (r, M') → va_P z.1 vwCl (pw (xd z b) 339 b M) H → va_S (pA 339 b) s.heap H locs → lv_has ls 4 [(0, .ref (b + 27)), (1, .ref (b + (330 + 1))), (2, .int i2)] → W p l e rm6_lookAround s m args below meth c H locs 0 0 (MQ below (va_Qv (fun (M2 : Mem) => M2 = M') (fun M2 t => va_P z.1 vwCl (pw (xd z b) 339 b M2) t.heap) (pA 339 b)) args s 0 0 (pA 339 b)) (F0 m 9 ls [])) ∧ (∀ (i2 : Int32) (M : Mem) (H : Heap) (locs : List Loc) (ls : Array Slot), (r6_lookAround  n) 43 [i2] [] M = some (r, M') → va_P z.1 vwCl (pw (xd z b) 339 b M) H → va_S (pA 339 b) s.heap H locs → lv_has ls 4 [(0, .ref (b + 27)), (2, .int i2)] → W p l e rm6_lookAround s m args below meth c H locs 0 0 (MQ below (va_Qv (fun (M2 : Mem) => M2 = M') (fun M2 t => va_P z.1 vwCl (pw (xd z b) 339 b M2) t.heap) (pA 339 b)) args s 0 0 (pA 339 b)) (F0 m 43 ls [])) ∧ (∀ (i2 : Int32) (i3 : Int32) (M : Mem) (H : Heap) (locs : List Loc) (ls : Array Slot), (r6_lookAround  n) 70 [i2, i3] [] M = some (r, M') → va_P z.1 vwCl (pw (xd z b) 339 b M) H → va_S (pA 339 b) s.heap H locs → lv_has ls 4 [(0, .ref (b + 27)), (2, .int i2), (3, .int i3)] → W p l e rm6_lookAround s m args below meth c H locs 0 0 (MQ below (va_Qv (fun (M2 : Mem) => M2 = M') (fun M2 t => va_P z.1 vwCl (pw (xd z b) 339 b M2) t.heap) (pA 339 b)) args s 0 0 (pA 339 b)) (F0 m 70 ls [])) := by
  induction n with
  | zero => exact ⟨fun _ _ _ _ _ hf => (by cases hf), fun _ _ _ _ _ hf => (by cases hf), fun _ _ _ _ _ _ hf => (by cases hf)⟩
  | succ n ih => exact ⟨fun _ _ _ _ _ hf hP hS hl => w6_lookAround_9 (n := n)  C hr hk ih.1 ih.2.1 ih.2.2 ((e6_lookAround_9  n _ _).symm.trans hf) hP hS hl, fun _ _ _ _ _ hf hP hS hl => w6_lookAround_43 (n := n)  C hr hk ih.1 ih.2.1 ih.2.2 ((e6_lookAround_43  n _ _).symm.trans hf) hP hS hl, fun _ _ _ _ _ _ hf hP hS hl => w6_lookAround_70 (n := n)  C hr hk ih.1 ih.2.1 ih.2.2 ((e6_lookAround_70  n _ _ _).symm.trans hf) hP hS hl⟩
theorem c6_lookAround {l : Launch} {z : Zt} {b n : Nat}   {M M' : Mem} {r : Unit} (hf : f6_lookAround n   M = some (r, M')) : CV l z (xd z b) 339 b yX6_lookAround cX6_lookAround 4 none rm6_lookAround [.ref (b + 27), .ref (b + (330 + 1))] M M' :=
  CV.ofW (lv := [(0, .ref (b + 27)), (1, .ref (b + (330 + 1)))]) (by decide) (Nat.le_of_ble_eq_true rfl) rfl (fun p e s m args below meth c ls C hr hk hP hS hl => w6_lookAround_0 (n := n)  C hr hk (l6_lookAround  C hr hk n).1 (l6_lookAround  C hr hk n).2.1 (l6_lookAround  C hr hk n).2.2 hf hP hS hl)

-- BronzeKing$Survey.setOneBench()V
theorem dX6_setOneBench_0 : decode cX6_setOneBench 0 = .ok (.iconst 0, 1) := by decide +kernel
theorem dX6_setOneBench_1 : decode cX6_setOneBench 1 = .ok (.istore_n 1, 1) := by decide +kernel
theorem dX6_setOneBench_2 : decode cX6_setOneBench 2 = .ok (.iload_n 1, 1) := by decide +kernel
theorem dX6_setOneBench_3 : decode cX6_setOneBench 3 = .ok (.bipush 96, 2) := by decide +kernel
theorem dX6_setOneBench_5 : decode cX6_setOneBench 5 = .ok (.if_icmp .ge 54, 3) := by decide +kernel
theorem dX6_setOneBench_8 : decode cX6_setOneBench 8 = .ok (.aload_n 0, 1) := by decide +kernel
theorem dX6_setOneBench_9 : decode cX6_setOneBench 9 = .ok (.getfield 54, 3) := by decide +kernel
theorem dX6_setOneBench_12 : decode cX6_setOneBench 12 = .ok (.iload_n 1, 1) := by decide +kernel
theorem dX6_setOneBench_13 : decode cX6_setOneBench 13 = .ok (.invokevirtual 110, 3) := by decide +kernel
theorem dX6_setOneBench_16 : decode cX6_setOneBench 16 = .ok (.ifCond .eq 37, 3) := by decide +kernel
theorem dX6_setOneBench_19 : decode cX6_setOneBench 19 = .ok (.aload_n 0, 1) := by decide +kernel
theorem dX6_setOneBench_20 : decode cX6_setOneBench 20 = .ok (.getfield 26, 3) := by decide +kernel
theorem dX6_setOneBench_23 : decode cX6_setOneBench 23 = .ok (.iload_n 1, 1) := by decide +kernel
theorem dX6_setOneBench_24 : decode cX6_setOneBench 24 = .ok (.aaload, 1) := by decide +kernel
theorem dX6_setOneBench_25 : decode cX6_setOneBench 25 = .ok (.invokevirtual 114, 3) := by decide +kernel
theorem dX6_setOneBench_28 : decode cX6_setOneBench 28 = .ok (.aload_n 0, 1) := by decide +kernel
theorem dX6_setOneBench_29 : decode cX6_setOneBench 29 = .ok (.getfield 45, 3) := by decide +kernel
theorem dX6_setOneBench_32 : decode cX6_setOneBench 32 = .ok (.if_icmp .le 21, 3) := by decide +kernel
theorem dX6_setOneBench_35 : decode cX6_setOneBench 35 = .ok (.aload_n 0, 1) := by decide +kernel
theorem dX6_setOneBench_36 : decode cX6_setOneBench 36 = .ok (.aload_n 0, 1) := by decide +kernel
theorem dX6_setOneBench_37 : decode cX6_setOneBench 37 = .ok (.getfield 26, 3) := by decide +kernel
theorem dX6_setOneBench_40 : decode cX6_setOneBench 40 = .ok (.iload_n 1, 1) := by decide +kernel
theorem dX6_setOneBench_41 : decode cX6_setOneBench 41 = .ok (.aaload, 1) := by decide +kernel
theorem dX6_setOneBench_42 : decode cX6_setOneBench 42 = .ok (.invokevirtual 114, 3) := by decide +kernel
theorem dX6_setOneBench_45 : decode cX6_setOneBench 45 = .ok (.putfield 45, 3) := by decide +kernel
theorem dX6_setOneBench_48 : decode cX6_setOneBench 48 = .ok (.aload_n 0, 1) := by decide +kernel
theorem dX6_setOneBench_49 : decode cX6_setOneBench 49 = .ok (.iload_n 1, 1) := by decide +kernel
theorem dX6_setOneBench_50 : decode cX6_setOneBench 50 = .ok (.putfield 38, 3) := by decide +kernel
theorem dX6_setOneBench_53 : decode cX6_setOneBench 53 = .ok (.iinc 1 1, 3) := by decide +kernel
theorem dX6_setOneBench_56 : decode cX6_setOneBench 56 = .ok (.goto (-54), 3) := by decide +kernel
theorem dX6_setOneBench_59 : decode cX6_setOneBench 59 = .ok (.return_, 1) := by decide +kernel
def b6_setOneBench_53 (rc : Nat → List Int32 → List Int64 → Mem → Option (Unit × Mem)) (n : Nat) (i1 : Int32) (M : Mem) : Option (Unit × Mem) :=
  lt (i1 + (1 : Int32)) fun v17 =>
  rc 2 [v17] [] M
def b6_setOneBench_2 (rc : Nat → List Int32 → List Int64 → Mem → Option (Unit × Mem)) (n : Nat) (i1 : Int32) (M : Mem) : Option (Unit × Mem) :=
  (if (96 : Int32) ≤ i1 then (
   some ((), M))
  else (
   bnd (f8_isOpen n i1 M) fun r2 M3 =>
   (if r2 = 0 then (
    b6_setOneBench_53  rc n i1 M3)
   else (
    chk (inb i1 96) <|
    bnd (f4_size n (35 + i1.toNatClampNeg) M3) fun r7 M8 =>
    (if r7 ≤ (M8.1 27 10) then (
     b6_setOneBench_53  rc n i1 M8)
    else (
     chk (inb i1 96) <|
     bnd (f4_size n (35 + i1.toNatClampNeg) M8) fun r12 M13 =>
     lt (wI M13 27 10 r12) fun M15 =>
     lt (wI M15 27 8 i1) fun M16 =>
     b6_setOneBench_53  rc n i1 M16))))))
def b6_setOneBench_0 (rc : Nat → List Int32 → List Int64 → Mem → Option (Unit × Mem)) (n : Nat) (M : Mem) : Option (Unit × Mem) :=
  b6_setOneBench_2  rc n (0 : Int32) M
def r6_setOneBench : Nat → Nat → List Int32 → List Int64 → Mem → Option (Unit × Mem)
  | 0 => fun _ _ _ _ => none
  | n + 1 => fun pc li lj M =>
    if pc = 2 then (match li, lj with | [i1], [] => b6_setOneBench_2  (r6_setOneBench  n) n i1 M | _, _ => none) else
    none
theorem e6_setOneBench_2  (n : Nat) (i1 : Int32) (M : Mem) : r6_setOneBench  (n + 1) 2 [i1] [] M = b6_setOneBench_2  (r6_setOneBench  n) n i1 M := by
  rw [r6_setOneBench]
  simp
def f6_setOneBench (n : Nat)  (M : Mem) : Option (Unit × Mem) := b6_setOneBench_0 (r6_setOneBench n) n M
abbrev rm6_setOneBench : Room := { frames := 2, cells := 0, slots := 0, locals := 42 }
theorem y6_setOneBench_w : yV RX6 yX6_setOneBench cX6_setOneBench 2 none 0 := ⟨g_1030, g_1031, g_10, g_1032, rfl, by decide, by decide, by decide +kernel⟩
set_option maxHeartbeats 4000000 in
set_option maxRecDepth 100000 in
theorem w6_setOneBench_53 {p : Program} {l : Launch} {e : Env} {s : State} {m : MethodId} {args : Array Value} {below : List Frame} {meth : Method} {c : Code} {z : Zt} {b : Nat}  (C : Cx p s m args c cX6_setOneBench 2 RX6 z 339 b) (hr : meth.sig.returnType = none) (hk : meth.locks = false) {r : Unit} {M' : Mem} {rc : Nat → List Int32 → List Int64 → Mem → Option (Unit × Mem)} {n : Nat} (q2 : ∀ (i1 : Int32) (M : Mem) (H : Heap) (locs : List Loc) (ls : Array Slot), rc 2 [i1] [] M = some (r, M') → va_P z.1 vwCl (pw (xd z b) 339 b M) H → va_S (pA 339 b) s.heap H locs → lv_has ls 2 [(0, .ref (b + 27)), (1, .int i1)] → W p l e rm6_setOneBench s m args below meth c H locs 0 0 (MQ below (va_Qv (fun (M2 : Mem) => M2 = M') (fun M2 t => va_P z.1 vwCl (pw (xd z b) 339 b M2) t.heap) (pA 339 b)) args s 0 0 (pA 339 b)) (F0 m 2 ls [])) {i1 : Int32} {M : Mem} {H : Heap} {locs : List Loc} {ls : Array Slot} (hf : b6_setOneBench_53  rc n i1 M = some (r, M')) (hP : va_P z.1 vwCl (pw (xd z b) 339 b M) H) (hS : va_S (pA 339 b) s.heap H locs) (hl : lv_has ls 2 [(0, .ref (b + 27)), (1, .int i1)]) : W p l e rm6_setOneBench s m args below meth c H locs 0 0 (MQ below (va_Qv (fun (M2 : Mem) => M2 = M') (fun M2 t => va_P z.1 vwCl (pw (xd z b) 339 b M2) t.heap) (pA 339 b)) args s 0 0 (pA 339 b)) (F0 m 53 ls []) := by
  have hx := C.1.1
  have hb := C.1.2.1
  unfold b6_setOneBench_53 at hf
  obtain ⟨v17, ev17⟩ : ∃ v : Int32, v = i1 + (1 : Int32) := ⟨_, rfl⟩
  replace hf := lt_c ev17 hf
  refine lv_iinc (v := v17) (lv' := [(1, .int v17), (0, .ref (b + 27))]) hx hb dX6_setOneBench_53 hl (k := 1) rfl (by rw [ev17]; rfl) (by decide) rfl (fun ls hl => ?_)
  refine lv_goto (tgt := 2) hx hb dX6_setOneBench_56 (by decide) ?_
  exact q2 v17 M _ _ _ hf hP hS (lv_sub hl [1, 0] rfl)
set_option maxHeartbeats 4000000 in
set_option maxRecDepth 100000 in
theorem w6_setOneBench_2 {p : Program} {l : Launch} {e : Env} {s : State} {m : MethodId} {args : Array Value} {below : List Frame} {meth : Method} {c : Code} {z : Zt} {b : Nat}  (C : Cx p s m args c cX6_setOneBench 2 RX6 z 339 b) (hr : meth.sig.returnType = none) (hk : meth.locks = false) {r : Unit} {M' : Mem} {rc : Nat → List Int32 → List Int64 → Mem → Option (Unit × Mem)} {n : Nat} (q2 : ∀ (i1 : Int32) (M : Mem) (H : Heap) (locs : List Loc) (ls : Array Slot), rc 2 [i1] [] M = some (r, M') → va_P z.1 vwCl (pw (xd z b) 339 b M) H → va_S (pA 339 b) s.heap H locs → lv_has ls 2 [(0, .ref (b + 27)), (1, .int i1)] → W p l e rm6_setOneBench s m args below meth c H locs 0 0 (MQ below (va_Qv (fun (M2 : Mem) => M2 = M') (fun M2 t => va_P z.1 vwCl (pw (xd z b) 339 b M2) t.heap) (pA 339 b)) args s 0 0 (pA 339 b)) (F0 m 2 ls [])) {i1 : Int32} {M : Mem} {H : Heap} {locs : List Loc} {ls : Array Slot} (hf : b6_setOneBench_2  rc n i1 M = some (r, M')) (hP : va_P z.1 vwCl (pw (xd z b) 339 b M) H) (hS : va_S (pA 339 b) s.heap H locs) (hl : lv_has ls 2 [(0, .ref (b + 27)), (1, .int i1)]) : W p l e rm6_setOneBench s m args below meth c H locs 0 0 (MQ below (va_Qv (fun (M2 : Mem) => M2 = M') (fun M2 t => va_P z.1 vwCl (pw (xd z b) 339 b M2) t.heap) (pA 339 b)) args s 0 0 (pA 339 b)) (F0 m 2 ls []) := by
  have hx := C.1.1
  have hb := C.1.2.1
  unfold b6_setOneBench_2 at hf
  refine lv_iload_n hx hb dX6_setOneBench_2 rfl (lv_at hl 1 rfl) ?_
  refine lv_bipush (v := (96 : Int32)) hx hb dX6_setOneBench_3 (by decide) ?_
  refine lv_icmp_ge (tgt := 59) hx hb dX6_setOneBench_5 (by decide) (fun c1 => ?_) (fun c1 => ?_)
  · replace hf := ite_t c1 hf
    exact prV C hr hk hP hS hf dX6_setOneBench_59
  · replace hf := ite_f c1 hf
    refine lv_aload_n hx hb dX6_setOneBench_8 rfl (lv_at hl 0 rfl) ?_
    refine pg C hP (k := 27) (j := 0) (Nat.le_of_ble_eq_true rfl) (xd_27 _ _) rfl iw_6 (Nat.le_of_ble_eq_true rfl) g_253 rfl rfl dX6_setOneBench_9 ?_
    refine lv_iload_n hx hb dX6_setOneBench_12 rfl (lv_at hl 1 rfl) ?_
    obtain ⟨r2, M3, h4, hf⟩ := bnd_s hf
    refine pcVi (As := [.int i1]) C hP hS (k := 3) (Nat.le_of_ble_eq_true rfl) (xd_3 _ _) rfl (c8_isOpen  h4) y8_isOpen_w g_1033 rfl rfl rfl ⟨Nat.le_of_ble_eq_true rfl, Nat.le_of_ble_eq_true rfl⟩ hl.1 rfl (Nat.le_of_ble_eq_true rfl) dX6_setOneBench_13 ⟨Nat.le_of_ble_eq_true rfl, Nat.le_of_ble_eq_true rfl⟩ (fun H locs hP hS => ?_)
    refine lv_if_eq (tgt := 53) hx hb dX6_setOneBench_16 (by decide) (fun c5 => ?_) (fun c5 => ?_)
    · replace hf := ite_t c5 hf
      exact w6_setOneBench_53 (n := n)  C hr hk q2 hf hP hS (lv_sub hl [0, 1] rfl)
    · replace hf := ite_f c5 hf
      refine lv_aload_n hx hb dX6_setOneBench_19 rfl (lv_at hl 0 rfl) ?_
      refine pg C hP (k := 27) (j := 5) (Nat.le_of_ble_eq_true rfl) (xd_27 _ _) rfl iw_6 (Nat.le_of_ble_eq_true rfl) g_259 rfl rfl dX6_setOneBench_20 ?_
      refine lv_iload_n hx hb dX6_setOneBench_23 rfl (lv_at hl 1 rfl) ?_
      have h6 := chk_1 hf
      replace hf := chk_2 hf
      refine paO C hP (k := 32) (k2 := 35 + i1.toNatClampNeg) (Nat.le_of_ble_eq_true rfl) (xd_32 _ _) h6 rfl dX6_setOneBench_24 ?_
      obtain ⟨r7, M8, h9, hf⟩ := bnd_s hf
      refine pcVi (As := []) C hP hS (k := 35 + i1.toNatClampNeg) (ps_lt (ps_near h6)) ((ps_d (ps_near h6)) _ _) rfl (c4_size (ps_near h6) h9) y4_size_w g_1034 rfl rfl rfl ⟨Nat.le_of_ble_eq_true rfl, Nat.le_of_ble_eq_true rfl⟩ hl.1 rfl (Nat.le_of_ble_eq_true rfl) dX6_setOneBench_25 ⟨Nat.le_of_ble_eq_true rfl, Nat.le_of_ble_eq_true rfl⟩ (fun H locs hP hS => ?_)
      refine lv_aload_n hx hb dX6_setOneBench_28 rfl (lv_at hl 0 rfl) ?_
      refine pg C hP (k := 27) (j := 10) (Nat.le_of_ble_eq_true rfl) (xd_27 _ _) rfl iw_6 (Nat.le_of_ble_eq_true rfl) g_266 rfl rfl dX6_setOneBench_29 ?_
      refine lv_icmp_le (tgt := 53) hx hb dX6_setOneBench_32 (by decide) (fun c10 => ?_) (fun c10 => ?_)
      · replace hf := ite_t c10 hf
        exact w6_setOneBench_53 (n := n)  C hr hk q2 hf hP hS (lv_sub hl [0, 1] rfl)
      · replace hf := ite_f c10 hf
        refine lv_aload_n hx hb dX6_setOneBench_35 rfl (lv_at hl 0 rfl) ?_
        refine lv_aload_n hx hb dX6_setOneBench_36 rfl (lv_at hl 0 rfl) ?_
        refine pg C hP (k := 27) (j := 5) (Nat.le_of_ble_eq_true rfl) (xd_27 _ _) rfl iw_6 (Nat.le_of_ble_eq_true rfl) g_259 rfl rfl dX6_setOneBench_37 ?_
        refine lv_iload_n hx hb dX6_setOneBench_40 rfl (lv_at hl 1 rfl) ?_
        have h11 := chk_1 hf
        replace hf := chk_2 hf
        refine paO C hP (k := 32) (k2 := 35 + i1.toNatClampNeg) (Nat.le_of_ble_eq_true rfl) (xd_32 _ _) h11 rfl dX6_setOneBench_41 ?_
        obtain ⟨r12, M13, h14, hf⟩ := bnd_s hf
        refine pcVi (As := []) C hP hS (k := 35 + i1.toNatClampNeg) (ps_lt (ps_near h11)) ((ps_d (ps_near h11)) _ _) rfl (c4_size (ps_near h11) h14) y4_size_w g_1034 rfl rfl rfl ⟨Nat.le_of_ble_eq_true rfl, Nat.le_of_ble_eq_true rfl⟩ hl.1 rfl (Nat.le_of_ble_eq_true rfl) dX6_setOneBench_42 ⟨Nat.le_of_ble_eq_true rfl, Nat.le_of_ble_eq_true rfl⟩ (fun H locs hP hS => ?_)
        refine ppI C hP hS (k := 27) (j := 10) (ty := .int) (Nat.le_of_ble_eq_true rfl) (xd_27 _ _) rfl iw_6 tyX6 tyX6_ok nmX6 (Nat.le_of_ble_eq_true rfl) g_266 rfl rfl (by decide +kernel) rfl rfl (Nat.le_of_ble_eq_true rfl) (xu_27_10 _ _ _) dX6_setOneBench_45 (fun M15 H locs eM15 hP hS => ?_)
        replace hf := lt_c eM15 hf
        refine lv_aload_n hx hb dX6_setOneBench_48 rfl (lv_at hl 0 rfl) ?_
        refine lv_iload_n hx hb dX6_setOneBench_49 rfl (lv_at hl 1 rfl) ?_
        refine ppI C hP hS (k := 27) (j := 8) (ty := .int) (Nat.le_of_ble_eq_true rfl) (xd_27 _ _) rfl iw_6 tyX6 tyX6_ok nmX6 (Nat.le_of_ble_eq_true rfl) g_262 rfl rfl (by decide +kernel) rfl rfl (Nat.le_of_ble_eq_true rfl) (xu_27_8 _ _ _) dX6_setOneBench_50 (fun M16 H locs eM16 hP hS => ?_)
        replace hf := lt_c eM16 hf
        exact w6_setOneBench_53 (n := n)  C hr hk q2 hf hP hS (lv_sub hl [0, 1] rfl)
set_option maxHeartbeats 4000000 in
set_option maxRecDepth 100000 in
theorem w6_setOneBench_0 {p : Program} {l : Launch} {e : Env} {s : State} {m : MethodId} {args : Array Value} {below : List Frame} {meth : Method} {c : Code} {z : Zt} {b : Nat}  (C : Cx p s m args c cX6_setOneBench 2 RX6 z 339 b) (hr : meth.sig.returnType = none) (hk : meth.locks = false) {r : Unit} {M' : Mem} {rc : Nat → List Int32 → List Int64 → Mem → Option (Unit × Mem)} {n : Nat} (q2 : ∀ (i1 : Int32) (M : Mem) (H : Heap) (locs : List Loc) (ls : Array Slot), rc 2 [i1] [] M = some (r, M') → va_P z.1 vwCl (pw (xd z b) 339 b M) H → va_S (pA 339 b) s.heap H locs → lv_has ls 2 [(0, .ref (b + 27)), (1, .int i1)] → W p l e rm6_setOneBench s m args below meth c H locs 0 0 (MQ below (va_Qv (fun (M2 : Mem) => M2 = M') (fun M2 t => va_P z.1 vwCl (pw (xd z b) 339 b M2) t.heap) (pA 339 b)) args s 0 0 (pA 339 b)) (F0 m 2 ls []))  {M : Mem} {H : Heap} {locs : List Loc} {ls : Array Slot} (hf : b6_setOneBench_0  rc n  M = some (r, M')) (hP : va_P z.1 vwCl (pw (xd z b) 339 b M) H) (hS : va_S (pA 339 b) s.heap H locs) (hl : lv_has ls 2 [(0, .ref (b + 27))]) : W p l e rm6_setOneBench s m args below meth c H locs 0 0 (MQ below (va_Qv (fun (M2 : Mem) => M2 = M') (fun M2 t => va_P z.1 vwCl (pw (xd z b) 339 b M2) t.heap) (pA 339 b)) args s 0 0 (pA 339 b)) (F0 m 0 ls []) := by
  have hx := C.1.1
  have hb := C.1.2.1
  unfold b6_setOneBench_0 at hf
  refine lv_iconst (v := (0 : Int32)) hx hb dX6_setOneBench_0 (by decide) ?_
  refine lv_istore_n (lv' := [(1, .int (0 : Int32)), (0, .ref (b + 27))]) hx hb dX6_setOneBench_1 rfl hl (by decide) rfl (fun ls hl => ?_)
  exact w6_setOneBench_2 (n := n)  C hr hk q2 hf hP hS (lv_sub hl [1, 0] rfl)
set_option maxHeartbeats 4000000 in
set_option maxRecDepth 100000 in
theorem l6_setOneBench {p : Program} {l : Launch} {e : Env} {s : State} {m : MethodId} {args : Array Value} {below : List Frame} {meth : Method} {c : Code} {z : Zt} {b : Nat}  (C : Cx p s m args c cX6_setOneBench 2 RX6 z 339 b) (hr : meth.sig.returnType = none) (hk : meth.locks = false) {r : Unit} {M' : Mem} (n : Nat) : (∀ (i1 : Int32) (M : Mem) (H : Heap) (locs : List Loc) (ls : Array Slot), (r6_setOneBench  n) 2 [i1] [] M = some (r, M') → va_P z.1 vwCl (pw (xd z b) 339 b M) H → va_S (pA 339 b) s.heap H locs → lv_has ls 2 [(0, .ref (b + 27)), (1, .int i1)] → W p l e rm6_setOneBench s m args below meth c H locs 0 0 (MQ below (va_Qv (fun (M2 : Mem) => M2 = M') (fun M2 t => va_P z.1 vwCl (pw (xd z b) 339 b M2) t.heap) (pA 339 b)) args s 0 0 (pA 339 b)) (F0 m 2 ls [])) := by
  induction n with
  | zero => exact fun _ _ _ _ _ hf => (by cases hf)
  | succ n ih => exact fun _ _ _ _ _ hf hP hS hl => w6_setOneBench_2 (n := n)  C hr hk ih ((e6_setOneBench_2  n _ _).symm.trans hf) hP hS hl
theorem c6_setOneBench {l : Launch} {z : Zt} {b n : Nat}   {M M' : Mem} {r : Unit} (hf : f6_setOneBench n   M = some (r, M')) : CV l z (xd z b) 339 b yX6_setOneBench cX6_setOneBench 2 none rm6_setOneBench [.ref (b + 27)] M M' :=
  CV.ofW (lv := [(0, .ref (b + 27))]) (by decide) (Nat.le_of_ble_eq_true rfl) rfl (fun p e s m args below meth c ls C hr hk hP hS hl => w6_setOneBench_0 (n := n)  C hr hk (l6_setOneBench  C hr hk n) hf hP hS hl)

-- BronzeKing$Survey.setTwoBenches()V
theorem dX6_setTwoBenches_0 : decode cX6_setTwoBenches 0 = .ok (.iconst 0, 1) := by decide +kernel
theorem dX6_setTwoBenches_1 : decode cX6_setTwoBenches 1 = .ok (.istore_n 1, 1) := by decide +kernel
theorem dX6_setTwoBenches_2 : decode cX6_setTwoBenches 2 = .ok (.iload_n 1, 1) := by decide +kernel
theorem dX6_setTwoBenches_3 : decode cX6_setTwoBenches 3 = .ok (.bipush 96, 2) := by decide +kernel
theorem dX6_setTwoBenches_5 : decode cX6_setTwoBenches 5 = .ok (.if_icmp .ge 98, 3) := by decide +kernel
theorem dX6_setTwoBenches_8 : decode cX6_setTwoBenches 8 = .ok (.iload_n 1, 1) := by decide +kernel
theorem dX6_setTwoBenches_9 : decode cX6_setTwoBenches 9 = .ok (.iconst 1, 1) := by decide +kernel
theorem dX6_setTwoBenches_10 : decode cX6_setTwoBenches 10 = .ok (.iadd, 1) := by decide +kernel
theorem dX6_setTwoBenches_11 : decode cX6_setTwoBenches 11 = .ok (.istore_n 2, 1) := by decide +kernel
theorem dX6_setTwoBenches_12 : decode cX6_setTwoBenches 12 = .ok (.iload_n 2, 1) := by decide +kernel
theorem dX6_setTwoBenches_13 : decode cX6_setTwoBenches 13 = .ok (.bipush 96, 2) := by decide +kernel
theorem dX6_setTwoBenches_15 : decode cX6_setTwoBenches 15 = .ok (.if_icmp .ge 82, 3) := by decide +kernel
theorem dX6_setTwoBenches_18 : decode cX6_setTwoBenches 18 = .ok (.aload_n 0, 1) := by decide +kernel
theorem dX6_setTwoBenches_19 : decode cX6_setTwoBenches 19 = .ok (.getfield 54, 3) := by decide +kernel
theorem dX6_setTwoBenches_22 : decode cX6_setTwoBenches 22 = .ok (.iload_n 1, 1) := by decide +kernel
theorem dX6_setTwoBenches_23 : decode cX6_setTwoBenches 23 = .ok (.invokevirtual 110, 3) := by decide +kernel
theorem dX6_setTwoBenches_26 : decode cX6_setTwoBenches 26 = .ok (.ifCond .eq 71, 3) := by decide +kernel
theorem dX6_setTwoBenches_29 : decode cX6_setTwoBenches 29 = .ok (.aload_n 0, 1) := by decide +kernel
theorem dX6_setTwoBenches_30 : decode cX6_setTwoBenches 30 = .ok (.getfield 54, 3) := by decide +kernel
theorem dX6_setTwoBenches_33 : decode cX6_setTwoBenches 33 = .ok (.iload_n 2, 1) := by decide +kernel
theorem dX6_setTwoBenches_34 : decode cX6_setTwoBenches 34 = .ok (.invokevirtual 110, 3) := by decide +kernel
theorem dX6_setTwoBenches_37 : decode cX6_setTwoBenches 37 = .ok (.ifCond .eq 54, 3) := by decide +kernel
theorem dX6_setTwoBenches_40 : decode cX6_setTwoBenches 40 = .ok (.aload_n 0, 1) := by decide +kernel
theorem dX6_setTwoBenches_41 : decode cX6_setTwoBenches 41 = .ok (.getfield 26, 3) := by decide +kernel
theorem dX6_setTwoBenches_44 : decode cX6_setTwoBenches 44 = .ok (.iload_n 1, 1) := by decide +kernel
theorem dX6_setTwoBenches_45 : decode cX6_setTwoBenches 45 = .ok (.aaload, 1) := by decide +kernel
theorem dX6_setTwoBenches_46 : decode cX6_setTwoBenches 46 = .ok (.aload_n 0, 1) := by decide +kernel
theorem dX6_setTwoBenches_47 : decode cX6_setTwoBenches 47 = .ok (.getfield 26, 3) := by decide +kernel
theorem dX6_setTwoBenches_50 : decode cX6_setTwoBenches 50 = .ok (.iload_n 2, 1) := by decide +kernel
theorem dX6_setTwoBenches_51 : decode cX6_setTwoBenches 51 = .ok (.aaload, 1) := by decide +kernel
theorem dX6_setTwoBenches_52 : decode cX6_setTwoBenches 52 = .ok (.invokevirtual 118, 3) := by decide +kernel
theorem dX6_setTwoBenches_55 : decode cX6_setTwoBenches 55 = .ok (.aload_n 0, 1) := by decide +kernel
theorem dX6_setTwoBenches_56 : decode cX6_setTwoBenches 56 = .ok (.getfield 45, 3) := by decide +kernel
theorem dX6_setTwoBenches_59 : decode cX6_setTwoBenches 59 = .ok (.if_icmp .le 32, 3) := by decide +kernel
theorem dX6_setTwoBenches_62 : decode cX6_setTwoBenches 62 = .ok (.aload_n 0, 1) := by decide +kernel
theorem dX6_setTwoBenches_63 : decode cX6_setTwoBenches 63 = .ok (.aload_n 0, 1) := by decide +kernel
theorem dX6_setTwoBenches_64 : decode cX6_setTwoBenches 64 = .ok (.getfield 26, 3) := by decide +kernel
theorem dX6_setTwoBenches_67 : decode cX6_setTwoBenches 67 = .ok (.iload_n 1, 1) := by decide +kernel
theorem dX6_setTwoBenches_68 : decode cX6_setTwoBenches 68 = .ok (.aaload, 1) := by decide +kernel
theorem dX6_setTwoBenches_69 : decode cX6_setTwoBenches 69 = .ok (.aload_n 0, 1) := by decide +kernel
theorem dX6_setTwoBenches_70 : decode cX6_setTwoBenches 70 = .ok (.getfield 26, 3) := by decide +kernel
theorem dX6_setTwoBenches_73 : decode cX6_setTwoBenches 73 = .ok (.iload_n 2, 1) := by decide +kernel
theorem dX6_setTwoBenches_74 : decode cX6_setTwoBenches 74 = .ok (.aaload, 1) := by decide +kernel
theorem dX6_setTwoBenches_75 : decode cX6_setTwoBenches 75 = .ok (.invokevirtual 118, 3) := by decide +kernel
theorem dX6_setTwoBenches_78 : decode cX6_setTwoBenches 78 = .ok (.putfield 45, 3) := by decide +kernel
theorem dX6_setTwoBenches_81 : decode cX6_setTwoBenches 81 = .ok (.aload_n 0, 1) := by decide +kernel
theorem dX6_setTwoBenches_82 : decode cX6_setTwoBenches 82 = .ok (.iload_n 1, 1) := by decide +kernel
theorem dX6_setTwoBenches_83 : decode cX6_setTwoBenches 83 = .ok (.putfield 38, 3) := by decide +kernel
theorem dX6_setTwoBenches_86 : decode cX6_setTwoBenches 86 = .ok (.aload_n 0, 1) := by decide +kernel
theorem dX6_setTwoBenches_87 : decode cX6_setTwoBenches 87 = .ok (.iload_n 2, 1) := by decide +kernel
theorem dX6_setTwoBenches_88 : decode cX6_setTwoBenches 88 = .ok (.putfield 42, 3) := by decide +kernel
theorem dX6_setTwoBenches_91 : decode cX6_setTwoBenches 91 = .ok (.iinc 2 1, 3) := by decide +kernel
theorem dX6_setTwoBenches_94 : decode cX6_setTwoBenches 94 = .ok (.goto (-82), 3) := by decide +kernel
theorem dX6_setTwoBenches_97 : decode cX6_setTwoBenches 97 = .ok (.iinc 1 1, 3) := by decide +kernel
theorem dX6_setTwoBenches_100 : decode cX6_setTwoBenches 100 = .ok (.goto (-98), 3) := by decide +kernel
theorem dX6_setTwoBenches_103 : decode cX6_setTwoBenches 103 = .ok (.return_, 1) := by decide +kernel
def b6_setTwoBenches_97 (rc : Nat → List Int32 → List Int64 → Mem → Option (Unit × Mem)) (n : Nat) (i1 : Int32) (M : Mem) : Option (Unit × Mem) :=
  lt (i1 + (1 : Int32)) fun v27 =>
  rc 2 [v27] [] M
def b6_setTwoBenches_91 (rc : Nat → List Int32 → List Int64 → Mem → Option (Unit × Mem)) (n : Nat) (i1 : Int32) (i2 : Int32) (M : Mem) : Option (Unit × Mem) :=
  lt (i2 + (1 : Int32)) fun v26 =>
  rc 12 [i1, v26] [] M
def b6_setTwoBenches_12 (rc : Nat → List Int32 → List Int64 → Mem → Option (Unit × Mem)) (n : Nat) (i1 : Int32) (i2 : Int32) (M : Mem) : Option (Unit × Mem) :=
  (if (96 : Int32) ≤ i2 then (
   b6_setTwoBenches_97  rc n i1 M)
  else (
   bnd (f8_isOpen n i1 M) fun r4 M5 =>
   (if r4 = 0 then (
    b6_setTwoBenches_97  rc n i1 M5)
   else (
    bnd (f8_isOpen n i2 M5) fun r8 M9 =>
    (if r8 = 0 then (
     b6_setTwoBenches_91  rc n i1 i2 M9)
    else (
     chk (inb i1 96) <|
     chk (inb i2 96) <|
     bnd (f4_sizeWith n (35 + i1.toNatClampNeg) (35 + i2.toNatClampNeg) M9) fun r14 M15 =>
     (if r14 ≤ (M15.1 27 10) then (
      b6_setTwoBenches_91  rc n i1 i2 M15)
     else (
      chk (inb i1 96) <|
      chk (inb i2 96) <|
      bnd (f4_sizeWith n (35 + i1.toNatClampNeg) (35 + i2.toNatClampNeg) M15) fun r20 M21 =>
      lt (wI M21 27 10 r20) fun M23 =>
      lt (wI M23 27 8 i1) fun M24 =>
      lt (wI M24 27 9 i2) fun M25 =>
      b6_setTwoBenches_91  rc n i1 i2 M25))))))))
def b6_setTwoBenches_2 (rc : Nat → List Int32 → List Int64 → Mem → Option (Unit × Mem)) (n : Nat) (i1 : Int32) (M : Mem) : Option (Unit × Mem) :=
  (if (96 : Int32) ≤ i1 then (
   some ((), M))
  else (
   lt (i1 + (1 : Int32)) fun v2 =>
   b6_setTwoBenches_12  rc n i1 v2 M))
def b6_setTwoBenches_0 (rc : Nat → List Int32 → List Int64 → Mem → Option (Unit × Mem)) (n : Nat) (M : Mem) : Option (Unit × Mem) :=
  b6_setTwoBenches_2  rc n (0 : Int32) M
def r6_setTwoBenches : Nat → Nat → List Int32 → List Int64 → Mem → Option (Unit × Mem)
  | 0 => fun _ _ _ _ => none
  | n + 1 => fun pc li lj M =>
    if pc = 2 then (match li, lj with | [i1], [] => b6_setTwoBenches_2  (r6_setTwoBenches  n) n i1 M | _, _ => none) else
    if pc = 12 then (match li, lj with | [i1, i2], [] => b6_setTwoBenches_12  (r6_setTwoBenches  n) n i1 i2 M | _, _ => none) else
    none
theorem e6_setTwoBenches_2  (n : Nat) (i1 : Int32) (M : Mem) : r6_setTwoBenches  (n + 1) 2 [i1] [] M = b6_setTwoBenches_2  (r6_setTwoBenches  n) n i1 M := by
  rw [r6_setTwoBenches]
  simp
theorem e6_setTwoBenches_12  (n : Nat) (i1 : Int32) (i2 : Int32) (M : Mem) : r6_setTwoBenches  (n + 1) 12 [i1, i2] [] M = b6_setTwoBenches_12  (r6_setTwoBenches  n) n i1 i2 M := by
  rw [r6_setTwoBenches]
  simp
def f6_setTwoBenches (n : Nat)  (M : Mem) : Option (Unit × Mem) := b6_setTwoBenches_0 (r6_setTwoBenches n) n M
abbrev rm6_setTwoBenches : Room := { frames := 2, cells := 0, slots := 0, locals := 42 }
theorem y6_setTwoBenches_w : yV RX6 yX6_setTwoBenches cX6_setTwoBenches 3 none 0 := ⟨g_1036, g_1037, g_10, g_1038, rfl, by decide, by decide, by decide +kernel⟩
set_option maxHeartbeats 4000000 in
set_option maxRecDepth 100000 in
theorem w6_setTwoBenches_97 {p : Program} {l : Launch} {e : Env} {s : State} {m : MethodId} {args : Array Value} {below : List Frame} {meth : Method} {c : Code} {z : Zt} {b : Nat}  (C : Cx p s m args c cX6_setTwoBenches 3 RX6 z 339 b) (hr : meth.sig.returnType = none) (hk : meth.locks = false) {r : Unit} {M' : Mem} {rc : Nat → List Int32 → List Int64 → Mem → Option (Unit × Mem)} {n : Nat} (q2 : ∀ (i1 : Int32) (M : Mem) (H : Heap) (locs : List Loc) (ls : Array Slot), rc 2 [i1] [] M = some (r, M') → va_P z.1 vwCl (pw (xd z b) 339 b M) H → va_S (pA 339 b) s.heap H locs → lv_has ls 3 [(0, .ref (b + 27)), (1, .int i1)] → W p l e rm6_setTwoBenches s m args below meth c H locs 0 0 (MQ below (va_Qv (fun (M2 : Mem) => M2 = M') (fun M2 t => va_P z.1 vwCl (pw (xd z b) 339 b M2) t.heap) (pA 339 b)) args s 0 0 (pA 339 b)) (F0 m 2 ls [])) (q12 : ∀ (i1 : Int32) (i2 : Int32) (M : Mem) (H : Heap) (locs : List Loc) (ls : Array Slot), rc 12 [i1, i2] [] M = some (r, M') → va_P z.1 vwCl (pw (xd z b) 339 b M) H → va_S (pA 339 b) s.heap H locs → lv_has ls 3 [(0, .ref (b + 27)), (1, .int i1), (2, .int i2)] → W p l e rm6_setTwoBenches s m args below meth c H locs 0 0 (MQ below (va_Qv (fun (M2 : Mem) => M2 = M') (fun M2 t => va_P z.1 vwCl (pw (xd z b) 339 b M2) t.heap) (pA 339 b)) args s 0 0 (pA 339 b)) (F0 m 12 ls [])) {i1 : Int32} {M : Mem} {H : Heap} {locs : List Loc} {ls : Array Slot} (hf : b6_setTwoBenches_97  rc n i1 M = some (r, M')) (hP : va_P z.1 vwCl (pw (xd z b) 339 b M) H) (hS : va_S (pA 339 b) s.heap H locs) (hl : lv_has ls 3 [(0, .ref (b + 27)), (1, .int i1)]) : W p l e rm6_setTwoBenches s m args below meth c H locs 0 0 (MQ below (va_Qv (fun (M2 : Mem) => M2 = M') (fun M2 t => va_P z.1 vwCl (pw (xd z b) 339 b M2) t.heap) (pA 339 b)) args s 0 0 (pA 339 b)) (F0 m 97 ls []) := by
  have hx := C.1.1
  have hb := C.1.2.1
  unfold b6_setTwoBenches_97 at hf
  obtain ⟨v27, ev27⟩ : ∃ v : Int32, v = i1 + (1 : Int32) := ⟨_, rfl⟩
  replace hf := lt_c ev27 hf
  refine lv_iinc (v := v27) (lv' := [(1, .int v27), (0, .ref (b + 27))]) hx hb dX6_setTwoBenches_97 hl (k := 1) rfl (by rw [ev27]; rfl) (by decide) rfl (fun ls hl => ?_)
  refine lv_goto (tgt := 2) hx hb dX6_setTwoBenches_100 (by decide) ?_
  exact q2 v27 M _ _ _ hf hP hS (lv_sub hl [1, 0] rfl)
set_option maxHeartbeats 4000000 in
set_option maxRecDepth 100000 in
theorem w6_setTwoBenches_91 {p : Program} {l : Launch} {e : Env} {s : State} {m : MethodId} {args : Array Value} {below : List Frame} {meth : Method} {c : Code} {z : Zt} {b : Nat}  (C : Cx p s m args c cX6_setTwoBenches 3 RX6 z 339 b) (hr : meth.sig.returnType = none) (hk : meth.locks = false) {r : Unit} {M' : Mem} {rc : Nat → List Int32 → List Int64 → Mem → Option (Unit × Mem)} {n : Nat} (q2 : ∀ (i1 : Int32) (M : Mem) (H : Heap) (locs : List Loc) (ls : Array Slot), rc 2 [i1] [] M = some (r, M') → va_P z.1 vwCl (pw (xd z b) 339 b M) H → va_S (pA 339 b) s.heap H locs → lv_has ls 3 [(0, .ref (b + 27)), (1, .int i1)] → W p l e rm6_setTwoBenches s m args below meth c H locs 0 0 (MQ below (va_Qv (fun (M2 : Mem) => M2 = M') (fun M2 t => va_P z.1 vwCl (pw (xd z b) 339 b M2) t.heap) (pA 339 b)) args s 0 0 (pA 339 b)) (F0 m 2 ls [])) (q12 : ∀ (i1 : Int32) (i2 : Int32) (M : Mem) (H : Heap) (locs : List Loc) (ls : Array Slot), rc 12 [i1, i2] [] M = some (r, M') → va_P z.1 vwCl (pw (xd z b) 339 b M) H → va_S (pA 339 b) s.heap H locs → lv_has ls 3 [(0, .ref (b + 27)), (1, .int i1), (2, .int i2)] → W p l e rm6_setTwoBenches s m args below meth c H locs 0 0 (MQ below (va_Qv (fun (M2 : Mem) => M2 = M') (fun M2 t => va_P z.1 vwCl (pw (xd z b) 339 b M2) t.heap) (pA 339 b)) args s 0 0 (pA 339 b)) (F0 m 12 ls [])) {i1 : Int32} {i2 : Int32} {M : Mem} {H : Heap} {locs : List Loc} {ls : Array Slot} (hf : b6_setTwoBenches_91  rc n i1 i2 M = some (r, M')) (hP : va_P z.1 vwCl (pw (xd z b) 339 b M) H) (hS : va_S (pA 339 b) s.heap H locs) (hl : lv_has ls 3 [(0, .ref (b + 27)), (1, .int i1), (2, .int i2)]) : W p l e rm6_setTwoBenches s m args below meth c H locs 0 0 (MQ below (va_Qv (fun (M2 : Mem) => M2 = M') (fun M2 t => va_P z.1 vwCl (pw (xd z b) 339 b M2) t.heap) (pA 339 b)) args s 0 0 (pA 339 b)) (F0 m 91 ls []) := by
  have hx := C.1.1
  have hb := C.1.2.1
  unfold b6_setTwoBenches_91 at hf
  obtain ⟨v26, ev26⟩ : ∃ v : Int32, v = i2 + (1 : Int32) := ⟨_, rfl⟩
  replace hf := lt_c ev26 hf
  refine lv_iinc (v := v26) (lv' := [(2, .int v26), (0, .ref (b + 27)), (1, .int i1)]) hx hb dX6_setTwoBenches_91 hl (k := 2) rfl (by rw [ev26]; rfl) (by decide) rfl (fun ls hl => ?_)
  refine lv_goto (tgt := 12) hx hb dX6_setTwoBenches_94 (by decide) ?_
  exact q12 i1 v26 M _ _ _ hf hP hS (lv_sub hl [1, 2, 0] rfl)
set_option maxHeartbeats 4000000 in
set_option maxRecDepth 100000 in
theorem w6_setTwoBenches_12 {p : Program} {l : Launch} {e : Env} {s : State} {m : MethodId} {args : Array Value} {below : List Frame} {meth : Method} {c : Code} {z : Zt} {b : Nat}  (C : Cx p s m args c cX6_setTwoBenches 3 RX6 z 339 b) (hr : meth.sig.returnType = none) (hk : meth.locks = false) {r : Unit} {M' : Mem} {rc : Nat → List Int32 → List Int64 → Mem → Option (Unit × Mem)} {n : Nat} (q2 : ∀ (i1 : Int32) (M : Mem) (H : Heap) (locs : List Loc) (ls : Array Slot), rc 2 [i1] [] M = some (r, M') → va_P z.1 vwCl (pw (xd z b) 339 b M) H → va_S (pA 339 b) s.heap H locs → lv_has ls 3 [(0, .ref (b + 27)), (1, .int i1)] → W p l e rm6_setTwoBenches s m args below meth c H locs 0 0 (MQ below (va_Qv (fun (M2 : Mem) => M2 = M') (fun M2 t => va_P z.1 vwCl (pw (xd z b) 339 b M2) t.heap) (pA 339 b)) args s 0 0 (pA 339 b)) (F0 m 2 ls [])) (q12 : ∀ (i1 : Int32) (i2 : Int32) (M : Mem) (H : Heap) (locs : List Loc) (ls : Array Slot), rc 12 [i1, i2] [] M = some (r, M') → va_P z.1 vwCl (pw (xd z b) 339 b M) H → va_S (pA 339 b) s.heap H locs → lv_has ls 3 [(0, .ref (b + 27)), (1, .int i1), (2, .int i2)] → W p l e rm6_setTwoBenches s m args below meth c H locs 0 0 (MQ below (va_Qv (fun (M2 : Mem) => M2 = M') (fun M2 t => va_P z.1 vwCl (pw (xd z b) 339 b M2) t.heap) (pA 339 b)) args s 0 0 (pA 339 b)) (F0 m 12 ls [])) {i1 : Int32} {i2 : Int32} {M : Mem} {H : Heap} {locs : List Loc} {ls : Array Slot} (hf : b6_setTwoBenches_12  rc n i1 i2 M = some (r, M')) (hP : va_P z.1 vwCl (pw (xd z b) 339 b M) H) (hS : va_S (pA 339 b) s.heap H locs) (hl : lv_has ls 3 [(0, .ref (b + 27)), (1, .int i1), (2, .int i2)]) : W p l e rm6_setTwoBenches s m args below meth c H locs 0 0 (MQ below (va_Qv (fun (M2 : Mem) => M2 = M') (fun M2 t => va_P z.1 vwCl (pw (xd z b) 339 b M2) t.heap) (pA 339 b)) args s 0 0 (pA 339 b)) (F0 m 12 ls []) := by
  have hx := C.1.1
  have hb := C.1.2.1
  unfold b6_setTwoBenches_12 at hf
  refine lv_iload_n hx hb dX6_setTwoBenches_12 rfl (lv_at hl 2 rfl) ?_
  refine lv_bipush (v := (96 : Int32)) hx hb dX6_setTwoBenches_13 (by decide) ?_
  refine lv_icmp_ge (tgt := 97) hx hb dX6_setTwoBenches_15 (by decide) (fun c3 => ?_) (fun c3 => ?_)
  · replace hf := ite_t c3 hf
    exact w6_setTwoBenches_97 (n := n)  C hr hk q2 q12 hf hP hS (lv_sub hl [0, 1] rfl)
  · replace hf := ite_f c3 hf
    refine lv_aload_n hx hb dX6_setTwoBenches_18 rfl (lv_at hl 0 rfl) ?_
    refine pg C hP (k := 27) (j := 0) (Nat.le_of_ble_eq_true rfl) (xd_27 _ _) rfl iw_6 (Nat.le_of_ble_eq_true rfl) g_253 rfl rfl dX6_setTwoBenches_19 ?_
    refine lv_iload_n hx hb dX6_setTwoBenches_22 rfl (lv_at hl 1 rfl) ?_
    obtain ⟨r4, M5, h6, hf⟩ := bnd_s hf
    refine pcVi (As := [.int i1]) C hP hS (k := 3) (Nat.le_of_ble_eq_true rfl) (xd_3 _ _) rfl (c8_isOpen  h6) y8_isOpen_w g_1033 rfl rfl rfl ⟨Nat.le_of_ble_eq_true rfl, Nat.le_of_ble_eq_true rfl⟩ hl.1 rfl (Nat.le_of_ble_eq_true rfl) dX6_setTwoBenches_23 ⟨Nat.le_of_ble_eq_true rfl, Nat.le_of_ble_eq_true rfl⟩ (fun H locs hP hS => ?_)
    refine lv_if_eq (tgt := 97) hx hb dX6_setTwoBenches_26 (by decide) (fun c7 => ?_) (fun c7 => ?_)
    · replace hf := ite_t c7 hf
      exact w6_setTwoBenches_97 (n := n)  C hr hk q2 q12 hf hP hS (lv_sub hl [0, 1] rfl)
    · replace hf := ite_f c7 hf
      refine lv_aload_n hx hb dX6_setTwoBenches_29 rfl (lv_at hl 0 rfl) ?_
      refine pg C hP (k := 27) (j := 0) (Nat.le_of_ble_eq_true rfl) (xd_27 _ _) rfl iw_6 (Nat.le_of_ble_eq_true rfl) g_253 rfl rfl dX6_setTwoBenches_30 ?_
      refine lv_iload_n hx hb dX6_setTwoBenches_33 rfl (lv_at hl 2 rfl) ?_
      obtain ⟨r8, M9, h10, hf⟩ := bnd_s hf
      refine pcVi (As := [.int i2]) C hP hS (k := 3) (Nat.le_of_ble_eq_true rfl) (xd_3 _ _) rfl (c8_isOpen  h10) y8_isOpen_w g_1033 rfl rfl rfl ⟨Nat.le_of_ble_eq_true rfl, Nat.le_of_ble_eq_true rfl⟩ hl.1 rfl (Nat.le_of_ble_eq_true rfl) dX6_setTwoBenches_34 ⟨Nat.le_of_ble_eq_true rfl, Nat.le_of_ble_eq_true rfl⟩ (fun H locs hP hS => ?_)
      refine lv_if_eq (tgt := 91) hx hb dX6_setTwoBenches_37 (by decide) (fun c11 => ?_) (fun c11 => ?_)
      · replace hf := ite_t c11 hf
        exact w6_setTwoBenches_91 (n := n)  C hr hk q2 q12 hf hP hS (lv_sub hl [0, 1, 2] rfl)
      · replace hf := ite_f c11 hf
        refine lv_aload_n hx hb dX6_setTwoBenches_40 rfl (lv_at hl 0 rfl) ?_
        refine pg C hP (k := 27) (j := 5) (Nat.le_of_ble_eq_true rfl) (xd_27 _ _) rfl iw_6 (Nat.le_of_ble_eq_true rfl) g_259 rfl rfl dX6_setTwoBenches_41 ?_
        refine lv_iload_n hx hb dX6_setTwoBenches_44 rfl (lv_at hl 1 rfl) ?_
        have h12 := chk_1 hf
        replace hf := chk_2 hf
        refine paO C hP (k := 32) (k2 := 35 + i1.toNatClampNeg) (Nat.le_of_ble_eq_true rfl) (xd_32 _ _) h12 rfl dX6_setTwoBenches_45 ?_
        refine lv_aload_n hx hb dX6_setTwoBenches_46 rfl (lv_at hl 0 rfl) ?_
        refine pg C hP (k := 27) (j := 5) (Nat.le_of_ble_eq_true rfl) (xd_27 _ _) rfl iw_6 (Nat.le_of_ble_eq_true rfl) g_259 rfl rfl dX6_setTwoBenches_47 ?_
        refine lv_iload_n hx hb dX6_setTwoBenches_50 rfl (lv_at hl 2 rfl) ?_
        have h13 := chk_1 hf
        replace hf := chk_2 hf
        refine paO C hP (k := 32) (k2 := 35 + i2.toNatClampNeg) (Nat.le_of_ble_eq_true rfl) (xd_32 _ _) h13 rfl dX6_setTwoBenches_51 ?_
        obtain ⟨r14, M15, h16, hf⟩ := bnd_s hf
        refine pcVi (As := [.ref (b + (35 + i2.toNatClampNeg))]) C hP hS (k := 35 + i1.toNatClampNeg) (ps_lt (ps_near h12)) ((ps_d (ps_near h12)) _ _) rfl (c4_sizeWith (ps_near h12) (ps_near h13) h16) y4_sizeWith_w g_1039 rfl rfl rfl ⟨Nat.le_of_ble_eq_true rfl, Nat.le_of_ble_eq_true rfl⟩ hl.1 rfl (Nat.le_of_ble_eq_true rfl) dX6_setTwoBenches_52 ⟨Nat.le_of_ble_eq_true rfl, Nat.le_of_ble_eq_true rfl⟩ (fun H locs hP hS => ?_)
        refine lv_aload_n hx hb dX6_setTwoBenches_55 rfl (lv_at hl 0 rfl) ?_
        refine pg C hP (k := 27) (j := 10) (Nat.le_of_ble_eq_true rfl) (xd_27 _ _) rfl iw_6 (Nat.le_of_ble_eq_true rfl) g_266 rfl rfl dX6_setTwoBenches_56 ?_
        refine lv_icmp_le (tgt := 91) hx hb dX6_setTwoBenches_59 (by decide) (fun c17 => ?_) (fun c17 => ?_)
        · replace hf := ite_t c17 hf
          exact w6_setTwoBenches_91 (n := n)  C hr hk q2 q12 hf hP hS (lv_sub hl [0, 1, 2] rfl)
        · replace hf := ite_f c17 hf
          refine lv_aload_n hx hb dX6_setTwoBenches_62 rfl (lv_at hl 0 rfl) ?_
          refine lv_aload_n hx hb dX6_setTwoBenches_63 rfl (lv_at hl 0 rfl) ?_
          refine pg C hP (k := 27) (j := 5) (Nat.le_of_ble_eq_true rfl) (xd_27 _ _) rfl iw_6 (Nat.le_of_ble_eq_true rfl) g_259 rfl rfl dX6_setTwoBenches_64 ?_
          refine lv_iload_n hx hb dX6_setTwoBenches_67 rfl (lv_at hl 1 rfl) ?_
          have h18 := chk_1 hf
          replace hf := chk_2 hf
          refine paO C hP (k := 32) (k2 := 35 + i1.toNatClampNeg) (Nat.le_of_ble_eq_true rfl) (xd_32 _ _) h18 rfl dX6_setTwoBenches_68 ?_
          refine lv_aload_n hx hb dX6_setTwoBenches_69 rfl (lv_at hl 0 rfl) ?_
          refine pg C hP (k := 27) (j := 5) (Nat.le_of_ble_eq_true rfl) (xd_27 _ _) rfl iw_6 (Nat.le_of_ble_eq_true rfl) g_259 rfl rfl dX6_setTwoBenches_70 ?_
          refine lv_iload_n hx hb dX6_setTwoBenches_73 rfl (lv_at hl 2 rfl) ?_
          have h19 := chk_1 hf
          replace hf := chk_2 hf
          refine paO C hP (k := 32) (k2 := 35 + i2.toNatClampNeg) (Nat.le_of_ble_eq_true rfl) (xd_32 _ _) h19 rfl dX6_setTwoBenches_74 ?_
          obtain ⟨r20, M21, h22, hf⟩ := bnd_s hf
          refine pcVi (As := [.ref (b + (35 + i2.toNatClampNeg))]) C hP hS (k := 35 + i1.toNatClampNeg) (ps_lt (ps_near h18)) ((ps_d (ps_near h18)) _ _) rfl (c4_sizeWith (ps_near h18) (ps_near h19) h22) y4_sizeWith_w g_1039 rfl rfl rfl ⟨Nat.le_of_ble_eq_true rfl, Nat.le_of_ble_eq_true rfl⟩ hl.1 rfl (Nat.le_of_ble_eq_true rfl) dX6_setTwoBenches_75 ⟨Nat.le_of_ble_eq_true rfl, Nat.le_of_ble_eq_true rfl⟩ (fun H locs hP hS => ?_)
          refine ppI C hP hS (k := 27) (j := 10) (ty := .int) (Nat.le_of_ble_eq_true rfl) (xd_27 _ _) rfl iw_6 tyX6 tyX6_ok nmX6 (Nat.le_of_ble_eq_true rfl) g_266 rfl rfl (by decide +kernel) rfl rfl (Nat.le_of_ble_eq_true rfl) (xu_27_10 _ _ _) dX6_setTwoBenches_78 (fun M23 H locs eM23 hP hS => ?_)
          replace hf := lt_c eM23 hf
          refine lv_aload_n hx hb dX6_setTwoBenches_81 rfl (lv_at hl 0 rfl) ?_
          refine lv_iload_n hx hb dX6_setTwoBenches_82 rfl (lv_at hl 1 rfl) ?_
          refine ppI C hP hS (k := 27) (j := 8) (ty := .int) (Nat.le_of_ble_eq_true rfl) (xd_27 _ _) rfl iw_6 tyX6 tyX6_ok nmX6 (Nat.le_of_ble_eq_true rfl) g_262 rfl rfl (by decide +kernel) rfl rfl (Nat.le_of_ble_eq_true rfl) (xu_27_8 _ _ _) dX6_setTwoBenches_83 (fun M24 H locs eM24 hP hS => ?_)
          replace hf := lt_c eM24 hf
          refine lv_aload_n hx hb dX6_setTwoBenches_86 rfl (lv_at hl 0 rfl) ?_
          refine lv_iload_n hx hb dX6_setTwoBenches_87 rfl (lv_at hl 2 rfl) ?_
          refine ppI C hP hS (k := 27) (j := 9) (ty := .int) (Nat.le_of_ble_eq_true rfl) (xd_27 _ _) rfl iw_6 tyX6 tyX6_ok nmX6 (Nat.le_of_ble_eq_true rfl) g_264 rfl rfl (by decide +kernel) rfl rfl (Nat.le_of_ble_eq_true rfl) (xu_27_9 _ _ _) dX6_setTwoBenches_88 (fun M25 H locs eM25 hP hS => ?_)
          replace hf := lt_c eM25 hf
          exact w6_setTwoBenches_91 (n := n)  C hr hk q2 q12 hf hP hS (lv_sub hl [0, 1, 2] rfl)
set_option maxHeartbeats 4000000 in
set_option maxRecDepth 100000 in
theorem w6_setTwoBenches_2 {p : Program} {l : Launch} {e : Env} {s : State} {m : MethodId} {args : Array Value} {below : List Frame} {meth : Method} {c : Code} {z : Zt} {b : Nat}  (C : Cx p s m args c cX6_setTwoBenches 3 RX6 z 339 b) (hr : meth.sig.returnType = none) (hk : meth.locks = false) {r : Unit} {M' : Mem} {rc : Nat → List Int32 → List Int64 → Mem → Option (Unit × Mem)} {n : Nat} (q2 : ∀ (i1 : Int32) (M : Mem) (H : Heap) (locs : List Loc) (ls : Array Slot), rc 2 [i1] [] M = some (r, M') → va_P z.1 vwCl (pw (xd z b) 339 b M) H → va_S (pA 339 b) s.heap H locs → lv_has ls 3 [(0, .ref (b + 27)), (1, .int i1)] → W p l e rm6_setTwoBenches s m args below meth c H locs 0 0 (MQ below (va_Qv (fun (M2 : Mem) => M2 = M') (fun M2 t => va_P z.1 vwCl (pw (xd z b) 339 b M2) t.heap) (pA 339 b)) args s 0 0 (pA 339 b)) (F0 m 2 ls [])) (q12 : ∀ (i1 : Int32) (i2 : Int32) (M : Mem) (H : Heap) (locs : List Loc) (ls : Array Slot), rc 12 [i1, i2] [] M = some (r, M') → va_P z.1 vwCl (pw (xd z b) 339 b M) H → va_S (pA 339 b) s.heap H locs → lv_has ls 3 [(0, .ref (b + 27)), (1, .int i1), (2, .int i2)] → W p l e rm6_setTwoBenches s m args below meth c H locs 0 0 (MQ below (va_Qv (fun (M2 : Mem) => M2 = M') (fun M2 t => va_P z.1 vwCl (pw (xd z b) 339 b M2) t.heap) (pA 339 b)) args s 0 0 (pA 339 b)) (F0 m 12 ls [])) {i1 : Int32} {M : Mem} {H : Heap} {locs : List Loc} {ls : Array Slot} (hf : b6_setTwoBenches_2  rc n i1 M = some (r, M')) (hP : va_P z.1 vwCl (pw (xd z b) 339 b M) H) (hS : va_S (pA 339 b) s.heap H locs) (hl : lv_has ls 3 [(0, .ref (b + 27)), (1, .int i1)]) : W p l e rm6_setTwoBenches s m args below meth c H locs 0 0 (MQ below (va_Qv (fun (M2 : Mem) => M2 = M') (fun M2 t => va_P z.1 vwCl (pw (xd z b) 339 b M2) t.heap) (pA 339 b)) args s 0 0 (pA 339 b)) (F0 m 2 ls []) := by
  have hx := C.1.1
  have hb := C.1.2.1
  unfold b6_setTwoBenches_2 at hf
  refine lv_iload_n hx hb dX6_setTwoBenches_2 rfl (lv_at hl 1 rfl) ?_
  refine lv_bipush (v := (96 : Int32)) hx hb dX6_setTwoBenches_3 (by decide) ?_
  refine lv_icmp_ge (tgt := 103) hx hb dX6_setTwoBenches_5 (by decide) (fun c1 => ?_) (fun c1 => ?_)
  · replace hf := ite_t c1 hf
    exact prV C hr hk hP hS hf dX6_setTwoBenches_103
  · replace hf := ite_f c1 hf
    refine lv_iload_n hx hb dX6_setTwoBenches_8 rfl (lv_at hl 1 rfl) ?_
    refine lv_iconst (v := (1 : Int32)) hx hb dX6_setTwoBenches_9 (by decide) ?_
    refine lv_iadd hx hb dX6_setTwoBenches_10 ?_
    refine lv_topi (fun v2 ev2 => ?_)
    replace hf := lt_c ev2 hf
    refine lv_istore_n (lv' := [(2, .int v2), (0, .ref (b + 27)), (1, .int i1)]) hx hb dX6_setTwoBenches_11 rfl hl (by decide) rfl (fun ls hl => ?_)
    exact w6_setTwoBenches_12 (n := n)  C hr hk q2 q12 hf hP hS (lv_sub hl [1, 2, 0] rfl)
set_option maxHeartbeats 4000000 in
set_option maxRecDepth 100000 in
theorem w6_setTwoBenches_0 {p : Program} {l : Launch} {e : Env} {s : State} {m : MethodId} {args : Array Value} {below : List Frame} {meth : Method} {c : Code} {z : Zt} {b : Nat}  (C : Cx p s m args c cX6_setTwoBenches 3 RX6 z 339 b) (hr : meth.sig.returnType = none) (hk : meth.locks = false) {r : Unit} {M' : Mem} {rc : Nat → List Int32 → List Int64 → Mem → Option (Unit × Mem)} {n : Nat} (q2 : ∀ (i1 : Int32) (M : Mem) (H : Heap) (locs : List Loc) (ls : Array Slot), rc 2 [i1] [] M = some (r, M') → va_P z.1 vwCl (pw (xd z b) 339 b M) H → va_S (pA 339 b) s.heap H locs → lv_has ls 3 [(0, .ref (b + 27)), (1, .int i1)] → W p l e rm6_setTwoBenches s m args below meth c H locs 0 0 (MQ below (va_Qv (fun (M2 : Mem) => M2 = M') (fun M2 t => va_P z.1 vwCl (pw (xd z b) 339 b M2) t.heap) (pA 339 b)) args s 0 0 (pA 339 b)) (F0 m 2 ls [])) (q12 : ∀ (i1 : Int32) (i2 : Int32) (M : Mem) (H : Heap) (locs : List Loc) (ls : Array Slot), rc 12 [i1, i2] [] M = some (r, M') → va_P z.1 vwCl (pw (xd z b) 339 b M) H → va_S (pA 339 b) s.heap H locs → lv_has ls 3 [(0, .ref (b + 27)), (1, .int i1), (2, .int i2)] → W p l e rm6_setTwoBenches s m args below meth c H locs 0 0 (MQ below (va_Qv (fun (M2 : Mem) => M2 = M') (fun M2 t => va_P z.1 vwCl (pw (xd z b) 339 b M2) t.heap) (pA 339 b)) args s 0 0 (pA 339 b)) (F0 m 12 ls []))  {M : Mem} {H : Heap} {locs : List Loc} {ls : Array Slot} (hf : b6_setTwoBenches_0  rc n  M = some (r, M')) (hP : va_P z.1 vwCl (pw (xd z b) 339 b M) H) (hS : va_S (pA 339 b) s.heap H locs) (hl : lv_has ls 3 [(0, .ref (b + 27))]) : W p l e rm6_setTwoBenches s m args below meth c H locs 0 0 (MQ below (va_Qv (fun (M2 : Mem) => M2 = M') (fun M2 t => va_P z.1 vwCl (pw (xd z b) 339 b M2) t.heap) (pA 339 b)) args s 0 0 (pA 339 b)) (F0 m 0 ls []) := by
  have hx := C.1.1
  have hb := C.1.2.1
  unfold b6_setTwoBenches_0 at hf
  refine lv_iconst (v := (0 : Int32)) hx hb dX6_setTwoBenches_0 (by decide) ?_
  refine lv_istore_n (lv' := [(1, .int (0 : Int32)), (0, .ref (b + 27))]) hx hb dX6_setTwoBenches_1 rfl hl (by decide) rfl (fun ls hl => ?_)
  exact w6_setTwoBenches_2 (n := n)  C hr hk q2 q12 hf hP hS (lv_sub hl [1, 0] rfl)
set_option maxHeartbeats 4000000 in
set_option maxRecDepth 100000 in
theorem l6_setTwoBenches {p : Program} {l : Launch} {e : Env} {s : State} {m : MethodId} {args : Array Value} {below : List Frame} {meth : Method} {c : Code} {z : Zt} {b : Nat}  (C : Cx p s m args c cX6_setTwoBenches 3 RX6 z 339 b) (hr : meth.sig.returnType = none) (hk : meth.locks = false) {r : Unit} {M' : Mem} (n : Nat) : (∀ (i1 : Int32) (M : Mem) (H : Heap) (locs : List Loc) (ls : Array Slot), (r6_setTwoBenches  n) 2 [i1] [] M = some (r, M') → va_P z.1 vwCl (pw (xd z b) 339 b M) H → va_S (pA 339 b) s.heap H locs → lv_has ls 3 [(0, .ref (b + 27)), (1, .int i1)] → W p l e rm6_setTwoBenches s m args below meth c H locs 0 0 (MQ below (va_Qv (fun (M2 : Mem) => M2 = M') (fun M2 t => va_P z.1 vwCl (pw (xd z b) 339 b M2) t.heap) (pA 339 b)) args s 0 0 (pA 339 b)) (F0 m 2 ls [])) ∧ (∀ (i1 : Int32) (i2 : Int32) (M : Mem) (H : Heap) (locs : List Loc) (ls : Array Slot), (r6_setTwoBenches  n) 12 [i1, i2] [] M = some (r, M') → va_P z.1 vwCl (pw (xd z b) 339 b M) H → va_S (pA 339 b) s.heap H locs → lv_has ls 3 [(0, .ref (b + 27)), (1, .int i1), (2, .int i2)] → W p l e rm6_setTwoBenches s m args below meth c H locs 0 0 (MQ below (va_Qv (fun (M2 : Mem) => M2 = M') (fun M2 t => va_P z.1 vwCl (pw (xd z b) 339 b M2) t.heap) (pA 339 b)) args s 0 0 (pA 339 b)) (F0 m 12 ls [])) := by
  induction n with
  | zero => exact ⟨fun _ _ _ _ _ hf => (by cases hf), fun _ _ _ _ _ _ hf => (by cases hf)⟩
  | succ n ih => exact ⟨fun _ _ _ _ _ hf hP hS hl => w6_setTwoBenches_2 (n := n)  C hr hk ih.1 ih.2 ((e6_setTwoBenches_2  n _ _).symm.trans hf) hP hS hl, fun _ _ _ _ _ _ hf hP hS hl => w6_setTwoBenches_12 (n := n)  C hr hk ih.1 ih.2 ((e6_setTwoBenches_12  n _ _ _).symm.trans hf) hP hS hl⟩
theorem c6_setTwoBenches {l : Launch} {z : Zt} {b n : Nat}   {M M' : Mem} {r : Unit} (hf : f6_setTwoBenches n   M = some (r, M')) : CV l z (xd z b) 339 b yX6_setTwoBenches cX6_setTwoBenches 3 none rm6_setTwoBenches [.ref (b + 27)] M M' :=
  CV.ofW (lv := [(0, .ref (b + 27))]) (by decide) (Nat.le_of_ble_eq_true rfl) rfl (fun p e s m args below meth c ls C hr hk hP hS hl => w6_setTwoBenches_0 (n := n)  C hr hk (l6_setTwoBenches  C hr hk n).1 (l6_setTwoBenches  C hr hk n).2 hf hP hS hl)

-- BronzeKing$Survey.islands()I
theorem dX6_islands_0 : decode cX6_islands 0 = .ok (.iconst 0, 1) := by decide +kernel
theorem dX6_islands_1 : decode cX6_islands 1 = .ok (.istore_n 1, 1) := by decide +kernel
theorem dX6_islands_2 : decode cX6_islands 2 = .ok (.aload_n 0, 1) := by decide +kernel
theorem dX6_islands_3 : decode cX6_islands 3 = .ok (.getfield 35, 3) := by decide +kernel
theorem dX6_islands_6 : decode cX6_islands 6 = .ok (.aload_n 0, 1) := by decide +kernel
theorem dX6_islands_7 : decode cX6_islands 7 = .ok (.getfield 54, 3) := by decide +kernel
theorem dX6_islands_10 : decode cX6_islands 10 = .ok (.getfield 100, 3) := by decide +kernel
theorem dX6_islands_13 : decode cX6_islands 13 = .ok (.invokevirtual 122, 3) := by decide +kernel
theorem dX6_islands_16 : decode cX6_islands 16 = .ok (.iconst 0, 1) := by decide +kernel
theorem dX6_islands_17 : decode cX6_islands 17 = .ok (.istore_n 2, 1) := by decide +kernel
theorem dX6_islands_18 : decode cX6_islands 18 = .ok (.iload_n 2, 1) := by decide +kernel
theorem dX6_islands_19 : decode cX6_islands 19 = .ok (.bipush 96, 2) := by decide +kernel
theorem dX6_islands_21 : decode cX6_islands 21 = .ok (.if_icmp .ge 74, 3) := by decide +kernel
theorem dX6_islands_24 : decode cX6_islands 24 = .ok (.aload_n 0, 1) := by decide +kernel
theorem dX6_islands_25 : decode cX6_islands 25 = .ok (.getfield 35, 3) := by decide +kernel
theorem dX6_islands_28 : decode cX6_islands 28 = .ok (.iload_n 2, 1) := by decide +kernel
theorem dX6_islands_29 : decode cX6_islands 29 = .ok (.invokevirtual 125, 3) := by decide +kernel
theorem dX6_islands_32 : decode cX6_islands 32 = .ok (.ifCond .eq 57, 3) := by decide +kernel
theorem dX6_islands_35 : decode cX6_islands 35 = .ok (.iinc 1 1, 3) := by decide +kernel
theorem dX6_islands_38 : decode cX6_islands 38 = .ok (.aload_n 0, 1) := by decide +kernel
theorem dX6_islands_39 : decode cX6_islands 39 = .ok (.getfield 31, 3) := by decide +kernel
theorem dX6_islands_42 : decode cX6_islands 42 = .ok (.invokevirtual 93, 3) := by decide +kernel
theorem dX6_islands_45 : decode cX6_islands 45 = .ok (.aload_n 0, 1) := by decide +kernel
theorem dX6_islands_46 : decode cX6_islands 46 = .ok (.getfield 31, 3) := by decide +kernel
theorem dX6_islands_49 : decode cX6_islands 49 = .ok (.iload_n 2, 1) := by decide +kernel
theorem dX6_islands_50 : decode cX6_islands 50 = .ok (.invokevirtual 96, 3) := by decide +kernel
theorem dX6_islands_53 : decode cX6_islands 53 = .ok (.aload_n 0, 1) := by decide +kernel
theorem dX6_islands_54 : decode cX6_islands 54 = .ok (.getfield 31, 3) := by decide +kernel
theorem dX6_islands_57 : decode cX6_islands 57 = .ok (.aload_n 0, 1) := by decide +kernel
theorem dX6_islands_58 : decode cX6_islands 58 = .ok (.getfield 54, 3) := by decide +kernel
theorem dX6_islands_61 : decode cX6_islands 61 = .ok (.getfield 100, 3) := by decide +kernel
theorem dX6_islands_64 : decode cX6_islands 64 = .ok (.invokevirtual 128, 3) := by decide +kernel
theorem dX6_islands_67 : decode cX6_islands 67 = .ok (.aload_n 0, 1) := by decide +kernel
theorem dX6_islands_68 : decode cX6_islands 68 = .ok (.getfield 31, 3) := by decide +kernel
theorem dX6_islands_71 : decode cX6_islands 71 = .ok (.aload_n 0, 1) := by decide +kernel
theorem dX6_islands_72 : decode cX6_islands 72 = .ok (.getfield 35, 3) := by decide +kernel
theorem dX6_islands_75 : decode cX6_islands 75 = .ok (.invokevirtual 131, 3) := by decide +kernel
theorem dX6_islands_78 : decode cX6_islands 78 = .ok (.aload_n 0, 1) := by decide +kernel
theorem dX6_islands_79 : decode cX6_islands 79 = .ok (.getfield 35, 3) := by decide +kernel
theorem dX6_islands_82 : decode cX6_islands 82 = .ok (.aload_n 0, 1) := by decide +kernel
theorem dX6_islands_83 : decode cX6_islands 83 = .ok (.getfield 31, 3) := by decide +kernel
theorem dX6_islands_86 : decode cX6_islands 86 = .ok (.invokevirtual 122, 3) := by decide +kernel
theorem dX6_islands_89 : decode cX6_islands 89 = .ok (.iinc 2 1, 3) := by decide +kernel
theorem dX6_islands_92 : decode cX6_islands 92 = .ok (.goto (-74), 3) := by decide +kernel
theorem dX6_islands_95 : decode cX6_islands 95 = .ok (.iload_n 1, 1) := by decide +kernel
theorem dX6_islands_96 : decode cX6_islands 96 = .ok (.ireturn, 1) := by decide +kernel
def b6_islands_89 (rc : Nat → List Int32 → List Int64 → Mem → Option (Int32 × Mem)) (n : Nat) (i1 : Int32) (i2 : Int32) (M : Mem) : Option (Int32 × Mem) :=
  lt (i2 + (1 : Int32)) fun v25 =>
  rc 18 [i1, v25] [] M
def b6_islands_18 (rc : Nat → List Int32 → List Int64 → Mem → Option (Int32 × Mem)) (n : Nat) (i1 : Int32) (i2 : Int32) (M : Mem) : Option (Int32 × Mem) :=
  (if (96 : Int32) ≤ i2 then (
   some (i1, M))
  else (
   bnd (f4_has n 34 i2 M) fun r5 M6 =>
   (if r5 = 0 then (
    b6_islands_89  rc n i1 i2 M6)
   else (
    lt (i1 + (1 : Int32)) fun v9 =>
    bnd (f4_clear n 33 M6) fun r10 M11 =>
    bnd (f4_add n 33 i2 M11) fun r13 M14 =>
    bnd (f4_flood n 33 10 M14) fun r16 M17 =>
    bnd (f4_turnWithin n 33 34 M17) fun r19 M20 =>
    bnd (f4_take n 34 33 M20) fun r22 M23 =>
    b6_islands_89  rc n v9 i2 M23))))
def b6_islands_0 (rc : Nat → List Int32 → List Int64 → Mem → Option (Int32 × Mem)) (n : Nat) (M : Mem) : Option (Int32 × Mem) :=
  bnd (f4_take n 34 10 M) fun r1 M2 =>
  b6_islands_18  rc n (0 : Int32) (0 : Int32) M2
def r6_islands : Nat → Nat → List Int32 → List Int64 → Mem → Option (Int32 × Mem)
  | 0 => fun _ _ _ _ => none
  | n + 1 => fun pc li lj M =>
    if pc = 18 then (match li, lj with | [i1, i2], [] => b6_islands_18  (r6_islands  n) n i1 i2 M | _, _ => none) else
    none
theorem e6_islands_18  (n : Nat) (i1 : Int32) (i2 : Int32) (M : Mem) : r6_islands  (n + 1) 18 [i1, i2] [] M = b6_islands_18  (r6_islands  n) n i1 i2 M := by
  rw [r6_islands]
  simp
def f6_islands (n : Nat)  (M : Mem) : Option (Int32 × Mem) := b6_islands_0 (r6_islands n) n M
abbrev rm6_islands : Room := { frames := 3, cells := 0, slots := 0, locals := 72 }
theorem y6_islands_w : yV RX6 yX6_islands cX6_islands 3 (some .int) 0 := ⟨g_1055, g_1056, g_10, g_1057, rfl, by decide, by decide, by decide +kernel⟩
set_option maxHeartbeats 4000000 in
set_option maxRecDepth 100000 in
theorem w6_islands_89 {p : Program} {l : Launch} {e : Env} {s : State} {m : MethodId} {args : Array Value} {below : List Frame} {meth : Method} {c : Code} {z : Zt} {b : Nat}  (C : Cx p s m args c cX6_islands 3 RX6 z 339 b) (hr : meth.sig.returnType = (some .int)) (hk : meth.locks = false) {r : Int32} {M' : Mem} {rc : Nat → List Int32 → List Int64 → Mem → Option (Int32 × Mem)} {n : Nat} (q18 : ∀ (i1 : Int32) (i2 : Int32) (M : Mem) (H : Heap) (locs : List Loc) (ls : Array Slot), rc 18 [i1, i2] [] M = some (r, M') → va_P z.1 vwCl (pw (xd z b) 339 b M) H → va_S (pA 339 b) s.heap H locs → lv_has ls 3 [(0, .ref (b + 27)), (1, .int i1), (2, .int i2)] → W p l e rm6_islands s m args below meth c H locs 0 0 (MQ below (va_Qi (fun (r' : Int32) (M2 : Mem) => r' = r ∧ M2 = M') (fun M2 t => va_P z.1 vwCl (pw (xd z b) 339 b M2) t.heap) (pA 339 b)) args s 0 0 (pA 339 b)) (F0 m 18 ls [])) {i1 : Int32} {i2 : Int32} {M : Mem} {H : Heap} {locs : List Loc} {ls : Array Slot} (hf : b6_islands_89  rc n i1 i2 M = some (r, M')) (hP : va_P z.1 vwCl (pw (xd z b) 339 b M) H) (hS : va_S (pA 339 b) s.heap H locs) (hl : lv_has ls 3 [(0, .ref (b + 27)), (1, .int i1), (2, .int i2)]) : W p l e rm6_islands s m args below meth c H locs 0 0 (MQ below (va_Qi (fun (r' : Int32) (M2 : Mem) => r' = r ∧ M2 = M') (fun M2 t => va_P z.1 vwCl (pw (xd z b) 339 b M2) t.heap) (pA 339 b)) args s 0 0 (pA 339 b)) (F0 m 89 ls []) := by
  have hx := C.1.1
  have hb := C.1.2.1
  unfold b6_islands_89 at hf
  obtain ⟨v25, ev25⟩ : ∃ v : Int32, v = i2 + (1 : Int32) := ⟨_, rfl⟩
  replace hf := lt_c ev25 hf
  refine lv_iinc (v := v25) (lv' := [(2, .int v25), (0, .ref (b + 27)), (1, .int i1)]) hx hb dX6_islands_89 hl (k := 2) rfl (by rw [ev25]; rfl) (by decide) rfl (fun ls hl => ?_)
  refine lv_goto (tgt := 18) hx hb dX6_islands_92 (by decide) ?_
  exact q18 i1 v25 M _ _ _ hf hP hS (lv_sub hl [1, 2, 0] rfl)
set_option maxHeartbeats 4000000 in
set_option maxRecDepth 100000 in
theorem w6_islands_18 {p : Program} {l : Launch} {e : Env} {s : State} {m : MethodId} {args : Array Value} {below : List Frame} {meth : Method} {c : Code} {z : Zt} {b : Nat}  (C : Cx p s m args c cX6_islands 3 RX6 z 339 b) (hr : meth.sig.returnType = (some .int)) (hk : meth.locks = false) {r : Int32} {M' : Mem} {rc : Nat → List Int32 → List Int64 → Mem → Option (Int32 × Mem)} {n : Nat} (q18 : ∀ (i1 : Int32) (i2 : Int32) (M : Mem) (H : Heap) (locs : List Loc) (ls : Array Slot), rc 18 [i1, i2] [] M = some (r, M') → va_P z.1 vwCl (pw (xd z b) 339 b M) H → va_S (pA 339 b) s.heap H locs → lv_has ls 3 [(0, .ref (b + 27)), (1, .int i1), (2, .int i2)] → W p l e rm6_islands s m args below meth c H locs 0 0 (MQ below (va_Qi (fun (r' : Int32) (M2 : Mem) => r' = r ∧ M2 = M') (fun M2 t => va_P z.1 vwCl (pw (xd z b) 339 b M2) t.heap) (pA 339 b)) args s 0 0 (pA 339 b)) (F0 m 18 ls [])) {i1 : Int32} {i2 : Int32} {M : Mem} {H : Heap} {locs : List Loc} {ls : Array Slot} (hf : b6_islands_18  rc n i1 i2 M = some (r, M')) (hP : va_P z.1 vwCl (pw (xd z b) 339 b M) H) (hS : va_S (pA 339 b) s.heap H locs) (hl : lv_has ls 3 [(0, .ref (b + 27)), (1, .int i1), (2, .int i2)]) : W p l e rm6_islands s m args below meth c H locs 0 0 (MQ below (va_Qi (fun (r' : Int32) (M2 : Mem) => r' = r ∧ M2 = M') (fun M2 t => va_P z.1 vwCl (pw (xd z b) 339 b M2) t.heap) (pA 339 b)) args s 0 0 (pA 339 b)) (F0 m 18 ls []) := by
  have hx := C.1.1
  have hb := C.1.2.1
  unfold b6_islands_18 at hf
  refine lv_iload_n hx hb dX6_islands_18 rfl (lv_at hl 2 rfl) ?_
  refine lv_bipush (v := (96 : Int32)) hx hb dX6_islands_19 (by decide) ?_
  refine lv_icmp_ge (tgt := 95) hx hb dX6_islands_21 (by decide) (fun c4 => ?_) (fun c4 => ?_)
  · replace hf := ite_t c4 hf
    refine lv_iload_n hx hb dX6_islands_95 rfl (lv_at hl 1 rfl) ?_
    exact prI C hr hk hP hS hf dX6_islands_96
  · replace hf := ite_f c4 hf
    refine lv_aload_n hx hb dX6_islands_24 rfl (lv_at hl 0 rfl) ?_
    refine pg C hP (k := 27) (j := 7) (Nat.le_of_ble_eq_true rfl) (xd_27 _ _) rfl iw_6 (Nat.le_of_ble_eq_true rfl) g_261 rfl rfl dX6_islands_25 ?_
    refine lv_iload_n hx hb dX6_islands_28 rfl (lv_at hl 2 rfl) ?_
    obtain ⟨r5, M6, h7, hf⟩ := bnd_s hf
    refine pcVi (As := [.int i2]) C hP hS (k := 34) (ps_lt ps_34) ((ps_d ps_34) _ _) rfl (c4_has ps_34 h7) y4_has_w g_1059 rfl rfl rfl ⟨Nat.le_of_ble_eq_true rfl, Nat.le_of_ble_eq_true rfl⟩ hl.1 rfl (Nat.le_of_ble_eq_true rfl) dX6_islands_29 ⟨Nat.le_of_ble_eq_true rfl, Nat.le_of_ble_eq_true rfl⟩ (fun H locs hP hS => ?_)
    refine lv_if_eq (tgt := 89) hx hb dX6_islands_32 (by decide) (fun c8 => ?_) (fun c8 => ?_)
    · replace hf := ite_t c8 hf
      exact w6_islands_89 (n := n)  C hr hk q18 hf hP hS (lv_sub hl [0, 1, 2] rfl)
    · replace hf := ite_f c8 hf
      obtain ⟨v9, ev9⟩ : ∃ v : Int32, v = i1 + (1 : Int32) := ⟨_, rfl⟩
      replace hf := lt_c ev9 hf
      refine lv_iinc (v := v9) (lv' := [(1, .int v9), (0, .ref (b + 27)), (2, .int i2)]) hx hb dX6_islands_35 hl (k := 1) rfl (by rw [ev9]; rfl) (by decide) rfl (fun ls hl => ?_)
      refine lv_aload_n hx hb dX6_islands_38 rfl (lv_at hl 1 rfl) ?_
      refine pg C hP (k := 27) (j := 6) (Nat.le_of_ble_eq_true rfl) (xd_27 _ _) rfl iw_6 (Nat.le_of_ble_eq_true rfl) g_260 rfl rfl dX6_islands_39 ?_
      obtain ⟨r10, M11, h12, hf⟩ := bnd_s hf
      refine pcVv (As := []) C hP hS (k := 33) (ps_lt ps_33) ((ps_d ps_33) _ _) rfl (c4_clear ps_33 h12) y4_clear_w g_1022 rfl rfl rfl ⟨Nat.le_of_ble_eq_true rfl, Nat.le_of_ble_eq_true rfl⟩ hl.1 rfl (Nat.le_of_ble_eq_true rfl) dX6_islands_42 ⟨Nat.le_of_ble_eq_true rfl, Nat.le_of_ble_eq_true rfl⟩ (fun H locs hP hS => ?_)
      refine lv_aload_n hx hb dX6_islands_45 rfl (lv_at hl 1 rfl) ?_
      refine pg C hP (k := 27) (j := 6) (Nat.le_of_ble_eq_true rfl) (xd_27 _ _) rfl iw_6 (Nat.le_of_ble_eq_true rfl) g_260 rfl rfl dX6_islands_46 ?_
      refine lv_iload_n hx hb dX6_islands_49 rfl (lv_at hl 2 rfl) ?_
      obtain ⟨r13, M14, h15, hf⟩ := bnd_s hf
      refine pcVv (As := [.int i2]) C hP hS (k := 33) (ps_lt ps_33) ((ps_d ps_33) _ _) rfl (c4_add ps_33 h15) y4_add_w g_1023 rfl rfl rfl ⟨Nat.le_of_ble_eq_true rfl, Nat.le_of_ble_eq_true rfl⟩ hl.1 rfl (Nat.le_of_ble_eq_true rfl) dX6_islands_50 ⟨Nat.le_of_ble_eq_true rfl, Nat.le_of_ble_eq_true rfl⟩ (fun H locs hP hS => ?_)
      refine lv_aload_n hx hb dX6_islands_53 rfl (lv_at hl 1 rfl) ?_
      refine pg C hP (k := 27) (j := 6) (Nat.le_of_ble_eq_true rfl) (xd_27 _ _) rfl iw_6 (Nat.le_of_ble_eq_true rfl) g_260 rfl rfl dX6_islands_54 ?_
      refine lv_aload_n hx hb dX6_islands_57 rfl (lv_at hl 1 rfl) ?_
      refine pg C hP (k := 27) (j := 0) (Nat.le_of_ble_eq_true rfl) (xd_27 _ _) rfl iw_6 (Nat.le_of_ble_eq_true rfl) g_253 rfl rfl dX6_islands_58 ?_
      refine pgN C hP (k := 3) (j := 6) (Nat.le_of_ble_eq_true rfl) (xd_3 _ _) rfl iw_8 (Nat.le_of_ble_eq_true rfl) g_86 rfl rfl dX6_islands_61 ?_
      obtain ⟨r16, M17, h18, hf⟩ := bnd_s hf
      refine pcVv (As := [.ref (b + 10)]) C hP hS (k := 33) (ps_lt ps_33) ((ps_d ps_33) _ _) rfl (c4_flood ps_33 ps_10 h18) y4_flood_w g_1060 rfl rfl rfl ⟨Nat.le_of_ble_eq_true rfl, Nat.le_of_ble_eq_true rfl⟩ hl.1 rfl (Nat.le_of_ble_eq_true rfl) dX6_islands_64 ⟨Nat.le_of_ble_eq_true rfl, Nat.le_of_ble_eq_true rfl⟩ (fun H locs hP hS => ?_)
      refine lv_aload_n hx hb dX6_islands_67 rfl (lv_at hl 1 rfl) ?_
      refine pg C hP (k := 27) (j := 6) (Nat.le_of_ble_eq_true rfl) (xd_27 _ _) rfl iw_6 (Nat.le_of_ble_eq_true rfl) g_260 rfl rfl dX6_islands_68 ?_
      refine lv_aload_n hx hb dX6_islands_71 rfl (lv_at hl 1 rfl) ?_
      refine pg C hP (k := 27) (j := 7) (Nat.le_of_ble_eq_true rfl) (xd_27 _ _) rfl iw_6 (Nat.le_of_ble_eq_true rfl) g_261 rfl rfl dX6_islands_72 ?_
      obtain ⟨r19, M20, h21, hf⟩ := bnd_s hf
      refine pcVv (As := [.ref (b + 34)]) C hP hS (k := 33) (ps_lt ps_33) ((ps_d ps_33) _ _) rfl (c4_turnWithin ps_33 ps_34 h21) y4_turnWithin_w g_1066 rfl rfl rfl ⟨Nat.le_of_ble_eq_true rfl, Nat.le_of_ble_eq_true rfl⟩ hl.1 rfl (Nat.le_of_ble_eq_true rfl) dX6_islands_75 ⟨Nat.le_of_ble_eq_true rfl, Nat.le_of_ble_eq_true rfl⟩ (fun H locs hP hS => ?_)
      refine lv_aload_n hx hb dX6_islands_78 rfl (lv_at hl 1 rfl) ?_
      refine pg C hP (k := 27) (j := 7) (Nat.le_of_ble_eq_true rfl) (xd_27 _ _) rfl iw_6 (Nat.le_of_ble_eq_true rfl) g_261 rfl rfl dX6_islands_79 ?_
      refine lv_aload_n hx hb dX6_islands_82 rfl (lv_at hl 1 rfl) ?_
      refine pg C hP (k := 27) (j := 6) (Nat.le_of_ble_eq_true rfl) (xd_27 _ _) rfl iw_6 (Nat.le_of_ble_eq_true rfl) g_260 rfl rfl dX6_islands_83 ?_
      obtain ⟨r22, M23, h24, hf⟩ := bnd_s hf
      refine pcVv (As := [.ref (b + 33)]) C hP hS (k := 34) (ps_lt ps_34) ((ps_d ps_34) _ _) rfl (c4_take ps_34 ps_33 h24) y4_take_w g_1058 rfl rfl rfl ⟨Nat.le_of_ble_eq_true rfl, Nat.le_of_ble_eq_true rfl⟩ hl.1 rfl (Nat.le_of_ble_eq_true rfl) dX6_islands_86 ⟨Nat.le_of_ble_eq_true rfl, Nat.le_of_ble_eq_true rfl⟩ (fun H locs hP hS => ?_)
      exact w6_islands_89 (n := n)  C hr hk q18 hf hP hS (lv_sub hl [1, 0, 2] rfl)
set_option maxHeartbeats 4000000 in
set_option maxRecDepth 100000 in
theorem w6_islands_0 {p : Program} {l : Launch} {e : Env} {s : State} {m : MethodId} {args : Array Value} {below : List Frame} {meth : Method} {c : Code} {z : Zt} {b : Nat}  (C : Cx p s m args c cX6_islands 3 RX6 z 339 b) (hr : meth.sig.returnType = (some .int)) (hk : meth.locks = false) {r : Int32} {M' : Mem} {rc : Nat → List Int32 → List Int64 → Mem → Option (Int32 × Mem)} {n : Nat} (q18 : ∀ (i1 : Int32) (i2 : Int32) (M : Mem) (H : Heap) (locs : List Loc) (ls : Array Slot), rc 18 [i1, i2] [] M = some (r, M') → va_P z.1 vwCl (pw (xd z b) 339 b M) H → va_S (pA 339 b) s.heap H locs → lv_has ls 3 [(0, .ref (b + 27)), (1, .int i1), (2, .int i2)] → W p l e rm6_islands s m args below meth c H locs 0 0 (MQ below (va_Qi (fun (r' : Int32) (M2 : Mem) => r' = r ∧ M2 = M') (fun M2 t => va_P z.1 vwCl (pw (xd z b) 339 b M2) t.heap) (pA 339 b)) args s 0 0 (pA 339 b)) (F0 m 18 ls []))  {M : Mem} {H : Heap} {locs : List Loc} {ls : Array Slot} (hf : b6_islands_0  rc n  M = some (r, M')) (hP : va_P z.1 vwCl (pw (xd z b) 339 b M) H) (hS : va_S (pA 339 b) s.heap H locs) (hl : lv_has ls 3 [(0, .ref (b + 27))]) : W p l e rm6_islands s m args below meth c H locs 0 0 (MQ below (va_Qi (fun (r' : Int32) (M2 : Mem) => r' = r ∧ M2 = M') (fun M2 t => va_P z.1 vwCl (pw (xd z b) 339 b M2) t.heap) (pA 339 b)) args s 0 0 (pA 339 b)) (F0 m 0 ls []) := by
  have hx := C.1.1
  have hb := C.1.2.1
  unfold b6_islands_0 at hf
  refine lv_iconst (v := (0 : Int32)) hx hb dX6_islands_0 (by decide) ?_
  refine lv_istore_n (lv' := [(1, .int (0 : Int32)), (0, .ref (b + 27))]) hx hb dX6_islands_1 rfl hl (by decide) rfl (fun ls hl => ?_)
  refine lv_aload_n hx hb dX6_islands_2 rfl (lv_at hl 1 rfl) ?_
  refine pg C hP (k := 27) (j := 7) (Nat.le_of_ble_eq_true rfl) (xd_27 _ _) rfl iw_6 (Nat.le_of_ble_eq_true rfl) g_261 rfl rfl dX6_islands_3 ?_
  refine lv_aload_n hx hb dX6_islands_6 rfl (lv_at hl 1 rfl) ?_
  refine pg C hP (k := 27) (j := 0) (Nat.le_of_ble_eq_true rfl) (xd_27 _ _) rfl iw_6 (Nat.le_of_ble_eq_true rfl) g_253 rfl rfl dX6_islands_7 ?_
  refine pgN C hP (k := 3) (j := 6) (Nat.le_of_ble_eq_true rfl) (xd_3 _ _) rfl iw_8 (Nat.le_of_ble_eq_true rfl) g_86 rfl rfl dX6_islands_10 ?_
  obtain ⟨r1, M2, h3, hf⟩ := bnd_s hf
  refine pcVv (As := [.ref (b + 10)]) C hP hS (k := 34) (ps_lt ps_34) ((ps_d ps_34) _ _) rfl (c4_take ps_34 ps_10 h3) y4_take_w g_1058 rfl rfl rfl ⟨Nat.le_of_ble_eq_true rfl, Nat.le_of_ble_eq_true rfl⟩ hl.1 rfl (Nat.le_of_ble_eq_true rfl) dX6_islands_13 ⟨Nat.le_of_ble_eq_true rfl, Nat.le_of_ble_eq_true rfl⟩ (fun H locs hP hS => ?_)
  refine lv_iconst (v := (0 : Int32)) hx hb dX6_islands_16 (by decide) ?_
  refine lv_istore_n (lv' := [(2, .int (0 : Int32)), (1, .int (0 : Int32)), (0, .ref (b + 27))]) hx hb dX6_islands_17 rfl hl (by decide) rfl (fun ls hl => ?_)
  exact w6_islands_18 (n := n)  C hr hk q18 hf hP hS (lv_sub hl [2, 1, 0] rfl)
set_option maxHeartbeats 4000000 in
set_option maxRecDepth 100000 in
theorem l6_islands {p : Program} {l : Launch} {e : Env} {s : State} {m : MethodId} {args : Array Value} {below : List Frame} {meth : Method} {c : Code} {z : Zt} {b : Nat}  (C : Cx p s m args c cX6_islands 3 RX6 z 339 b) (hr : meth.sig.returnType = (some .int)) (hk : meth.locks = false) {r : Int32} {M' : Mem} (n : Nat) : (∀ (i1 : Int32) (i2 : Int32) (M : Mem) (H : Heap) (locs : List Loc) (ls : Array Slot), (r6_islands  n) 18 [i1, i2] [] M = some (r, M') → va_P z.1 vwCl (pw (xd z b) 339 b M) H → va_S (pA 339 b) s.heap H locs → lv_has ls 3 [(0, .ref (b + 27)), (1, .int i1), (2, .int i2)] → W p l e rm6_islands s m args below meth c H locs 0 0 (MQ below (va_Qi (fun (r' : Int32) (M2 : Mem) => r' = r ∧ M2 = M') (fun M2 t => va_P z.1 vwCl (pw (xd z b) 339 b M2) t.heap) (pA 339 b)) args s 0 0 (pA 339 b)) (F0 m 18 ls [])) := by
  induction n with
  | zero => exact fun _ _ _ _ _ _ hf => (by cases hf)
  | succ n ih => exact fun _ _ _ _ _ _ hf hP hS hl => w6_islands_18 (n := n)  C hr hk ih ((e6_islands_18  n _ _ _).symm.trans hf) hP hS hl
theorem c6_islands {l : Launch} {z : Zt} {b n : Nat}   {M M' : Mem} {r : Int32} (hf : f6_islands n   M = some (r, M')) : CI l z (xd z b) 339 b yX6_islands cX6_islands 3 (some .int) rm6_islands [.ref (b + 27)] M M' r :=
  CI.ofW (lv := [(0, .ref (b + 27))]) (by decide) (Nat.le_of_ble_eq_true rfl) rfl (fun p e s m args below meth c ls C hr hk hP hS hl => w6_islands_0 (n := n)  C hr hk (l6_islands  C hr hk n) hf hP hS hl)

-- BronzeKing$Town.openBeside(I)I
theorem dX8_openBeside_0 : decode cX8_openBeside 0 = .ok (.iconst 0, 1) := by decide +kernel
theorem dX8_openBeside_1 : decode cX8_openBeside 1 = .ok (.istore_n 2, 1) := by decide +kernel
theorem dX8_openBeside_2 : decode cX8_openBeside 2 = .ok (.iconst 0, 1) := by decide +kernel
theorem dX8_openBeside_3 : decode cX8_openBeside 3 = .ok (.istore_n 3, 1) := by decide +kernel
theorem dX8_openBeside_4 : decode cX8_openBeside 4 = .ok (.iload_n 3, 1) := by decide +kernel
theorem dX8_openBeside_5 : decode cX8_openBeside 5 = .ok (.iconst 4, 1) := by decide +kernel
theorem dX8_openBeside_6 : decode cX8_openBeside 6 = .ok (.if_icmp .ge 24, 3) := by decide +kernel
theorem dX8_openBeside_9 : decode cX8_openBeside 9 = .ok (.aload_n 0, 1) := by decide +kernel
theorem dX8_openBeside_10 : decode cX8_openBeside 10 = .ok (.iload_n 1, 1) := by decide +kernel
theorem dX8_openBeside_11 : decode cX8_openBeside 11 = .ok (.iload_n 3, 1) := by decide +kernel
theorem dX8_openBeside_12 : decode cX8_openBeside 12 = .ok (.invokestatic 72, 3) := by decide +kernel
theorem dX8_openBeside_15 : decode cX8_openBeside 15 = .ok (.invokevirtual 56, 3) := by decide +kernel
theorem dX8_openBeside_18 : decode cX8_openBeside 18 = .ok (.ifCond .eq 6, 3) := by decide +kernel
theorem dX8_openBeside_21 : decode cX8_openBeside 21 = .ok (.iinc 2 1, 3) := by decide +kernel
theorem dX8_openBeside_24 : decode cX8_openBeside 24 = .ok (.iinc 3 1, 3) := by decide +kernel
theorem dX8_openBeside_27 : decode cX8_openBeside 27 = .ok (.goto (-23), 3) := by decide +kernel
theorem dX8_openBeside_30 : decode cX8_openBeside 30 = .ok (.iload_n 2, 1) := by decide +kernel
theorem dX8_openBeside_31 : decode cX8_openBeside 31 = .ok (.ireturn, 1) := by decide +kernel
def b8_openBeside_24 (rc : Nat → List Int32 → List Int64 → Mem → Option (Int32 × Mem)) (n : Nat) (i1 : Int32) (i2 : Int32) (i3 : Int32) (M : Mem) : Option (Int32 × Mem) :=
  lt (i3 + (1 : Int32)) fun v10 =>
  rc 4 [i1, i2, v10] [] M
def b8_openBeside_4 (rc : Nat → List Int32 → List Int64 → Mem → Option (Int32 × Mem)) (n : Nat) (i1 : Int32) (i2 : Int32) (i3 : Int32) (M : Mem) : Option (Int32 × Mem) :=
  (if (4 : Int32) ≤ i3 then (
   some (i2, M))
  else (
   bnd (f11_beside n i1 i3 M) fun r2 M3 =>
   bnd (f8_isOpen n r2 M3) fun r5 M6 =>
   (if r5 = 0 then (
    b8_openBeside_24  rc n i1 i2 i3 M6)
   else (
    lt (i2 + (1 : Int32)) fun v9 =>
    b8_openBeside_24  rc n i1 v9 i3 M6))))
def b8_openBeside_0 (rc : Nat → List Int32 → List Int64 → Mem → Option (Int32 × Mem)) (n : Nat) (a1 : Int32) (M : Mem) : Option (Int32 × Mem) :=
  b8_openBeside_4  rc n a1 (0 : Int32) (0 : Int32) M
def r8_openBeside : Nat → Nat → List Int32 → List Int64 → Mem → Option (Int32 × Mem)
  | 0 => fun _ _ _ _ => none
  | n + 1 => fun pc li lj M =>
    if pc = 4 then (match li, lj with | [i1, i2, i3], [] => b8_openBeside_4  (r8_openBeside  n) n i1 i2 i3 M | _, _ => none) else
    none
theorem e8_openBeside_4  (n : Nat) (i1 : Int32) (i2 : Int32) (i3 : Int32) (M : Mem) : r8_openBeside  (n + 1) 4 [i1, i2, i3] [] M = b8_openBeside_4  (r8_openBeside  n) n i1 i2 i3 M := by
  rw [r8_openBeside]
  simp
def f8_openBeside (n : Nat) (a1 : Int32) (M : Mem) : Option (Int32 × Mem) := b8_openBeside_0 (r8_openBeside n) n a1 M
abbrev rm8_openBeside : Room := { frames := 2, cells := 0, slots := 0, locals := 42 }
theorem y8_openBeside_w : yV RX8 yX8_openBeside cX8_openBeside 4 (some .int) 1 := ⟨g_823, g_824, g_3, g_825, rfl, by decide, by decide, by decide +kernel⟩
set_option maxHeartbeats 4000000 in
set_option maxRecDepth 100000 in
theorem w8_openBeside_24 {p : Program} {l : Launch} {e : Env} {s : State} {m : MethodId} {args : Array Value} {below : List Frame} {meth : Method} {c : Code} {z : Zt} {b : Nat}  (C : Cx p s m args c cX8_openBeside 4 RX8 z 339 b) (hr : meth.sig.returnType = (some .int)) (hk : meth.locks = false) {r : Int32} {M' : Mem} {rc : Nat → List Int32 → List Int64 → Mem → Option (Int32 × Mem)} {n : Nat} (q4 : ∀ (i1 : Int32) (i2 : Int32) (i3 : Int32) (M : Mem) (H : Heap) (locs : List Loc) (ls : Array Slot), rc 4 [i1, i2, i3] [] M = some (r, M') → va_P z.1 vwCl (pw (xd z b) 339 b M) H → va_S (pA 339 b) s.heap H locs → lv_has ls 4 [(0, .ref (b + 3)), (1, .int i1), (2, .int i2), (3, .int i3)] → W p l e rm8_openBeside s m args below meth c H locs 0 0 (MQ below (va_Qi (fun (r' : Int32) (M2 : Mem) => r' = r ∧ M2 = M') (fun M2 t => va_P z.1 vwCl (pw (xd z b) 339 b M2) t.heap) (pA 339 b)) args s 0 0 (pA 339 b)) (F0 m 4 ls [])) {i1 : Int32} {i2 : Int32} {i3 : Int32} {M : Mem} {H : Heap} {locs : List Loc} {ls : Array Slot} (hf : b8_openBeside_24  rc n i1 i2 i3 M = some (r, M')) (hP : va_P z.1 vwCl (pw (xd z b) 339 b M) H) (hS : va_S (pA 339 b) s.heap H locs) (hl : lv_has ls 4 [(0, .ref (b + 3)), (1, .int i1), (2, .int i2), (3, .int i3)]) : W p l e rm8_openBeside s m args below meth c H locs 0 0 (MQ below (va_Qi (fun (r' : Int32) (M2 : Mem) => r' = r ∧ M2 = M') (fun M2 t => va_P z.1 vwCl (pw (xd z b) 339 b M2) t.heap) (pA 339 b)) args s 0 0 (pA 339 b)) (F0 m 24 ls []) := by
  have hx := C.1.1
  have hb := C.1.2.1
  unfold b8_openBeside_24 at hf
  obtain ⟨v10, ev10⟩ : ∃ v : Int32, v = i3 + (1 : Int32) := ⟨_, rfl⟩
  replace hf := lt_c ev10 hf
  refine lv_iinc (v := v10) (lv' := [(3, .int v10), (0, .ref (b + 3)), (1, .int i1), (2, .int i2)]) hx hb dX8_openBeside_24 hl (k := 3) rfl (by rw [ev10]; rfl) (by decide) rfl (fun ls hl => ?_)
  refine lv_goto (tgt := 4) hx hb dX8_openBeside_27 (by decide) ?_
  exact q4 i1 i2 v10 M _ _ _ hf hP hS (lv_sub hl [1, 2, 3, 0] rfl)
set_option maxHeartbeats 4000000 in
set_option maxRecDepth 100000 in
theorem w8_openBeside_4 {p : Program} {l : Launch} {e : Env} {s : State} {m : MethodId} {args : Array Value} {below : List Frame} {meth : Method} {c : Code} {z : Zt} {b : Nat}  (C : Cx p s m args c cX8_openBeside 4 RX8 z 339 b) (hr : meth.sig.returnType = (some .int)) (hk : meth.locks = false) {r : Int32} {M' : Mem} {rc : Nat → List Int32 → List Int64 → Mem → Option (Int32 × Mem)} {n : Nat} (q4 : ∀ (i1 : Int32) (i2 : Int32) (i3 : Int32) (M : Mem) (H : Heap) (locs : List Loc) (ls : Array Slot), rc 4 [i1, i2, i3] [] M = some (r, M') → va_P z.1 vwCl (pw (xd z b) 339 b M) H → va_S (pA 339 b) s.heap H locs → lv_has ls 4 [(0, .ref (b + 3)), (1, .int i1), (2, .int i2), (3, .int i3)] → W p l e rm8_openBeside s m args below meth c H locs 0 0 (MQ below (va_Qi (fun (r' : Int32) (M2 : Mem) => r' = r ∧ M2 = M') (fun M2 t => va_P z.1 vwCl (pw (xd z b) 339 b M2) t.heap) (pA 339 b)) args s 0 0 (pA 339 b)) (F0 m 4 ls [])) {i1 : Int32} {i2 : Int32} {i3 : Int32} {M : Mem} {H : Heap} {locs : List Loc} {ls : Array Slot} (hf : b8_openBeside_4  rc n i1 i2 i3 M = some (r, M')) (hP : va_P z.1 vwCl (pw (xd z b) 339 b M) H) (hS : va_S (pA 339 b) s.heap H locs) (hl : lv_has ls 4 [(0, .ref (b + 3)), (1, .int i1), (2, .int i2), (3, .int i3)]) : W p l e rm8_openBeside s m args below meth c H locs 0 0 (MQ below (va_Qi (fun (r' : Int32) (M2 : Mem) => r' = r ∧ M2 = M') (fun M2 t => va_P z.1 vwCl (pw (xd z b) 339 b M2) t.heap) (pA 339 b)) args s 0 0 (pA 339 b)) (F0 m 4 ls []) := by
  have hx := C.1.1
  have hb := C.1.2.1
  unfold b8_openBeside_4 at hf
  refine lv_iload_n hx hb dX8_openBeside_4 rfl (lv_at hl 3 rfl) ?_
  refine lv_iconst (v := (4 : Int32)) hx hb dX8_openBeside_5 (by decide) ?_
  refine lv_icmp_ge (tgt := 30) hx hb dX8_openBeside_6 (by decide) (fun c1 => ?_) (fun c1 => ?_)
  · replace hf := ite_t c1 hf
    refine lv_iload_n hx hb dX8_openBeside_30 rfl (lv_at hl 2 rfl) ?_
    exact prI C hr hk hP hS hf dX8_openBeside_31
  · replace hf := ite_f c1 hf
    refine lv_aload_n hx hb dX8_openBeside_9 rfl (lv_at hl 0 rfl) ?_
    refine lv_iload_n hx hb dX8_openBeside_10 rfl (lv_at hl 1 rfl) ?_
    refine lv_iload_n hx hb dX8_openBeside_11 rfl (lv_at hl 3 rfl) ?_
    obtain ⟨r2, M3, h4, hf⟩ := bnd_s hf
    refine pcTi (As := [.int i1, .int i3]) C hP hS (c11_beside  h4) y11_beside_w g_417 rfl rfl rfl ⟨Nat.le_of_ble_eq_true rfl, Nat.le_of_ble_eq_true rfl⟩ hl.1 rfl (Nat.le_of_ble_eq_true rfl) dX8_openBeside_12 ⟨Nat.le_of_ble_eq_true rfl, Nat.le_of_ble_eq_true rfl⟩ (fun H locs hP hS => ?_)
    obtain ⟨r5, M6, h7, hf⟩ := bnd_s hf
    refine pcVi (As := [.int r2]) C hP hS (k := 3) (Nat.le_of_ble_eq_true rfl) (xd_3 _ _) rfl (c8_isOpen  h7) y8_isOpen_w g_401 rfl rfl rfl ⟨Nat.le_of_ble_eq_true rfl, Nat.le_of_ble_eq_true rfl⟩ hl.1 rfl (Nat.le_of_ble_eq_true rfl) dX8_openBeside_15 ⟨Nat.le_of_ble_eq_true rfl, Nat.le_of_ble_eq_true rfl⟩ (fun H locs hP hS => ?_)
    refine lv_if_eq (tgt := 24) hx hb dX8_openBeside_18 (by decide) (fun c8 => ?_) (fun c8 => ?_)
    · replace hf := ite_t c8 hf
      exact w8_openBeside_24 (n := n)  C hr hk q4 hf hP hS (lv_sub hl [0, 1, 2, 3] rfl)
    · replace hf := ite_f c8 hf
      obtain ⟨v9, ev9⟩ : ∃ v : Int32, v = i2 + (1 : Int32) := ⟨_, rfl⟩
      replace hf := lt_c ev9 hf
      refine lv_iinc (v := v9) (lv' := [(2, .int v9), (0, .ref (b + 3)), (1, .int i1), (3, .int i3)]) hx hb dX8_openBeside_21 hl (k := 2) rfl (by rw [ev9]; rfl) (by decide) rfl (fun ls hl => ?_)
      exact w8_openBeside_24 (n := n)  C hr hk q4 hf hP hS (lv_sub hl [1, 2, 0, 3] rfl)
set_option maxHeartbeats 4000000 in
set_option maxRecDepth 100000 in
theorem w8_openBeside_0 {p : Program} {l : Launch} {e : Env} {s : State} {m : MethodId} {args : Array Value} {below : List Frame} {meth : Method} {c : Code} {z : Zt} {b : Nat}  (C : Cx p s m args c cX8_openBeside 4 RX8 z 339 b) (hr : meth.sig.returnType = (some .int)) (hk : meth.locks = false) {r : Int32} {M' : Mem} {rc : Nat → List Int32 → List Int64 → Mem → Option (Int32 × Mem)} {n : Nat} (q4 : ∀ (i1 : Int32) (i2 : Int32) (i3 : Int32) (M : Mem) (H : Heap) (locs : List Loc) (ls : Array Slot), rc 4 [i1, i2, i3] [] M = some (r, M') → va_P z.1 vwCl (pw (xd z b) 339 b M) H → va_S (pA 339 b) s.heap H locs → lv_has ls 4 [(0, .ref (b + 3)), (1, .int i1), (2, .int i2), (3, .int i3)] → W p l e rm8_openBeside s m args below meth c H locs 0 0 (MQ below (va_Qi (fun (r' : Int32) (M2 : Mem) => r' = r ∧ M2 = M') (fun M2 t => va_P z.1 vwCl (pw (xd z b) 339 b M2) t.heap) (pA 339 b)) args s 0 0 (pA 339 b)) (F0 m 4 ls [])) {a1 : Int32} {M : Mem} {H : Heap} {locs : List Loc} {ls : Array Slot} (hf : b8_openBeside_0  rc n a1 M = some (r, M')) (hP : va_P z.1 vwCl (pw (xd z b) 339 b M) H) (hS : va_S (pA 339 b) s.heap H locs) (hl : lv_has ls 4 [(0, .ref (b + 3)), (1, .int a1)]) : W p l e rm8_openBeside s m args below meth c H locs 0 0 (MQ below (va_Qi (fun (r' : Int32) (M2 : Mem) => r' = r ∧ M2 = M') (fun M2 t => va_P z.1 vwCl (pw (xd z b) 339 b M2) t.heap) (pA 339 b)) args s 0 0 (pA 339 b)) (F0 m 0 ls []) := by
  have hx := C.1.1
  have hb := C.1.2.1
  unfold b8_openBeside_0 at hf
  refine lv_iconst (v := (0 : Int32)) hx hb dX8_openBeside_0 (by decide) ?_
  refine lv_istore_n (lv' := [(2, .int (0 : Int32)), (0, .ref (b + 3)), (1, .int a1)]) hx hb dX8_openBeside_1 rfl hl (by decide) rfl (fun ls hl => ?_)
  refine lv_iconst (v := (0 : Int32)) hx hb dX8_openBeside_2 (by decide) ?_
  refine lv_istore_n (lv' := [(3, .int (0 : Int32)), (2, .int (0 : Int32)), (0, .ref (b + 3)), (1, .int a1)]) hx hb dX8_openBeside_3 rfl hl (by decide) rfl (fun ls hl => ?_)
  exact w8_openBeside_4 (n := n)  C hr hk q4 hf hP hS (lv_sub hl [2, 3, 1, 0] rfl)
set_option maxHeartbeats 4000000 in
set_option maxRecDepth 100000 in
theorem l8_openBeside {p : Program} {l : Launch} {e : Env} {s : State} {m : MethodId} {args : Array Value} {below : List Frame} {meth : Method} {c : Code} {z : Zt} {b : Nat}  (C : Cx p s m args c cX8_openBeside 4 RX8 z 339 b) (hr : meth.sig.returnType = (some .int)) (hk : meth.locks = false) {r : Int32} {M' : Mem} (n : Nat) : (∀ (i1 : Int32) (i2 : Int32) (i3 : Int32) (M : Mem) (H : Heap) (locs : List Loc) (ls : Array Slot), (r8_openBeside  n) 4 [i1, i2, i3] [] M = some (r, M') → va_P z.1 vwCl (pw (xd z b) 339 b M) H → va_S (pA 339 b) s.heap H locs → lv_has ls 4 [(0, .ref (b + 3)), (1, .int i1), (2, .int i2), (3, .int i3)] → W p l e rm8_openBeside s m args below meth c H locs 0 0 (MQ below (va_Qi (fun (r' : Int32) (M2 : Mem) => r' = r ∧ M2 = M') (fun M2 t => va_P z.1 vwCl (pw (xd z b) 339 b M2) t.heap) (pA 339 b)) args s 0 0 (pA 339 b)) (F0 m 4 ls [])) := by
  induction n with
  | zero => exact fun _ _ _ _ _ _ _ hf => (by cases hf)
  | succ n ih => exact fun _ _ _ _ _ _ _ hf hP hS hl => w8_openBeside_4 (n := n)  C hr hk ih ((e8_openBeside_4  n _ _ _ _).symm.trans hf) hP hS hl
theorem c8_openBeside {l : Launch} {z : Zt} {b n : Nat}  {a1 : Int32} {M M' : Mem} {r : Int32} (hf : f8_openBeside n  a1 M = some (r, M')) : CI l z (xd z b) 339 b yX8_openBeside cX8_openBeside 4 (some .int) rm8_openBeside [.ref (b + 3), .int a1] M M' r :=
  CI.ofW (lv := [(0, .ref (b + 3)), (1, .int a1)]) (by decide) (Nat.le_of_ble_eq_true rfl) rfl (fun p e s m args below meth c ls C hr hk hP hS hl => w8_openBeside_0 (n := n)  C hr hk (l8_openBeside  C hr hk n) hf hP hS hl)

-- BronzeKing$Survey.openPlacesWith(I)I
theorem dX6_openPlacesWith_0 : decode cX6_openPlacesWith 0 = .ok (.iconst 0, 1) := by decide +kernel
theorem dX6_openPlacesWith_1 : decode cX6_openPlacesWith 1 = .ok (.istore_n 2, 1) := by decide +kernel
theorem dX6_openPlacesWith_2 : decode cX6_openPlacesWith 2 = .ok (.iconst 0, 1) := by decide +kernel
theorem dX6_openPlacesWith_3 : decode cX6_openPlacesWith 3 = .ok (.istore_n 3, 1) := by decide +kernel
theorem dX6_openPlacesWith_4 : decode cX6_openPlacesWith 4 = .ok (.iload_n 3, 1) := by decide +kernel
theorem dX6_openPlacesWith_5 : decode cX6_openPlacesWith 5 = .ok (.bipush 96, 2) := by decide +kernel
theorem dX6_openPlacesWith_7 : decode cX6_openPlacesWith 7 = .ok (.if_icmp .ge 35, 3) := by decide +kernel
theorem dX6_openPlacesWith_10 : decode cX6_openPlacesWith 10 = .ok (.aload_n 0, 1) := by decide +kernel
theorem dX6_openPlacesWith_11 : decode cX6_openPlacesWith 11 = .ok (.getfield 54, 3) := by decide +kernel
theorem dX6_openPlacesWith_14 : decode cX6_openPlacesWith 14 = .ok (.iload_n 3, 1) := by decide +kernel
theorem dX6_openPlacesWith_15 : decode cX6_openPlacesWith 15 = .ok (.invokevirtual 110, 3) := by decide +kernel
theorem dX6_openPlacesWith_18 : decode cX6_openPlacesWith 18 = .ok (.ifCond .eq 18, 3) := by decide +kernel
theorem dX6_openPlacesWith_21 : decode cX6_openPlacesWith 21 = .ok (.aload_n 0, 1) := by decide +kernel
theorem dX6_openPlacesWith_22 : decode cX6_openPlacesWith 22 = .ok (.getfield 54, 3) := by decide +kernel
theorem dX6_openPlacesWith_25 : decode cX6_openPlacesWith 25 = .ok (.iload_n 3, 1) := by decide +kernel
theorem dX6_openPlacesWith_26 : decode cX6_openPlacesWith 26 = .ok (.invokevirtual 140, 3) := by decide +kernel
theorem dX6_openPlacesWith_29 : decode cX6_openPlacesWith 29 = .ok (.iload_n 1, 1) := by decide +kernel
theorem dX6_openPlacesWith_30 : decode cX6_openPlacesWith 30 = .ok (.if_icmp .ne 6, 3) := by decide +kernel
theorem dX6_openPlacesWith_33 : decode cX6_openPlacesWith 33 = .ok (.iinc 2 1, 3) := by decide +kernel
theorem dX6_openPlacesWith_36 : decode cX6_openPlacesWith 36 = .ok (.iinc 3 1, 3) := by decide +kernel
theorem dX6_openPlacesWith_39 : decode cX6_openPlacesWith 39 = .ok (.goto (-35), 3) := by decide +kernel
theorem dX6_openPlacesWith_42 : decode cX6_openPlacesWith 42 = .ok (.iload_n 2, 1) := by decide +kernel
theorem dX6_openPlacesWith_43 : decode cX6_openPlacesWith 43 = .ok (.ireturn, 1) := by decide +kernel
def b6_openPlacesWith_36 (rc : Nat → List Int32 → List Int64 → Mem → Option (Int32 × Mem)) (n : Nat) (i1 : Int32) (i2 : Int32) (i3 : Int32) (M : Mem) : Option (Int32 × Mem) :=
  lt (i3 + (1 : Int32)) fun v11 =>
  rc 4 [i1, i2, v11] [] M
def b6_openPlacesWith_4 (rc : Nat → List Int32 → List Int64 → Mem → Option (Int32 × Mem)) (n : Nat) (i1 : Int32) (i2 : Int32) (i3 : Int32) (M : Mem) : Option (Int32 × Mem) :=
  (if (96 : Int32) ≤ i3 then (
   some (i2, M))
  else (
   bnd (f8_isOpen n i3 M) fun r2 M3 =>
   (if r2 = 0 then (
    b6_openPlacesWith_36  rc n i1 i2 i3 M3)
   else (
    bnd (f8_openBeside n i3 M3) fun r6 M7 =>
    (if r6 = i1 then (
     lt (i2 + (1 : Int32)) fun v10 =>
     b6_openPlacesWith_36  rc n i1 v10 i3 M7)
    else (
     b6_openPlacesWith_36  rc n i1 i2 i3 M7))))))
def b6_openPlacesWith_0 (rc : Nat → List Int32 → List Int64 → Mem → Option (Int32 × Mem)) (n : Nat) (a1 : Int32) (M : Mem) : Option (Int32 × Mem) :=
  b6_openPlacesWith_4  rc n a1 (0 : Int32) (0 : Int32) M
def r6_openPlacesWith : Nat → Nat → List Int32 → List Int64 → Mem → Option (Int32 × Mem)
  | 0 => fun _ _ _ _ => none
  | n + 1 => fun pc li lj M =>
    if pc = 4 then (match li, lj with | [i1, i2, i3], [] => b6_openPlacesWith_4  (r6_openPlacesWith  n) n i1 i2 i3 M | _, _ => none) else
    none
theorem e6_openPlacesWith_4  (n : Nat) (i1 : Int32) (i2 : Int32) (i3 : Int32) (M : Mem) : r6_openPlacesWith  (n + 1) 4 [i1, i2, i3] [] M = b6_openPlacesWith_4  (r6_openPlacesWith  n) n i1 i2 i3 M := by
  rw [r6_openPlacesWith]
  simp
def f6_openPlacesWith (n : Nat) (a1 : Int32) (M : Mem) : Option (Int32 × Mem) := b6_openPlacesWith_0 (r6_openPlacesWith n) n a1 M
abbrev rm6_openPlacesWith : Room := { frames := 3, cells := 0, slots := 0, locals := 65 }
theorem y6_openPlacesWith_w : yV RX6 yX6_openPlacesWith cX6_openPlacesWith 4 (some .int) 1 := ⟨g_1073, gp 34 rfl rfl, g_10, g_1074, rfl, by decide, by decide, by decide +kernel⟩
set_option maxHeartbeats 4000000 in
set_option maxRecDepth 100000 in
theorem w6_openPlacesWith_36 {p : Program} {l : Launch} {e : Env} {s : State} {m : MethodId} {args : Array Value} {below : List Frame} {meth : Method} {c : Code} {z : Zt} {b : Nat}  (C : Cx p s m args c cX6_openPlacesWith 4 RX6 z 339 b) (hr : meth.sig.returnType = (some .int)) (hk : meth.locks = false) {r : Int32} {M' : Mem} {rc : Nat → List Int32 → List Int64 → Mem → Option (Int32 × Mem)} {n : Nat} (q4 : ∀ (i1 : Int32) (i2 : Int32) (i3 : Int32) (M : Mem) (H : Heap) (locs : List Loc) (ls : Array Slot), rc 4 [i1, i2, i3] [] M = some (r, M') → va_P z.1 vwCl (pw (xd z b) 339 b M) H → va_S (pA 339 b) s.heap H locs → lv_has ls 4 [(0, .ref (b + 27)), (1, .int i1), (2, .int i2), (3, .int i3)] → W p l e rm6_openPlacesWith s m args below meth c H locs 0 0 (MQ below (va_Qi (fun (r' : Int32) (M2 : Mem) => r' = r ∧ M2 = M') (fun M2 t => va_P z.1 vwCl (pw (xd z b) 339 b M2) t.heap) (pA 339 b)) args s 0 0 (pA 339 b)) (F0 m 4 ls [])) {i1 : Int32} {i2 : Int32} {i3 : Int32} {M : Mem} {H : Heap} {locs : List Loc} {ls : Array Slot} (hf : b6_openPlacesWith_36  rc n i1 i2 i3 M = some (r, M')) (hP : va_P z.1 vwCl (pw (xd z b) 339 b M) H) (hS : va_S (pA 339 b) s.heap H locs) (hl : lv_has ls 4 [(0, .ref (b + 27)), (1, .int i1), (2, .int i2), (3, .int i3)]) : W p l e rm6_openPlacesWith s m args below meth c H locs 0 0 (MQ below (va_Qi (fun (r' : Int32) (M2 : Mem) => r' = r ∧ M2 = M') (fun M2 t => va_P z.1 vwCl (pw (xd z b) 339 b M2) t.heap) (pA 339 b)) args s 0 0 (pA 339 b)) (F0 m 36 ls []) := by
  have hx := C.1.1
  have hb := C.1.2.1
  unfold b6_openPlacesWith_36 at hf
  obtain ⟨v11, ev11⟩ : ∃ v : Int32, v = i3 + (1 : Int32) := ⟨_, rfl⟩
  replace hf := lt_c ev11 hf
  refine lv_iinc (v := v11) (lv' := [(3, .int v11), (0, .ref (b + 27)), (1, .int i1), (2, .int i2)]) hx hb dX6_openPlacesWith_36 hl (k := 3) rfl (by rw [ev11]; rfl) (by decide) rfl (fun ls hl => ?_)
  refine lv_goto (tgt := 4) hx hb dX6_openPlacesWith_39 (by decide) ?_
  exact q4 i1 i2 v11 M _ _ _ hf hP hS (lv_sub hl [1, 2, 3, 0] rfl)
set_option maxHeartbeats 4000000 in
set_option maxRecDepth 100000 in
theorem w6_openPlacesWith_4 {p : Program} {l : Launch} {e : Env} {s : State} {m : MethodId} {args : Array Value} {below : List Frame} {meth : Method} {c : Code} {z : Zt} {b : Nat}  (C : Cx p s m args c cX6_openPlacesWith 4 RX6 z 339 b) (hr : meth.sig.returnType = (some .int)) (hk : meth.locks = false) {r : Int32} {M' : Mem} {rc : Nat → List Int32 → List Int64 → Mem → Option (Int32 × Mem)} {n : Nat} (q4 : ∀ (i1 : Int32) (i2 : Int32) (i3 : Int32) (M : Mem) (H : Heap) (locs : List Loc) (ls : Array Slot), rc 4 [i1, i2, i3] [] M = some (r, M') → va_P z.1 vwCl (pw (xd z b) 339 b M) H → va_S (pA 339 b) s.heap H locs → lv_has ls 4 [(0, .ref (b + 27)), (1, .int i1), (2, .int i2), (3, .int i3)] → W p l e rm6_openPlacesWith s m args below meth c H locs 0 0 (MQ below (va_Qi (fun (r' : Int32) (M2 : Mem) => r' = r ∧ M2 = M') (fun M2 t => va_P z.1 vwCl (pw (xd z b) 339 b M2) t.heap) (pA 339 b)) args s 0 0 (pA 339 b)) (F0 m 4 ls [])) {i1 : Int32} {i2 : Int32} {i3 : Int32} {M : Mem} {H : Heap} {locs : List Loc} {ls : Array Slot} (hf : b6_openPlacesWith_4  rc n i1 i2 i3 M = some (r, M')) (hP : va_P z.1 vwCl (pw (xd z b) 339 b M) H) (hS : va_S (pA 339 b) s.heap H locs) (hl : lv_has ls 4 [(0, .ref (b + 27)), (1, .int i1), (2, .int i2), (3, .int i3)]) : W p l e rm6_openPlacesWith s m args below meth c H locs 0 0 (MQ below (va_Qi (fun (r' : Int32) (M2 : Mem) => r' = r ∧ M2 = M') (fun M2 t => va_P z.1 vwCl (pw (xd z b) 339 b M2) t.heap) (pA 339 b)) args s 0 0 (pA 339 b)) (F0 m 4 ls []) := by
  have hx := C.1.1
  have hb := C.1.2.1
  unfold b6_openPlacesWith_4 at hf
  refine lv_iload_n hx hb dX6_openPlacesWith_4 rfl (lv_at hl 3 rfl) ?_
  refine lv_bipush (v := (96 : Int32)) hx hb dX6_openPlacesWith_5 (by decide) ?_
  refine lv_icmp_ge (tgt := 42) hx hb dX6_openPlacesWith_7 (by decide) (fun c1 => ?_) (fun c1 => ?_)
  · replace hf := ite_t c1 hf
    refine lv_iload_n hx hb dX6_openPlacesWith_42 rfl (lv_at hl 2 rfl) ?_
    exact prI C hr hk hP hS hf dX6_openPlacesWith_43
  · replace hf := ite_f c1 hf
    refine lv_aload_n hx hb dX6_openPlacesWith_10 rfl (lv_at hl 0 rfl) ?_
    refine pg C hP (k := 27) (j := 0) (Nat.le_of_ble_eq_true rfl) (xd_27 _ _) rfl iw_6 (Nat.le_of_ble_eq_true rfl) g_253 rfl rfl dX6_openPlacesWith_11 ?_
    refine lv_iload_n hx hb dX6_openPlacesWith_14 rfl (lv_at hl 3 rfl) ?_
    obtain ⟨r2, M3, h4, hf⟩ := bnd_s hf
    refine pcVi (As := [.int i3]) C hP hS (k := 3) (Nat.le_of_ble_eq_true rfl) (xd_3 _ _) rfl (c8_isOpen  h4) y8_isOpen_w g_1033 rfl rfl rfl ⟨Nat.le_of_ble_eq_true rfl, Nat.le_of_ble_eq_true rfl⟩ hl.1 rfl (Nat.le_of_ble_eq_true rfl) dX6_openPlacesWith_15 ⟨Nat.le_of_ble_eq_true rfl, Nat.le_of_ble_eq_true rfl⟩ (fun H locs hP hS => ?_)
    refine lv_if_eq (tgt := 36) hx hb dX6_openPlacesWith_18 (by decide) (fun c5 => ?_) (fun c5 => ?_)
    · replace hf := ite_t c5 hf
      exact w6_openPlacesWith_36 (n := n)  C hr hk q4 hf hP hS (lv_sub hl [0, 1, 2, 3] rfl)
    · replace hf := ite_f c5 hf
      refine lv_aload_n hx hb dX6_openPlacesWith_21 rfl (lv_at hl 0 rfl) ?_
      refine pg C hP (k := 27) (j := 0) (Nat.le_of_ble_eq_true rfl) (xd_27 _ _) rfl iw_6 (Nat.le_of_ble_eq_true rfl) g_253 rfl rfl dX6_openPlacesWith_22 ?_
      refine lv_iload_n hx hb dX6_openPlacesWith_25 rfl (lv_at hl 3 rfl) ?_
      obtain ⟨r6, M7, h8, hf⟩ := bnd_s hf
      refine pcVi (As := [.int i3]) C hP hS (k := 3) (Nat.le_of_ble_eq_true rfl) (xd_3 _ _) rfl (c8_openBeside  h8) y8_openBeside_w g_1075 rfl rfl rfl ⟨Nat.le_of_ble_eq_true rfl, Nat.le_of_ble_eq_true rfl⟩ hl.1 rfl (Nat.le_of_ble_eq_true rfl) dX6_openPlacesWith_26 ⟨Nat.le_of_ble_eq_true rfl, Nat.le_of_ble_eq_true rfl⟩ (fun H locs hP hS => ?_)
      refine lv_iload_n hx hb dX6_openPlacesWith_29 rfl (lv_at hl 1 rfl) ?_
      refine lv_icmp_ne (tgt := 36) hx hb dX6_openPlacesWith_30 (by decide) (fun c9 => ?_) (fun c9 => ?_)
      · replace hf := ite_f c9 hf
        exact w6_openPlacesWith_36 (n := n)  C hr hk q4 hf hP hS (lv_sub hl [0, 1, 2, 3] rfl)
      · replace hf := ite_t c9 hf
        obtain ⟨v10, ev10⟩ : ∃ v : Int32, v = i2 + (1 : Int32) := ⟨_, rfl⟩
        replace hf := lt_c ev10 hf
        refine lv_iinc (v := v10) (lv' := [(2, .int v10), (0, .ref (b + 27)), (1, .int i1), (3, .int i3)]) hx hb dX6_openPlacesWith_33 hl (k := 2) rfl (by rw [ev10]; rfl) (by decide) rfl (fun ls hl => ?_)
        exact w6_openPlacesWith_36 (n := n)  C hr hk q4 hf hP hS (lv_sub hl [1, 2, 0, 3] rfl)
set_option maxHeartbeats 4000000 in
set_option maxRecDepth 100000 in
theorem w6_openPlacesWith_0 {p : Program} {l : Launch} {e : Env} {s : State} {m : MethodId} {args : Array Value} {below : List Frame} {meth : Method} {c : Code} {z : Zt} {b : Nat}  (C : Cx p s m args c cX6_openPlacesWith 4 RX6 z 339 b) (hr : meth.sig.returnType = (some .int)) (hk : meth.locks = false) {r : Int32} {M' : Mem} {rc : Nat → List Int32 → List Int64 → Mem → Option (Int32 × Mem)} {n : Nat} (q4 : ∀ (i1 : Int32) (i2 : Int32) (i3 : Int32) (M : Mem) (H : Heap) (locs : List Loc) (ls : Array Slot), rc 4 [i1, i2, i3] [] M = some (r, M') → va_P z.1 vwCl (pw (xd z b) 339 b M) H → va_S (pA 339 b) s.heap H locs → lv_has ls 4 [(0, .ref (b + 27)), (1, .int i1), (2, .int i2), (3, .int i3)] → W p l e rm6_openPlacesWith s m args below meth c H locs 0 0 (MQ below (va_Qi (fun (r' : Int32) (M2 : Mem) => r' = r ∧ M2 = M') (fun M2 t => va_P z.1 vwCl (pw (xd z b) 339 b M2) t.heap) (pA 339 b)) args s 0 0 (pA 339 b)) (F0 m 4 ls [])) {a1 : Int32} {M : Mem} {H : Heap} {locs : List Loc} {ls : Array Slot} (hf : b6_openPlacesWith_0  rc n a1 M = some (r, M')) (hP : va_P z.1 vwCl (pw (xd z b) 339 b M) H) (hS : va_S (pA 339 b) s.heap H locs) (hl : lv_has ls 4 [(0, .ref (b + 27)), (1, .int a1)]) : W p l e rm6_openPlacesWith s m args below meth c H locs 0 0 (MQ below (va_Qi (fun (r' : Int32) (M2 : Mem) => r' = r ∧ M2 = M') (fun M2 t => va_P z.1 vwCl (pw (xd z b) 339 b M2) t.heap) (pA 339 b)) args s 0 0 (pA 339 b)) (F0 m 0 ls []) := by
  have hx := C.1.1
  have hb := C.1.2.1
  unfold b6_openPlacesWith_0 at hf
  refine lv_iconst (v := (0 : Int32)) hx hb dX6_openPlacesWith_0 (by decide) ?_
  refine lv_istore_n (lv' := [(2, .int (0 : Int32)), (0, .ref (b + 27)), (1, .int a1)]) hx hb dX6_openPlacesWith_1 rfl hl (by decide) rfl (fun ls hl => ?_)
  refine lv_iconst (v := (0 : Int32)) hx hb dX6_openPlacesWith_2 (by decide) ?_
  refine lv_istore_n (lv' := [(3, .int (0 : Int32)), (2, .int (0 : Int32)), (0, .ref (b + 27)), (1, .int a1)]) hx hb dX6_openPlacesWith_3 rfl hl (by decide) rfl (fun ls hl => ?_)
  exact w6_openPlacesWith_4 (n := n)  C hr hk q4 hf hP hS (lv_sub hl [2, 3, 1, 0] rfl)
set_option maxHeartbeats 4000000 in
set_option maxRecDepth 100000 in
theorem l6_openPlacesWith {p : Program} {l : Launch} {e : Env} {s : State} {m : MethodId} {args : Array Value} {below : List Frame} {meth : Method} {c : Code} {z : Zt} {b : Nat}  (C : Cx p s m args c cX6_openPlacesWith 4 RX6 z 339 b) (hr : meth.sig.returnType = (some .int)) (hk : meth.locks = false) {r : Int32} {M' : Mem} (n : Nat) : (∀ (i1 : Int32) (i2 : Int32) (i3 : Int32) (M : Mem) (H : Heap) (locs : List Loc) (ls : Array Slot), (r6_openPlacesWith  n) 4 [i1, i2, i3] [] M = some (r, M') → va_P z.1 vwCl (pw (xd z b) 339 b M) H → va_S (pA 339 b) s.heap H locs → lv_has ls 4 [(0, .ref (b + 27)), (1, .int i1), (2, .int i2), (3, .int i3)] → W p l e rm6_openPlacesWith s m args below meth c H locs 0 0 (MQ below (va_Qi (fun (r' : Int32) (M2 : Mem) => r' = r ∧ M2 = M') (fun M2 t => va_P z.1 vwCl (pw (xd z b) 339 b M2) t.heap) (pA 339 b)) args s 0 0 (pA 339 b)) (F0 m 4 ls [])) := by
  induction n with
  | zero => exact fun _ _ _ _ _ _ _ hf => (by cases hf)
  | succ n ih => exact fun _ _ _ _ _ _ _ hf hP hS hl => w6_openPlacesWith_4 (n := n)  C hr hk ih ((e6_openPlacesWith_4  n _ _ _ _).symm.trans hf) hP hS hl
theorem c6_openPlacesWith {l : Launch} {z : Zt} {b n : Nat}  {a1 : Int32} {M M' : Mem} {r : Int32} (hf : f6_openPlacesWith n  a1 M = some (r, M')) : CI l z (xd z b) 339 b yX6_openPlacesWith cX6_openPlacesWith 4 (some .int) rm6_openPlacesWith [.ref (b + 27), .int a1] M M' r :=
  CI.ofW (lv := [(0, .ref (b + 27)), (1, .int a1)]) (by decide) (Nat.le_of_ble_eq_true rfl) rfl (fun p e s m args below meth c ls C hr hk hP hS hl => w6_openPlacesWith_0 (n := n)  C hr hk (l6_openPlacesWith  C hr hk n) hf hP hS hl)

-- BronzeKing$Survey.deadEnds()I
theorem dX6_deadEnds_0 : decode cX6_deadEnds 0 = .ok (.aload_n 0, 1) := by decide +kernel
theorem dX6_deadEnds_1 : decode cX6_deadEnds 1 = .ok (.iconst 0, 1) := by decide +kernel
theorem dX6_deadEnds_2 : decode cX6_deadEnds 2 = .ok (.invokevirtual 134, 3) := by decide +kernel
theorem dX6_deadEnds_5 : decode cX6_deadEnds 5 = .ok (.aload_n 0, 1) := by decide +kernel
theorem dX6_deadEnds_6 : decode cX6_deadEnds 6 = .ok (.iconst 1, 1) := by decide +kernel
theorem dX6_deadEnds_7 : decode cX6_deadEnds 7 = .ok (.invokevirtual 134, 3) := by decide +kernel
theorem dX6_deadEnds_10 : decode cX6_deadEnds 10 = .ok (.iadd, 1) := by decide +kernel
theorem dX6_deadEnds_11 : decode cX6_deadEnds 11 = .ok (.ireturn, 1) := by decide +kernel
def b6_deadEnds_0 (rc : Nat → List Int32 → List Int64 → Mem → Option (Int32 × Mem)) (n : Nat) (M : Mem) : Option (Int32 × Mem) :=
  bnd (f6_openPlacesWith n (0 : Int32) M) fun r1 M2 =>
  bnd (f6_openPlacesWith n (1 : Int32) M2) fun r4 M5 =>
  some ((r1 + r4), M5)
def f6_deadEnds (n : Nat)  (M : Mem) : Option (Int32 × Mem) := b6_deadEnds_0 (fun _ _ _ _ => none) n M
abbrev rm6_deadEnds : Room := { frames := 4, cells := 0, slots := 0, locals := 88 }
theorem y6_deadEnds_w : yV RX6 yX6_deadEnds cX6_deadEnds 1 (some .int) 0 := ⟨g_1068, g_1069, g_10, g_1070, rfl, by decide, by decide, by decide +kernel⟩
set_option maxHeartbeats 4000000 in
set_option maxRecDepth 100000 in
theorem w6_deadEnds_0 {p : Program} {l : Launch} {e : Env} {s : State} {m : MethodId} {args : Array Value} {below : List Frame} {meth : Method} {c : Code} {z : Zt} {b : Nat}  (C : Cx p s m args c cX6_deadEnds 1 RX6 z 339 b) (hr : meth.sig.returnType = (some .int)) (hk : meth.locks = false) {r : Int32} {M' : Mem} {rc : Nat → List Int32 → List Int64 → Mem → Option (Int32 × Mem)} {n : Nat}   {M : Mem} {H : Heap} {locs : List Loc} {ls : Array Slot} (hf : b6_deadEnds_0  rc n  M = some (r, M')) (hP : va_P z.1 vwCl (pw (xd z b) 339 b M) H) (hS : va_S (pA 339 b) s.heap H locs) (hl : lv_has ls 1 [(0, .ref (b + 27))]) : W p l e rm6_deadEnds s m args below meth c H locs 0 0 (MQ below (va_Qi (fun (r' : Int32) (M2 : Mem) => r' = r ∧ M2 = M') (fun M2 t => va_P z.1 vwCl (pw (xd z b) 339 b M2) t.heap) (pA 339 b)) args s 0 0 (pA 339 b)) (F0 m 0 ls []) := by
  have hx := C.1.1
  have hb := C.1.2.1
  unfold b6_deadEnds_0 at hf
  refine lv_aload_n hx hb dX6_deadEnds_0 rfl (lv_at hl 0 rfl) ?_
  refine lv_iconst (v := (0 : Int32)) hx hb dX6_deadEnds_1 (by decide) ?_
  obtain ⟨r1, M2, h3, hf⟩ := bnd_s hf
  refine pcVi (As := [.int (0 : Int32)]) C hP hS (k := 27) (Nat.le_of_ble_eq_true rfl) (xd_27 _ _) rfl (c6_openPlacesWith  h3) y6_openPlacesWith_w g_1071 rfl rfl rfl ⟨Nat.le_of_ble_eq_true rfl, Nat.le_of_ble_eq_true rfl⟩ hl.1 rfl (Nat.le_of_ble_eq_true rfl) dX6_deadEnds_2 ⟨Nat.le_of_ble_eq_true rfl, Nat.le_of_ble_eq_true rfl⟩ (fun H locs hP hS => ?_)
  refine lv_aload_n hx hb dX6_deadEnds_5 rfl (lv_at hl 0 rfl) ?_
  refine lv_iconst (v := (1 : Int32)) hx hb dX6_deadEnds_6 (by decide) ?_
  obtain ⟨r4, M5, h6, hf⟩ := bnd_s hf
  refine pcVi (As := [.int (1 : Int32)]) C hP hS (k := 27) (Nat.le_of_ble_eq_true rfl) (xd_27 _ _) rfl (c6_openPlacesWith  h6) y6_openPlacesWith_w g_1071 rfl rfl rfl ⟨Nat.le_of_ble_eq_true rfl, Nat.le_of_ble_eq_true rfl⟩ hl.1 rfl (Nat.le_of_ble_eq_true rfl) dX6_deadEnds_7 ⟨Nat.le_of_ble_eq_true rfl, Nat.le_of_ble_eq_true rfl⟩ (fun H locs hP hS => ?_)
  refine lv_iadd hx hb dX6_deadEnds_10 ?_
  exact prI C hr hk hP hS hf dX6_deadEnds_11
theorem c6_deadEnds {l : Launch} {z : Zt} {b n : Nat}   {M M' : Mem} {r : Int32} (hf : f6_deadEnds n   M = some (r, M')) : CI l z (xd z b) 339 b yX6_deadEnds cX6_deadEnds 1 (some .int) rm6_deadEnds [.ref (b + 27)] M M' r :=
  CI.ofW (lv := [(0, .ref (b + 27))]) (by decide) (Nat.le_of_ble_eq_true rfl) rfl (fun p e s m args below meth c ls C hr hk hP hS hl => w6_deadEnds_0 (n := n)  C hr hk  hf hP hS hl)

-- BronzeKing$Survey.crossings()I
theorem dX6_crossings_0 : decode cX6_crossings 0 = .ok (.aload_n 0, 1) := by decide +kernel
theorem dX6_crossings_1 : decode cX6_crossings 1 = .ok (.iconst 4, 1) := by decide +kernel
theorem dX6_crossings_2 : decode cX6_crossings 2 = .ok (.invokevirtual 134, 3) := by decide +kernel
theorem dX6_crossings_5 : decode cX6_crossings 5 = .ok (.ireturn, 1) := by decide +kernel
def b6_crossings_0 (rc : Nat → List Int32 → List Int64 → Mem → Option (Int32 × Mem)) (n : Nat) (M : Mem) : Option (Int32 × Mem) :=
  bnd (f6_openPlacesWith n (4 : Int32) M) fun r1 M2 =>
  some (r1, M2)
def f6_crossings (n : Nat)  (M : Mem) : Option (Int32 × Mem) := b6_crossings_0 (fun _ _ _ _ => none) n M
abbrev rm6_crossings : Room := { frames := 4, cells := 0, slots := 0, locals := 88 }
theorem y6_crossings_w : yV RX6 yX6_crossings cX6_crossings 1 (some .int) 0 := ⟨g_1082, g_1083, g_10, g_1084, rfl, by decide, by decide, by decide +kernel⟩
set_option maxHeartbeats 4000000 in
set_option maxRecDepth 100000 in
theorem w6_crossings_0 {p : Program} {l : Launch} {e : Env} {s : State} {m : MethodId} {args : Array Value} {below : List Frame} {meth : Method} {c : Code} {z : Zt} {b : Nat}  (C : Cx p s m args c cX6_crossings 1 RX6 z 339 b) (hr : meth.sig.returnType = (some .int)) (hk : meth.locks = false) {r : Int32} {M' : Mem} {rc : Nat → List Int32 → List Int64 → Mem → Option (Int32 × Mem)} {n : Nat}   {M : Mem} {H : Heap} {locs : List Loc} {ls : Array Slot} (hf : b6_crossings_0  rc n  M = some (r, M')) (hP : va_P z.1 vwCl (pw (xd z b) 339 b M) H) (hS : va_S (pA 339 b) s.heap H locs) (hl : lv_has ls 1 [(0, .ref (b + 27))]) : W p l e rm6_crossings s m args below meth c H locs 0 0 (MQ below (va_Qi (fun (r' : Int32) (M2 : Mem) => r' = r ∧ M2 = M') (fun M2 t => va_P z.1 vwCl (pw (xd z b) 339 b M2) t.heap) (pA 339 b)) args s 0 0 (pA 339 b)) (F0 m 0 ls []) := by
  have hx := C.1.1
  have hb := C.1.2.1
  unfold b6_crossings_0 at hf
  refine lv_aload_n hx hb dX6_crossings_0 rfl (lv_at hl 0 rfl) ?_
  refine lv_iconst (v := (4 : Int32)) hx hb dX6_crossings_1 (by decide) ?_
  obtain ⟨r1, M2, h3, hf⟩ := bnd_s hf
  refine pcVi (As := [.int (4 : Int32)]) C hP hS (k := 27) (Nat.le_of_ble_eq_true rfl) (xd_27 _ _) rfl (c6_openPlacesWith  h3) y6_openPlacesWith_w g_1071 rfl rfl rfl ⟨Nat.le_of_ble_eq_true rfl, Nat.le_of_ble_eq_true rfl⟩ hl.1 rfl (Nat.le_of_ble_eq_true rfl) dX6_crossings_2 ⟨Nat.le_of_ble_eq_true rfl, Nat.le_of_ble_eq_true rfl⟩ (fun H locs hP hS => ?_)
  exact prI C hr hk hP hS hf dX6_crossings_5
theorem c6_crossings {l : Launch} {z : Zt} {b n : Nat}   {M M' : Mem} {r : Int32} (hf : f6_crossings n   M = some (r, M')) : CI l z (xd z b) 339 b yX6_crossings cX6_crossings 1 (some .int) rm6_crossings [.ref (b + 27)] M M' r :=
  CI.ofW (lv := [(0, .ref (b + 27))]) (by decide) (Nat.le_of_ble_eq_true rfl) rfl (fun p e s m args below meth c ls C hr hk hP hS hl => w6_crossings_0 (n := n)  C hr hk  hf hP hS hl)

-- BronzeKing$Survey.rings()I
theorem dX6_rings_0 : decode cX6_rings 0 = .ok (.aload_n 0, 1) := by decide +kernel
theorem dX6_rings_1 : decode cX6_rings 1 = .ok (.iconst 1, 1) := by decide +kernel
theorem dX6_rings_2 : decode cX6_rings 2 = .ok (.invokevirtual 134, 3) := by decide +kernel
theorem dX6_rings_5 : decode cX6_rings 5 = .ok (.iconst 2, 1) := by decide +kernel
theorem dX6_rings_6 : decode cX6_rings 6 = .ok (.aload_n 0, 1) := by decide +kernel
theorem dX6_rings_7 : decode cX6_rings 7 = .ok (.iconst 2, 1) := by decide +kernel
theorem dX6_rings_8 : decode cX6_rings 8 = .ok (.invokevirtual 134, 3) := by decide +kernel
theorem dX6_rings_11 : decode cX6_rings 11 = .ok (.imul, 1) := by decide +kernel
theorem dX6_rings_12 : decode cX6_rings 12 = .ok (.iadd, 1) := by decide +kernel
theorem dX6_rings_13 : decode cX6_rings 13 = .ok (.iconst 3, 1) := by decide +kernel
theorem dX6_rings_14 : decode cX6_rings 14 = .ok (.aload_n 0, 1) := by decide +kernel
theorem dX6_rings_15 : decode cX6_rings 15 = .ok (.iconst 3, 1) := by decide +kernel
theorem dX6_rings_16 : decode cX6_rings 16 = .ok (.invokevirtual 134, 3) := by decide +kernel
theorem dX6_rings_19 : decode cX6_rings 19 = .ok (.imul, 1) := by decide +kernel
theorem dX6_rings_20 : decode cX6_rings 20 = .ok (.iadd, 1) := by decide +kernel
theorem dX6_rings_21 : decode cX6_rings 21 = .ok (.iconst 4, 1) := by decide +kernel
theorem dX6_rings_22 : decode cX6_rings 22 = .ok (.aload_n 0, 1) := by decide +kernel
theorem dX6_rings_23 : decode cX6_rings 23 = .ok (.iconst 4, 1) := by decide +kernel
theorem dX6_rings_24 : decode cX6_rings 24 = .ok (.invokevirtual 134, 3) := by decide +kernel
theorem dX6_rings_27 : decode cX6_rings 27 = .ok (.imul, 1) := by decide +kernel
theorem dX6_rings_28 : decode cX6_rings 28 = .ok (.iadd, 1) := by decide +kernel
theorem dX6_rings_29 : decode cX6_rings 29 = .ok (.istore_n 1, 1) := by decide +kernel
theorem dX6_rings_30 : decode cX6_rings 30 = .ok (.iload_n 1, 1) := by decide +kernel
theorem dX6_rings_31 : decode cX6_rings 31 = .ok (.iconst 2, 1) := by decide +kernel
theorem dX6_rings_32 : decode cX6_rings 32 = .ok (.idiv, 1) := by decide +kernel
theorem dX6_rings_33 : decode cX6_rings 33 = .ok (.aload_n 0, 1) := by decide +kernel
theorem dX6_rings_34 : decode cX6_rings 34 = .ok (.getfield 54, 3) := by decide +kernel
theorem dX6_rings_37 : decode cX6_rings 37 = .ok (.getfield 100, 3) := by decide +kernel
theorem dX6_rings_40 : decode cX6_rings 40 = .ok (.invokevirtual 114, 3) := by decide +kernel
theorem dX6_rings_43 : decode cX6_rings 43 = .ok (.isub, 1) := by decide +kernel
theorem dX6_rings_44 : decode cX6_rings 44 = .ok (.aload_n 0, 1) := by decide +kernel
theorem dX6_rings_45 : decode cX6_rings 45 = .ok (.invokevirtual 137, 3) := by decide +kernel
theorem dX6_rings_48 : decode cX6_rings 48 = .ok (.iadd, 1) := by decide +kernel
theorem dX6_rings_49 : decode cX6_rings 49 = .ok (.ireturn, 1) := by decide +kernel
def b6_rings_0 (rc : Nat → List Int32 → List Int64 → Mem → Option (Int32 × Mem)) (n : Nat) (M : Mem) : Option (Int32 × Mem) :=
  bnd (f6_openPlacesWith n (1 : Int32) M) fun r1 M2 =>
  bnd (f6_openPlacesWith n (2 : Int32) M2) fun r4 M5 =>
  bnd (f6_openPlacesWith n (3 : Int32) M5) fun r7 M8 =>
  bnd (f6_openPlacesWith n (4 : Int32) M8) fun r10 M11 =>
  lt (((r1 + ((2 : Int32) * r4)) + ((3 : Int32) * r7)) + ((4 : Int32) * r10)) fun v13 =>
  bnd (f4_size n 10 M11) fun r14 M15 =>
  bnd (f6_islands n M15) fun r17 M18 =>
  some ((((v13 / (2 : Int32)) - r14) + r17), M18)
def f6_rings (n : Nat)  (M : Mem) : Option (Int32 × Mem) := b6_rings_0 (fun _ _ _ _ => none) n M
abbrev rm6_rings : Room := { frames := 4, cells := 0, slots := 0, locals := 94 }
theorem y6_rings_w : yV RX6 yX6_rings cX6_rings 2 (some .int) 0 := ⟨g_1077, g_1078, g_10, g_1079, rfl, by decide, by decide, by decide +kernel⟩
set_option maxHeartbeats 4000000 in
set_option maxRecDepth 100000 in
theorem w6_rings_0 {p : Program} {l : Launch} {e : Env} {s : State} {m : MethodId} {args : Array Value} {below : List Frame} {meth : Method} {c : Code} {z : Zt} {b : Nat}  (C : Cx p s m args c cX6_rings 2 RX6 z 339 b) (hr : meth.sig.returnType = (some .int)) (hk : meth.locks = false) {r : Int32} {M' : Mem} {rc : Nat → List Int32 → List Int64 → Mem → Option (Int32 × Mem)} {n : Nat}   {M : Mem} {H : Heap} {locs : List Loc} {ls : Array Slot} (hf : b6_rings_0  rc n  M = some (r, M')) (hP : va_P z.1 vwCl (pw (xd z b) 339 b M) H) (hS : va_S (pA 339 b) s.heap H locs) (hl : lv_has ls 2 [(0, .ref (b + 27))]) : W p l e rm6_rings s m args below meth c H locs 0 0 (MQ below (va_Qi (fun (r' : Int32) (M2 : Mem) => r' = r ∧ M2 = M') (fun M2 t => va_P z.1 vwCl (pw (xd z b) 339 b M2) t.heap) (pA 339 b)) args s 0 0 (pA 339 b)) (F0 m 0 ls []) := by
  have hx := C.1.1
  have hb := C.1.2.1
  unfold b6_rings_0 at hf
  refine lv_aload_n hx hb dX6_rings_0 rfl (lv_at hl 0 rfl) ?_
  refine lv_iconst (v := (1 : Int32)) hx hb dX6_rings_1 (by decide) ?_
  obtain ⟨r1, M2, h3, hf⟩ := bnd_s hf
  refine pcVi (As := [.int (1 : Int32)]) C hP hS (k := 27) (Nat.le_of_ble_eq_true rfl) (xd_27 _ _) rfl (c6_openPlacesWith  h3) y6_openPlacesWith_w g_1071 rfl rfl rfl ⟨Nat.le_of_ble_eq_true rfl, Nat.le_of_ble_eq_true rfl⟩ hl.1 rfl (Nat.le_of_ble_eq_true rfl) dX6_rings_2 ⟨Nat.le_of_ble_eq_true rfl, Nat.le_of_ble_eq_true rfl⟩ (fun H locs hP hS => ?_)
  refine lv_iconst (v := (2 : Int32)) hx hb dX6_rings_5 (by decide) ?_
  refine lv_aload_n hx hb dX6_rings_6 rfl (lv_at hl 0 rfl) ?_
  refine lv_iconst (v := (2 : Int32)) hx hb dX6_rings_7 (by decide) ?_
  obtain ⟨r4, M5, h6, hf⟩ := bnd_s hf
  refine pcVi (As := [.int (2 : Int32)]) C hP hS (k := 27) (Nat.le_of_ble_eq_true rfl) (xd_27 _ _) rfl (c6_openPlacesWith  h6) y6_openPlacesWith_w g_1071 rfl rfl rfl ⟨Nat.le_of_ble_eq_true rfl, Nat.le_of_ble_eq_true rfl⟩ hl.1 rfl (Nat.le_of_ble_eq_true rfl) dX6_rings_8 ⟨Nat.le_of_ble_eq_true rfl, Nat.le_of_ble_eq_true rfl⟩ (fun H locs hP hS => ?_)
  refine lv_imul hx hb dX6_rings_11 ?_
  refine lv_iadd hx hb dX6_rings_12 ?_
  refine lv_iconst (v := (3 : Int32)) hx hb dX6_rings_13 (by decide) ?_
  refine lv_aload_n hx hb dX6_rings_14 rfl (lv_at hl 0 rfl) ?_
  refine lv_iconst (v := (3 : Int32)) hx hb dX6_rings_15 (by decide) ?_
  obtain ⟨r7, M8, h9, hf⟩ := bnd_s hf
  refine pcVi (As := [.int (3 : Int32)]) C hP hS (k := 27) (Nat.le_of_ble_eq_true rfl) (xd_27 _ _) rfl (c6_openPlacesWith  h9) y6_openPlacesWith_w g_1071 rfl rfl rfl ⟨Nat.le_of_ble_eq_true rfl, Nat.le_of_ble_eq_true rfl⟩ hl.1 rfl (Nat.le_of_ble_eq_true rfl) dX6_rings_16 ⟨Nat.le_of_ble_eq_true rfl, Nat.le_of_ble_eq_true rfl⟩ (fun H locs hP hS => ?_)
  refine lv_imul hx hb dX6_rings_19 ?_
  refine lv_iadd hx hb dX6_rings_20 ?_
  refine lv_iconst (v := (4 : Int32)) hx hb dX6_rings_21 (by decide) ?_
  refine lv_aload_n hx hb dX6_rings_22 rfl (lv_at hl 0 rfl) ?_
  refine lv_iconst (v := (4 : Int32)) hx hb dX6_rings_23 (by decide) ?_
  obtain ⟨r10, M11, h12, hf⟩ := bnd_s hf
  refine pcVi (As := [.int (4 : Int32)]) C hP hS (k := 27) (Nat.le_of_ble_eq_true rfl) (xd_27 _ _) rfl (c6_openPlacesWith  h12) y6_openPlacesWith_w g_1071 rfl rfl rfl ⟨Nat.le_of_ble_eq_true rfl, Nat.le_of_ble_eq_true rfl⟩ hl.1 rfl (Nat.le_of_ble_eq_true rfl) dX6_rings_24 ⟨Nat.le_of_ble_eq_true rfl, Nat.le_of_ble_eq_true rfl⟩ (fun H locs hP hS => ?_)
  refine lv_imul hx hb dX6_rings_27 ?_
  refine lv_iadd hx hb dX6_rings_28 ?_
  refine lv_topi (fun v13 ev13 => ?_)
  replace hf := lt_c ev13 hf
  refine lv_istore_n (lv' := [(1, .int v13), (0, .ref (b + 27))]) hx hb dX6_rings_29 rfl hl (by decide) rfl (fun ls hl => ?_)
  refine lv_iload_n hx hb dX6_rings_30 rfl (lv_at hl 0 rfl) ?_
  refine lv_iconst (v := (2 : Int32)) hx hb dX6_rings_31 (by decide) ?_
  refine lv_idiv hx hb dX6_rings_32 (by decide) ?_
  refine lv_aload_n hx hb dX6_rings_33 rfl (lv_at hl 1 rfl) ?_
  refine pg C hP (k := 27) (j := 0) (Nat.le_of_ble_eq_true rfl) (xd_27 _ _) rfl iw_6 (Nat.le_of_ble_eq_true rfl) g_253 rfl rfl dX6_rings_34 ?_
  refine pgN C hP (k := 3) (j := 6) (Nat.le_of_ble_eq_true rfl) (xd_3 _ _) rfl iw_8 (Nat.le_of_ble_eq_true rfl) g_86 rfl rfl dX6_rings_37 ?_
  obtain ⟨r14, M15, h16, hf⟩ := bnd_s hf
  refine pcVi (As := []) C hP hS (k := 10) (ps_lt ps_10) ((ps_d ps_10) _ _) rfl (c4_size ps_10 h16) y4_size_w g_1034 rfl rfl rfl ⟨Nat.le_of_ble_eq_true rfl, Nat.le_of_ble_eq_true rfl⟩ hl.1 rfl (Nat.le_of_ble_eq_true rfl) dX6_rings_40 ⟨Nat.le_of_ble_eq_true rfl, Nat.le_of_ble_eq_true rfl⟩ (fun H locs hP hS => ?_)
  refine lv_isub hx hb dX6_rings_43 ?_
  refine lv_aload_n hx hb dX6_rings_44 rfl (lv_at hl 1 rfl) ?_
  obtain ⟨r17, M18, h19, hf⟩ := bnd_s hf
  refine pcVi (As := []) C hP hS (k := 27) (Nat.le_of_ble_eq_true rfl) (xd_27 _ _) rfl (c6_islands  h19) y6_islands_w g_1080 rfl rfl rfl ⟨Nat.le_of_ble_eq_true rfl, Nat.le_of_ble_eq_true rfl⟩ hl.1 rfl (Nat.le_of_ble_eq_true rfl) dX6_rings_45 ⟨Nat.le_of_ble_eq_true rfl, Nat.le_of_ble_eq_true rfl⟩ (fun H locs hP hS => ?_)
  refine lv_iadd hx hb dX6_rings_48 ?_
  exact prI C hr hk hP hS hf dX6_rings_49
theorem c6_rings {l : Launch} {z : Zt} {b n : Nat}   {M M' : Mem} {r : Int32} (hf : f6_rings n   M = some (r, M')) : CI l z (xd z b) 339 b yX6_rings cX6_rings 2 (some .int) rm6_rings [.ref (b + 27)] M M' r :=
  CI.ofW (lv := [(0, .ref (b + 27))]) (by decide) (Nat.le_of_ble_eq_true rfl) rfl (fun p e s m args below meth c ls C hr hk hP hS hl => w6_rings_0 (n := n)  C hr hk  hf hP hS hl)

-- BronzeKing$Survey.comeToWithout(I)I
theorem dX6_comeToWithout_0 : decode cX6_comeToWithout 0 = .ok (.aload_n 0, 1) := by decide +kernel
theorem dX6_comeToWithout_1 : decode cX6_comeToWithout 1 = .ok (.getfield 35, 3) := by decide +kernel
theorem dX6_comeToWithout_4 : decode cX6_comeToWithout 4 = .ok (.aload_n 0, 1) := by decide +kernel
theorem dX6_comeToWithout_5 : decode cX6_comeToWithout 5 = .ok (.getfield 54, 3) := by decide +kernel
theorem dX6_comeToWithout_8 : decode cX6_comeToWithout 8 = .ok (.getfield 100, 3) := by decide +kernel
theorem dX6_comeToWithout_11 : decode cX6_comeToWithout 11 = .ok (.invokevirtual 122, 3) := by decide +kernel
theorem dX6_comeToWithout_14 : decode cX6_comeToWithout 14 = .ok (.iload_n 1, 1) := by decide +kernel
theorem dX6_comeToWithout_15 : decode cX6_comeToWithout 15 = .ok (.ifCond .lt 11, 3) := by decide +kernel
theorem dX6_comeToWithout_18 : decode cX6_comeToWithout 18 = .ok (.aload_n 0, 1) := by decide +kernel
theorem dX6_comeToWithout_19 : decode cX6_comeToWithout 19 = .ok (.getfield 35, 3) := by decide +kernel
theorem dX6_comeToWithout_22 : decode cX6_comeToWithout 22 = .ok (.iload_n 1, 1) := by decide +kernel
theorem dX6_comeToWithout_23 : decode cX6_comeToWithout 23 = .ok (.invokevirtual 149, 3) := by decide +kernel
theorem dX6_comeToWithout_26 : decode cX6_comeToWithout 26 = .ok (.aload_n 0, 1) := by decide +kernel
theorem dX6_comeToWithout_27 : decode cX6_comeToWithout 27 = .ok (.getfield 31, 3) := by decide +kernel
theorem dX6_comeToWithout_30 : decode cX6_comeToWithout 30 = .ok (.invokevirtual 93, 3) := by decide +kernel
theorem dX6_comeToWithout_33 : decode cX6_comeToWithout 33 = .ok (.aload_n 0, 1) := by decide +kernel
theorem dX6_comeToWithout_34 : decode cX6_comeToWithout 34 = .ok (.getfield 31, 3) := by decide +kernel
theorem dX6_comeToWithout_37 : decode cX6_comeToWithout 37 = .ok (.aload_n 0, 1) := by decide +kernel
theorem dX6_comeToWithout_38 : decode cX6_comeToWithout 38 = .ok (.getfield 54, 3) := by decide +kernel
theorem dX6_comeToWithout_41 : decode cX6_comeToWithout 41 = .ok (.getfield 58, 3) := by decide +kernel
theorem dX6_comeToWithout_44 : decode cX6_comeToWithout 44 = .ok (.invokevirtual 96, 3) := by decide +kernel
theorem dX6_comeToWithout_47 : decode cX6_comeToWithout 47 = .ok (.aload_n 0, 1) := by decide +kernel
theorem dX6_comeToWithout_48 : decode cX6_comeToWithout 48 = .ok (.getfield 31, 3) := by decide +kernel
theorem dX6_comeToWithout_51 : decode cX6_comeToWithout 51 = .ok (.aload_n 0, 1) := by decide +kernel
theorem dX6_comeToWithout_52 : decode cX6_comeToWithout 52 = .ok (.getfield 35, 3) := by decide +kernel
theorem dX6_comeToWithout_55 : decode cX6_comeToWithout 55 = .ok (.invokevirtual 128, 3) := by decide +kernel
theorem dX6_comeToWithout_58 : decode cX6_comeToWithout 58 = .ok (.aload_n 0, 1) := by decide +kernel
theorem dX6_comeToWithout_59 : decode cX6_comeToWithout 59 = .ok (.getfield 31, 3) := by decide +kernel
theorem dX6_comeToWithout_62 : decode cX6_comeToWithout 62 = .ok (.invokevirtual 114, 3) := by decide +kernel
theorem dX6_comeToWithout_65 : decode cX6_comeToWithout 65 = .ok (.ireturn, 1) := by decide +kernel
def b6_comeToWithout_26 (rc : Nat → List Int32 → List Int64 → Mem → Option (Int32 × Mem)) (n : Nat) (M : Mem) : Option (Int32 × Mem) :=
  bnd (f4_clear n 33 M) fun r8 M9 =>
  bnd (f4_add n 33 (M9.1 3 7) M9) fun r11 M12 =>
  bnd (f4_flood n 33 34 M12) fun r14 M15 =>
  bnd (f4_size n 33 M15) fun r17 M18 =>
  some (r17, M18)
def b6_comeToWithout_0 (rc : Nat → List Int32 → List Int64 → Mem → Option (Int32 × Mem)) (n : Nat) (a1 : Int32) (M : Mem) : Option (Int32 × Mem) :=
  bnd (f4_take n 34 10 M) fun r1 M2 =>
  (if a1 < 0 then (
   b6_comeToWithout_26  rc n  M2)
  else (
   bnd (f4_drop n 34 a1 M2) fun r5 M6 =>
   b6_comeToWithout_26  rc n  M6))
def f6_comeToWithout (n : Nat) (a1 : Int32) (M : Mem) : Option (Int32 × Mem) := b6_comeToWithout_0 (fun _ _ _ _ => none) n a1 M
abbrev rm6_comeToWithout : Room := { frames := 3, cells := 0, slots := 0, locals := 72 }
theorem y6_comeToWithout_w : yV RX6 yX6_comeToWithout cX6_comeToWithout 2 (some .int) 1 := ⟨g_1092, gp 35 rfl rfl, g_10, g_1093, rfl, by decide, by decide, by decide +kernel⟩
set_option maxHeartbeats 4000000 in
set_option maxRecDepth 100000 in
theorem w6_comeToWithout_26 {p : Program} {l : Launch} {e : Env} {s : State} {m : MethodId} {args : Array Value} {below : List Frame} {meth : Method} {c : Code} {z : Zt} {b : Nat}  (C : Cx p s m args c cX6_comeToWithout 2 RX6 z 339 b) (hr : meth.sig.returnType = (some .int)) (hk : meth.locks = false) {r : Int32} {M' : Mem} {rc : Nat → List Int32 → List Int64 → Mem → Option (Int32 × Mem)} {n : Nat}   {M : Mem} {H : Heap} {locs : List Loc} {ls : Array Slot} (hf : b6_comeToWithout_26  rc n  M = some (r, M')) (hP : va_P z.1 vwCl (pw (xd z b) 339 b M) H) (hS : va_S (pA 339 b) s.heap H locs) (hl : lv_has ls 2 [(0, .ref (b + 27))]) : W p l e rm6_comeToWithout s m args below meth c H locs 0 0 (MQ below (va_Qi (fun (r' : Int32) (M2 : Mem) => r' = r ∧ M2 = M') (fun M2 t => va_P z.1 vwCl (pw (xd z b) 339 b M2) t.heap) (pA 339 b)) args s 0 0 (pA 339 b)) (F0 m 26 ls []) := by
  have hx := C.1.1
  have hb := C.1.2.1
  unfold b6_comeToWithout_26 at hf
  refine lv_aload_n hx hb dX6_comeToWithout_26 rfl (lv_at hl 0 rfl) ?_
  refine pg C hP (k := 27) (j := 6) (Nat.le_of_ble_eq_true rfl) (xd_27 _ _) rfl iw_6 (Nat.le_of_ble_eq_true rfl) g_260 rfl rfl dX6_comeToWithout_27 ?_
  obtain ⟨r8, M9, h10, hf⟩ := bnd_s hf
  refine pcVv (As := []) C hP hS (k := 33) (ps_lt ps_33) ((ps_d ps_33) _ _) rfl (c4_clear ps_33 h10) y4_clear_w g_1022 rfl rfl rfl ⟨Nat.le_of_ble_eq_true rfl, Nat.le_of_ble_eq_true rfl⟩ hl.1 rfl (Nat.le_of_ble_eq_true rfl) dX6_comeToWithout_30 ⟨Nat.le_of_ble_eq_true rfl, Nat.le_of_ble_eq_true rfl⟩ (fun H locs hP hS => ?_)
  refine lv_aload_n hx hb dX6_comeToWithout_33 rfl (lv_at hl 0 rfl) ?_
  refine pg C hP (k := 27) (j := 6) (Nat.le_of_ble_eq_true rfl) (xd_27 _ _) rfl iw_6 (Nat.le_of_ble_eq_true rfl) g_260 rfl rfl dX6_comeToWithout_34 ?_
  refine lv_aload_n hx hb dX6_comeToWithout_37 rfl (lv_at hl 0 rfl) ?_
  refine pg C hP (k := 27) (j := 0) (Nat.le_of_ble_eq_true rfl) (xd_27 _ _) rfl iw_6 (Nat.le_of_ble_eq_true rfl) g_253 rfl rfl dX6_comeToWithout_38 ?_
  refine pgN C hP (k := 3) (j := 7) (Nat.le_of_ble_eq_true rfl) (xd_3 _ _) rfl iw_8 (Nat.le_of_ble_eq_true rfl) g_89 rfl rfl dX6_comeToWithout_41 ?_
  obtain ⟨r11, M12, h13, hf⟩ := bnd_s hf
  refine pcVv (As := [.int (M9.1 3 7)]) C hP hS (k := 33) (ps_lt ps_33) ((ps_d ps_33) _ _) rfl (c4_add ps_33 h13) y4_add_w g_1023 rfl rfl rfl ⟨Nat.le_of_ble_eq_true rfl, Nat.le_of_ble_eq_true rfl⟩ hl.1 rfl (Nat.le_of_ble_eq_true rfl) dX6_comeToWithout_44 ⟨Nat.le_of_ble_eq_true rfl, Nat.le_of_ble_eq_true rfl⟩ (fun H locs hP hS => ?_)
  refine lv_aload_n hx hb dX6_comeToWithout_47 rfl (lv_at hl 0 rfl) ?_
  refine pg C hP (k := 27) (j := 6) (Nat.le_of_ble_eq_true rfl) (xd_27 _ _) rfl iw_6 (Nat.le_of_ble_eq_true rfl) g_260 rfl rfl dX6_comeToWithout_48 ?_
  refine lv_aload_n hx hb dX6_comeToWithout_51 rfl (lv_at hl 0 rfl) ?_
  refine pg C hP (k := 27) (j := 7) (Nat.le_of_ble_eq_true rfl) (xd_27 _ _) rfl iw_6 (Nat.le_of_ble_eq_true rfl) g_261 rfl rfl dX6_comeToWithout_52 ?_
  obtain ⟨r14, M15, h16, hf⟩ := bnd_s hf
  refine pcVv (As := [.ref (b + 34)]) C hP hS (k := 33) (ps_lt ps_33) ((ps_d ps_33) _ _) rfl (c4_flood ps_33 ps_34 h16) y4_flood_w g_1060 rfl rfl rfl ⟨Nat.le_of_ble_eq_true rfl, Nat.le_of_ble_eq_true rfl⟩ hl.1 rfl (Nat.le_of_ble_eq_true rfl) dX6_comeToWithout_55 ⟨Nat.le_of_ble_eq_true rfl, Nat.le_of_ble_eq_true rfl⟩ (fun H locs hP hS => ?_)
  refine lv_aload_n hx hb dX6_comeToWithout_58 rfl (lv_at hl 0 rfl) ?_
  refine pg C hP (k := 27) (j := 6) (Nat.le_of_ble_eq_true rfl) (xd_27 _ _) rfl iw_6 (Nat.le_of_ble_eq_true rfl) g_260 rfl rfl dX6_comeToWithout_59 ?_
  obtain ⟨r17, M18, h19, hf⟩ := bnd_s hf
  refine pcVi (As := []) C hP hS (k := 33) (ps_lt ps_33) ((ps_d ps_33) _ _) rfl (c4_size ps_33 h19) y4_size_w g_1034 rfl rfl rfl ⟨Nat.le_of_ble_eq_true rfl, Nat.le_of_ble_eq_true rfl⟩ hl.1 rfl (Nat.le_of_ble_eq_true rfl) dX6_comeToWithout_62 ⟨Nat.le_of_ble_eq_true rfl, Nat.le_of_ble_eq_true rfl⟩ (fun H locs hP hS => ?_)
  exact prI C hr hk hP hS hf dX6_comeToWithout_65
set_option maxHeartbeats 4000000 in
set_option maxRecDepth 100000 in
theorem w6_comeToWithout_0 {p : Program} {l : Launch} {e : Env} {s : State} {m : MethodId} {args : Array Value} {below : List Frame} {meth : Method} {c : Code} {z : Zt} {b : Nat}  (C : Cx p s m args c cX6_comeToWithout 2 RX6 z 339 b) (hr : meth.sig.returnType = (some .int)) (hk : meth.locks = false) {r : Int32} {M' : Mem} {rc : Nat → List Int32 → List Int64 → Mem → Option (Int32 × Mem)} {n : Nat}  {a1 : Int32} {M : Mem} {H : Heap} {locs : List Loc} {ls : Array Slot} (hf : b6_comeToWithout_0  rc n a1 M = some (r, M')) (hP : va_P z.1 vwCl (pw (xd z b) 339 b M) H) (hS : va_S (pA 339 b) s.heap H locs) (hl : lv_has ls 2 [(0, .ref (b + 27)), (1, .int a1)]) : W p l e rm6_comeToWithout s m args below meth c H locs 0 0 (MQ below (va_Qi (fun (r' : Int32) (M2 : Mem) => r' = r ∧ M2 = M') (fun M2 t => va_P z.1 vwCl (pw (xd z b) 339 b M2) t.heap) (pA 339 b)) args s 0 0 (pA 339 b)) (F0 m 0 ls []) := by
  have hx := C.1.1
  have hb := C.1.2.1
  unfold b6_comeToWithout_0 at hf
  refine lv_aload_n hx hb dX6_comeToWithout_0 rfl (lv_at hl 0 rfl) ?_
  refine pg C hP (k := 27) (j := 7) (Nat.le_of_ble_eq_true rfl) (xd_27 _ _) rfl iw_6 (Nat.le_of_ble_eq_true rfl) g_261 rfl rfl dX6_comeToWithout_1 ?_
  refine lv_aload_n hx hb dX6_comeToWithout_4 rfl (lv_at hl 0 rfl) ?_
  refine pg C hP (k := 27) (j := 0) (Nat.le_of_ble_eq_true rfl) (xd_27 _ _) rfl iw_6 (Nat.le_of_ble_eq_true rfl) g_253 rfl rfl dX6_comeToWithout_5 ?_
  refine pgN C hP (k := 3) (j := 6) (Nat.le_of_ble_eq_true rfl) (xd_3 _ _) rfl iw_8 (Nat.le_of_ble_eq_true rfl) g_86 rfl rfl dX6_comeToWithout_8 ?_
  obtain ⟨r1, M2, h3, hf⟩ := bnd_s hf
  refine pcVv (As := [.ref (b + 10)]) C hP hS (k := 34) (ps_lt ps_34) ((ps_d ps_34) _ _) rfl (c4_take ps_34 ps_10 h3) y4_take_w g_1058 rfl rfl rfl ⟨Nat.le_of_ble_eq_true rfl, Nat.le_of_ble_eq_true rfl⟩ hl.1 rfl (Nat.le_of_ble_eq_true rfl) dX6_comeToWithout_11 ⟨Nat.le_of_ble_eq_true rfl, Nat.le_of_ble_eq_true rfl⟩ (fun H locs hP hS => ?_)
  refine lv_iload_n hx hb dX6_comeToWithout_14 rfl (lv_at hl 1 rfl) ?_
  refine lv_if_lt (tgt := 26) hx hb dX6_comeToWithout_15 (by decide) (fun c4 => ?_) (fun c4 => ?_)
  · replace hf := ite_t c4 hf
    exact w6_comeToWithout_26 (n := n)  C hr hk  hf hP hS (lv_sub hl [0] rfl)
  · replace hf := ite_f c4 hf
    refine lv_aload_n hx hb dX6_comeToWithout_18 rfl (lv_at hl 0 rfl) ?_
    refine pg C hP (k := 27) (j := 7) (Nat.le_of_ble_eq_true rfl) (xd_27 _ _) rfl iw_6 (Nat.le_of_ble_eq_true rfl) g_261 rfl rfl dX6_comeToWithout_19 ?_
    refine lv_iload_n hx hb dX6_comeToWithout_22 rfl (lv_at hl 1 rfl) ?_
    obtain ⟨r5, M6, h7, hf⟩ := bnd_s hf
    refine pcVv (As := [.int a1]) C hP hS (k := 34) (ps_lt ps_34) ((ps_d ps_34) _ _) rfl (c4_drop ps_34 h7) y4_drop_w g_1094 rfl rfl rfl ⟨Nat.le_of_ble_eq_true rfl, Nat.le_of_ble_eq_true rfl⟩ hl.1 rfl (Nat.le_of_ble_eq_true rfl) dX6_comeToWithout_23 ⟨Nat.le_of_ble_eq_true rfl, Nat.le_of_ble_eq_true rfl⟩ (fun H locs hP hS => ?_)
    exact w6_comeToWithout_26 (n := n)  C hr hk  hf hP hS (lv_sub hl [0] rfl)
theorem c6_comeToWithout {l : Launch} {z : Zt} {b n : Nat}  {a1 : Int32} {M M' : Mem} {r : Int32} (hf : f6_comeToWithout n  a1 M = some (r, M')) : CI l z (xd z b) 339 b yX6_comeToWithout cX6_comeToWithout 2 (some .int) rm6_comeToWithout [.ref (b + 27), .int a1] M M' r :=
  CI.ofW (lv := [(0, .ref (b + 27)), (1, .int a1)]) (by decide) (Nat.le_of_ble_eq_true rfl) rfl (fun p e s m args below meth c ls C hr hk hP hS hl => w6_comeToWithout_0 (n := n)  C hr hk  hf hP hS hl)
