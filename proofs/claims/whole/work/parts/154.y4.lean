-- BronzeKingModel.notes(I)I
theorem dX12_notes_0 : decode cX12_notes 0 = .ok (.iload_n 1, 1) := by decide +kernel
theorem dX12_notes_1 : decode cX12_notes 1 = .ok (.iconst 1, 1) := by decide +kernel
theorem dX12_notes_2 : decode cX12_notes 2 = .ok (.bipush 90, 2) := by decide +kernel
theorem dX12_notes_4 : decode cX12_notes 4 = .ok (.invokestatic 106, 3) := by decide +kernel
theorem dX12_notes_7 : decode cX12_notes 7 = .ok (.ifCond .eq 11, 3) := by decide +kernel
theorem dX12_notes_10 : decode cX12_notes 10 = .ok (.iload_n 1, 1) := by decide +kernel
theorem dX12_notes_11 : decode cX12_notes 11 = .ok (.aload_n 0, 1) := by decide +kernel
theorem dX12_notes_12 : decode cX12_notes 12 = .ok (.getfield 137, 3) := by decide +kernel
theorem dX12_notes_15 : decode cX12_notes 15 = .ok (.if_icmp .le 5, 3) := by decide +kernel
theorem dX12_notes_18 : decode cX12_notes 18 = .ok (.iconst (-1), 1) := by decide +kernel
theorem dX12_notes_19 : decode cX12_notes 19 = .ok (.ireturn, 1) := by decide +kernel
theorem dX12_notes_20 : decode cX12_notes 20 = .ok (.aload_n 0, 1) := by decide +kernel
theorem dX12_notes_21 : decode cX12_notes 21 = .ok (.iload_n 1, 1) := by decide +kernel
theorem dX12_notes_22 : decode cX12_notes 22 = .ok (.invokevirtual 227, 3) := by decide +kernel
theorem dX12_notes_25 : decode cX12_notes 25 = .ok (.aload_n 0, 1) := by decide +kernel
theorem dX12_notes_26 : decode cX12_notes 26 = .ok (.iconst 0, 1) := by decide +kernel
theorem dX12_notes_27 : decode cX12_notes 27 = .ok (.putfield 258, 3) := by decide +kernel
theorem dX12_notes_30 : decode cX12_notes 30 = .ok (.aload_n 0, 1) := by decide +kernel
theorem dX12_notes_31 : decode cX12_notes 31 = .ok (.getfield 264, 3) := by decide +kernel
theorem dX12_notes_34 : decode cX12_notes 34 = .ok (.istore_n 2, 1) := by decide +kernel
theorem dX12_notes_35 : decode cX12_notes 35 = .ok (.aload_n 0, 1) := by decide +kernel
theorem dX12_notes_36 : decode cX12_notes 36 = .ok (.invokevirtual 267, 3) := by decide +kernel
theorem dX12_notes_39 : decode cX12_notes 39 = .ok (.istore_n 3, 1) := by decide +kernel
theorem dX12_notes_40 : decode cX12_notes 40 = .ok (.iload_n 3, 1) := by decide +kernel
theorem dX12_notes_41 : decode cX12_notes 41 = .ok (.ifCond .eq 39, 3) := by decide +kernel
theorem dX12_notes_44 : decode cX12_notes 44 = .ok (.aload_n 0, 1) := by decide +kernel
theorem dX12_notes_45 : decode cX12_notes 45 = .ok (.getfield 143, 3) := by decide +kernel
theorem dX12_notes_48 : decode cX12_notes 48 = .ok (.aload_n 0, 1) := by decide +kernel
theorem dX12_notes_49 : decode cX12_notes 49 = .ok (.getfield 146, 3) := by decide +kernel
theorem dX12_notes_52 : decode cX12_notes 52 = .ok (.if_icmp .ge 28, 3) := by decide +kernel
theorem dX12_notes_55 : decode cX12_notes 55 = .ok (.aload_n 0, 1) := by decide +kernel
theorem dX12_notes_56 : decode cX12_notes 56 = .ok (.bipush 59, 2) := by decide +kernel
theorem dX12_notes_58 : decode cX12_notes 58 = .ok (.invokevirtual 233, 3) := by decide +kernel
theorem dX12_notes_61 : decode cX12_notes 61 = .ok (.ifCond .eq 14, 3) := by decide +kernel
theorem dX12_notes_64 : decode cX12_notes 64 = .ok (.aload_n 0, 1) := by decide +kernel
theorem dX12_notes_65 : decode cX12_notes 65 = .ok (.invokevirtual 267, 3) := by decide +kernel
theorem dX12_notes_68 : decode cX12_notes 68 = .ok (.ifCond .eq 7, 3) := by decide +kernel
theorem dX12_notes_71 : decode cX12_notes 71 = .ok (.iconst 1, 1) := by decide +kernel
theorem dX12_notes_72 : decode cX12_notes 72 = .ok (.goto 4, 3) := by decide +kernel
theorem dX12_notes_75 : decode cX12_notes 75 = .ok (.iconst 0, 1) := by decide +kernel
theorem dX12_notes_76 : decode cX12_notes 76 = .ok (.istore_n 3, 1) := by decide +kernel
theorem dX12_notes_77 : decode cX12_notes 77 = .ok (.goto (-37), 3) := by decide +kernel
theorem dX12_notes_80 : decode cX12_notes 80 = .ok (.aload_n 0, 1) := by decide +kernel
theorem dX12_notes_81 : decode cX12_notes 81 = .ok (.iconst 0, 1) := by decide +kernel
theorem dX12_notes_82 : decode cX12_notes 82 = .ok (.putfield 137, 3) := by decide +kernel
theorem dX12_notes_85 : decode cX12_notes 85 = .ok (.iload_n 3, 1) := by decide +kernel
theorem dX12_notes_86 : decode cX12_notes 86 = .ok (.ifCond .eq 8, 3) := by decide +kernel
theorem dX12_notes_89 : decode cX12_notes 89 = .ok (.aload_n 0, 1) := by decide +kernel
theorem dX12_notes_90 : decode cX12_notes 90 = .ok (.getfield 258, 3) := by decide +kernel
theorem dX12_notes_93 : decode cX12_notes 93 = .ok (.ireturn, 1) := by decide +kernel
theorem dX12_notes_94 : decode cX12_notes 94 = .ok (.aload_n 0, 1) := by decide +kernel
theorem dX12_notes_95 : decode cX12_notes 95 = .ok (.iload_n 2, 1) := by decide +kernel
theorem dX12_notes_96 : decode cX12_notes 96 = .ok (.putfield 264, 3) := by decide +kernel
theorem dX12_notes_99 : decode cX12_notes 99 = .ok (.aload_n 0, 1) := by decide +kernel
theorem dX12_notes_100 : decode cX12_notes 100 = .ok (.getfield 153, 3) := by decide +kernel
theorem dX12_notes_103 : decode cX12_notes 103 = .ok (.ireturn, 1) := by decide +kernel
def b12_notes_18 (rc : Nat → List Int32 → List Int64 → Mem → Option (Int32 × Mem)) (n : Nat) (M : Mem) : Option (Int32 × Mem) :=
  some ((-1 : Int32), M)
def b12_notes_80 (rc : Nat → List Int32 → List Int64 → Mem → Option (Int32 × Mem)) (n : Nat) (i2 : Int32) (i3 : Int32) (M : Mem) : Option (Int32 × Mem) :=
  lt (wI M 0 11 (0 : Int32)) fun M24 =>
  (if i3 = 0 then (
   lt (wI M24 0 6 i2) fun M26 =>
   some ((M26.1 0 14), M26))
  else (
   some ((M24.1 0 36), M24)))
def b12_notes_76 (rc : Nat → List Int32 → List Int64 → Mem → Option (Int32 × Mem)) (n : Nat) (i2 : Int32) (s0 : Int32) (M : Mem) : Option (Int32 × Mem) :=
  rc 40 [i2, s0] [] M
def b12_notes_75 (rc : Nat → List Int32 → List Int64 → Mem → Option (Int32 × Mem)) (n : Nat) (i2 : Int32) (M : Mem) : Option (Int32 × Mem) :=
  b12_notes_76  rc n i2 (0 : Int32) M
def b12_notes_40 (rc : Nat → List Int32 → List Int64 → Mem → Option (Int32 × Mem)) (n : Nat) (i2 : Int32) (i3 : Int32) (M : Mem) : Option (Int32 × Mem) :=
  (if i3 = 0 then (
   b12_notes_80  rc n i2 i3 M)
  else (
   (if (M.1 0 13) ≤ (M.1 0 12) then (
    b12_notes_80  rc n i2 i3 M)
   else (
    bnd (f12_takes n (59 : Int32) M) fun r16 M17 =>
    (if r16 = 0 then (
     b12_notes_75  rc n i2 M17)
    else (
     bnd (f12_readsNote n M17) fun r20 M21 =>
     (if r20 = 0 then (
      b12_notes_75  rc n i2 M21)
     else (
      b12_notes_76  rc n i2 (1 : Int32) M21))))))))
def b12_notes_0 (rc : Nat → List Int32 → List Int64 → Mem → Option (Int32 × Mem)) (n : Nat) (a1 : Int32) (M : Mem) : Option (Int32 × Mem) :=
  bnd (f12_in n a1 (1 : Int32) (90 : Int32) M) fun r1 M2 =>
  (if r1 = 0 then (
   b12_notes_18  rc n  M2)
  else (
   (if a1 ≤ (M2.1 0 11) then (
    bnd (f12_beginsText n a1 M2) fun r6 M7 =>
    lt (wI M7 0 36 (0 : Int32)) fun M9 =>
    lt (M9.1 0 6) fun v10 =>
    bnd (f12_readsNote n M9) fun r11 M12 =>
    b12_notes_40  rc n v10 r11 M12)
   else (
    b12_notes_18  rc n  M2))))
def r12_notes : Nat → Nat → List Int32 → List Int64 → Mem → Option (Int32 × Mem)
  | 0 => fun _ _ _ _ => none
  | n + 1 => fun pc li lj M =>
    if pc = 40 then (match li, lj with | [i2, i3], [] => b12_notes_40  (r12_notes  n) n i2 i3 M | _, _ => none) else
    none
theorem e12_notes_40  (n : Nat) (i2 : Int32) (i3 : Int32) (M : Mem) : r12_notes  (n + 1) 40 [i2, i3] [] M = b12_notes_40  (r12_notes  n) n i2 i3 M := by
  rw [r12_notes]
  simp
def f12_notes (n : Nat) (a1 : Int32) (M : Mem) : Option (Int32 × Mem) := b12_notes_0 (r12_notes n) n a1 M
abbrev rm12_notes : Room := { frames := 4, cells := 0, slots := 0, locals := 86 }
theorem y12_notes_w : yV RX12 yX12_notes cX12_notes 4 (some .int) 1 := ⟨g_1424, g_1425, g_14, g_1426, rfl, by decide, by decide, by decide +kernel⟩
set_option maxHeartbeats 4000000 in
set_option maxRecDepth 100000 in
theorem w12_notes_18 {p : Program} {l : Launch} {e : Env} {s : State} {m : MethodId} {args : Array Value} {below : List Frame} {meth : Method} {c : Code} {z : Zt} {b : Nat}  (C : Cx p s m args c cX12_notes 4 RX12 z 32 b) (hr : meth.sig.returnType = (some .int)) (hk : meth.locks = false) {r : Int32} {M' : Mem} {rc : Nat → List Int32 → List Int64 → Mem → Option (Int32 × Mem)} {n : Nat} (q40 : ∀ (i2 : Int32) (i3 : Int32) (M : Mem) (H : Heap) (locs : List Loc) (ls : Array Slot), rc 40 [i2, i3] [] M = some (r, M') → va_P z.1 vwCl (pw (yd z b) 32 b M) H → va_S (pA 32 b) s.heap H locs → lv_has ls 4 [(0, .ref (b + 0)), (2, .int i2), (3, .int i3)] → W p l e rm12_notes s m args below meth c H locs 0 0 (MQ below (va_Qi (fun (r' : Int32) (M2 : Mem) => r' = r ∧ M2 = M') (fun M2 t => va_P z.1 vwCl (pw (yd z b) 32 b M2) t.heap) (pA 32 b)) args s 0 0 (pA 32 b)) (F0 m 40 ls []))  {M : Mem} {H : Heap} {locs : List Loc} {ls : Array Slot} (hf : b12_notes_18  rc n  M = some (r, M')) (hP : va_P z.1 vwCl (pw (yd z b) 32 b M) H) (hS : va_S (pA 32 b) s.heap H locs) (hl : lv_has ls 4 []) : W p l e rm12_notes s m args below meth c H locs 0 0 (MQ below (va_Qi (fun (r' : Int32) (M2 : Mem) => r' = r ∧ M2 = M') (fun M2 t => va_P z.1 vwCl (pw (yd z b) 32 b M2) t.heap) (pA 32 b)) args s 0 0 (pA 32 b)) (F0 m 18 ls []) := by
  have hx := C.1.1
  have hb := C.1.2.1
  unfold b12_notes_18 at hf
  refine lv_iconst (v := (-1 : Int32)) hx hb dX12_notes_18 (by decide) ?_
  exact prI C hr hk hP hS hf dX12_notes_19
set_option maxHeartbeats 4000000 in
set_option maxRecDepth 100000 in
theorem w12_notes_80 {p : Program} {l : Launch} {e : Env} {s : State} {m : MethodId} {args : Array Value} {below : List Frame} {meth : Method} {c : Code} {z : Zt} {b : Nat}  (C : Cx p s m args c cX12_notes 4 RX12 z 32 b) (hr : meth.sig.returnType = (some .int)) (hk : meth.locks = false) {r : Int32} {M' : Mem} {rc : Nat → List Int32 → List Int64 → Mem → Option (Int32 × Mem)} {n : Nat} (q40 : ∀ (i2 : Int32) (i3 : Int32) (M : Mem) (H : Heap) (locs : List Loc) (ls : Array Slot), rc 40 [i2, i3] [] M = some (r, M') → va_P z.1 vwCl (pw (yd z b) 32 b M) H → va_S (pA 32 b) s.heap H locs → lv_has ls 4 [(0, .ref (b + 0)), (2, .int i2), (3, .int i3)] → W p l e rm12_notes s m args below meth c H locs 0 0 (MQ below (va_Qi (fun (r' : Int32) (M2 : Mem) => r' = r ∧ M2 = M') (fun M2 t => va_P z.1 vwCl (pw (yd z b) 32 b M2) t.heap) (pA 32 b)) args s 0 0 (pA 32 b)) (F0 m 40 ls [])) {i2 : Int32} {i3 : Int32} {M : Mem} {H : Heap} {locs : List Loc} {ls : Array Slot} (hf : b12_notes_80  rc n i2 i3 M = some (r, M')) (hP : va_P z.1 vwCl (pw (yd z b) 32 b M) H) (hS : va_S (pA 32 b) s.heap H locs) (hl : lv_has ls 4 [(0, .ref (b + 0)), (2, .int i2), (3, .int i3)]) : W p l e rm12_notes s m args below meth c H locs 0 0 (MQ below (va_Qi (fun (r' : Int32) (M2 : Mem) => r' = r ∧ M2 = M') (fun M2 t => va_P z.1 vwCl (pw (yd z b) 32 b M2) t.heap) (pA 32 b)) args s 0 0 (pA 32 b)) (F0 m 80 ls []) := by
  have hx := C.1.1
  have hb := C.1.2.1
  unfold b12_notes_80 at hf
  refine lv_aload_n hx hb dX12_notes_80 rfl (lv_at hl 0 rfl) ?_
  refine lv_iconst (v := (0 : Int32)) hx hb dX12_notes_81 (by decide) ?_
  refine ppI C hP hS (k := 0) (j := 11) (ty := .int) (Nat.le_of_ble_eq_true rfl) (yd_0 _ _) rfl iw_12 tyX12 tyX12_ok nmX12 (Nat.le_of_ble_eq_true rfl) g_1146 rfl rfl (by decide +kernel) rfl rfl (Nat.le_of_ble_eq_true rfl) (yu_0_11 _ _ _) dX12_notes_82 (fun M24 H locs eM24 hP hS => ?_)
  replace hf := lt_c eM24 hf
  refine lv_iload_n hx hb dX12_notes_85 rfl (lv_at hl 2 rfl) ?_
  refine lv_if_eq (tgt := 94) hx hb dX12_notes_86 (by decide) (fun c25 => ?_) (fun c25 => ?_)
  · replace hf := ite_t c25 hf
    refine lv_aload_n hx hb dX12_notes_94 rfl (lv_at hl 0 rfl) ?_
    refine lv_iload_n hx hb dX12_notes_95 rfl (lv_at hl 1 rfl) ?_
    refine ppI C hP hS (k := 0) (j := 6) (ty := .int) (Nat.le_of_ble_eq_true rfl) (yd_0 _ _) rfl iw_12 tyX12 tyX12_ok nmX12 (Nat.le_of_ble_eq_true rfl) g_1141 rfl rfl (by decide +kernel) rfl rfl (Nat.le_of_ble_eq_true rfl) (yu_0_6 _ _ _) dX12_notes_96 (fun M26 H locs eM26 hP hS => ?_)
    replace hf := lt_c eM26 hf
    refine lv_aload_n hx hb dX12_notes_99 rfl (lv_at hl 0 rfl) ?_
    refine pg C hP (k := 0) (j := 14) (Nat.le_of_ble_eq_true rfl) (yd_0 _ _) rfl iw_12 (Nat.le_of_ble_eq_true rfl) g_1149 rfl rfl dX12_notes_100 ?_
    exact prI C hr hk hP hS hf dX12_notes_103
  · replace hf := ite_f c25 hf
    refine lv_aload_n hx hb dX12_notes_89 rfl (lv_at hl 0 rfl) ?_
    refine pg C hP (k := 0) (j := 36) (Nat.le_of_ble_eq_true rfl) (yd_0 _ _) rfl iw_12 (Nat.le_of_ble_eq_true rfl) g_1171 rfl rfl dX12_notes_90 ?_
    exact prI C hr hk hP hS hf dX12_notes_93
set_option maxHeartbeats 4000000 in
set_option maxRecDepth 100000 in
theorem w12_notes_76 {p : Program} {l : Launch} {e : Env} {s : State} {m : MethodId} {args : Array Value} {below : List Frame} {meth : Method} {c : Code} {z : Zt} {b : Nat}  (C : Cx p s m args c cX12_notes 4 RX12 z 32 b) (hr : meth.sig.returnType = (some .int)) (hk : meth.locks = false) {r : Int32} {M' : Mem} {rc : Nat → List Int32 → List Int64 → Mem → Option (Int32 × Mem)} {n : Nat} (q40 : ∀ (i2 : Int32) (i3 : Int32) (M : Mem) (H : Heap) (locs : List Loc) (ls : Array Slot), rc 40 [i2, i3] [] M = some (r, M') → va_P z.1 vwCl (pw (yd z b) 32 b M) H → va_S (pA 32 b) s.heap H locs → lv_has ls 4 [(0, .ref (b + 0)), (2, .int i2), (3, .int i3)] → W p l e rm12_notes s m args below meth c H locs 0 0 (MQ below (va_Qi (fun (r' : Int32) (M2 : Mem) => r' = r ∧ M2 = M') (fun M2 t => va_P z.1 vwCl (pw (yd z b) 32 b M2) t.heap) (pA 32 b)) args s 0 0 (pA 32 b)) (F0 m 40 ls [])) {i2 : Int32} {s0 : Int32} {M : Mem} {H : Heap} {locs : List Loc} {ls : Array Slot} (hf : b12_notes_76  rc n i2 s0 M = some (r, M')) (hP : va_P z.1 vwCl (pw (yd z b) 32 b M) H) (hS : va_S (pA 32 b) s.heap H locs) (hl : lv_has ls 4 [(0, .ref (b + 0)), (2, .int i2)]) : W p l e rm12_notes s m args below meth c H locs 0 0 (MQ below (va_Qi (fun (r' : Int32) (M2 : Mem) => r' = r ∧ M2 = M') (fun M2 t => va_P z.1 vwCl (pw (yd z b) 32 b M2) t.heap) (pA 32 b)) args s 0 0 (pA 32 b)) (F0 m 76 ls [.int s0]) := by
  have hx := C.1.1
  have hb := C.1.2.1
  unfold b12_notes_76 at hf
  refine lv_istore_n (lv' := [(3, .int s0), (0, .ref (b + 0)), (2, .int i2)]) hx hb dX12_notes_76 rfl hl (by decide) rfl (fun ls hl => ?_)
  refine lv_goto (tgt := 40) hx hb dX12_notes_77 (by decide) ?_
  exact q40 i2 s0 M _ _ _ hf hP hS (lv_sub hl [1, 2, 0] rfl)
set_option maxHeartbeats 4000000 in
set_option maxRecDepth 100000 in
theorem w12_notes_75 {p : Program} {l : Launch} {e : Env} {s : State} {m : MethodId} {args : Array Value} {below : List Frame} {meth : Method} {c : Code} {z : Zt} {b : Nat}  (C : Cx p s m args c cX12_notes 4 RX12 z 32 b) (hr : meth.sig.returnType = (some .int)) (hk : meth.locks = false) {r : Int32} {M' : Mem} {rc : Nat → List Int32 → List Int64 → Mem → Option (Int32 × Mem)} {n : Nat} (q40 : ∀ (i2 : Int32) (i3 : Int32) (M : Mem) (H : Heap) (locs : List Loc) (ls : Array Slot), rc 40 [i2, i3] [] M = some (r, M') → va_P z.1 vwCl (pw (yd z b) 32 b M) H → va_S (pA 32 b) s.heap H locs → lv_has ls 4 [(0, .ref (b + 0)), (2, .int i2), (3, .int i3)] → W p l e rm12_notes s m args below meth c H locs 0 0 (MQ below (va_Qi (fun (r' : Int32) (M2 : Mem) => r' = r ∧ M2 = M') (fun M2 t => va_P z.1 vwCl (pw (yd z b) 32 b M2) t.heap) (pA 32 b)) args s 0 0 (pA 32 b)) (F0 m 40 ls [])) {i2 : Int32} {M : Mem} {H : Heap} {locs : List Loc} {ls : Array Slot} (hf : b12_notes_75  rc n i2 M = some (r, M')) (hP : va_P z.1 vwCl (pw (yd z b) 32 b M) H) (hS : va_S (pA 32 b) s.heap H locs) (hl : lv_has ls 4 [(0, .ref (b + 0)), (2, .int i2)]) : W p l e rm12_notes s m args below meth c H locs 0 0 (MQ below (va_Qi (fun (r' : Int32) (M2 : Mem) => r' = r ∧ M2 = M') (fun M2 t => va_P z.1 vwCl (pw (yd z b) 32 b M2) t.heap) (pA 32 b)) args s 0 0 (pA 32 b)) (F0 m 75 ls []) := by
  have hx := C.1.1
  have hb := C.1.2.1
  unfold b12_notes_75 at hf
  refine lv_iconst (v := (0 : Int32)) hx hb dX12_notes_75 (by decide) ?_
  exact w12_notes_76 (n := n)  C hr hk q40 hf hP hS (lv_sub hl [0, 1] rfl)
set_option maxHeartbeats 4000000 in
set_option maxRecDepth 100000 in
theorem w12_notes_40 {p : Program} {l : Launch} {e : Env} {s : State} {m : MethodId} {args : Array Value} {below : List Frame} {meth : Method} {c : Code} {z : Zt} {b : Nat}  (C : Cx p s m args c cX12_notes 4 RX12 z 32 b) (hr : meth.sig.returnType = (some .int)) (hk : meth.locks = false) {r : Int32} {M' : Mem} {rc : Nat → List Int32 → List Int64 → Mem → Option (Int32 × Mem)} {n : Nat} (q40 : ∀ (i2 : Int32) (i3 : Int32) (M : Mem) (H : Heap) (locs : List Loc) (ls : Array Slot), rc 40 [i2, i3] [] M = some (r, M') → va_P z.1 vwCl (pw (yd z b) 32 b M) H → va_S (pA 32 b) s.heap H locs → lv_has ls 4 [(0, .ref (b + 0)), (2, .int i2), (3, .int i3)] → W p l e rm12_notes s m args below meth c H locs 0 0 (MQ below (va_Qi (fun (r' : Int32) (M2 : Mem) => r' = r ∧ M2 = M') (fun M2 t => va_P z.1 vwCl (pw (yd z b) 32 b M2) t.heap) (pA 32 b)) args s 0 0 (pA 32 b)) (F0 m 40 ls [])) {i2 : Int32} {i3 : Int32} {M : Mem} {H : Heap} {locs : List Loc} {ls : Array Slot} (hf : b12_notes_40  rc n i2 i3 M = some (r, M')) (hP : va_P z.1 vwCl (pw (yd z b) 32 b M) H) (hS : va_S (pA 32 b) s.heap H locs) (hl : lv_has ls 4 [(0, .ref (b + 0)), (2, .int i2), (3, .int i3)]) : W p l e rm12_notes s m args below meth c H locs 0 0 (MQ below (va_Qi (fun (r' : Int32) (M2 : Mem) => r' = r ∧ M2 = M') (fun M2 t => va_P z.1 vwCl (pw (yd z b) 32 b M2) t.heap) (pA 32 b)) args s 0 0 (pA 32 b)) (F0 m 40 ls []) := by
  have hx := C.1.1
  have hb := C.1.2.1
  unfold b12_notes_40 at hf
  refine lv_iload_n hx hb dX12_notes_40 rfl (lv_at hl 2 rfl) ?_
  refine lv_if_eq (tgt := 80) hx hb dX12_notes_41 (by decide) (fun c14 => ?_) (fun c14 => ?_)
  · replace hf := ite_t c14 hf
    exact w12_notes_80 (n := n)  C hr hk q40 hf hP hS (lv_sub hl [0, 1, 2] rfl)
  · replace hf := ite_f c14 hf
    refine lv_aload_n hx hb dX12_notes_44 rfl (lv_at hl 0 rfl) ?_
    refine pg C hP (k := 0) (j := 12) (Nat.le_of_ble_eq_true rfl) (yd_0 _ _) rfl iw_12 (Nat.le_of_ble_eq_true rfl) g_1147 rfl rfl dX12_notes_45 ?_
    refine lv_aload_n hx hb dX12_notes_48 rfl (lv_at hl 0 rfl) ?_
    refine pg C hP (k := 0) (j := 13) (Nat.le_of_ble_eq_true rfl) (yd_0 _ _) rfl iw_12 (Nat.le_of_ble_eq_true rfl) g_1148 rfl rfl dX12_notes_49 ?_
    refine lv_icmp_ge (tgt := 80) hx hb dX12_notes_52 (by decide) (fun c15 => ?_) (fun c15 => ?_)
    · replace hf := ite_t c15 hf
      exact w12_notes_80 (n := n)  C hr hk q40 hf hP hS (lv_sub hl [0, 1, 2] rfl)
    · replace hf := ite_f c15 hf
      refine lv_aload_n hx hb dX12_notes_55 rfl (lv_at hl 0 rfl) ?_
      refine lv_bipush (v := (59 : Int32)) hx hb dX12_notes_56 (by decide) ?_
      obtain ⟨r16, M17, h18, hf⟩ := bnd_s hf
      refine pcVi (As := [.int (59 : Int32)]) C hP hS (k := 0) (Nat.le_of_ble_eq_true rfl) (yd_0 _ _) rfl (c12_takes  h18) y12_takes_w g_1404 rfl rfl rfl ⟨Nat.le_of_ble_eq_true rfl, Nat.le_of_ble_eq_true rfl⟩ hl.1 rfl (Nat.le_of_ble_eq_true rfl) dX12_notes_58 ⟨Nat.le_of_ble_eq_true rfl, Nat.le_of_ble_eq_true rfl⟩ (fun H locs hP hS => ?_)
      refine lv_if_eq (tgt := 75) hx hb dX12_notes_61 (by decide) (fun c19 => ?_) (fun c19 => ?_)
      · replace hf := ite_t c19 hf
        exact w12_notes_75 (n := n)  C hr hk q40 hf hP hS (lv_sub hl [0, 1] rfl)
      · replace hf := ite_f c19 hf
        refine lv_aload_n hx hb dX12_notes_64 rfl (lv_at hl 0 rfl) ?_
        obtain ⟨r20, M21, h22, hf⟩ := bnd_s hf
        refine pcVi (As := []) C hP hS (k := 0) (Nat.le_of_ble_eq_true rfl) (yd_0 _ _) rfl (c12_readsNote  h22) y12_readsNote_w g_1427 rfl rfl rfl ⟨Nat.le_of_ble_eq_true rfl, Nat.le_of_ble_eq_true rfl⟩ hl.1 rfl (Nat.le_of_ble_eq_true rfl) dX12_notes_65 ⟨Nat.le_of_ble_eq_true rfl, Nat.le_of_ble_eq_true rfl⟩ (fun H locs hP hS => ?_)
        refine lv_if_eq (tgt := 75) hx hb dX12_notes_68 (by decide) (fun c23 => ?_) (fun c23 => ?_)
        · replace hf := ite_t c23 hf
          exact w12_notes_75 (n := n)  C hr hk q40 hf hP hS (lv_sub hl [0, 1] rfl)
        · replace hf := ite_f c23 hf
          refine lv_iconst (v := (1 : Int32)) hx hb dX12_notes_71 (by decide) ?_
          refine lv_goto (tgt := 76) hx hb dX12_notes_72 (by decide) ?_
          exact w12_notes_76 (n := n)  C hr hk q40 hf hP hS (lv_sub hl [0, 1] rfl)
set_option maxHeartbeats 4000000 in
set_option maxRecDepth 100000 in
theorem w12_notes_0 {p : Program} {l : Launch} {e : Env} {s : State} {m : MethodId} {args : Array Value} {below : List Frame} {meth : Method} {c : Code} {z : Zt} {b : Nat}  (C : Cx p s m args c cX12_notes 4 RX12 z 32 b) (hr : meth.sig.returnType = (some .int)) (hk : meth.locks = false) {r : Int32} {M' : Mem} {rc : Nat → List Int32 → List Int64 → Mem → Option (Int32 × Mem)} {n : Nat} (q40 : ∀ (i2 : Int32) (i3 : Int32) (M : Mem) (H : Heap) (locs : List Loc) (ls : Array Slot), rc 40 [i2, i3] [] M = some (r, M') → va_P z.1 vwCl (pw (yd z b) 32 b M) H → va_S (pA 32 b) s.heap H locs → lv_has ls 4 [(0, .ref (b + 0)), (2, .int i2), (3, .int i3)] → W p l e rm12_notes s m args below meth c H locs 0 0 (MQ below (va_Qi (fun (r' : Int32) (M2 : Mem) => r' = r ∧ M2 = M') (fun M2 t => va_P z.1 vwCl (pw (yd z b) 32 b M2) t.heap) (pA 32 b)) args s 0 0 (pA 32 b)) (F0 m 40 ls [])) {a1 : Int32} {M : Mem} {H : Heap} {locs : List Loc} {ls : Array Slot} (hf : b12_notes_0  rc n a1 M = some (r, M')) (hP : va_P z.1 vwCl (pw (yd z b) 32 b M) H) (hS : va_S (pA 32 b) s.heap H locs) (hl : lv_has ls 4 [(0, .ref (b + 0)), (1, .int a1)]) : W p l e rm12_notes s m args below meth c H locs 0 0 (MQ below (va_Qi (fun (r' : Int32) (M2 : Mem) => r' = r ∧ M2 = M') (fun M2 t => va_P z.1 vwCl (pw (yd z b) 32 b M2) t.heap) (pA 32 b)) args s 0 0 (pA 32 b)) (F0 m 0 ls []) := by
  have hx := C.1.1
  have hb := C.1.2.1
  unfold b12_notes_0 at hf
  refine lv_iload_n hx hb dX12_notes_0 rfl (lv_at hl 1 rfl) ?_
  refine lv_iconst (v := (1 : Int32)) hx hb dX12_notes_1 (by decide) ?_
  refine lv_bipush (v := (90 : Int32)) hx hb dX12_notes_2 (by decide) ?_
  obtain ⟨r1, M2, h3, hf⟩ := bnd_s hf
  refine pcSi (As := [.int a1, .int (1 : Int32), .int (90 : Int32)]) C hP hS (c12_in  h3) y12_in_w g_1306 rfl rfl rfl ⟨Nat.le_of_ble_eq_true rfl, Nat.le_of_ble_eq_true rfl⟩ hl.1 rfl (Nat.le_of_ble_eq_true rfl) dX12_notes_4 ⟨Nat.le_of_ble_eq_true rfl, Nat.le_of_ble_eq_true rfl⟩ (fun H locs hP hS => ?_)
  refine lv_if_eq (tgt := 18) hx hb dX12_notes_7 (by decide) (fun c4 => ?_) (fun c4 => ?_)
  · replace hf := ite_t c4 hf
    exact w12_notes_18 (n := n)  C hr hk q40 hf hP hS (lv_sub hl [] rfl)
  · replace hf := ite_f c4 hf
    refine lv_iload_n hx hb dX12_notes_10 rfl (lv_at hl 1 rfl) ?_
    refine lv_aload_n hx hb dX12_notes_11 rfl (lv_at hl 0 rfl) ?_
    refine pg C hP (k := 0) (j := 11) (Nat.le_of_ble_eq_true rfl) (yd_0 _ _) rfl iw_12 (Nat.le_of_ble_eq_true rfl) g_1146 rfl rfl dX12_notes_12 ?_
    refine lv_icmp_le (tgt := 20) hx hb dX12_notes_15 (by decide) (fun c5 => ?_) (fun c5 => ?_)
    · replace hf := ite_t c5 hf
      refine lv_aload_n hx hb dX12_notes_20 rfl (lv_at hl 0 rfl) ?_
      refine lv_iload_n hx hb dX12_notes_21 rfl (lv_at hl 1 rfl) ?_
      obtain ⟨r6, M7, h8, hf⟩ := bnd_s hf
      refine pcVv (As := [.int a1]) C hP hS (k := 0) (Nat.le_of_ble_eq_true rfl) (yd_0 _ _) rfl (c12_beginsText  h8) y12_beginsText_w g_1325 rfl rfl rfl ⟨Nat.le_of_ble_eq_true rfl, Nat.le_of_ble_eq_true rfl⟩ hl.1 rfl (Nat.le_of_ble_eq_true rfl) dX12_notes_22 ⟨Nat.le_of_ble_eq_true rfl, Nat.le_of_ble_eq_true rfl⟩ (fun H locs hP hS => ?_)
      refine lv_aload_n hx hb dX12_notes_25 rfl (lv_at hl 0 rfl) ?_
      refine lv_iconst (v := (0 : Int32)) hx hb dX12_notes_26 (by decide) ?_
      refine ppI C hP hS (k := 0) (j := 36) (ty := .int) (Nat.le_of_ble_eq_true rfl) (yd_0 _ _) rfl iw_12 tyX12 tyX12_ok nmX12 (Nat.le_of_ble_eq_true rfl) g_1171 rfl rfl (by decide +kernel) rfl rfl (Nat.le_of_ble_eq_true rfl) (yu_0_36 _ _ _) dX12_notes_27 (fun M9 H locs eM9 hP hS => ?_)
      replace hf := lt_c eM9 hf
      refine lv_aload_n hx hb dX12_notes_30 rfl (lv_at hl 0 rfl) ?_
      refine pg C hP (k := 0) (j := 6) (Nat.le_of_ble_eq_true rfl) (yd_0 _ _) rfl iw_12 (Nat.le_of_ble_eq_true rfl) g_1141 rfl rfl dX12_notes_31 ?_
      refine lv_topi (fun v10 ev10 => ?_)
      replace hf := lt_c ev10 hf
      refine lv_istore_n (lv' := [(2, .int v10), (0, .ref (b + 0)), (1, .int a1)]) hx hb dX12_notes_34 rfl hl (by decide) rfl (fun ls hl => ?_)
      refine lv_aload_n hx hb dX12_notes_35 rfl (lv_at hl 1 rfl) ?_
      obtain ⟨r11, M12, h13, hf⟩ := bnd_s hf
      refine pcVi (As := []) C hP hS (k := 0) (Nat.le_of_ble_eq_true rfl) (yd_0 _ _) rfl (c12_readsNote  h13) y12_readsNote_w g_1427 rfl rfl rfl ⟨Nat.le_of_ble_eq_true rfl, Nat.le_of_ble_eq_true rfl⟩ hl.1 rfl (Nat.le_of_ble_eq_true rfl) dX12_notes_36 ⟨Nat.le_of_ble_eq_true rfl, Nat.le_of_ble_eq_true rfl⟩ (fun H locs hP hS => ?_)
      refine lv_istore_n (lv' := [(3, .int r11), (2, .int v10), (0, .ref (b + 0)), (1, .int a1)]) hx hb dX12_notes_39 rfl hl (by decide) rfl (fun ls hl => ?_)
      exact w12_notes_40 (n := n)  C hr hk q40 hf hP hS (lv_sub hl [2, 1, 0] rfl)
    · replace hf := ite_f c5 hf
      exact w12_notes_18 (n := n)  C hr hk q40 hf hP hS (lv_sub hl [] rfl)
set_option maxHeartbeats 4000000 in
set_option maxRecDepth 100000 in
theorem l12_notes {p : Program} {l : Launch} {e : Env} {s : State} {m : MethodId} {args : Array Value} {below : List Frame} {meth : Method} {c : Code} {z : Zt} {b : Nat}  (C : Cx p s m args c cX12_notes 4 RX12 z 32 b) (hr : meth.sig.returnType = (some .int)) (hk : meth.locks = false) {r : Int32} {M' : Mem} (n : Nat) : (∀ (i2 : Int32) (i3 : Int32) (M : Mem) (H : Heap) (locs : List Loc) (ls : Array Slot), (r12_notes  n) 40 [i2, i3] [] M = some (r, M') → va_P z.1 vwCl (pw (yd z b) 32 b M) H → va_S (pA 32 b) s.heap H locs → lv_has ls 4 [(0, .ref (b + 0)), (2, .int i2), (3, .int i3)] → W p l e rm12_notes s m args below meth c H locs 0 0 (MQ below (va_Qi (fun (r' : Int32) (M2 : Mem) => r' = r ∧ M2 = M') (fun M2 t => va_P z.1 vwCl (pw (yd z b) 32 b M2) t.heap) (pA 32 b)) args s 0 0 (pA 32 b)) (F0 m 40 ls [])) := by
  induction n with
  | zero => exact fun _ _ _ _ _ _ hf => (by cases hf)
  | succ n ih => exact fun _ _ _ _ _ _ hf hP hS hl => w12_notes_40 (n := n)  C hr hk ih ((e12_notes_40  n _ _ _).symm.trans hf) hP hS hl
theorem c12_notes {l : Launch} {z : Zt} {b n : Nat}  {a1 : Int32} {M M' : Mem} {r : Int32} (hf : f12_notes n  a1 M = some (r, M')) : CI l z (yd z b) 32 b yX12_notes cX12_notes 4 (some .int) rm12_notes [.ref (b + 0), .int a1] M M' r :=
  CI.ofW (lv := [(0, .ref (b + 0)), (1, .int a1)]) (by decide) (Nat.le_of_ble_eq_true rfl) rfl (fun p e s m args below meth c ls C hr hk hP hS hl => w12_notes_0 (n := n)  C hr hk (l12_notes  C hr hk n) hf hP hS hl)

-- BronzeKingModel.weightOf(I)I
theorem dX12_weightOf_0 : decode cX12_weightOf 0 = .ok (.iconst 0, 1) := by decide +kernel
theorem dX12_weightOf_1 : decode cX12_weightOf 1 = .ok (.istore_n 2, 1) := by decide +kernel
theorem dX12_weightOf_2 : decode cX12_weightOf 2 = .ok (.iload_n 2, 1) := by decide +kernel
theorem dX12_weightOf_3 : decode cX12_weightOf 3 = .ok (.bipush 9, 2) := by decide +kernel
theorem dX12_weightOf_5 : decode cX12_weightOf 5 = .ok (.if_icmp .ge 16, 3) := by decide +kernel
theorem dX12_weightOf_8 : decode cX12_weightOf 8 = .ok (.aload_n 0, 1) := by decide +kernel
theorem dX12_weightOf_9 : decode cX12_weightOf 9 = .ok (.getfield 71, 3) := by decide +kernel
theorem dX12_weightOf_12 : decode cX12_weightOf 12 = .ok (.iload_n 2, 1) := by decide +kernel
theorem dX12_weightOf_13 : decode cX12_weightOf 13 = .ok (.iconst 0, 1) := by decide +kernel
theorem dX12_weightOf_14 : decode cX12_weightOf 14 = .ok (.iastore, 1) := by decide +kernel
theorem dX12_weightOf_15 : decode cX12_weightOf 15 = .ok (.iinc 2 1, 3) := by decide +kernel
theorem dX12_weightOf_18 : decode cX12_weightOf 18 = .ok (.goto (-16), 3) := by decide +kernel
theorem dX12_weightOf_21 : decode cX12_weightOf 21 = .ok (.aload_n 0, 1) := by decide +kernel
theorem dX12_weightOf_22 : decode cX12_weightOf 22 = .ok (.getfield 71, 3) := by decide +kernel
theorem dX12_weightOf_25 : decode cX12_weightOf 25 = .ok (.iconst 0, 1) := by decide +kernel
theorem dX12_weightOf_26 : decode cX12_weightOf 26 = .ok (.iload_n 1, 1) := by decide +kernel
theorem dX12_weightOf_27 : decode cX12_weightOf 27 = .ok (.iastore, 1) := by decide +kernel
theorem dX12_weightOf_28 : decode cX12_weightOf 28 = .ok (.aload_n 0, 1) := by decide +kernel
theorem dX12_weightOf_29 : decode cX12_weightOf 29 = .ok (.getfield 71, 3) := by decide +kernel
theorem dX12_weightOf_32 : decode cX12_weightOf 32 = .ok (.iconst 1, 1) := by decide +kernel
theorem dX12_weightOf_33 : decode cX12_weightOf 33 = .ok (.aload_n 0, 1) := by decide +kernel
theorem dX12_weightOf_34 : decode cX12_weightOf 34 = .ok (.getfield 7, 3) := by decide +kernel
theorem dX12_weightOf_37 : decode cX12_weightOf 37 = .ok (.sipush 160, 3) := by decide +kernel
theorem dX12_weightOf_40 : decode cX12_weightOf 40 = .ok (.iaload, 1) := by decide +kernel
theorem dX12_weightOf_41 : decode cX12_weightOf 41 = .ok (.bipush 7, 2) := by decide +kernel
theorem dX12_weightOf_43 : decode cX12_weightOf 43 = .ok (.irem, 1) := by decide +kernel
theorem dX12_weightOf_44 : decode cX12_weightOf 44 = .ok (.iastore, 1) := by decide +kernel
theorem dX12_weightOf_45 : decode cX12_weightOf 45 = .ok (.aload_n 0, 1) := by decide +kernel
theorem dX12_weightOf_46 : decode cX12_weightOf 46 = .ok (.bipush 99, 2) := by decide +kernel
theorem dX12_weightOf_48 : decode cX12_weightOf 48 = .ok (.bipush 99, 2) := by decide +kernel
theorem dX12_weightOf_50 : decode cX12_weightOf 50 = .ok (.invokevirtual 270, 3) := by decide +kernel
theorem dX12_weightOf_53 : decode cX12_weightOf 53 = .ok (.ireturn, 1) := by decide +kernel
def b12_weightOf_2 (rc : Nat → List Int32 → List Int64 → Mem → Option (Int32 × Mem)) (n : Nat) (i1 : Int32) (i2 : Int32) (M : Mem) : Option (Int32 × Mem) :=
  (if (9 : Int32) ≤ i2 then (
   chk (inb (0 : Int32) 9) <|
   lt (wI M 21 (0 : Int32).toNatClampNeg i1) fun M3 =>
   chk (inb (160 : Int32) 162) <|
   chk (inb (1 : Int32) 9) <|
   lt (wI M3 21 (1 : Int32).toNatClampNeg ((M3.1 1 (160 : Int32).toNatClampNeg) - (M3.1 1 (160 : Int32).toNatClampNeg) / (7 : Int32) * (7 : Int32))) fun M6 =>
   bnd (f12_byLaw n (99 : Int32) (99 : Int32) M6) fun r7 M8 =>
   some (r7, M8))
  else (
   chk (inb i2 9) <|
   lt (wI M 21 i2.toNatClampNeg (0 : Int32)) fun M11 =>
   lt (i2 + (1 : Int32)) fun v12 =>
   rc 2 [i1, v12] [] M11))
def b12_weightOf_0 (rc : Nat → List Int32 → List Int64 → Mem → Option (Int32 × Mem)) (n : Nat) (a1 : Int32) (M : Mem) : Option (Int32 × Mem) :=
  b12_weightOf_2  rc n a1 (0 : Int32) M
def r12_weightOf : Nat → Nat → List Int32 → List Int64 → Mem → Option (Int32 × Mem)
  | 0 => fun _ _ _ _ => none
  | n + 1 => fun pc li lj M =>
    if pc = 2 then (match li, lj with | [i1, i2], [] => b12_weightOf_2  (r12_weightOf  n) n i1 i2 M | _, _ => none) else
    none
theorem e12_weightOf_2  (n : Nat) (i1 : Int32) (i2 : Int32) (M : Mem) : r12_weightOf  (n + 1) 2 [i1, i2] [] M = b12_weightOf_2  (r12_weightOf  n) n i1 i2 M := by
  rw [r12_weightOf]
  simp
def f12_weightOf (n : Nat) (a1 : Int32) (M : Mem) : Option (Int32 × Mem) := b12_weightOf_0 (r12_weightOf n) n a1 M
abbrev rm12_weightOf : Room := { frames := 3, cells := 0, slots := 0, locals := 73 }
theorem y12_weightOf_w : yV RX12 yX12_weightOf cX12_weightOf 3 (some .int) 1 := ⟨g_1457, gp 64 rfl rfl, g_14, g_1458, rfl, by decide, by decide, by decide +kernel⟩
set_option maxHeartbeats 4000000 in
set_option maxRecDepth 100000 in
theorem w12_weightOf_2 {p : Program} {l : Launch} {e : Env} {s : State} {m : MethodId} {args : Array Value} {below : List Frame} {meth : Method} {c : Code} {z : Zt} {b : Nat}  (C : Cx p s m args c cX12_weightOf 3 RX12 z 32 b) (hr : meth.sig.returnType = (some .int)) (hk : meth.locks = false) {r : Int32} {M' : Mem} {rc : Nat → List Int32 → List Int64 → Mem → Option (Int32 × Mem)} {n : Nat} (q2 : ∀ (i1 : Int32) (i2 : Int32) (M : Mem) (H : Heap) (locs : List Loc) (ls : Array Slot), rc 2 [i1, i2] [] M = some (r, M') → va_P z.1 vwCl (pw (yd z b) 32 b M) H → va_S (pA 32 b) s.heap H locs → lv_has ls 3 [(0, .ref (b + 0)), (1, .int i1), (2, .int i2)] → W p l e rm12_weightOf s m args below meth c H locs 0 0 (MQ below (va_Qi (fun (r' : Int32) (M2 : Mem) => r' = r ∧ M2 = M') (fun M2 t => va_P z.1 vwCl (pw (yd z b) 32 b M2) t.heap) (pA 32 b)) args s 0 0 (pA 32 b)) (F0 m 2 ls [])) {i1 : Int32} {i2 : Int32} {M : Mem} {H : Heap} {locs : List Loc} {ls : Array Slot} (hf : b12_weightOf_2  rc n i1 i2 M = some (r, M')) (hP : va_P z.1 vwCl (pw (yd z b) 32 b M) H) (hS : va_S (pA 32 b) s.heap H locs) (hl : lv_has ls 3 [(0, .ref (b + 0)), (1, .int i1), (2, .int i2)]) : W p l e rm12_weightOf s m args below meth c H locs 0 0 (MQ below (va_Qi (fun (r' : Int32) (M2 : Mem) => r' = r ∧ M2 = M') (fun M2 t => va_P z.1 vwCl (pw (yd z b) 32 b M2) t.heap) (pA 32 b)) args s 0 0 (pA 32 b)) (F0 m 2 ls []) := by
  have hx := C.1.1
  have hb := C.1.2.1
  unfold b12_weightOf_2 at hf
  refine lv_iload_n hx hb dX12_weightOf_2 rfl (lv_at hl 2 rfl) ?_
  refine lv_bipush (v := (9 : Int32)) hx hb dX12_weightOf_3 (by decide) ?_
  refine lv_icmp_ge (tgt := 21) hx hb dX12_weightOf_5 (by decide) (fun c1 => ?_) (fun c1 => ?_)
  · replace hf := ite_t c1 hf
    refine lv_aload_n hx hb dX12_weightOf_21 rfl (lv_at hl 0 rfl) ?_
    refine pg C hP (k := 0) (j := 33) (Nat.le_of_ble_eq_true rfl) (yd_0 _ _) rfl iw_12 (Nat.le_of_ble_eq_true rfl) g_1168 rfl rfl dX12_weightOf_22 ?_
    refine lv_iconst (v := (0 : Int32)) hx hb dX12_weightOf_25 (by decide) ?_
    refine lv_iload_n hx hb dX12_weightOf_26 rfl (lv_at hl 1 rfl) ?_
    have h2 := chk_1 hf
    replace hf := chk_2 hf
    refine psI C hP hS (k := 21) (Nat.le_of_ble_eq_true rfl) (yd_21) h2 dX12_weightOf_27 (fun M3 H locs eM3 hP hS => ?_)
    replace hf := lt_c eM3 hf
    refine lv_aload_n hx hb dX12_weightOf_28 rfl (lv_at hl 0 rfl) ?_
    refine pg C hP (k := 0) (j := 33) (Nat.le_of_ble_eq_true rfl) (yd_0 _ _) rfl iw_12 (Nat.le_of_ble_eq_true rfl) g_1168 rfl rfl dX12_weightOf_29 ?_
    refine lv_iconst (v := (1 : Int32)) hx hb dX12_weightOf_32 (by decide) ?_
    refine lv_aload_n hx hb dX12_weightOf_33 rfl (lv_at hl 0 rfl) ?_
    refine pg C hP (k := 0) (j := 0) (Nat.le_of_ble_eq_true rfl) (yd_0 _ _) rfl iw_12 (Nat.le_of_ble_eq_true rfl) g_1135 rfl rfl dX12_weightOf_34 ?_
    refine lv_sipush (v := (160 : Int32)) hx hb dX12_weightOf_37 (by decide) ?_
    have h4 := chk_1 hf
    replace hf := chk_2 hf
    refine paI C hP (k := 1) (Nat.le_of_ble_eq_true rfl) (yd_1 _ _) h4 dX12_weightOf_40 ?_
    refine lv_bipush (v := (7 : Int32)) hx hb dX12_weightOf_41 (by decide) ?_
    refine lv_irem hx hb dX12_weightOf_43 (by decide) ?_
    have h5 := chk_1 hf
    replace hf := chk_2 hf
    refine psI C hP hS (k := 21) (Nat.le_of_ble_eq_true rfl) (yd_21) h5 dX12_weightOf_44 (fun M6 H locs eM6 hP hS => ?_)
    replace hf := lt_c eM6 hf
    refine lv_aload_n hx hb dX12_weightOf_45 rfl (lv_at hl 0 rfl) ?_
    refine lv_bipush (v := (99 : Int32)) hx hb dX12_weightOf_46 (by decide) ?_
    refine lv_bipush (v := (99 : Int32)) hx hb dX12_weightOf_48 (by decide) ?_
    obtain ⟨r7, M8, h9, hf⟩ := bnd_s hf
    refine pcVi (As := [.int (99 : Int32), .int (99 : Int32)]) C hP hS (k := 0) (Nat.le_of_ble_eq_true rfl) (yd_0 _ _) rfl (c12_byLaw  h9) y12_byLaw_w g_1459 rfl rfl rfl ⟨Nat.le_of_ble_eq_true rfl, Nat.le_of_ble_eq_true rfl⟩ hl.1 rfl (Nat.le_of_ble_eq_true rfl) dX12_weightOf_50 ⟨Nat.le_of_ble_eq_true rfl, Nat.le_of_ble_eq_true rfl⟩ (fun H locs hP hS => ?_)
    exact prI C hr hk hP hS hf dX12_weightOf_53
  · replace hf := ite_f c1 hf
    refine lv_aload_n hx hb dX12_weightOf_8 rfl (lv_at hl 0 rfl) ?_
    refine pg C hP (k := 0) (j := 33) (Nat.le_of_ble_eq_true rfl) (yd_0 _ _) rfl iw_12 (Nat.le_of_ble_eq_true rfl) g_1168 rfl rfl dX12_weightOf_9 ?_
    refine lv_iload_n hx hb dX12_weightOf_12 rfl (lv_at hl 2 rfl) ?_
    refine lv_iconst (v := (0 : Int32)) hx hb dX12_weightOf_13 (by decide) ?_
    have h10 := chk_1 hf
    replace hf := chk_2 hf
    refine psI C hP hS (k := 21) (Nat.le_of_ble_eq_true rfl) (yd_21) h10 dX12_weightOf_14 (fun M11 H locs eM11 hP hS => ?_)
    replace hf := lt_c eM11 hf
    obtain ⟨v12, ev12⟩ : ∃ v : Int32, v = i2 + (1 : Int32) := ⟨_, rfl⟩
    replace hf := lt_c ev12 hf
    refine lv_iinc (v := v12) (lv' := [(2, .int v12), (0, .ref (b + 0)), (1, .int i1)]) hx hb dX12_weightOf_15 hl (k := 2) rfl (by rw [ev12]; rfl) (by decide) rfl (fun ls hl => ?_)
    refine lv_goto (tgt := 2) hx hb dX12_weightOf_18 (by decide) ?_
    exact q2 i1 v12 M11 _ _ _ hf hP hS (lv_sub hl [1, 2, 0] rfl)
set_option maxHeartbeats 4000000 in
set_option maxRecDepth 100000 in
theorem w12_weightOf_0 {p : Program} {l : Launch} {e : Env} {s : State} {m : MethodId} {args : Array Value} {below : List Frame} {meth : Method} {c : Code} {z : Zt} {b : Nat}  (C : Cx p s m args c cX12_weightOf 3 RX12 z 32 b) (hr : meth.sig.returnType = (some .int)) (hk : meth.locks = false) {r : Int32} {M' : Mem} {rc : Nat → List Int32 → List Int64 → Mem → Option (Int32 × Mem)} {n : Nat} (q2 : ∀ (i1 : Int32) (i2 : Int32) (M : Mem) (H : Heap) (locs : List Loc) (ls : Array Slot), rc 2 [i1, i2] [] M = some (r, M') → va_P z.1 vwCl (pw (yd z b) 32 b M) H → va_S (pA 32 b) s.heap H locs → lv_has ls 3 [(0, .ref (b + 0)), (1, .int i1), (2, .int i2)] → W p l e rm12_weightOf s m args below meth c H locs 0 0 (MQ below (va_Qi (fun (r' : Int32) (M2 : Mem) => r' = r ∧ M2 = M') (fun M2 t => va_P z.1 vwCl (pw (yd z b) 32 b M2) t.heap) (pA 32 b)) args s 0 0 (pA 32 b)) (F0 m 2 ls [])) {a1 : Int32} {M : Mem} {H : Heap} {locs : List Loc} {ls : Array Slot} (hf : b12_weightOf_0  rc n a1 M = some (r, M')) (hP : va_P z.1 vwCl (pw (yd z b) 32 b M) H) (hS : va_S (pA 32 b) s.heap H locs) (hl : lv_has ls 3 [(0, .ref (b + 0)), (1, .int a1)]) : W p l e rm12_weightOf s m args below meth c H locs 0 0 (MQ below (va_Qi (fun (r' : Int32) (M2 : Mem) => r' = r ∧ M2 = M') (fun M2 t => va_P z.1 vwCl (pw (yd z b) 32 b M2) t.heap) (pA 32 b)) args s 0 0 (pA 32 b)) (F0 m 0 ls []) := by
  have hx := C.1.1
  have hb := C.1.2.1
  unfold b12_weightOf_0 at hf
  refine lv_iconst (v := (0 : Int32)) hx hb dX12_weightOf_0 (by decide) ?_
  refine lv_istore_n (lv' := [(2, .int (0 : Int32)), (0, .ref (b + 0)), (1, .int a1)]) hx hb dX12_weightOf_1 rfl hl (by decide) rfl (fun ls hl => ?_)
  exact w12_weightOf_2 (n := n)  C hr hk q2 hf hP hS (lv_sub hl [1, 2, 0] rfl)
set_option maxHeartbeats 4000000 in
set_option maxRecDepth 100000 in
theorem l12_weightOf {p : Program} {l : Launch} {e : Env} {s : State} {m : MethodId} {args : Array Value} {below : List Frame} {meth : Method} {c : Code} {z : Zt} {b : Nat}  (C : Cx p s m args c cX12_weightOf 3 RX12 z 32 b) (hr : meth.sig.returnType = (some .int)) (hk : meth.locks = false) {r : Int32} {M' : Mem} (n : Nat) : (∀ (i1 : Int32) (i2 : Int32) (M : Mem) (H : Heap) (locs : List Loc) (ls : Array Slot), (r12_weightOf  n) 2 [i1, i2] [] M = some (r, M') → va_P z.1 vwCl (pw (yd z b) 32 b M) H → va_S (pA 32 b) s.heap H locs → lv_has ls 3 [(0, .ref (b + 0)), (1, .int i1), (2, .int i2)] → W p l e rm12_weightOf s m args below meth c H locs 0 0 (MQ below (va_Qi (fun (r' : Int32) (M2 : Mem) => r' = r ∧ M2 = M') (fun M2 t => va_P z.1 vwCl (pw (yd z b) 32 b M2) t.heap) (pA 32 b)) args s 0 0 (pA 32 b)) (F0 m 2 ls [])) := by
  induction n with
  | zero => exact fun _ _ _ _ _ _ hf => (by cases hf)
  | succ n ih => exact fun _ _ _ _ _ _ hf hP hS hl => w12_weightOf_2 (n := n)  C hr hk ih ((e12_weightOf_2  n _ _ _).symm.trans hf) hP hS hl
theorem c12_weightOf {l : Launch} {z : Zt} {b n : Nat}  {a1 : Int32} {M M' : Mem} {r : Int32} (hf : f12_weightOf n  a1 M = some (r, M')) : CI l z (yd z b) 32 b yX12_weightOf cX12_weightOf 3 (some .int) rm12_weightOf [.ref (b + 0), .int a1] M M' r :=
  CI.ofW (lv := [(0, .ref (b + 0)), (1, .int a1)]) (by decide) (Nat.le_of_ble_eq_true rfl) rfl (fun p e s m args below meth c ls C hr hk hP hS hl => w12_weightOf_0 (n := n)  C hr hk (l12_weightOf  C hr hk n) hf hP hS hl)

-- BronzeKingModel.allWeights()I
theorem dX12_allWeights_0 : decode cX12_allWeights 0 = .ok (.iconst 0, 1) := by decide +kernel
theorem dX12_allWeights_1 : decode cX12_allWeights 1 = .ok (.istore_n 1, 1) := by decide +kernel
theorem dX12_allWeights_2 : decode cX12_allWeights 2 = .ok (.iconst 0, 1) := by decide +kernel
theorem dX12_allWeights_3 : decode cX12_allWeights 3 = .ok (.istore_n 2, 1) := by decide +kernel
theorem dX12_allWeights_4 : decode cX12_allWeights 4 = .ok (.iload_n 2, 1) := by decide +kernel
theorem dX12_allWeights_5 : decode cX12_allWeights 5 = .ok (.bipush 24, 2) := by decide +kernel
theorem dX12_allWeights_7 : decode cX12_allWeights 7 = .ok (.if_icmp .ge 17, 3) := by decide +kernel
theorem dX12_allWeights_10 : decode cX12_allWeights 10 = .ok (.iload_n 1, 1) := by decide +kernel
theorem dX12_allWeights_11 : decode cX12_allWeights 11 = .ok (.aload_n 0, 1) := by decide +kernel
theorem dX12_allWeights_12 : decode cX12_allWeights 12 = .ok (.iload_n 2, 1) := by decide +kernel
theorem dX12_allWeights_13 : decode cX12_allWeights 13 = .ok (.invokevirtual 273, 3) := by decide +kernel
theorem dX12_allWeights_16 : decode cX12_allWeights 16 = .ok (.iadd, 1) := by decide +kernel
theorem dX12_allWeights_17 : decode cX12_allWeights 17 = .ok (.istore_n 1, 1) := by decide +kernel
theorem dX12_allWeights_18 : decode cX12_allWeights 18 = .ok (.iinc 2 1, 3) := by decide +kernel
theorem dX12_allWeights_21 : decode cX12_allWeights 21 = .ok (.goto (-17), 3) := by decide +kernel
theorem dX12_allWeights_24 : decode cX12_allWeights 24 = .ok (.iload_n 1, 1) := by decide +kernel
theorem dX12_allWeights_25 : decode cX12_allWeights 25 = .ok (.ireturn, 1) := by decide +kernel
def b12_allWeights_4 (rc : Nat → List Int32 → List Int64 → Mem → Option (Int32 × Mem)) (n : Nat) (i1 : Int32) (i2 : Int32) (M : Mem) : Option (Int32 × Mem) :=
  (if (24 : Int32) ≤ i2 then (
   some (i1, M))
  else (
   bnd (f12_weightOf n i2 M) fun r2 M3 =>
   lt (i1 + r2) fun v5 =>
   lt (i2 + (1 : Int32)) fun v6 =>
   rc 4 [v5, v6] [] M3))
def b12_allWeights_0 (rc : Nat → List Int32 → List Int64 → Mem → Option (Int32 × Mem)) (n : Nat) (M : Mem) : Option (Int32 × Mem) :=
  b12_allWeights_4  rc n (0 : Int32) (0 : Int32) M
def r12_allWeights : Nat → Nat → List Int32 → List Int64 → Mem → Option (Int32 × Mem)
  | 0 => fun _ _ _ _ => none
  | n + 1 => fun pc li lj M =>
    if pc = 4 then (match li, lj with | [i1, i2], [] => b12_allWeights_4  (r12_allWeights  n) n i1 i2 M | _, _ => none) else
    none
theorem e12_allWeights_4  (n : Nat) (i1 : Int32) (i2 : Int32) (M : Mem) : r12_allWeights  (n + 1) 4 [i1, i2] [] M = b12_allWeights_4  (r12_allWeights  n) n i1 i2 M := by
  rw [r12_allWeights]
  simp
def f12_allWeights (n : Nat)  (M : Mem) : Option (Int32 × Mem) := b12_allWeights_0 (r12_allWeights n) n M
abbrev rm12_allWeights : Room := { frames := 4, cells := 0, slots := 0, locals := 95 }
theorem y12_allWeights_w : yV RX12 yX12_allWeights cX12_allWeights 3 (some .int) 0 := ⟨g_1453, gp 63 rfl rfl, g_14, g_1454, rfl, by decide, by decide, by decide +kernel⟩
set_option maxHeartbeats 4000000 in
set_option maxRecDepth 100000 in
theorem w12_allWeights_4 {p : Program} {l : Launch} {e : Env} {s : State} {m : MethodId} {args : Array Value} {below : List Frame} {meth : Method} {c : Code} {z : Zt} {b : Nat}  (C : Cx p s m args c cX12_allWeights 3 RX12 z 32 b) (hr : meth.sig.returnType = (some .int)) (hk : meth.locks = false) {r : Int32} {M' : Mem} {rc : Nat → List Int32 → List Int64 → Mem → Option (Int32 × Mem)} {n : Nat} (q4 : ∀ (i1 : Int32) (i2 : Int32) (M : Mem) (H : Heap) (locs : List Loc) (ls : Array Slot), rc 4 [i1, i2] [] M = some (r, M') → va_P z.1 vwCl (pw (yd z b) 32 b M) H → va_S (pA 32 b) s.heap H locs → lv_has ls 3 [(0, .ref (b + 0)), (1, .int i1), (2, .int i2)] → W p l e rm12_allWeights s m args below meth c H locs 0 0 (MQ below (va_Qi (fun (r' : Int32) (M2 : Mem) => r' = r ∧ M2 = M') (fun M2 t => va_P z.1 vwCl (pw (yd z b) 32 b M2) t.heap) (pA 32 b)) args s 0 0 (pA 32 b)) (F0 m 4 ls [])) {i1 : Int32} {i2 : Int32} {M : Mem} {H : Heap} {locs : List Loc} {ls : Array Slot} (hf : b12_allWeights_4  rc n i1 i2 M = some (r, M')) (hP : va_P z.1 vwCl (pw (yd z b) 32 b M) H) (hS : va_S (pA 32 b) s.heap H locs) (hl : lv_has ls 3 [(0, .ref (b + 0)), (1, .int i1), (2, .int i2)]) : W p l e rm12_allWeights s m args below meth c H locs 0 0 (MQ below (va_Qi (fun (r' : Int32) (M2 : Mem) => r' = r ∧ M2 = M') (fun M2 t => va_P z.1 vwCl (pw (yd z b) 32 b M2) t.heap) (pA 32 b)) args s 0 0 (pA 32 b)) (F0 m 4 ls []) := by
  have hx := C.1.1
  have hb := C.1.2.1
  unfold b12_allWeights_4 at hf
  refine lv_iload_n hx hb dX12_allWeights_4 rfl (lv_at hl 2 rfl) ?_
  refine lv_bipush (v := (24 : Int32)) hx hb dX12_allWeights_5 (by decide) ?_
  refine lv_icmp_ge (tgt := 24) hx hb dX12_allWeights_7 (by decide) (fun c1 => ?_) (fun c1 => ?_)
  · replace hf := ite_t c1 hf
    refine lv_iload_n hx hb dX12_allWeights_24 rfl (lv_at hl 1 rfl) ?_
    exact prI C hr hk hP hS hf dX12_allWeights_25
  · replace hf := ite_f c1 hf
    refine lv_iload_n hx hb dX12_allWeights_10 rfl (lv_at hl 1 rfl) ?_
    refine lv_aload_n hx hb dX12_allWeights_11 rfl (lv_at hl 0 rfl) ?_
    refine lv_iload_n hx hb dX12_allWeights_12 rfl (lv_at hl 2 rfl) ?_
    obtain ⟨r2, M3, h4, hf⟩ := bnd_s hf
    refine pcVi (As := [.int i2]) C hP hS (k := 0) (Nat.le_of_ble_eq_true rfl) (yd_0 _ _) rfl (c12_weightOf  h4) y12_weightOf_w g_1455 rfl rfl rfl ⟨Nat.le_of_ble_eq_true rfl, Nat.le_of_ble_eq_true rfl⟩ hl.1 rfl (Nat.le_of_ble_eq_true rfl) dX12_allWeights_13 ⟨Nat.le_of_ble_eq_true rfl, Nat.le_of_ble_eq_true rfl⟩ (fun H locs hP hS => ?_)
    refine lv_iadd hx hb dX12_allWeights_16 ?_
    refine lv_topi (fun v5 ev5 => ?_)
    replace hf := lt_c ev5 hf
    refine lv_istore_n (lv' := [(1, .int v5), (0, .ref (b + 0)), (2, .int i2)]) hx hb dX12_allWeights_17 rfl hl (by decide) rfl (fun ls hl => ?_)
    obtain ⟨v6, ev6⟩ : ∃ v : Int32, v = i2 + (1 : Int32) := ⟨_, rfl⟩
    replace hf := lt_c ev6 hf
    refine lv_iinc (v := v6) (lv' := [(2, .int v6), (1, .int v5), (0, .ref (b + 0))]) hx hb dX12_allWeights_18 hl (k := 2) rfl (by rw [ev6]; rfl) (by decide) rfl (fun ls hl => ?_)
    refine lv_goto (tgt := 4) hx hb dX12_allWeights_21 (by decide) ?_
    exact q4 v5 v6 M3 _ _ _ hf hP hS (lv_sub hl [2, 1, 0] rfl)
set_option maxHeartbeats 4000000 in
set_option maxRecDepth 100000 in
theorem w12_allWeights_0 {p : Program} {l : Launch} {e : Env} {s : State} {m : MethodId} {args : Array Value} {below : List Frame} {meth : Method} {c : Code} {z : Zt} {b : Nat}  (C : Cx p s m args c cX12_allWeights 3 RX12 z 32 b) (hr : meth.sig.returnType = (some .int)) (hk : meth.locks = false) {r : Int32} {M' : Mem} {rc : Nat → List Int32 → List Int64 → Mem → Option (Int32 × Mem)} {n : Nat} (q4 : ∀ (i1 : Int32) (i2 : Int32) (M : Mem) (H : Heap) (locs : List Loc) (ls : Array Slot), rc 4 [i1, i2] [] M = some (r, M') → va_P z.1 vwCl (pw (yd z b) 32 b M) H → va_S (pA 32 b) s.heap H locs → lv_has ls 3 [(0, .ref (b + 0)), (1, .int i1), (2, .int i2)] → W p l e rm12_allWeights s m args below meth c H locs 0 0 (MQ below (va_Qi (fun (r' : Int32) (M2 : Mem) => r' = r ∧ M2 = M') (fun M2 t => va_P z.1 vwCl (pw (yd z b) 32 b M2) t.heap) (pA 32 b)) args s 0 0 (pA 32 b)) (F0 m 4 ls []))  {M : Mem} {H : Heap} {locs : List Loc} {ls : Array Slot} (hf : b12_allWeights_0  rc n  M = some (r, M')) (hP : va_P z.1 vwCl (pw (yd z b) 32 b M) H) (hS : va_S (pA 32 b) s.heap H locs) (hl : lv_has ls 3 [(0, .ref (b + 0))]) : W p l e rm12_allWeights s m args below meth c H locs 0 0 (MQ below (va_Qi (fun (r' : Int32) (M2 : Mem) => r' = r ∧ M2 = M') (fun M2 t => va_P z.1 vwCl (pw (yd z b) 32 b M2) t.heap) (pA 32 b)) args s 0 0 (pA 32 b)) (F0 m 0 ls []) := by
  have hx := C.1.1
  have hb := C.1.2.1
  unfold b12_allWeights_0 at hf
  refine lv_iconst (v := (0 : Int32)) hx hb dX12_allWeights_0 (by decide) ?_
  refine lv_istore_n (lv' := [(1, .int (0 : Int32)), (0, .ref (b + 0))]) hx hb dX12_allWeights_1 rfl hl (by decide) rfl (fun ls hl => ?_)
  refine lv_iconst (v := (0 : Int32)) hx hb dX12_allWeights_2 (by decide) ?_
  refine lv_istore_n (lv' := [(2, .int (0 : Int32)), (1, .int (0 : Int32)), (0, .ref (b + 0))]) hx hb dX12_allWeights_3 rfl hl (by decide) rfl (fun ls hl => ?_)
  exact w12_allWeights_4 (n := n)  C hr hk q4 hf hP hS (lv_sub hl [2, 1, 0] rfl)
set_option maxHeartbeats 4000000 in
set_option maxRecDepth 100000 in
theorem l12_allWeights {p : Program} {l : Launch} {e : Env} {s : State} {m : MethodId} {args : Array Value} {below : List Frame} {meth : Method} {c : Code} {z : Zt} {b : Nat}  (C : Cx p s m args c cX12_allWeights 3 RX12 z 32 b) (hr : meth.sig.returnType = (some .int)) (hk : meth.locks = false) {r : Int32} {M' : Mem} (n : Nat) : (∀ (i1 : Int32) (i2 : Int32) (M : Mem) (H : Heap) (locs : List Loc) (ls : Array Slot), (r12_allWeights  n) 4 [i1, i2] [] M = some (r, M') → va_P z.1 vwCl (pw (yd z b) 32 b M) H → va_S (pA 32 b) s.heap H locs → lv_has ls 3 [(0, .ref (b + 0)), (1, .int i1), (2, .int i2)] → W p l e rm12_allWeights s m args below meth c H locs 0 0 (MQ below (va_Qi (fun (r' : Int32) (M2 : Mem) => r' = r ∧ M2 = M') (fun M2 t => va_P z.1 vwCl (pw (yd z b) 32 b M2) t.heap) (pA 32 b)) args s 0 0 (pA 32 b)) (F0 m 4 ls [])) := by
  induction n with
  | zero => exact fun _ _ _ _ _ _ hf => (by cases hf)
  | succ n ih => exact fun _ _ _ _ _ _ hf hP hS hl => w12_allWeights_4 (n := n)  C hr hk ih ((e12_allWeights_4  n _ _ _).symm.trans hf) hP hS hl
theorem c12_allWeights {l : Launch} {z : Zt} {b n : Nat}   {M M' : Mem} {r : Int32} (hf : f12_allWeights n   M = some (r, M')) : CI l z (yd z b) 32 b yX12_allWeights cX12_allWeights 3 (some .int) rm12_allWeights [.ref (b + 0)] M M' r :=
  CI.ofW (lv := [(0, .ref (b + 0))]) (by decide) (Nat.le_of_ble_eq_true rfl) rfl (fun p e s m args below meth c ls C hr hk hP hS hl => w12_allWeights_0 (n := n)  C hr hk (l12_allWeights  C hr hk n) hf hP hS hl)

-- BronzeKingModel.drawsHour()I
theorem dX12_drawsHour_0 : decode cX12_drawsHour 0 = .ok (.aload_n 0, 1) := by decide +kernel
theorem dX12_drawsHour_1 : decode cX12_drawsHour 1 = .ok (.invokevirtual 276, 3) := by decide +kernel
theorem dX12_drawsHour_4 : decode cX12_drawsHour 4 = .ok (.istore_n 1, 1) := by decide +kernel
theorem dX12_drawsHour_5 : decode cX12_drawsHour 5 = .ok (.iload_n 1, 1) := by decide +kernel
theorem dX12_drawsHour_6 : decode cX12_drawsHour 6 = .ok (.ifCond .ne 6, 3) := by decide +kernel
theorem dX12_drawsHour_9 : decode cX12_drawsHour 9 = .ok (.bipush (-2), 2) := by decide +kernel
theorem dX12_drawsHour_11 : decode cX12_drawsHour 11 = .ok (.ireturn, 1) := by decide +kernel
theorem dX12_drawsHour_12 : decode cX12_drawsHour 12 = .ok (.aload_n 0, 1) := by decide +kernel
theorem dX12_drawsHour_13 : decode cX12_drawsHour 13 = .ok (.getfield 7, 3) := by decide +kernel
theorem dX12_drawsHour_16 : decode cX12_drawsHour 16 = .ok (.sipush 161, 3) := by decide +kernel
theorem dX12_drawsHour_19 : decode cX12_drawsHour 19 = .ok (.sipush 25173, 3) := by decide +kernel
theorem dX12_drawsHour_22 : decode cX12_drawsHour 22 = .ok (.aload_n 0, 1) := by decide +kernel
theorem dX12_drawsHour_23 : decode cX12_drawsHour 23 = .ok (.getfield 7, 3) := by decide +kernel
theorem dX12_drawsHour_26 : decode cX12_drawsHour 26 = .ok (.sipush 161, 3) := by decide +kernel
theorem dX12_drawsHour_29 : decode cX12_drawsHour 29 = .ok (.iaload, 1) := by decide +kernel
theorem dX12_drawsHour_30 : decode cX12_drawsHour 30 = .ok (.imul, 1) := by decide +kernel
theorem dX12_drawsHour_31 : decode cX12_drawsHour 31 = .ok (.sipush 13849, 3) := by decide +kernel
theorem dX12_drawsHour_34 : decode cX12_drawsHour 34 = .ok (.iadd, 1) := by decide +kernel
theorem dX12_drawsHour_35 : decode cX12_drawsHour 35 = .ok (.ldc_w 279, 3) := by decide +kernel
theorem dX12_drawsHour_38 : decode cX12_drawsHour 38 = .ok (.irem, 1) := by decide +kernel
theorem dX12_drawsHour_39 : decode cX12_drawsHour 39 = .ok (.iastore, 1) := by decide +kernel
theorem dX12_drawsHour_40 : decode cX12_drawsHour 40 = .ok (.aload_n 0, 1) := by decide +kernel
theorem dX12_drawsHour_41 : decode cX12_drawsHour 41 = .ok (.getfield 7, 3) := by decide +kernel
theorem dX12_drawsHour_44 : decode cX12_drawsHour 44 = .ok (.sipush 161, 3) := by decide +kernel
theorem dX12_drawsHour_47 : decode cX12_drawsHour 47 = .ok (.iaload, 1) := by decide +kernel
theorem dX12_drawsHour_48 : decode cX12_drawsHour 48 = .ok (.iload_n 1, 1) := by decide +kernel
theorem dX12_drawsHour_49 : decode cX12_drawsHour 49 = .ok (.irem, 1) := by decide +kernel
theorem dX12_drawsHour_50 : decode cX12_drawsHour 50 = .ok (.istore_n 2, 1) := by decide +kernel
theorem dX12_drawsHour_51 : decode cX12_drawsHour 51 = .ok (.iconst 0, 1) := by decide +kernel
theorem dX12_drawsHour_52 : decode cX12_drawsHour 52 = .ok (.istore_n 3, 1) := by decide +kernel
theorem dX12_drawsHour_53 : decode cX12_drawsHour 53 = .ok (.iload_n 2, 1) := by decide +kernel
theorem dX12_drawsHour_54 : decode cX12_drawsHour 54 = .ok (.aload_n 0, 1) := by decide +kernel
theorem dX12_drawsHour_55 : decode cX12_drawsHour 55 = .ok (.iload_n 3, 1) := by decide +kernel
theorem dX12_drawsHour_56 : decode cX12_drawsHour 56 = .ok (.invokevirtual 273, 3) := by decide +kernel
theorem dX12_drawsHour_59 : decode cX12_drawsHour 59 = .ok (.if_icmp .lt 18, 3) := by decide +kernel
theorem dX12_drawsHour_62 : decode cX12_drawsHour 62 = .ok (.iload_n 2, 1) := by decide +kernel
theorem dX12_drawsHour_63 : decode cX12_drawsHour 63 = .ok (.aload_n 0, 1) := by decide +kernel
theorem dX12_drawsHour_64 : decode cX12_drawsHour 64 = .ok (.iload_n 3, 1) := by decide +kernel
theorem dX12_drawsHour_65 : decode cX12_drawsHour 65 = .ok (.invokevirtual 273, 3) := by decide +kernel
theorem dX12_drawsHour_68 : decode cX12_drawsHour 68 = .ok (.isub, 1) := by decide +kernel
theorem dX12_drawsHour_69 : decode cX12_drawsHour 69 = .ok (.istore_n 2, 1) := by decide +kernel
theorem dX12_drawsHour_70 : decode cX12_drawsHour 70 = .ok (.iload_n 3, 1) := by decide +kernel
theorem dX12_drawsHour_71 : decode cX12_drawsHour 71 = .ok (.iconst 1, 1) := by decide +kernel
theorem dX12_drawsHour_72 : decode cX12_drawsHour 72 = .ok (.iadd, 1) := by decide +kernel
theorem dX12_drawsHour_73 : decode cX12_drawsHour 73 = .ok (.istore_n 3, 1) := by decide +kernel
theorem dX12_drawsHour_74 : decode cX12_drawsHour 74 = .ok (.goto (-21), 3) := by decide +kernel
theorem dX12_drawsHour_77 : decode cX12_drawsHour 77 = .ok (.iload_n 3, 1) := by decide +kernel
theorem dX12_drawsHour_78 : decode cX12_drawsHour 78 = .ok (.ireturn, 1) := by decide +kernel
def b12_drawsHour_53 (rc : Nat → List Int32 → List Int64 → Mem → Option (Int32 × Mem)) (n : Nat) (i2 : Int32) (i3 : Int32) (M : Mem) : Option (Int32 × Mem) :=
  bnd (f12_weightOf n i3 M) fun r11 M12 =>
  (if i2 < r11 then (
   some (i3, M12))
  else (
   bnd (f12_weightOf n i3 M12) fun r15 M16 =>
   lt (i2 - r15) fun v18 =>
   lt (i3 + (1 : Int32)) fun v19 =>
   rc 53 [v18, v19] [] M16))
def b12_drawsHour_0 (rc : Nat → List Int32 → List Int64 → Mem → Option (Int32 × Mem)) (n : Nat) (M : Mem) : Option (Int32 × Mem) :=
  bnd (f12_allWeights n M) fun r1 M2 =>
  (if r1 = 0 then (
   some ((-2 : Int32), M2))
  else (
   chk (inb (161 : Int32) 162) <|
   chk (inb (161 : Int32) 162) <|
   lt (wI M2 1 (161 : Int32).toNatClampNeg ((((25173 : Int32) * (M2.1 1 (161 : Int32).toNatClampNeg)) + (13849 : Int32)) - (((25173 : Int32) * (M2.1 1 (161 : Int32).toNatClampNeg)) + (13849 : Int32)) / (65536 : Int32) * (65536 : Int32))) fun M7 =>
   chk (inb (161 : Int32) 162) <|
   chk (decide (¬ r1 = 0)) <|
   lt ((M7.1 1 (161 : Int32).toNatClampNeg) - (M7.1 1 (161 : Int32).toNatClampNeg) / r1 * r1) fun v10 =>
   b12_drawsHour_53  rc n v10 (0 : Int32) M7))
def r12_drawsHour : Nat → Nat → List Int32 → List Int64 → Mem → Option (Int32 × Mem)
  | 0 => fun _ _ _ _ => none
  | n + 1 => fun pc li lj M =>
    if pc = 53 then (match li, lj with | [i2, i3], [] => b12_drawsHour_53  (r12_drawsHour  n) n i2 i3 M | _, _ => none) else
    none
theorem e12_drawsHour_53  (n : Nat) (i2 : Int32) (i3 : Int32) (M : Mem) : r12_drawsHour  (n + 1) 53 [i2, i3] [] M = b12_drawsHour_53  (r12_drawsHour  n) n i2 i3 M := by
  rw [r12_drawsHour]
  simp
def f12_drawsHour (n : Nat)  (M : Mem) : Option (Int32 × Mem) := b12_drawsHour_0 (r12_drawsHour n) n M
abbrev rm12_drawsHour : Room := { frames := 5, cells := 0, slots := 0, locals := 117 }
theorem y12_drawsHour_w : yV RX12 yX12_drawsHour cX12_drawsHour 4 (some .int) 0 := ⟨g_1449, gp 62 rfl rfl, g_14, g_1450, rfl, by decide, by decide, by decide +kernel⟩
set_option maxHeartbeats 4000000 in
set_option maxRecDepth 100000 in
theorem w12_drawsHour_53 {p : Program} {l : Launch} {e : Env} {s : State} {m : MethodId} {args : Array Value} {below : List Frame} {meth : Method} {c : Code} {z : Zt} {b : Nat}  (C : Cx p s m args c cX12_drawsHour 4 RX12 z 32 b) (hr : meth.sig.returnType = (some .int)) (hk : meth.locks = false) {r : Int32} {M' : Mem} {rc : Nat → List Int32 → List Int64 → Mem → Option (Int32 × Mem)} {n : Nat} (q53 : ∀ (i2 : Int32) (i3 : Int32) (M : Mem) (H : Heap) (locs : List Loc) (ls : Array Slot), rc 53 [i2, i3] [] M = some (r, M') → va_P z.1 vwCl (pw (yd z b) 32 b M) H → va_S (pA 32 b) s.heap H locs → lv_has ls 4 [(0, .ref (b + 0)), (2, .int i2), (3, .int i3)] → W p l e rm12_drawsHour s m args below meth c H locs 0 0 (MQ below (va_Qi (fun (r' : Int32) (M2 : Mem) => r' = r ∧ M2 = M') (fun M2 t => va_P z.1 vwCl (pw (yd z b) 32 b M2) t.heap) (pA 32 b)) args s 0 0 (pA 32 b)) (F0 m 53 ls [])) {i2 : Int32} {i3 : Int32} {M : Mem} {H : Heap} {locs : List Loc} {ls : Array Slot} (hf : b12_drawsHour_53  rc n i2 i3 M = some (r, M')) (hP : va_P z.1 vwCl (pw (yd z b) 32 b M) H) (hS : va_S (pA 32 b) s.heap H locs) (hl : lv_has ls 4 [(0, .ref (b + 0)), (2, .int i2), (3, .int i3)]) : W p l e rm12_drawsHour s m args below meth c H locs 0 0 (MQ below (va_Qi (fun (r' : Int32) (M2 : Mem) => r' = r ∧ M2 = M') (fun M2 t => va_P z.1 vwCl (pw (yd z b) 32 b M2) t.heap) (pA 32 b)) args s 0 0 (pA 32 b)) (F0 m 53 ls []) := by
  have hx := C.1.1
  have hb := C.1.2.1
  unfold b12_drawsHour_53 at hf
  refine lv_iload_n hx hb dX12_drawsHour_53 rfl (lv_at hl 1 rfl) ?_
  refine lv_aload_n hx hb dX12_drawsHour_54 rfl (lv_at hl 0 rfl) ?_
  refine lv_iload_n hx hb dX12_drawsHour_55 rfl (lv_at hl 2 rfl) ?_
  obtain ⟨r11, M12, h13, hf⟩ := bnd_s hf
  refine pcVi (As := [.int i3]) C hP hS (k := 0) (Nat.le_of_ble_eq_true rfl) (yd_0 _ _) rfl (c12_weightOf  h13) y12_weightOf_w g_1455 rfl rfl rfl ⟨Nat.le_of_ble_eq_true rfl, Nat.le_of_ble_eq_true rfl⟩ hl.1 rfl (Nat.le_of_ble_eq_true rfl) dX12_drawsHour_56 ⟨Nat.le_of_ble_eq_true rfl, Nat.le_of_ble_eq_true rfl⟩ (fun H locs hP hS => ?_)
  refine lv_icmp_lt (tgt := 77) hx hb dX12_drawsHour_59 (by decide) (fun c14 => ?_) (fun c14 => ?_)
  · replace hf := ite_t c14 hf
    refine lv_iload_n hx hb dX12_drawsHour_77 rfl (lv_at hl 2 rfl) ?_
    exact prI C hr hk hP hS hf dX12_drawsHour_78
  · replace hf := ite_f c14 hf
    refine lv_iload_n hx hb dX12_drawsHour_62 rfl (lv_at hl 1 rfl) ?_
    refine lv_aload_n hx hb dX12_drawsHour_63 rfl (lv_at hl 0 rfl) ?_
    refine lv_iload_n hx hb dX12_drawsHour_64 rfl (lv_at hl 2 rfl) ?_
    obtain ⟨r15, M16, h17, hf⟩ := bnd_s hf
    refine pcVi (As := [.int i3]) C hP hS (k := 0) (Nat.le_of_ble_eq_true rfl) (yd_0 _ _) rfl (c12_weightOf  h17) y12_weightOf_w g_1455 rfl rfl rfl ⟨Nat.le_of_ble_eq_true rfl, Nat.le_of_ble_eq_true rfl⟩ hl.1 rfl (Nat.le_of_ble_eq_true rfl) dX12_drawsHour_65 ⟨Nat.le_of_ble_eq_true rfl, Nat.le_of_ble_eq_true rfl⟩ (fun H locs hP hS => ?_)
    refine lv_isub hx hb dX12_drawsHour_68 ?_
    refine lv_topi (fun v18 ev18 => ?_)
    replace hf := lt_c ev18 hf
    refine lv_istore_n (lv' := [(2, .int v18), (0, .ref (b + 0)), (3, .int i3)]) hx hb dX12_drawsHour_69 rfl hl (by decide) rfl (fun ls hl => ?_)
    refine lv_iload_n hx hb dX12_drawsHour_70 rfl (lv_at hl 2 rfl) ?_
    refine lv_iconst (v := (1 : Int32)) hx hb dX12_drawsHour_71 (by decide) ?_
    refine lv_iadd hx hb dX12_drawsHour_72 ?_
    refine lv_topi (fun v19 ev19 => ?_)
    replace hf := lt_c ev19 hf
    refine lv_istore_n (lv' := [(3, .int v19), (2, .int v18), (0, .ref (b + 0))]) hx hb dX12_drawsHour_73 rfl hl (by decide) rfl (fun ls hl => ?_)
    refine lv_goto (tgt := 53) hx hb dX12_drawsHour_74 (by decide) ?_
    exact q53 v18 v19 M16 _ _ _ hf hP hS (lv_sub hl [2, 1, 0] rfl)
set_option maxHeartbeats 4000000 in
set_option maxRecDepth 100000 in
theorem w12_drawsHour_0 {p : Program} {l : Launch} {e : Env} {s : State} {m : MethodId} {args : Array Value} {below : List Frame} {meth : Method} {c : Code} {z : Zt} {b : Nat}  (C : Cx p s m args c cX12_drawsHour 4 RX12 z 32 b) (hr : meth.sig.returnType = (some .int)) (hk : meth.locks = false) {r : Int32} {M' : Mem} {rc : Nat → List Int32 → List Int64 → Mem → Option (Int32 × Mem)} {n : Nat} (q53 : ∀ (i2 : Int32) (i3 : Int32) (M : Mem) (H : Heap) (locs : List Loc) (ls : Array Slot), rc 53 [i2, i3] [] M = some (r, M') → va_P z.1 vwCl (pw (yd z b) 32 b M) H → va_S (pA 32 b) s.heap H locs → lv_has ls 4 [(0, .ref (b + 0)), (2, .int i2), (3, .int i3)] → W p l e rm12_drawsHour s m args below meth c H locs 0 0 (MQ below (va_Qi (fun (r' : Int32) (M2 : Mem) => r' = r ∧ M2 = M') (fun M2 t => va_P z.1 vwCl (pw (yd z b) 32 b M2) t.heap) (pA 32 b)) args s 0 0 (pA 32 b)) (F0 m 53 ls []))  {M : Mem} {H : Heap} {locs : List Loc} {ls : Array Slot} (hf : b12_drawsHour_0  rc n  M = some (r, M')) (hP : va_P z.1 vwCl (pw (yd z b) 32 b M) H) (hS : va_S (pA 32 b) s.heap H locs) (hl : lv_has ls 4 [(0, .ref (b + 0))]) : W p l e rm12_drawsHour s m args below meth c H locs 0 0 (MQ below (va_Qi (fun (r' : Int32) (M2 : Mem) => r' = r ∧ M2 = M') (fun M2 t => va_P z.1 vwCl (pw (yd z b) 32 b M2) t.heap) (pA 32 b)) args s 0 0 (pA 32 b)) (F0 m 0 ls []) := by
  have hx := C.1.1
  have hb := C.1.2.1
  unfold b12_drawsHour_0 at hf
  refine lv_aload_n hx hb dX12_drawsHour_0 rfl (lv_at hl 0 rfl) ?_
  obtain ⟨r1, M2, h3, hf⟩ := bnd_s hf
  refine pcVi (As := []) C hP hS (k := 0) (Nat.le_of_ble_eq_true rfl) (yd_0 _ _) rfl (c12_allWeights  h3) y12_allWeights_w g_1451 rfl rfl rfl ⟨Nat.le_of_ble_eq_true rfl, Nat.le_of_ble_eq_true rfl⟩ hl.1 rfl (Nat.le_of_ble_eq_true rfl) dX12_drawsHour_1 ⟨Nat.le_of_ble_eq_true rfl, Nat.le_of_ble_eq_true rfl⟩ (fun H locs hP hS => ?_)
  refine lv_istore_n (lv' := [(1, .int r1), (0, .ref (b + 0))]) hx hb dX12_drawsHour_4 rfl hl (by decide) rfl (fun ls hl => ?_)
  refine lv_iload_n hx hb dX12_drawsHour_5 rfl (lv_at hl 0 rfl) ?_
  refine lv_if_ne (tgt := 12) hx hb dX12_drawsHour_6 (by decide) (fun c4 => ?_) (fun c4 => ?_)
  · replace hf := ite_f c4 hf
    refine lv_aload_n hx hb dX12_drawsHour_12 rfl (lv_at hl 1 rfl) ?_
    refine pg C hP (k := 0) (j := 0) (Nat.le_of_ble_eq_true rfl) (yd_0 _ _) rfl iw_12 (Nat.le_of_ble_eq_true rfl) g_1135 rfl rfl dX12_drawsHour_13 ?_
    refine lv_sipush (v := (161 : Int32)) hx hb dX12_drawsHour_16 (by decide) ?_
    refine lv_sipush (v := (25173 : Int32)) hx hb dX12_drawsHour_19 (by decide) ?_
    refine lv_aload_n hx hb dX12_drawsHour_22 rfl (lv_at hl 1 rfl) ?_
    refine pg C hP (k := 0) (j := 0) (Nat.le_of_ble_eq_true rfl) (yd_0 _ _) rfl iw_12 (Nat.le_of_ble_eq_true rfl) g_1135 rfl rfl dX12_drawsHour_23 ?_
    refine lv_sipush (v := (161 : Int32)) hx hb dX12_drawsHour_26 (by decide) ?_
    have h5 := chk_1 hf
    replace hf := chk_2 hf
    refine paI C hP (k := 1) (Nat.le_of_ble_eq_true rfl) (yd_1 _ _) h5 dX12_drawsHour_29 ?_
    refine lv_imul hx hb dX12_drawsHour_30 ?_
    refine lv_sipush (v := (13849 : Int32)) hx hb dX12_drawsHour_31 (by decide) ?_
    refine lv_iadd hx hb dX12_drawsHour_34 ?_
    refine lv_ldcw hx hb C.1.2.2.2.1 (C.1.2.2.2.2 _ g_1470) dX12_drawsHour_35 ?_
    refine lv_irem hx hb dX12_drawsHour_38 (by decide) ?_
    have h6 := chk_1 hf
    replace hf := chk_2 hf
    refine psI C hP hS (k := 1) (Nat.le_of_ble_eq_true rfl) (yd_1) h6 dX12_drawsHour_39 (fun M7 H locs eM7 hP hS => ?_)
    replace hf := lt_c eM7 hf
    refine lv_aload_n hx hb dX12_drawsHour_40 rfl (lv_at hl 1 rfl) ?_
    refine pg C hP (k := 0) (j := 0) (Nat.le_of_ble_eq_true rfl) (yd_0 _ _) rfl iw_12 (Nat.le_of_ble_eq_true rfl) g_1135 rfl rfl dX12_drawsHour_41 ?_
    refine lv_sipush (v := (161 : Int32)) hx hb dX12_drawsHour_44 (by decide) ?_
    have h8 := chk_1 hf
    replace hf := chk_2 hf
    refine paI C hP (k := 1) (Nat.le_of_ble_eq_true rfl) (yd_1 _ _) h8 dX12_drawsHour_47 ?_
    refine lv_iload_n hx hb dX12_drawsHour_48 rfl (lv_at hl 0 rfl) ?_
    have h9 := of_decide_eq_true (chk_1 hf)
    replace hf := chk_2 hf
    refine lv_irem hx hb dX12_drawsHour_49 h9 ?_
    refine lv_topi (fun v10 ev10 => ?_)
    replace hf := lt_c ev10 hf
    refine lv_istore_n (lv' := [(2, .int v10), (1, .int r1), (0, .ref (b + 0))]) hx hb dX12_drawsHour_50 rfl hl (by decide) rfl (fun ls hl => ?_)
    refine lv_iconst (v := (0 : Int32)) hx hb dX12_drawsHour_51 (by decide) ?_
    refine lv_istore_n (lv' := [(3, .int (0 : Int32)), (2, .int v10), (1, .int r1), (0, .ref (b + 0))]) hx hb dX12_drawsHour_52 rfl hl (by decide) rfl (fun ls hl => ?_)
    exact w12_drawsHour_53 (n := n)  C hr hk q53 hf hP hS (lv_sub hl [3, 1, 0] rfl)
  · replace hf := ite_t c4 hf
    refine lv_bipush (v := (-2 : Int32)) hx hb dX12_drawsHour_9 (by decide) ?_
    exact prI C hr hk hP hS hf dX12_drawsHour_11
set_option maxHeartbeats 4000000 in
set_option maxRecDepth 100000 in
theorem l12_drawsHour {p : Program} {l : Launch} {e : Env} {s : State} {m : MethodId} {args : Array Value} {below : List Frame} {meth : Method} {c : Code} {z : Zt} {b : Nat}  (C : Cx p s m args c cX12_drawsHour 4 RX12 z 32 b) (hr : meth.sig.returnType = (some .int)) (hk : meth.locks = false) {r : Int32} {M' : Mem} (n : Nat) : (∀ (i2 : Int32) (i3 : Int32) (M : Mem) (H : Heap) (locs : List Loc) (ls : Array Slot), (r12_drawsHour  n) 53 [i2, i3] [] M = some (r, M') → va_P z.1 vwCl (pw (yd z b) 32 b M) H → va_S (pA 32 b) s.heap H locs → lv_has ls 4 [(0, .ref (b + 0)), (2, .int i2), (3, .int i3)] → W p l e rm12_drawsHour s m args below meth c H locs 0 0 (MQ below (va_Qi (fun (r' : Int32) (M2 : Mem) => r' = r ∧ M2 = M') (fun M2 t => va_P z.1 vwCl (pw (yd z b) 32 b M2) t.heap) (pA 32 b)) args s 0 0 (pA 32 b)) (F0 m 53 ls [])) := by
  induction n with
  | zero => exact fun _ _ _ _ _ _ hf => (by cases hf)
  | succ n ih => exact fun _ _ _ _ _ _ hf hP hS hl => w12_drawsHour_53 (n := n)  C hr hk ih ((e12_drawsHour_53  n _ _ _).symm.trans hf) hP hS hl
theorem c12_drawsHour {l : Launch} {z : Zt} {b n : Nat}   {M M' : Mem} {r : Int32} (hf : f12_drawsHour n   M = some (r, M')) : CI l z (yd z b) 32 b yX12_drawsHour cX12_drawsHour 4 (some .int) rm12_drawsHour [.ref (b + 0)] M M' r :=
  CI.ofW (lv := [(0, .ref (b + 0))]) (by decide) (Nat.le_of_ble_eq_true rfl) rfl (fun p e s m args below meth c ls C hr hk hP hS hl => w12_drawsHour_0 (n := n)  C hr hk (l12_drawsHour  C hr hk n) hf hP hS hl)

-- BronzeKingModel.doorsIn(I)I
theorem dX12_doorsIn_0 : decode cX12_doorsIn 0 = .ok (.iconst 0, 1) := by decide +kernel
theorem dX12_doorsIn_1 : decode cX12_doorsIn 1 = .ok (.istore_n 2, 1) := by decide +kernel
theorem dX12_doorsIn_2 : decode cX12_doorsIn 2 = .ok (.iconst 1, 1) := by decide +kernel
theorem dX12_doorsIn_3 : decode cX12_doorsIn 3 = .ok (.istore_n 3, 1) := by decide +kernel
theorem dX12_doorsIn_4 : decode cX12_doorsIn 4 = .ok (.iload_n 3, 1) := by decide +kernel
theorem dX12_doorsIn_5 : decode cX12_doorsIn 5 = .ok (.bipush 9, 2) := by decide +kernel
theorem dX12_doorsIn_7 : decode cX12_doorsIn 7 = .ok (.if_icmp .gt 25, 3) := by decide +kernel
theorem dX12_doorsIn_10 : decode cX12_doorsIn 10 = .ok (.aload_n 0, 1) := by decide +kernel
theorem dX12_doorsIn_11 : decode cX12_doorsIn 11 = .ok (.getfield 22, 3) := by decide +kernel
theorem dX12_doorsIn_14 : decode cX12_doorsIn 14 = .ok (.iload_n 3, 1) := by decide +kernel
theorem dX12_doorsIn_15 : decode cX12_doorsIn 15 = .ok (.iaload, 1) := by decide +kernel
theorem dX12_doorsIn_16 : decode cX12_doorsIn 16 = .ok (.iload_n 1, 1) := by decide +kernel
theorem dX12_doorsIn_17 : decode cX12_doorsIn 17 = .ok (.if_icmp .ne 9, 3) := by decide +kernel
theorem dX12_doorsIn_20 : decode cX12_doorsIn 20 = .ok (.iload_n 2, 1) := by decide +kernel
theorem dX12_doorsIn_21 : decode cX12_doorsIn 21 = .ok (.iconst 1, 1) := by decide +kernel
theorem dX12_doorsIn_22 : decode cX12_doorsIn 22 = .ok (.iload_n 3, 1) := by decide +kernel
theorem dX12_doorsIn_23 : decode cX12_doorsIn 23 = .ok (.ishl, 1) := by decide +kernel
theorem dX12_doorsIn_24 : decode cX12_doorsIn 24 = .ok (.ior, 1) := by decide +kernel
theorem dX12_doorsIn_25 : decode cX12_doorsIn 25 = .ok (.istore_n 2, 1) := by decide +kernel
theorem dX12_doorsIn_26 : decode cX12_doorsIn 26 = .ok (.iinc 3 1, 3) := by decide +kernel
theorem dX12_doorsIn_29 : decode cX12_doorsIn 29 = .ok (.goto (-25), 3) := by decide +kernel
theorem dX12_doorsIn_32 : decode cX12_doorsIn 32 = .ok (.iload_n 2, 1) := by decide +kernel
theorem dX12_doorsIn_33 : decode cX12_doorsIn 33 = .ok (.ireturn, 1) := by decide +kernel
def b12_doorsIn_26 (rc : Nat → List Int32 → List Int64 → Mem → Option (Int32 × Mem)) (n : Nat) (i1 : Int32) (i2 : Int32) (i3 : Int32) (M : Mem) : Option (Int32 × Mem) :=
  lt (i3 + (1 : Int32)) fun v5 =>
  rc 4 [i1, i2, v5] [] M
def b12_doorsIn_4 (rc : Nat → List Int32 → List Int64 → Mem → Option (Int32 × Mem)) (n : Nat) (i1 : Int32) (i2 : Int32) (i3 : Int32) (M : Mem) : Option (Int32 × Mem) :=
  (if (9 : Int32) < i3 then (
   some (i2, M))
  else (
   chk (inb i3 10) <|
   (if (M.1 5 i3.toNatClampNeg) = i1 then (
    lt (i2 ||| ((1 : Int32) <<< (i3 &&& 31))) fun v4 =>
    b12_doorsIn_26  rc n i1 v4 i3 M)
   else (
    b12_doorsIn_26  rc n i1 i2 i3 M))))
def b12_doorsIn_0 (rc : Nat → List Int32 → List Int64 → Mem → Option (Int32 × Mem)) (n : Nat) (a1 : Int32) (M : Mem) : Option (Int32 × Mem) :=
  b12_doorsIn_4  rc n a1 (0 : Int32) (1 : Int32) M
def r12_doorsIn : Nat → Nat → List Int32 → List Int64 → Mem → Option (Int32 × Mem)
  | 0 => fun _ _ _ _ => none
  | n + 1 => fun pc li lj M =>
    if pc = 4 then (match li, lj with | [i1, i2, i3], [] => b12_doorsIn_4  (r12_doorsIn  n) n i1 i2 i3 M | _, _ => none) else
    none
theorem e12_doorsIn_4  (n : Nat) (i1 : Int32) (i2 : Int32) (i3 : Int32) (M : Mem) : r12_doorsIn  (n + 1) 4 [i1, i2, i3] [] M = b12_doorsIn_4  (r12_doorsIn  n) n i1 i2 i3 M := by
  rw [r12_doorsIn]
  simp
def f12_doorsIn (n : Nat) (a1 : Int32) (M : Mem) : Option (Int32 × Mem) := b12_doorsIn_0 (r12_doorsIn n) n a1 M
abbrev rm12_doorsIn : Room := { frames := 0, cells := 0, slots := 0, locals := 0 }
theorem y12_doorsIn_w : yV RX12 yX12_doorsIn cX12_doorsIn 4 (some .int) 1 := ⟨g_1510, gp 74 rfl rfl, g_14, g_1511, rfl, by decide, by decide, by decide +kernel⟩
set_option maxHeartbeats 4000000 in
set_option maxRecDepth 100000 in
theorem w12_doorsIn_26 {p : Program} {l : Launch} {e : Env} {s : State} {m : MethodId} {args : Array Value} {below : List Frame} {meth : Method} {c : Code} {z : Zt} {b : Nat}  (C : Cx p s m args c cX12_doorsIn 4 RX12 z 32 b) (hr : meth.sig.returnType = (some .int)) (hk : meth.locks = false) {r : Int32} {M' : Mem} {rc : Nat → List Int32 → List Int64 → Mem → Option (Int32 × Mem)} {n : Nat} (q4 : ∀ (i1 : Int32) (i2 : Int32) (i3 : Int32) (M : Mem) (H : Heap) (locs : List Loc) (ls : Array Slot), rc 4 [i1, i2, i3] [] M = some (r, M') → va_P z.1 vwCl (pw (yd z b) 32 b M) H → va_S (pA 32 b) s.heap H locs → lv_has ls 4 [(0, .ref (b + 0)), (1, .int i1), (2, .int i2), (3, .int i3)] → W p l e rm12_doorsIn s m args below meth c H locs 0 0 (MQ below (va_Qi (fun (r' : Int32) (M2 : Mem) => r' = r ∧ M2 = M') (fun M2 t => va_P z.1 vwCl (pw (yd z b) 32 b M2) t.heap) (pA 32 b)) args s 0 0 (pA 32 b)) (F0 m 4 ls [])) {i1 : Int32} {i2 : Int32} {i3 : Int32} {M : Mem} {H : Heap} {locs : List Loc} {ls : Array Slot} (hf : b12_doorsIn_26  rc n i1 i2 i3 M = some (r, M')) (hP : va_P z.1 vwCl (pw (yd z b) 32 b M) H) (hS : va_S (pA 32 b) s.heap H locs) (hl : lv_has ls 4 [(0, .ref (b + 0)), (1, .int i1), (2, .int i2), (3, .int i3)]) : W p l e rm12_doorsIn s m args below meth c H locs 0 0 (MQ below (va_Qi (fun (r' : Int32) (M2 : Mem) => r' = r ∧ M2 = M') (fun M2 t => va_P z.1 vwCl (pw (yd z b) 32 b M2) t.heap) (pA 32 b)) args s 0 0 (pA 32 b)) (F0 m 26 ls []) := by
  have hx := C.1.1
  have hb := C.1.2.1
  unfold b12_doorsIn_26 at hf
  obtain ⟨v5, ev5⟩ : ∃ v : Int32, v = i3 + (1 : Int32) := ⟨_, rfl⟩
  replace hf := lt_c ev5 hf
  refine lv_iinc (v := v5) (lv' := [(3, .int v5), (0, .ref (b + 0)), (1, .int i1), (2, .int i2)]) hx hb dX12_doorsIn_26 hl (k := 3) rfl (by rw [ev5]; rfl) (by decide) rfl (fun ls hl => ?_)
  refine lv_goto (tgt := 4) hx hb dX12_doorsIn_29 (by decide) ?_
  exact q4 i1 i2 v5 M _ _ _ hf hP hS (lv_sub hl [1, 2, 3, 0] rfl)
set_option maxHeartbeats 4000000 in
set_option maxRecDepth 100000 in
theorem w12_doorsIn_4 {p : Program} {l : Launch} {e : Env} {s : State} {m : MethodId} {args : Array Value} {below : List Frame} {meth : Method} {c : Code} {z : Zt} {b : Nat}  (C : Cx p s m args c cX12_doorsIn 4 RX12 z 32 b) (hr : meth.sig.returnType = (some .int)) (hk : meth.locks = false) {r : Int32} {M' : Mem} {rc : Nat → List Int32 → List Int64 → Mem → Option (Int32 × Mem)} {n : Nat} (q4 : ∀ (i1 : Int32) (i2 : Int32) (i3 : Int32) (M : Mem) (H : Heap) (locs : List Loc) (ls : Array Slot), rc 4 [i1, i2, i3] [] M = some (r, M') → va_P z.1 vwCl (pw (yd z b) 32 b M) H → va_S (pA 32 b) s.heap H locs → lv_has ls 4 [(0, .ref (b + 0)), (1, .int i1), (2, .int i2), (3, .int i3)] → W p l e rm12_doorsIn s m args below meth c H locs 0 0 (MQ below (va_Qi (fun (r' : Int32) (M2 : Mem) => r' = r ∧ M2 = M') (fun M2 t => va_P z.1 vwCl (pw (yd z b) 32 b M2) t.heap) (pA 32 b)) args s 0 0 (pA 32 b)) (F0 m 4 ls [])) {i1 : Int32} {i2 : Int32} {i3 : Int32} {M : Mem} {H : Heap} {locs : List Loc} {ls : Array Slot} (hf : b12_doorsIn_4  rc n i1 i2 i3 M = some (r, M')) (hP : va_P z.1 vwCl (pw (yd z b) 32 b M) H) (hS : va_S (pA 32 b) s.heap H locs) (hl : lv_has ls 4 [(0, .ref (b + 0)), (1, .int i1), (2, .int i2), (3, .int i3)]) : W p l e rm12_doorsIn s m args below meth c H locs 0 0 (MQ below (va_Qi (fun (r' : Int32) (M2 : Mem) => r' = r ∧ M2 = M') (fun M2 t => va_P z.1 vwCl (pw (yd z b) 32 b M2) t.heap) (pA 32 b)) args s 0 0 (pA 32 b)) (F0 m 4 ls []) := by
  have hx := C.1.1
  have hb := C.1.2.1
  unfold b12_doorsIn_4 at hf
  refine lv_iload_n hx hb dX12_doorsIn_4 rfl (lv_at hl 3 rfl) ?_
  refine lv_bipush (v := (9 : Int32)) hx hb dX12_doorsIn_5 (by decide) ?_
  refine lv_icmp_gt (tgt := 32) hx hb dX12_doorsIn_7 (by decide) (fun c1 => ?_) (fun c1 => ?_)
  · replace hf := ite_t c1 hf
    refine lv_iload_n hx hb dX12_doorsIn_32 rfl (lv_at hl 2 rfl) ?_
    exact prI C hr hk hP hS hf dX12_doorsIn_33
  · replace hf := ite_f c1 hf
    refine lv_aload_n hx hb dX12_doorsIn_10 rfl (lv_at hl 0 rfl) ?_
    refine pg C hP (k := 0) (j := 4) (Nat.le_of_ble_eq_true rfl) (yd_0 _ _) rfl iw_12 (Nat.le_of_ble_eq_true rfl) g_1139 rfl rfl dX12_doorsIn_11 ?_
    refine lv_iload_n hx hb dX12_doorsIn_14 rfl (lv_at hl 3 rfl) ?_
    have h2 := chk_1 hf
    replace hf := chk_2 hf
    refine paI C hP (k := 5) (Nat.le_of_ble_eq_true rfl) (yd_5 _ _) h2 dX12_doorsIn_15 ?_
    refine lv_iload_n hx hb dX12_doorsIn_16 rfl (lv_at hl 1 rfl) ?_
    refine lv_icmp_ne (tgt := 26) hx hb dX12_doorsIn_17 (by decide) (fun c3 => ?_) (fun c3 => ?_)
    · replace hf := ite_f c3 hf
      exact w12_doorsIn_26 (n := n)  C hr hk q4 hf hP hS (lv_sub hl [0, 1, 2, 3] rfl)
    · replace hf := ite_t c3 hf
      refine lv_iload_n hx hb dX12_doorsIn_20 rfl (lv_at hl 2 rfl) ?_
      refine lv_iconst (v := (1 : Int32)) hx hb dX12_doorsIn_21 (by decide) ?_
      refine lv_iload_n hx hb dX12_doorsIn_22 rfl (lv_at hl 3 rfl) ?_
      refine lv_ishl hx hb dX12_doorsIn_23 ?_
      refine lv_ior hx hb dX12_doorsIn_24 ?_
      refine lv_topi (fun v4 ev4 => ?_)
      replace hf := lt_c ev4 hf
      refine lv_istore_n (lv' := [(2, .int v4), (0, .ref (b + 0)), (1, .int i1), (3, .int i3)]) hx hb dX12_doorsIn_25 rfl hl (by decide) rfl (fun ls hl => ?_)
      exact w12_doorsIn_26 (n := n)  C hr hk q4 hf hP hS (lv_sub hl [1, 2, 0, 3] rfl)
set_option maxHeartbeats 4000000 in
set_option maxRecDepth 100000 in
theorem w12_doorsIn_0 {p : Program} {l : Launch} {e : Env} {s : State} {m : MethodId} {args : Array Value} {below : List Frame} {meth : Method} {c : Code} {z : Zt} {b : Nat}  (C : Cx p s m args c cX12_doorsIn 4 RX12 z 32 b) (hr : meth.sig.returnType = (some .int)) (hk : meth.locks = false) {r : Int32} {M' : Mem} {rc : Nat → List Int32 → List Int64 → Mem → Option (Int32 × Mem)} {n : Nat} (q4 : ∀ (i1 : Int32) (i2 : Int32) (i3 : Int32) (M : Mem) (H : Heap) (locs : List Loc) (ls : Array Slot), rc 4 [i1, i2, i3] [] M = some (r, M') → va_P z.1 vwCl (pw (yd z b) 32 b M) H → va_S (pA 32 b) s.heap H locs → lv_has ls 4 [(0, .ref (b + 0)), (1, .int i1), (2, .int i2), (3, .int i3)] → W p l e rm12_doorsIn s m args below meth c H locs 0 0 (MQ below (va_Qi (fun (r' : Int32) (M2 : Mem) => r' = r ∧ M2 = M') (fun M2 t => va_P z.1 vwCl (pw (yd z b) 32 b M2) t.heap) (pA 32 b)) args s 0 0 (pA 32 b)) (F0 m 4 ls [])) {a1 : Int32} {M : Mem} {H : Heap} {locs : List Loc} {ls : Array Slot} (hf : b12_doorsIn_0  rc n a1 M = some (r, M')) (hP : va_P z.1 vwCl (pw (yd z b) 32 b M) H) (hS : va_S (pA 32 b) s.heap H locs) (hl : lv_has ls 4 [(0, .ref (b + 0)), (1, .int a1)]) : W p l e rm12_doorsIn s m args below meth c H locs 0 0 (MQ below (va_Qi (fun (r' : Int32) (M2 : Mem) => r' = r ∧ M2 = M') (fun M2 t => va_P z.1 vwCl (pw (yd z b) 32 b M2) t.heap) (pA 32 b)) args s 0 0 (pA 32 b)) (F0 m 0 ls []) := by
  have hx := C.1.1
  have hb := C.1.2.1
  unfold b12_doorsIn_0 at hf
  refine lv_iconst (v := (0 : Int32)) hx hb dX12_doorsIn_0 (by decide) ?_
  refine lv_istore_n (lv' := [(2, .int (0 : Int32)), (0, .ref (b + 0)), (1, .int a1)]) hx hb dX12_doorsIn_1 rfl hl (by decide) rfl (fun ls hl => ?_)
  refine lv_iconst (v := (1 : Int32)) hx hb dX12_doorsIn_2 (by decide) ?_
  refine lv_istore_n (lv' := [(3, .int (1 : Int32)), (2, .int (0 : Int32)), (0, .ref (b + 0)), (1, .int a1)]) hx hb dX12_doorsIn_3 rfl hl (by decide) rfl (fun ls hl => ?_)
  exact w12_doorsIn_4 (n := n)  C hr hk q4 hf hP hS (lv_sub hl [2, 3, 1, 0] rfl)
set_option maxHeartbeats 4000000 in
set_option maxRecDepth 100000 in
theorem l12_doorsIn {p : Program} {l : Launch} {e : Env} {s : State} {m : MethodId} {args : Array Value} {below : List Frame} {meth : Method} {c : Code} {z : Zt} {b : Nat}  (C : Cx p s m args c cX12_doorsIn 4 RX12 z 32 b) (hr : meth.sig.returnType = (some .int)) (hk : meth.locks = false) {r : Int32} {M' : Mem} (n : Nat) : (∀ (i1 : Int32) (i2 : Int32) (i3 : Int32) (M : Mem) (H : Heap) (locs : List Loc) (ls : Array Slot), (r12_doorsIn  n) 4 [i1, i2, i3] [] M = some (r, M') → va_P z.1 vwCl (pw (yd z b) 32 b M) H → va_S (pA 32 b) s.heap H locs → lv_has ls 4 [(0, .ref (b + 0)), (1, .int i1), (2, .int i2), (3, .int i3)] → W p l e rm12_doorsIn s m args below meth c H locs 0 0 (MQ below (va_Qi (fun (r' : Int32) (M2 : Mem) => r' = r ∧ M2 = M') (fun M2 t => va_P z.1 vwCl (pw (yd z b) 32 b M2) t.heap) (pA 32 b)) args s 0 0 (pA 32 b)) (F0 m 4 ls [])) := by
  induction n with
  | zero => exact fun _ _ _ _ _ _ _ hf => (by cases hf)
  | succ n ih => exact fun _ _ _ _ _ _ _ hf hP hS hl => w12_doorsIn_4 (n := n)  C hr hk ih ((e12_doorsIn_4  n _ _ _ _).symm.trans hf) hP hS hl
theorem c12_doorsIn {l : Launch} {z : Zt} {b n : Nat}  {a1 : Int32} {M M' : Mem} {r : Int32} (hf : f12_doorsIn n  a1 M = some (r, M')) : CI l z (yd z b) 32 b yX12_doorsIn cX12_doorsIn 4 (some .int) rm12_doorsIn [.ref (b + 0), .int a1] M M' r :=
  CI.ofW (lv := [(0, .ref (b + 0)), (1, .int a1)]) (by decide) (Nat.le_of_ble_eq_true rfl) rfl (fun p e s m args below meth c ls C hr hk hP hS hl => w12_doorsIn_0 (n := n)  C hr hk (l12_doorsIn  C hr hk n) hf hP hS hl)

-- BronzeKingModel.feelsAt(III)V
theorem dX12_feelsAt_0 : decode cX12_feelsAt 0 = .ok (.aload_n 0, 1) := by decide +kernel
theorem dX12_feelsAt_1 : decode cX12_feelsAt 1 = .ok (.getfield 71, 3) := by decide +kernel
theorem dX12_feelsAt_4 : decode cX12_feelsAt 4 = .ok (.iconst 0, 1) := by decide +kernel
theorem dX12_feelsAt_5 : decode cX12_feelsAt 5 = .ok (.iload_n 1, 1) := by decide +kernel
theorem dX12_feelsAt_6 : decode cX12_feelsAt 6 = .ok (.iastore, 1) := by decide +kernel
theorem dX12_feelsAt_7 : decode cX12_feelsAt 7 = .ok (.aload_n 0, 1) := by decide +kernel
theorem dX12_feelsAt_8 : decode cX12_feelsAt 8 = .ok (.getfield 71, 3) := by decide +kernel
theorem dX12_feelsAt_11 : decode cX12_feelsAt 11 = .ok (.iconst 1, 1) := by decide +kernel
theorem dX12_feelsAt_12 : decode cX12_feelsAt 12 = .ok (.aload_n 0, 1) := by decide +kernel
theorem dX12_feelsAt_13 : decode cX12_feelsAt 13 = .ok (.getfield 7, 3) := by decide +kernel
theorem dX12_feelsAt_16 : decode cX12_feelsAt 16 = .ok (.sipush 160, 3) := by decide +kernel
theorem dX12_feelsAt_19 : decode cX12_feelsAt 19 = .ok (.iaload, 1) := by decide +kernel
theorem dX12_feelsAt_20 : decode cX12_feelsAt 20 = .ok (.bipush 7, 2) := by decide +kernel
theorem dX12_feelsAt_22 : decode cX12_feelsAt 22 = .ok (.irem, 1) := by decide +kernel
theorem dX12_feelsAt_23 : decode cX12_feelsAt 23 = .ok (.iastore, 1) := by decide +kernel
theorem dX12_feelsAt_24 : decode cX12_feelsAt 24 = .ok (.aload_n 0, 1) := by decide +kernel
theorem dX12_feelsAt_25 : decode cX12_feelsAt 25 = .ok (.getfield 71, 3) := by decide +kernel
theorem dX12_feelsAt_28 : decode cX12_feelsAt 28 = .ok (.iconst 2, 1) := by decide +kernel
theorem dX12_feelsAt_29 : decode cX12_feelsAt 29 = .ok (.iload_n 2, 1) := by decide +kernel
theorem dX12_feelsAt_30 : decode cX12_feelsAt 30 = .ok (.iastore, 1) := by decide +kernel
theorem dX12_feelsAt_31 : decode cX12_feelsAt 31 = .ok (.aload_n 0, 1) := by decide +kernel
theorem dX12_feelsAt_32 : decode cX12_feelsAt 32 = .ok (.getfield 71, 3) := by decide +kernel
theorem dX12_feelsAt_35 : decode cX12_feelsAt 35 = .ok (.iconst 3, 1) := by decide +kernel
theorem dX12_feelsAt_36 : decode cX12_feelsAt 36 = .ok (.iload_n 3, 1) := by decide +kernel
theorem dX12_feelsAt_37 : decode cX12_feelsAt 37 = .ok (.bipush 12, 2) := by decide +kernel
theorem dX12_feelsAt_39 : decode cX12_feelsAt 39 = .ok (.irem, 1) := by decide +kernel
theorem dX12_feelsAt_40 : decode cX12_feelsAt 40 = .ok (.iastore, 1) := by decide +kernel
theorem dX12_feelsAt_41 : decode cX12_feelsAt 41 = .ok (.aload_n 0, 1) := by decide +kernel
theorem dX12_feelsAt_42 : decode cX12_feelsAt 42 = .ok (.getfield 71, 3) := by decide +kernel
theorem dX12_feelsAt_45 : decode cX12_feelsAt 45 = .ok (.iconst 4, 1) := by decide +kernel
theorem dX12_feelsAt_46 : decode cX12_feelsAt 46 = .ok (.iload_n 3, 1) := by decide +kernel
theorem dX12_feelsAt_47 : decode cX12_feelsAt 47 = .ok (.bipush 12, 2) := by decide +kernel
theorem dX12_feelsAt_49 : decode cX12_feelsAt 49 = .ok (.idiv, 1) := by decide +kernel
theorem dX12_feelsAt_50 : decode cX12_feelsAt 50 = .ok (.iastore, 1) := by decide +kernel
theorem dX12_feelsAt_51 : decode cX12_feelsAt 51 = .ok (.aload_n 0, 1) := by decide +kernel
theorem dX12_feelsAt_52 : decode cX12_feelsAt 52 = .ok (.getfield 71, 3) := by decide +kernel
theorem dX12_feelsAt_55 : decode cX12_feelsAt 55 = .ok (.iconst 5, 1) := by decide +kernel
theorem dX12_feelsAt_56 : decode cX12_feelsAt 56 = .ok (.aload_n 0, 1) := by decide +kernel
theorem dX12_feelsAt_57 : decode cX12_feelsAt 57 = .ok (.getfield 7, 3) := by decide +kernel
theorem dX12_feelsAt_60 : decode cX12_feelsAt 60 = .ok (.iconst 0, 1) := by decide +kernel
theorem dX12_feelsAt_61 : decode cX12_feelsAt 61 = .ok (.iload_n 3, 1) := by decide +kernel
theorem dX12_feelsAt_62 : decode cX12_feelsAt 62 = .ok (.iadd, 1) := by decide +kernel
theorem dX12_feelsAt_63 : decode cX12_feelsAt 63 = .ok (.iaload, 1) := by decide +kernel
theorem dX12_feelsAt_64 : decode cX12_feelsAt 64 = .ok (.iastore, 1) := by decide +kernel
theorem dX12_feelsAt_65 : decode cX12_feelsAt 65 = .ok (.aload_n 0, 1) := by decide +kernel
theorem dX12_feelsAt_66 : decode cX12_feelsAt 66 = .ok (.getfield 71, 3) := by decide +kernel
theorem dX12_feelsAt_69 : decode cX12_feelsAt 69 = .ok (.bipush 6, 2) := by decide +kernel
theorem dX12_feelsAt_71 : decode cX12_feelsAt 71 = .ok (.aload_n 0, 1) := by decide +kernel
theorem dX12_feelsAt_72 : decode cX12_feelsAt 72 = .ok (.iload_n 3, 1) := by decide +kernel
theorem dX12_feelsAt_73 : decode cX12_feelsAt 73 = .ok (.invokevirtual 280, 3) := by decide +kernel
theorem dX12_feelsAt_76 : decode cX12_feelsAt 76 = .ok (.iastore, 1) := by decide +kernel
theorem dX12_feelsAt_77 : decode cX12_feelsAt 77 = .ok (.aload_n 0, 1) := by decide +kernel
theorem dX12_feelsAt_78 : decode cX12_feelsAt 78 = .ok (.getfield 71, 3) := by decide +kernel
theorem dX12_feelsAt_81 : decode cX12_feelsAt 81 = .ok (.bipush 7, 2) := by decide +kernel
theorem dX12_feelsAt_83 : decode cX12_feelsAt 83 = .ok (.aload_n 0, 1) := by decide +kernel
theorem dX12_feelsAt_84 : decode cX12_feelsAt 84 = .ok (.iload_n 3, 1) := by decide +kernel
theorem dX12_feelsAt_85 : decode cX12_feelsAt 85 = .ok (.aload_n 0, 1) := by decide +kernel
theorem dX12_feelsAt_86 : decode cX12_feelsAt 86 = .ok (.getfield 110, 3) := by decide +kernel
theorem dX12_feelsAt_89 : decode cX12_feelsAt 89 = .ok (.invokevirtual 134, 3) := by decide +kernel
theorem dX12_feelsAt_92 : decode cX12_feelsAt 92 = .ok (.iastore, 1) := by decide +kernel
theorem dX12_feelsAt_93 : decode cX12_feelsAt 93 = .ok (.aload_n 0, 1) := by decide +kernel
theorem dX12_feelsAt_94 : decode cX12_feelsAt 94 = .ok (.getfield 71, 3) := by decide +kernel
theorem dX12_feelsAt_97 : decode cX12_feelsAt 97 = .ok (.bipush 8, 2) := by decide +kernel
theorem dX12_feelsAt_99 : decode cX12_feelsAt 99 = .ok (.aload_n 0, 1) := by decide +kernel
theorem dX12_feelsAt_100 : decode cX12_feelsAt 100 = .ok (.getfield 7, 3) := by decide +kernel
theorem dX12_feelsAt_103 : decode cX12_feelsAt 103 = .ok (.sipush 158, 3) := by decide +kernel
theorem dX12_feelsAt_106 : decode cX12_feelsAt 106 = .ok (.iaload, 1) := by decide +kernel
theorem dX12_feelsAt_107 : decode cX12_feelsAt 107 = .ok (.invokestatic 283, 3) := by decide +kernel
theorem dX12_feelsAt_110 : decode cX12_feelsAt 110 = .ok (.iastore, 1) := by decide +kernel
theorem dX12_feelsAt_111 : decode cX12_feelsAt 111 = .ok (.return_, 1) := by decide +kernel
def b12_feelsAt_0 (rc : Nat → List Int32 → List Int64 → Mem → Option (Unit × Mem)) (n : Nat) (a1 : Int32) (a2 : Int32) (a3 : Int32) (M : Mem) : Option (Unit × Mem) :=
  chk (inb (0 : Int32) 9) <|
  lt (wI M 21 (0 : Int32).toNatClampNeg a1) fun M2 =>
  chk (inb (160 : Int32) 162) <|
  chk (inb (1 : Int32) 9) <|
  lt (wI M2 21 (1 : Int32).toNatClampNeg ((M2.1 1 (160 : Int32).toNatClampNeg) - (M2.1 1 (160 : Int32).toNatClampNeg) / (7 : Int32) * (7 : Int32))) fun M5 =>
  chk (inb (2 : Int32) 9) <|
  lt (wI M5 21 (2 : Int32).toNatClampNeg a2) fun M7 =>
  chk (inb (3 : Int32) 9) <|
  lt (wI M7 21 (3 : Int32).toNatClampNeg (a3 - a3 / (12 : Int32) * (12 : Int32))) fun M9 =>
  chk (inb (4 : Int32) 9) <|
  lt (wI M9 21 (4 : Int32).toNatClampNeg (a3 / (12 : Int32))) fun M11 =>
  chk (inb ((0 : Int32) + a3) 162) <|
  chk (inb (5 : Int32) 9) <|
  lt (wI M11 21 (5 : Int32).toNatClampNeg (M11.1 1 ((0 : Int32) + a3).toNatClampNeg)) fun M14 =>
  bnd (f12_toDoorNine n a3 M14) fun r15 M16 =>
  chk (inb (6 : Int32) 9) <|
  lt (wI M16 21 (6 : Int32).toNatClampNeg r15) fun M19 =>
  bnd (f12_steps n a3 (M19.1 0 5) M19) fun r20 M21 =>
  chk (inb (7 : Int32) 9) <|
  lt (wI M21 21 (7 : Int32).toNatClampNeg r20) fun M24 =>
  chk (inb (158 : Int32) 162) <|
  bnd (f12_bits n (M24.1 1 (158 : Int32).toNatClampNeg) M24) fun r26 M27 =>
  chk (inb (8 : Int32) 9) <|
  lt (wI M27 21 (8 : Int32).toNatClampNeg r26) fun M30 =>
  some ((), M30)
def f12_feelsAt (n : Nat) (a1 : Int32) (a2 : Int32) (a3 : Int32) (M : Mem) : Option (Unit × Mem) := b12_feelsAt_0 (fun _ _ _ _ => none) n a1 a2 a3 M
abbrev rm12_feelsAt : Room := { frames := 6, cells := 0, slots := 0, locals := 135 }
theorem y12_feelsAt_w : yV RX12 yX12_feelsAt cX12_feelsAt 4 none 3 := ⟨g_1492, gp 71 rfl rfl, g_14, g_1493, rfl, by decide, by decide, by decide +kernel⟩
set_option maxHeartbeats 4000000 in
set_option maxRecDepth 100000 in
theorem w12_feelsAt_0 {p : Program} {l : Launch} {e : Env} {s : State} {m : MethodId} {args : Array Value} {below : List Frame} {meth : Method} {c : Code} {z : Zt} {b : Nat}  (C : Cx p s m args c cX12_feelsAt 4 RX12 z 32 b) (hr : meth.sig.returnType = none) (hk : meth.locks = false) {r : Unit} {M' : Mem} {rc : Nat → List Int32 → List Int64 → Mem → Option (Unit × Mem)} {n : Nat}  {a1 : Int32} {a2 : Int32} {a3 : Int32} {M : Mem} {H : Heap} {locs : List Loc} {ls : Array Slot} (hf : b12_feelsAt_0  rc n a1 a2 a3 M = some (r, M')) (hP : va_P z.1 vwCl (pw (yd z b) 32 b M) H) (hS : va_S (pA 32 b) s.heap H locs) (hl : lv_has ls 4 [(0, .ref (b + 0)), (1, .int a1), (2, .int a2), (3, .int a3)]) : W p l e rm12_feelsAt s m args below meth c H locs 0 0 (MQ below (va_Qv (fun (M2 : Mem) => M2 = M') (fun M2 t => va_P z.1 vwCl (pw (yd z b) 32 b M2) t.heap) (pA 32 b)) args s 0 0 (pA 32 b)) (F0 m 0 ls []) := by
  have hx := C.1.1
  have hb := C.1.2.1
  unfold b12_feelsAt_0 at hf
  refine lv_aload_n hx hb dX12_feelsAt_0 rfl (lv_at hl 0 rfl) ?_
  refine pg C hP (k := 0) (j := 33) (Nat.le_of_ble_eq_true rfl) (yd_0 _ _) rfl iw_12 (Nat.le_of_ble_eq_true rfl) g_1168 rfl rfl dX12_feelsAt_1 ?_
  refine lv_iconst (v := (0 : Int32)) hx hb dX12_feelsAt_4 (by decide) ?_
  refine lv_iload_n hx hb dX12_feelsAt_5 rfl (lv_at hl 1 rfl) ?_
  have h1 := chk_1 hf
  replace hf := chk_2 hf
  refine psI C hP hS (k := 21) (Nat.le_of_ble_eq_true rfl) (yd_21) h1 dX12_feelsAt_6 (fun M2 H locs eM2 hP hS => ?_)
  replace hf := lt_c eM2 hf
  refine lv_aload_n hx hb dX12_feelsAt_7 rfl (lv_at hl 0 rfl) ?_
  refine pg C hP (k := 0) (j := 33) (Nat.le_of_ble_eq_true rfl) (yd_0 _ _) rfl iw_12 (Nat.le_of_ble_eq_true rfl) g_1168 rfl rfl dX12_feelsAt_8 ?_
  refine lv_iconst (v := (1 : Int32)) hx hb dX12_feelsAt_11 (by decide) ?_
  refine lv_aload_n hx hb dX12_feelsAt_12 rfl (lv_at hl 0 rfl) ?_
  refine pg C hP (k := 0) (j := 0) (Nat.le_of_ble_eq_true rfl) (yd_0 _ _) rfl iw_12 (Nat.le_of_ble_eq_true rfl) g_1135 rfl rfl dX12_feelsAt_13 ?_
  refine lv_sipush (v := (160 : Int32)) hx hb dX12_feelsAt_16 (by decide) ?_
  have h3 := chk_1 hf
  replace hf := chk_2 hf
  refine paI C hP (k := 1) (Nat.le_of_ble_eq_true rfl) (yd_1 _ _) h3 dX12_feelsAt_19 ?_
  refine lv_bipush (v := (7 : Int32)) hx hb dX12_feelsAt_20 (by decide) ?_
  refine lv_irem hx hb dX12_feelsAt_22 (by decide) ?_
  have h4 := chk_1 hf
  replace hf := chk_2 hf
  refine psI C hP hS (k := 21) (Nat.le_of_ble_eq_true rfl) (yd_21) h4 dX12_feelsAt_23 (fun M5 H locs eM5 hP hS => ?_)
  replace hf := lt_c eM5 hf
  refine lv_aload_n hx hb dX12_feelsAt_24 rfl (lv_at hl 0 rfl) ?_
  refine pg C hP (k := 0) (j := 33) (Nat.le_of_ble_eq_true rfl) (yd_0 _ _) rfl iw_12 (Nat.le_of_ble_eq_true rfl) g_1168 rfl rfl dX12_feelsAt_25 ?_
  refine lv_iconst (v := (2 : Int32)) hx hb dX12_feelsAt_28 (by decide) ?_
  refine lv_iload_n hx hb dX12_feelsAt_29 rfl (lv_at hl 2 rfl) ?_
  have h6 := chk_1 hf
  replace hf := chk_2 hf
  refine psI C hP hS (k := 21) (Nat.le_of_ble_eq_true rfl) (yd_21) h6 dX12_feelsAt_30 (fun M7 H locs eM7 hP hS => ?_)
  replace hf := lt_c eM7 hf
  refine lv_aload_n hx hb dX12_feelsAt_31 rfl (lv_at hl 0 rfl) ?_
  refine pg C hP (k := 0) (j := 33) (Nat.le_of_ble_eq_true rfl) (yd_0 _ _) rfl iw_12 (Nat.le_of_ble_eq_true rfl) g_1168 rfl rfl dX12_feelsAt_32 ?_
  refine lv_iconst (v := (3 : Int32)) hx hb dX12_feelsAt_35 (by decide) ?_
  refine lv_iload_n hx hb dX12_feelsAt_36 rfl (lv_at hl 3 rfl) ?_
  refine lv_bipush (v := (12 : Int32)) hx hb dX12_feelsAt_37 (by decide) ?_
  refine lv_irem hx hb dX12_feelsAt_39 (by decide) ?_
  have h8 := chk_1 hf
  replace hf := chk_2 hf
  refine psI C hP hS (k := 21) (Nat.le_of_ble_eq_true rfl) (yd_21) h8 dX12_feelsAt_40 (fun M9 H locs eM9 hP hS => ?_)
  replace hf := lt_c eM9 hf
  refine lv_aload_n hx hb dX12_feelsAt_41 rfl (lv_at hl 0 rfl) ?_
  refine pg C hP (k := 0) (j := 33) (Nat.le_of_ble_eq_true rfl) (yd_0 _ _) rfl iw_12 (Nat.le_of_ble_eq_true rfl) g_1168 rfl rfl dX12_feelsAt_42 ?_
  refine lv_iconst (v := (4 : Int32)) hx hb dX12_feelsAt_45 (by decide) ?_
  refine lv_iload_n hx hb dX12_feelsAt_46 rfl (lv_at hl 3 rfl) ?_
  refine lv_bipush (v := (12 : Int32)) hx hb dX12_feelsAt_47 (by decide) ?_
  refine lv_idiv hx hb dX12_feelsAt_49 (by decide) ?_
  have h10 := chk_1 hf
  replace hf := chk_2 hf
  refine psI C hP hS (k := 21) (Nat.le_of_ble_eq_true rfl) (yd_21) h10 dX12_feelsAt_50 (fun M11 H locs eM11 hP hS => ?_)
  replace hf := lt_c eM11 hf
  refine lv_aload_n hx hb dX12_feelsAt_51 rfl (lv_at hl 0 rfl) ?_
  refine pg C hP (k := 0) (j := 33) (Nat.le_of_ble_eq_true rfl) (yd_0 _ _) rfl iw_12 (Nat.le_of_ble_eq_true rfl) g_1168 rfl rfl dX12_feelsAt_52 ?_
  refine lv_iconst (v := (5 : Int32)) hx hb dX12_feelsAt_55 (by decide) ?_
  refine lv_aload_n hx hb dX12_feelsAt_56 rfl (lv_at hl 0 rfl) ?_
  refine pg C hP (k := 0) (j := 0) (Nat.le_of_ble_eq_true rfl) (yd_0 _ _) rfl iw_12 (Nat.le_of_ble_eq_true rfl) g_1135 rfl rfl dX12_feelsAt_57 ?_
  refine lv_iconst (v := (0 : Int32)) hx hb dX12_feelsAt_60 (by decide) ?_
  refine lv_iload_n hx hb dX12_feelsAt_61 rfl (lv_at hl 3 rfl) ?_
  refine lv_iadd hx hb dX12_feelsAt_62 ?_
  have h12 := chk_1 hf
  replace hf := chk_2 hf
  refine paI C hP (k := 1) (Nat.le_of_ble_eq_true rfl) (yd_1 _ _) h12 dX12_feelsAt_63 ?_
  have h13 := chk_1 hf
  replace hf := chk_2 hf
  refine psI C hP hS (k := 21) (Nat.le_of_ble_eq_true rfl) (yd_21) h13 dX12_feelsAt_64 (fun M14 H locs eM14 hP hS => ?_)
  replace hf := lt_c eM14 hf
  refine lv_aload_n hx hb dX12_feelsAt_65 rfl (lv_at hl 0 rfl) ?_
  refine pg C hP (k := 0) (j := 33) (Nat.le_of_ble_eq_true rfl) (yd_0 _ _) rfl iw_12 (Nat.le_of_ble_eq_true rfl) g_1168 rfl rfl dX12_feelsAt_66 ?_
  refine lv_bipush (v := (6 : Int32)) hx hb dX12_feelsAt_69 (by decide) ?_
  refine lv_aload_n hx hb dX12_feelsAt_71 rfl (lv_at hl 0 rfl) ?_
  refine lv_iload_n hx hb dX12_feelsAt_72 rfl (lv_at hl 3 rfl) ?_
  obtain ⟨r15, M16, h17, hf⟩ := bnd_s hf
  refine pcVi (As := [.int a3]) C hP hS (k := 0) (Nat.le_of_ble_eq_true rfl) (yd_0 _ _) rfl (c12_toDoorNine  h17) y12_toDoorNine_w g_1494 rfl rfl rfl ⟨Nat.le_of_ble_eq_true rfl, Nat.le_of_ble_eq_true rfl⟩ hl.1 rfl (Nat.le_of_ble_eq_true rfl) dX12_feelsAt_73 ⟨Nat.le_of_ble_eq_true rfl, Nat.le_of_ble_eq_true rfl⟩ (fun H locs hP hS => ?_)
  have h18 := chk_1 hf
  replace hf := chk_2 hf
  refine psI C hP hS (k := 21) (Nat.le_of_ble_eq_true rfl) (yd_21) h18 dX12_feelsAt_76 (fun M19 H locs eM19 hP hS => ?_)
  replace hf := lt_c eM19 hf
  refine lv_aload_n hx hb dX12_feelsAt_77 rfl (lv_at hl 0 rfl) ?_
  refine pg C hP (k := 0) (j := 33) (Nat.le_of_ble_eq_true rfl) (yd_0 _ _) rfl iw_12 (Nat.le_of_ble_eq_true rfl) g_1168 rfl rfl dX12_feelsAt_78 ?_
  refine lv_bipush (v := (7 : Int32)) hx hb dX12_feelsAt_81 (by decide) ?_
  refine lv_aload_n hx hb dX12_feelsAt_83 rfl (lv_at hl 0 rfl) ?_
  refine lv_iload_n hx hb dX12_feelsAt_84 rfl (lv_at hl 3 rfl) ?_
  refine lv_aload_n hx hb dX12_feelsAt_85 rfl (lv_at hl 0 rfl) ?_
  refine pg C hP (k := 0) (j := 5) (Nat.le_of_ble_eq_true rfl) (yd_0 _ _) rfl iw_12 (Nat.le_of_ble_eq_true rfl) g_1140 rfl rfl dX12_feelsAt_86 ?_
  obtain ⟨r20, M21, h22, hf⟩ := bnd_s hf
  refine pcVi (As := [.int a3, .int (M19.1 0 5)]) C hP hS (k := 0) (Nat.le_of_ble_eq_true rfl) (yd_0 _ _) rfl (c12_steps  h22) y12_steps_w g_1475 rfl rfl rfl ⟨Nat.le_of_ble_eq_true rfl, Nat.le_of_ble_eq_true rfl⟩ hl.1 rfl (Nat.le_of_ble_eq_true rfl) dX12_feelsAt_89 ⟨Nat.le_of_ble_eq_true rfl, Nat.le_of_ble_eq_true rfl⟩ (fun H locs hP hS => ?_)
  have h23 := chk_1 hf
  replace hf := chk_2 hf
  refine psI C hP hS (k := 21) (Nat.le_of_ble_eq_true rfl) (yd_21) h23 dX12_feelsAt_92 (fun M24 H locs eM24 hP hS => ?_)
  replace hf := lt_c eM24 hf
  refine lv_aload_n hx hb dX12_feelsAt_93 rfl (lv_at hl 0 rfl) ?_
  refine pg C hP (k := 0) (j := 33) (Nat.le_of_ble_eq_true rfl) (yd_0 _ _) rfl iw_12 (Nat.le_of_ble_eq_true rfl) g_1168 rfl rfl dX12_feelsAt_94 ?_
  refine lv_bipush (v := (8 : Int32)) hx hb dX12_feelsAt_97 (by decide) ?_
  refine lv_aload_n hx hb dX12_feelsAt_99 rfl (lv_at hl 0 rfl) ?_
  refine pg C hP (k := 0) (j := 0) (Nat.le_of_ble_eq_true rfl) (yd_0 _ _) rfl iw_12 (Nat.le_of_ble_eq_true rfl) g_1135 rfl rfl dX12_feelsAt_100 ?_
  refine lv_sipush (v := (158 : Int32)) hx hb dX12_feelsAt_103 (by decide) ?_
  have h25 := chk_1 hf
  replace hf := chk_2 hf
  refine paI C hP (k := 1) (Nat.le_of_ble_eq_true rfl) (yd_1 _ _) h25 dX12_feelsAt_106 ?_
  obtain ⟨r26, M27, h28, hf⟩ := bnd_s hf
  refine pcSi (As := [.int (M24.1 1 (158 : Int32).toNatClampNeg)]) C hP hS (c12_bits  h28) y12_bits_w g_1498 rfl rfl rfl ⟨Nat.le_of_ble_eq_true rfl, Nat.le_of_ble_eq_true rfl⟩ hl.1 rfl (Nat.le_of_ble_eq_true rfl) dX12_feelsAt_107 ⟨Nat.le_of_ble_eq_true rfl, Nat.le_of_ble_eq_true rfl⟩ (fun H locs hP hS => ?_)
  have h29 := chk_1 hf
  replace hf := chk_2 hf
  refine psI C hP hS (k := 21) (Nat.le_of_ble_eq_true rfl) (yd_21) h29 dX12_feelsAt_110 (fun M30 H locs eM30 hP hS => ?_)
  replace hf := lt_c eM30 hf
  exact prV C hr hk hP hS hf dX12_feelsAt_111
theorem c12_feelsAt {l : Launch} {z : Zt} {b n : Nat}  {a1 : Int32} {a2 : Int32} {a3 : Int32} {M M' : Mem} {r : Unit} (hf : f12_feelsAt n  a1 a2 a3 M = some (r, M')) : CV l z (yd z b) 32 b yX12_feelsAt cX12_feelsAt 4 none rm12_feelsAt [.ref (b + 0), .int a1, .int a2, .int a3] M M' :=
  CV.ofW (lv := [(0, .ref (b + 0)), (1, .int a1), (2, .int a2), (3, .int a3)]) (by decide) (Nat.le_of_ble_eq_true rfl) rfl (fun p e s m args below meth c ls C hr hk hP hS hl => w12_feelsAt_0 (n := n)  C hr hk  hf hP hS hl)

-- BronzeKingModel.goesTo(III)I
theorem dX12_goesTo_0 : decode cX12_goesTo 0 = .ok (.aload_n 0, 1) := by decide +kernel
theorem dX12_goesTo_1 : decode cX12_goesTo 1 = .ok (.iload_n 3, 1) := by decide +kernel
theorem dX12_goesTo_2 : decode cX12_goesTo 2 = .ok (.aload_n 0, 1) := by decide +kernel
theorem dX12_goesTo_3 : decode cX12_goesTo 3 = .ok (.getfield 110, 3) := by decide +kernel
theorem dX12_goesTo_6 : decode cX12_goesTo 6 = .ok (.invokevirtual 134, 3) := by decide +kernel
theorem dX12_goesTo_9 : decode cX12_goesTo 9 = .ok (.istore 4, 2) := by decide +kernel
theorem dX12_goesTo_11 : decode cX12_goesTo 11 = .ok (.iload_n 3, 1) := by decide +kernel
theorem dX12_goesTo_12 : decode cX12_goesTo 12 = .ok (.aload_n 0, 1) := by decide +kernel
theorem dX12_goesTo_13 : decode cX12_goesTo 13 = .ok (.getfield 110, 3) := by decide +kernel
theorem dX12_goesTo_16 : decode cX12_goesTo 16 = .ok (.if_icmp .eq 62, 3) := by decide +kernel
theorem dX12_goesTo_19 : decode cX12_goesTo 19 = .ok (.iload 4, 2) := by decide +kernel
theorem dX12_goesTo_21 : decode cX12_goesTo 21 = .ok (.bipush 59, 2) := by decide +kernel
theorem dX12_goesTo_23 : decode cX12_goesTo 23 = .ok (.iload_n 2, 1) := by decide +kernel
theorem dX12_goesTo_24 : decode cX12_goesTo 24 = .ok (.isub, 1) := by decide +kernel
theorem dX12_goesTo_25 : decode cX12_goesTo 25 = .ok (.if_icmp .lt 53, 3) := by decide +kernel
theorem dX12_goesTo_28 : decode cX12_goesTo 28 = .ok (.iconst 0, 1) := by decide +kernel
theorem dX12_goesTo_29 : decode cX12_goesTo 29 = .ok (.istore 5, 2) := by decide +kernel
theorem dX12_goesTo_31 : decode cX12_goesTo 31 = .ok (.iload_n 3, 1) := by decide +kernel
theorem dX12_goesTo_32 : decode cX12_goesTo 32 = .ok (.iload 5, 2) := by decide +kernel
theorem dX12_goesTo_34 : decode cX12_goesTo 34 = .ok (.invokestatic 126, 3) := by decide +kernel
theorem dX12_goesTo_37 : decode cX12_goesTo 37 = .ok (.iconst (-1), 1) := by decide +kernel
theorem dX12_goesTo_38 : decode cX12_goesTo 38 = .ok (.if_icmp .eq 24, 3) := by decide +kernel
theorem dX12_goesTo_41 : decode cX12_goesTo 41 = .ok (.aload_n 0, 1) := by decide +kernel
theorem dX12_goesTo_42 : decode cX12_goesTo 42 = .ok (.iload_n 3, 1) := by decide +kernel
theorem dX12_goesTo_43 : decode cX12_goesTo 43 = .ok (.iload 5, 2) := by decide +kernel
theorem dX12_goesTo_45 : decode cX12_goesTo 45 = .ok (.invokestatic 126, 3) := by decide +kernel
theorem dX12_goesTo_48 : decode cX12_goesTo 48 = .ok (.aload_n 0, 1) := by decide +kernel
theorem dX12_goesTo_49 : decode cX12_goesTo 49 = .ok (.getfield 110, 3) := by decide +kernel
theorem dX12_goesTo_52 : decode cX12_goesTo 52 = .ok (.invokevirtual 134, 3) := by decide +kernel
theorem dX12_goesTo_55 : decode cX12_goesTo 55 = .ok (.iload 4, 2) := by decide +kernel
theorem dX12_goesTo_57 : decode cX12_goesTo 57 = .ok (.iconst 1, 1) := by decide +kernel
theorem dX12_goesTo_58 : decode cX12_goesTo 58 = .ok (.isub, 1) := by decide +kernel
theorem dX12_goesTo_59 : decode cX12_goesTo 59 = .ok (.if_icmp .eq 12, 3) := by decide +kernel
theorem dX12_goesTo_62 : decode cX12_goesTo 62 = .ok (.iload 5, 2) := by decide +kernel
theorem dX12_goesTo_64 : decode cX12_goesTo 64 = .ok (.iconst 1, 1) := by decide +kernel
theorem dX12_goesTo_65 : decode cX12_goesTo 65 = .ok (.iadd, 1) := by decide +kernel
theorem dX12_goesTo_66 : decode cX12_goesTo 66 = .ok (.istore 5, 2) := by decide +kernel
theorem dX12_goesTo_68 : decode cX12_goesTo 68 = .ok (.goto (-37), 3) := by decide +kernel
theorem dX12_goesTo_71 : decode cX12_goesTo 71 = .ok (.iload_n 3, 1) := by decide +kernel
theorem dX12_goesTo_72 : decode cX12_goesTo 72 = .ok (.iload 5, 2) := by decide +kernel
theorem dX12_goesTo_74 : decode cX12_goesTo 74 = .ok (.invokestatic 126, 3) := by decide +kernel
theorem dX12_goesTo_77 : decode cX12_goesTo 77 = .ok (.ireturn, 1) := by decide +kernel
theorem dX12_goesTo_78 : decode cX12_goesTo 78 = .ok (.aload_n 0, 1) := by decide +kernel
theorem dX12_goesTo_79 : decode cX12_goesTo 79 = .ok (.iload_n 1, 1) := by decide +kernel
theorem dX12_goesTo_80 : decode cX12_goesTo 80 = .ok (.iload_n 2, 1) := by decide +kernel
theorem dX12_goesTo_81 : decode cX12_goesTo 81 = .ok (.iload_n 3, 1) := by decide +kernel
theorem dX12_goesTo_82 : decode cX12_goesTo 82 = .ok (.invokevirtual 286, 3) := by decide +kernel
theorem dX12_goesTo_85 : decode cX12_goesTo 85 = .ok (.aload_n 0, 1) := by decide +kernel
theorem dX12_goesTo_86 : decode cX12_goesTo 86 = .ok (.bipush 115, 2) := by decide +kernel
theorem dX12_goesTo_88 : decode cX12_goesTo 88 = .ok (.invokevirtual 290, 3) := by decide +kernel
theorem dX12_goesTo_91 : decode cX12_goesTo 91 = .ok (.ifCond .eq 5, 3) := by decide +kernel
theorem dX12_goesTo_94 : decode cX12_goesTo 94 = .ok (.iload_n 3, 1) := by decide +kernel
theorem dX12_goesTo_95 : decode cX12_goesTo 95 = .ok (.ireturn, 1) := by decide +kernel
theorem dX12_goesTo_96 : decode cX12_goesTo 96 = .ok (.iload_n 3, 1) := by decide +kernel
theorem dX12_goesTo_97 : decode cX12_goesTo 97 = .ok (.istore 5, 2) := by decide +kernel
theorem dX12_goesTo_99 : decode cX12_goesTo 99 = .ok (.iconst 0, 1) := by decide +kernel
theorem dX12_goesTo_100 : decode cX12_goesTo 100 = .ok (.istore 6, 2) := by decide +kernel
theorem dX12_goesTo_102 : decode cX12_goesTo 102 = .ok (.iconst 0, 1) := by decide +kernel
theorem dX12_goesTo_103 : decode cX12_goesTo 103 = .ok (.istore 7, 2) := by decide +kernel
theorem dX12_goesTo_105 : decode cX12_goesTo 105 = .ok (.iload 7, 2) := by decide +kernel
theorem dX12_goesTo_107 : decode cX12_goesTo 107 = .ok (.iconst 4, 1) := by decide +kernel
theorem dX12_goesTo_108 : decode cX12_goesTo 108 = .ok (.if_icmp .ge 72, 3) := by decide +kernel
theorem dX12_goesTo_111 : decode cX12_goesTo 111 = .ok (.iload_n 3, 1) := by decide +kernel
theorem dX12_goesTo_112 : decode cX12_goesTo 112 = .ok (.iload 7, 2) := by decide +kernel
theorem dX12_goesTo_114 : decode cX12_goesTo 114 = .ok (.invokestatic 126, 3) := by decide +kernel
theorem dX12_goesTo_117 : decode cX12_goesTo 117 = .ok (.istore 8, 2) := by decide +kernel
theorem dX12_goesTo_119 : decode cX12_goesTo 119 = .ok (.iload 8, 2) := by decide +kernel
theorem dX12_goesTo_121 : decode cX12_goesTo 121 = .ok (.iconst (-1), 1) := by decide +kernel
theorem dX12_goesTo_122 : decode cX12_goesTo 122 = .ok (.if_icmp .eq 52, 3) := by decide +kernel
theorem dX12_goesTo_125 : decode cX12_goesTo 125 = .ok (.aload_n 0, 1) := by decide +kernel
theorem dX12_goesTo_126 : decode cX12_goesTo 126 = .ok (.iload 8, 2) := by decide +kernel
theorem dX12_goesTo_128 : decode cX12_goesTo 128 = .ok (.invokevirtual 122, 3) := by decide +kernel
theorem dX12_goesTo_131 : decode cX12_goesTo 131 = .ok (.ifCond .ne 6, 3) := by decide +kernel
theorem dX12_goesTo_134 : decode cX12_goesTo 134 = .ok (.goto 40, 3) := by decide +kernel
theorem dX12_goesTo_137 : decode cX12_goesTo 137 = .ok (.aload_n 0, 1) := by decide +kernel
theorem dX12_goesTo_138 : decode cX12_goesTo 138 = .ok (.iload_n 1, 1) := by decide +kernel
theorem dX12_goesTo_139 : decode cX12_goesTo 139 = .ok (.iload_n 2, 1) := by decide +kernel
theorem dX12_goesTo_140 : decode cX12_goesTo 140 = .ok (.iload 8, 2) := by decide +kernel
theorem dX12_goesTo_142 : decode cX12_goesTo 142 = .ok (.invokevirtual 286, 3) := by decide +kernel
theorem dX12_goesTo_145 : decode cX12_goesTo 145 = .ok (.aload_n 0, 1) := by decide +kernel
theorem dX12_goesTo_146 : decode cX12_goesTo 146 = .ok (.bipush 101, 2) := by decide +kernel
theorem dX12_goesTo_148 : decode cX12_goesTo 148 = .ok (.sipush 9999, 3) := by decide +kernel
theorem dX12_goesTo_151 : decode cX12_goesTo 151 = .ok (.invokevirtual 270, 3) := by decide +kernel
theorem dX12_goesTo_154 : decode cX12_goesTo 154 = .ok (.istore 9, 2) := by decide +kernel
theorem dX12_goesTo_156 : decode cX12_goesTo 156 = .ok (.iload 9, 2) := by decide +kernel
theorem dX12_goesTo_158 : decode cX12_goesTo 158 = .ok (.iload 6, 2) := by decide +kernel
theorem dX12_goesTo_160 : decode cX12_goesTo 160 = .ok (.if_icmp .gt 6, 3) := by decide +kernel
theorem dX12_goesTo_163 : decode cX12_goesTo 163 = .ok (.goto 11, 3) := by decide +kernel
theorem dX12_goesTo_166 : decode cX12_goesTo 166 = .ok (.iload 9, 2) := by decide +kernel
theorem dX12_goesTo_168 : decode cX12_goesTo 168 = .ok (.istore 6, 2) := by decide +kernel
theorem dX12_goesTo_170 : decode cX12_goesTo 170 = .ok (.iload 8, 2) := by decide +kernel
theorem dX12_goesTo_172 : decode cX12_goesTo 172 = .ok (.istore 5, 2) := by decide +kernel
theorem dX12_goesTo_174 : decode cX12_goesTo 174 = .ok (.iinc 7 1, 3) := by decide +kernel
theorem dX12_goesTo_177 : decode cX12_goesTo 177 = .ok (.goto (-72), 3) := by decide +kernel
theorem dX12_goesTo_180 : decode cX12_goesTo 180 = .ok (.iload 5, 2) := by decide +kernel
theorem dX12_goesTo_182 : decode cX12_goesTo 182 = .ok (.ireturn, 1) := by decide +kernel
def b12_goesTo_174 (rc : Nat → List Int32 → List Int64 → Mem → Option (Int32 × Mem)) (n : Nat) (i1 : Int32) (i2 : Int32) (i3 : Int32) (i5 : Int32) (i6 : Int32) (i7 : Int32) (M : Mem) : Option (Int32 × Mem) :=
  lt (i7 + (1 : Int32)) fun v44 =>
  rc 105 [i1, i2, i3, i5, i6, v44] [] M
def b12_goesTo_105 (rc : Nat → List Int32 → List Int64 → Mem → Option (Int32 × Mem)) (n : Nat) (i1 : Int32) (i2 : Int32) (i3 : Int32) (i5 : Int32) (i6 : Int32) (i7 : Int32) (M : Mem) : Option (Int32 × Mem) :=
  (if (4 : Int32) ≤ i7 then (
   some (i5, M))
  else (
   bnd (f12_beside n i3 i7 M) fun r29 M30 =>
   (if r29 = (-1 : Int32) then (
    b12_goesTo_174  rc n i1 i2 i3 i5 i6 i7 M30)
   else (
    bnd (f12_isOpen n r29 M30) fun r33 M34 =>
    (if r33 = 0 then (
     b12_goesTo_174  rc n i1 i2 i3 i5 i6 i7 M34)
    else (
     bnd (f12_feelsAt n i1 i2 r29 M34) fun r37 M38 =>
     bnd (f12_byLaw n (101 : Int32) (9999 : Int32) M38) fun r40 M41 =>
     (if i6 < r40 then (
      b12_goesTo_174  rc n i1 i2 i3 r29 r40 i7 M41)
     else (
      b12_goesTo_174  rc n i1 i2 i3 i5 i6 i7 M41))))))))
def b12_goesTo_78 (rc : Nat → List Int32 → List Int64 → Mem → Option (Int32 × Mem)) (n : Nat) (i1 : Int32) (i2 : Int32) (i3 : Int32) (M : Mem) : Option (Int32 × Mem) :=
  bnd (f12_feelsAt n i1 i2 i3 M) fun r21 M22 =>
  bnd (f12_holdsAny n (115 : Int32) M22) fun r24 M25 =>
  (if r24 = 0 then (
   b12_goesTo_105  rc n i1 i2 i3 i3 (0 : Int32) (0 : Int32) M25)
  else (
   some (i3, M25)))
def b12_goesTo_62 (rc : Nat → List Int32 → List Int64 → Mem → Option (Int32 × Mem)) (n : Nat) (i3 : Int32) (i4 : Int32) (i5 : Int32) (M : Mem) : Option (Int32 × Mem) :=
  lt (i5 + (1 : Int32)) fun v20 =>
  rc 31 [i3, i4, v20] [] M
def b12_goesTo_31 (rc : Nat → List Int32 → List Int64 → Mem → Option (Int32 × Mem)) (n : Nat) (i3 : Int32) (i4 : Int32) (i5 : Int32) (M : Mem) : Option (Int32 × Mem) :=
  bnd (f12_beside n i3 i5 M) fun r6 M7 =>
  (if r6 = (-1 : Int32) then (
   b12_goesTo_62  rc n i3 i4 i5 M7)
  else (
   bnd (f12_beside n i3 i5 M7) fun r10 M11 =>
   bnd (f12_steps n r10 (M11.1 0 5) M11) fun r13 M14 =>
   (if r13 = (i4 - (1 : Int32)) then (
    bnd (f12_beside n i3 i5 M14) fun r17 M18 =>
    some (r17, M18))
   else (
    b12_goesTo_62  rc n i3 i4 i5 M14))))
def b12_goesTo_0 (rc : Nat → List Int32 → List Int64 → Mem → Option (Int32 × Mem)) (n : Nat) (a1 : Int32) (a2 : Int32) (a3 : Int32) (M : Mem) : Option (Int32 × Mem) :=
  bnd (f12_steps n a3 (M.1 0 5) M) fun r1 M2 =>
  (if a3 = (M2.1 0 5) then (
   b12_goesTo_78  rc n a1 a2 a3 M2)
  else (
   (if r1 < ((59 : Int32) - a2) then (
    b12_goesTo_78  rc n a1 a2 a3 M2)
   else (
    b12_goesTo_31  rc n a3 r1 (0 : Int32) M2))))
def r12_goesTo : Nat → Nat → List Int32 → List Int64 → Mem → Option (Int32 × Mem)
  | 0 => fun _ _ _ _ => none
  | n + 1 => fun pc li lj M =>
    if pc = 31 then (match li, lj with | [i3, i4, i5], [] => b12_goesTo_31  (r12_goesTo  n) n i3 i4 i5 M | _, _ => none) else
    if pc = 105 then (match li, lj with | [i1, i2, i3, i5, i6, i7], [] => b12_goesTo_105  (r12_goesTo  n) n i1 i2 i3 i5 i6 i7 M | _, _ => none) else
    none
theorem e12_goesTo_31  (n : Nat) (i3 : Int32) (i4 : Int32) (i5 : Int32) (M : Mem) : r12_goesTo  (n + 1) 31 [i3, i4, i5] [] M = b12_goesTo_31  (r12_goesTo  n) n i3 i4 i5 M := by
  rw [r12_goesTo]
  simp
theorem e12_goesTo_105  (n : Nat) (i1 : Int32) (i2 : Int32) (i3 : Int32) (i5 : Int32) (i6 : Int32) (i7 : Int32) (M : Mem) : r12_goesTo  (n + 1) 105 [i1, i2, i3, i5, i6, i7] [] M = b12_goesTo_105  (r12_goesTo  n) n i1 i2 i3 i5 i6 i7 M := by
  rw [r12_goesTo]
  simp
def f12_goesTo (n : Nat) (a1 : Int32) (a2 : Int32) (a3 : Int32) (M : Mem) : Option (Int32 × Mem) := b12_goesTo_0 (r12_goesTo n) n a1 a2 a3 M
abbrev rm12_goesTo : Room := { frames := 7, cells := 0, slots := 0, locals := 158 }
theorem y12_goesTo_w : yV RX12 yX12_goesTo cX12_goesTo 10 (some .int) 3 := ⟨g_1473, gp 67 rfl rfl, g_14, g_1474, rfl, by decide, by decide, by decide +kernel⟩
set_option maxHeartbeats 4000000 in
set_option maxRecDepth 100000 in
theorem w12_goesTo_174 {p : Program} {l : Launch} {e : Env} {s : State} {m : MethodId} {args : Array Value} {below : List Frame} {meth : Method} {c : Code} {z : Zt} {b : Nat}  (C : Cx p s m args c cX12_goesTo 10 RX12 z 32 b) (hr : meth.sig.returnType = (some .int)) (hk : meth.locks = false) {r : Int32} {M' : Mem} {rc : Nat → List Int32 → List Int64 → Mem → Option (Int32 × Mem)} {n : Nat} (q31 : ∀ (i3 : Int32) (i4 : Int32) (i5 : Int32) (M : Mem) (H : Heap) (locs : List Loc) (ls : Array Slot), rc 31 [i3, i4, i5] [] M = some (r, M') → va_P z.1 vwCl (pw (yd z b) 32 b M) H → va_S (pA 32 b) s.heap H locs → lv_has ls 10 [(0, .ref (b + 0)), (3, .int i3), (4, .int i4), (5, .int i5)] → W p l e rm12_goesTo s m args below meth c H locs 0 0 (MQ below (va_Qi (fun (r' : Int32) (M2 : Mem) => r' = r ∧ M2 = M') (fun M2 t => va_P z.1 vwCl (pw (yd z b) 32 b M2) t.heap) (pA 32 b)) args s 0 0 (pA 32 b)) (F0 m 31 ls [])) (q105 : ∀ (i1 : Int32) (i2 : Int32) (i3 : Int32) (i5 : Int32) (i6 : Int32) (i7 : Int32) (M : Mem) (H : Heap) (locs : List Loc) (ls : Array Slot), rc 105 [i1, i2, i3, i5, i6, i7] [] M = some (r, M') → va_P z.1 vwCl (pw (yd z b) 32 b M) H → va_S (pA 32 b) s.heap H locs → lv_has ls 10 [(0, .ref (b + 0)), (1, .int i1), (2, .int i2), (3, .int i3), (5, .int i5), (6, .int i6), (7, .int i7)] → W p l e rm12_goesTo s m args below meth c H locs 0 0 (MQ below (va_Qi (fun (r' : Int32) (M2 : Mem) => r' = r ∧ M2 = M') (fun M2 t => va_P z.1 vwCl (pw (yd z b) 32 b M2) t.heap) (pA 32 b)) args s 0 0 (pA 32 b)) (F0 m 105 ls [])) {i1 : Int32} {i2 : Int32} {i3 : Int32} {i5 : Int32} {i6 : Int32} {i7 : Int32} {M : Mem} {H : Heap} {locs : List Loc} {ls : Array Slot} (hf : b12_goesTo_174  rc n i1 i2 i3 i5 i6 i7 M = some (r, M')) (hP : va_P z.1 vwCl (pw (yd z b) 32 b M) H) (hS : va_S (pA 32 b) s.heap H locs) (hl : lv_has ls 10 [(0, .ref (b + 0)), (1, .int i1), (2, .int i2), (3, .int i3), (5, .int i5), (6, .int i6), (7, .int i7)]) : W p l e rm12_goesTo s m args below meth c H locs 0 0 (MQ below (va_Qi (fun (r' : Int32) (M2 : Mem) => r' = r ∧ M2 = M') (fun M2 t => va_P z.1 vwCl (pw (yd z b) 32 b M2) t.heap) (pA 32 b)) args s 0 0 (pA 32 b)) (F0 m 174 ls []) := by
  have hx := C.1.1
  have hb := C.1.2.1
  unfold b12_goesTo_174 at hf
  obtain ⟨v44, ev44⟩ : ∃ v : Int32, v = i7 + (1 : Int32) := ⟨_, rfl⟩
  replace hf := lt_c ev44 hf
  refine lv_iinc (v := v44) (lv' := [(7, .int v44), (0, .ref (b + 0)), (1, .int i1), (2, .int i2), (3, .int i3), (5, .int i5), (6, .int i6)]) hx hb dX12_goesTo_174 hl (k := 6) rfl (by rw [ev44]; rfl) (by decide) rfl (fun ls hl => ?_)
  refine lv_goto (tgt := 105) hx hb dX12_goesTo_177 (by decide) ?_
  exact q105 i1 i2 i3 i5 i6 v44 M _ _ _ hf hP hS (lv_sub hl [1, 2, 3, 4, 5, 6, 0] rfl)
set_option maxHeartbeats 4000000 in
set_option maxRecDepth 100000 in
theorem w12_goesTo_105 {p : Program} {l : Launch} {e : Env} {s : State} {m : MethodId} {args : Array Value} {below : List Frame} {meth : Method} {c : Code} {z : Zt} {b : Nat}  (C : Cx p s m args c cX12_goesTo 10 RX12 z 32 b) (hr : meth.sig.returnType = (some .int)) (hk : meth.locks = false) {r : Int32} {M' : Mem} {rc : Nat → List Int32 → List Int64 → Mem → Option (Int32 × Mem)} {n : Nat} (q31 : ∀ (i3 : Int32) (i4 : Int32) (i5 : Int32) (M : Mem) (H : Heap) (locs : List Loc) (ls : Array Slot), rc 31 [i3, i4, i5] [] M = some (r, M') → va_P z.1 vwCl (pw (yd z b) 32 b M) H → va_S (pA 32 b) s.heap H locs → lv_has ls 10 [(0, .ref (b + 0)), (3, .int i3), (4, .int i4), (5, .int i5)] → W p l e rm12_goesTo s m args below meth c H locs 0 0 (MQ below (va_Qi (fun (r' : Int32) (M2 : Mem) => r' = r ∧ M2 = M') (fun M2 t => va_P z.1 vwCl (pw (yd z b) 32 b M2) t.heap) (pA 32 b)) args s 0 0 (pA 32 b)) (F0 m 31 ls [])) (q105 : ∀ (i1 : Int32) (i2 : Int32) (i3 : Int32) (i5 : Int32) (i6 : Int32) (i7 : Int32) (M : Mem) (H : Heap) (locs : List Loc) (ls : Array Slot), rc 105 [i1, i2, i3, i5, i6, i7] [] M = some (r, M') → va_P z.1 vwCl (pw (yd z b) 32 b M) H → va_S (pA 32 b) s.heap H locs → lv_has ls 10 [(0, .ref (b + 0)), (1, .int i1), (2, .int i2), (3, .int i3), (5, .int i5), (6, .int i6), (7, .int i7)] → W p l e rm12_goesTo s m args below meth c H locs 0 0 (MQ below (va_Qi (fun (r' : Int32) (M2 : Mem) => r' = r ∧ M2 = M') (fun M2 t => va_P z.1 vwCl (pw (yd z b) 32 b M2) t.heap) (pA 32 b)) args s 0 0 (pA 32 b)) (F0 m 105 ls [])) {i1 : Int32} {i2 : Int32} {i3 : Int32} {i5 : Int32} {i6 : Int32} {i7 : Int32} {M : Mem} {H : Heap} {locs : List Loc} {ls : Array Slot} (hf : b12_goesTo_105  rc n i1 i2 i3 i5 i6 i7 M = some (r, M')) (hP : va_P z.1 vwCl (pw (yd z b) 32 b M) H) (hS : va_S (pA 32 b) s.heap H locs) (hl : lv_has ls 10 [(0, .ref (b + 0)), (1, .int i1), (2, .int i2), (3, .int i3), (5, .int i5), (6, .int i6), (7, .int i7)]) : W p l e rm12_goesTo s m args below meth c H locs 0 0 (MQ below (va_Qi (fun (r' : Int32) (M2 : Mem) => r' = r ∧ M2 = M') (fun M2 t => va_P z.1 vwCl (pw (yd z b) 32 b M2) t.heap) (pA 32 b)) args s 0 0 (pA 32 b)) (F0 m 105 ls []) := by
  have hx := C.1.1
  have hb := C.1.2.1
  unfold b12_goesTo_105 at hf
  refine lv_iload hx hb dX12_goesTo_105 (lv_at hl 6 rfl) ?_
  refine lv_iconst (v := (4 : Int32)) hx hb dX12_goesTo_107 (by decide) ?_
  refine lv_icmp_ge (tgt := 180) hx hb dX12_goesTo_108 (by decide) (fun c28 => ?_) (fun c28 => ?_)
  · replace hf := ite_t c28 hf
    refine lv_iload hx hb dX12_goesTo_180 (lv_at hl 4 rfl) ?_
    exact prI C hr hk hP hS hf dX12_goesTo_182
  · replace hf := ite_f c28 hf
    refine lv_iload_n hx hb dX12_goesTo_111 rfl (lv_at hl 3 rfl) ?_
    refine lv_iload hx hb dX12_goesTo_112 (lv_at hl 6 rfl) ?_
    obtain ⟨r29, M30, h31, hf⟩ := bnd_s hf
    refine pcSi (As := [.int i3, .int i7]) C hP hS (c12_beside  h31) y12_beside_w g_1487 rfl rfl rfl ⟨Nat.le_of_ble_eq_true rfl, Nat.le_of_ble_eq_true rfl⟩ hl.1 rfl (Nat.le_of_ble_eq_true rfl) dX12_goesTo_114 ⟨Nat.le_of_ble_eq_true rfl, Nat.le_of_ble_eq_true rfl⟩ (fun H locs hP hS => ?_)
    refine lv_istore (lv' := [(8, .int r29), (0, .ref (b + 0)), (1, .int i1), (2, .int i2), (3, .int i3), (5, .int i5), (6, .int i6), (7, .int i7)]) hx hb dX12_goesTo_117 hl (by decide) rfl (fun ls hl => ?_)
    refine lv_iload hx hb dX12_goesTo_119 (lv_at hl 0 rfl) ?_
    refine lv_iconst (v := (-1 : Int32)) hx hb dX12_goesTo_121 (by decide) ?_
    refine lv_icmp_eq (tgt := 174) hx hb dX12_goesTo_122 (by decide) (fun c32 => ?_) (fun c32 => ?_)
    · replace hf := ite_t c32 hf
      exact w12_goesTo_174 (n := n)  C hr hk q31 q105 hf hP hS (lv_sub hl [1, 2, 3, 4, 5, 6, 7] rfl)
    · replace hf := ite_f c32 hf
      refine lv_aload_n hx hb dX12_goesTo_125 rfl (lv_at hl 1 rfl) ?_
      refine lv_iload hx hb dX12_goesTo_126 (lv_at hl 0 rfl) ?_
      obtain ⟨r33, M34, h35, hf⟩ := bnd_s hf
      refine pcVi (As := [.int r29]) C hP hS (k := 0) (Nat.le_of_ble_eq_true rfl) (yd_0 _ _) rfl (c12_isOpen  h35) y12_isOpen_w g_1483 rfl rfl rfl ⟨Nat.le_of_ble_eq_true rfl, Nat.le_of_ble_eq_true rfl⟩ hl.1 rfl (Nat.le_of_ble_eq_true rfl) dX12_goesTo_128 ⟨Nat.le_of_ble_eq_true rfl, Nat.le_of_ble_eq_true rfl⟩ (fun H locs hP hS => ?_)
      refine lv_if_ne (tgt := 137) hx hb dX12_goesTo_131 (by decide) (fun c36 => ?_) (fun c36 => ?_)
      · replace hf := ite_f c36 hf
        refine lv_aload_n hx hb dX12_goesTo_137 rfl (lv_at hl 1 rfl) ?_
        refine lv_iload_n hx hb dX12_goesTo_138 rfl (lv_at hl 2 rfl) ?_
        refine lv_iload_n hx hb dX12_goesTo_139 rfl (lv_at hl 3 rfl) ?_
        refine lv_iload hx hb dX12_goesTo_140 (lv_at hl 0 rfl) ?_
        obtain ⟨r37, M38, h39, hf⟩ := bnd_s hf
        refine pcVv (As := [.int i1, .int i2, .int r29]) C hP hS (k := 0) (Nat.le_of_ble_eq_true rfl) (yd_0 _ _) rfl (c12_feelsAt  h39) y12_feelsAt_w g_1490 rfl rfl rfl ⟨Nat.le_of_ble_eq_true rfl, Nat.le_of_ble_eq_true rfl⟩ hl.1 rfl (Nat.le_of_ble_eq_true rfl) dX12_goesTo_142 ⟨Nat.le_of_ble_eq_true rfl, Nat.le_of_ble_eq_true rfl⟩ (fun H locs hP hS => ?_)
        refine lv_aload_n hx hb dX12_goesTo_145 rfl (lv_at hl 1 rfl) ?_
        refine lv_bipush (v := (101 : Int32)) hx hb dX12_goesTo_146 (by decide) ?_
        refine lv_sipush (v := (9999 : Int32)) hx hb dX12_goesTo_148 (by decide) ?_
        obtain ⟨r40, M41, h42, hf⟩ := bnd_s hf
        refine pcVi (As := [.int (101 : Int32), .int (9999 : Int32)]) C hP hS (k := 0) (Nat.le_of_ble_eq_true rfl) (yd_0 _ _) rfl (c12_byLaw  h42) y12_byLaw_w g_1459 rfl rfl rfl ⟨Nat.le_of_ble_eq_true rfl, Nat.le_of_ble_eq_true rfl⟩ hl.1 rfl (Nat.le_of_ble_eq_true rfl) dX12_goesTo_151 ⟨Nat.le_of_ble_eq_true rfl, Nat.le_of_ble_eq_true rfl⟩ (fun H locs hP hS => ?_)
        refine lv_istore (lv' := [(9, .int r40), (8, .int r29), (0, .ref (b + 0)), (1, .int i1), (2, .int i2), (3, .int i3), (5, .int i5), (6, .int i6), (7, .int i7)]) hx hb dX12_goesTo_154 hl (by decide) rfl (fun ls hl => ?_)
        refine lv_iload hx hb dX12_goesTo_156 (lv_at hl 0 rfl) ?_
        refine lv_iload hx hb dX12_goesTo_158 (lv_at hl 7 rfl) ?_
        refine lv_icmp_gt (tgt := 166) hx hb dX12_goesTo_160 (by decide) (fun c43 => ?_) (fun c43 => ?_)
        · replace hf := ite_t c43 hf
          refine lv_iload hx hb dX12_goesTo_166 (lv_at hl 0 rfl) ?_
          refine lv_istore (lv' := [(6, .int r40), (9, .int r40), (8, .int r29), (0, .ref (b + 0)), (1, .int i1), (2, .int i2), (3, .int i3), (5, .int i5), (7, .int i7)]) hx hb dX12_goesTo_168 hl (by decide) rfl (fun ls hl => ?_)
          refine lv_iload hx hb dX12_goesTo_170 (lv_at hl 2 rfl) ?_
          refine lv_istore (lv' := [(5, .int r29), (6, .int r40), (9, .int r40), (8, .int r29), (0, .ref (b + 0)), (1, .int i1), (2, .int i2), (3, .int i3), (7, .int i7)]) hx hb dX12_goesTo_172 hl (by decide) rfl (fun ls hl => ?_)
          exact w12_goesTo_174 (n := n)  C hr hk q31 q105 hf hP hS (lv_sub hl [4, 5, 6, 7, 0, 1, 8] rfl)
        · replace hf := ite_f c43 hf
          refine lv_goto (tgt := 174) hx hb dX12_goesTo_163 (by decide) ?_
          exact w12_goesTo_174 (n := n)  C hr hk q31 q105 hf hP hS (lv_sub hl [2, 3, 4, 5, 6, 7, 8] rfl)
      · replace hf := ite_t c36 hf
        refine lv_goto (tgt := 174) hx hb dX12_goesTo_134 (by decide) ?_
        exact w12_goesTo_174 (n := n)  C hr hk q31 q105 hf hP hS (lv_sub hl [1, 2, 3, 4, 5, 6, 7] rfl)
set_option maxHeartbeats 4000000 in
set_option maxRecDepth 100000 in
theorem w12_goesTo_78 {p : Program} {l : Launch} {e : Env} {s : State} {m : MethodId} {args : Array Value} {below : List Frame} {meth : Method} {c : Code} {z : Zt} {b : Nat}  (C : Cx p s m args c cX12_goesTo 10 RX12 z 32 b) (hr : meth.sig.returnType = (some .int)) (hk : meth.locks = false) {r : Int32} {M' : Mem} {rc : Nat → List Int32 → List Int64 → Mem → Option (Int32 × Mem)} {n : Nat} (q31 : ∀ (i3 : Int32) (i4 : Int32) (i5 : Int32) (M : Mem) (H : Heap) (locs : List Loc) (ls : Array Slot), rc 31 [i3, i4, i5] [] M = some (r, M') → va_P z.1 vwCl (pw (yd z b) 32 b M) H → va_S (pA 32 b) s.heap H locs → lv_has ls 10 [(0, .ref (b + 0)), (3, .int i3), (4, .int i4), (5, .int i5)] → W p l e rm12_goesTo s m args below meth c H locs 0 0 (MQ below (va_Qi (fun (r' : Int32) (M2 : Mem) => r' = r ∧ M2 = M') (fun M2 t => va_P z.1 vwCl (pw (yd z b) 32 b M2) t.heap) (pA 32 b)) args s 0 0 (pA 32 b)) (F0 m 31 ls [])) (q105 : ∀ (i1 : Int32) (i2 : Int32) (i3 : Int32) (i5 : Int32) (i6 : Int32) (i7 : Int32) (M : Mem) (H : Heap) (locs : List Loc) (ls : Array Slot), rc 105 [i1, i2, i3, i5, i6, i7] [] M = some (r, M') → va_P z.1 vwCl (pw (yd z b) 32 b M) H → va_S (pA 32 b) s.heap H locs → lv_has ls 10 [(0, .ref (b + 0)), (1, .int i1), (2, .int i2), (3, .int i3), (5, .int i5), (6, .int i6), (7, .int i7)] → W p l e rm12_goesTo s m args below meth c H locs 0 0 (MQ below (va_Qi (fun (r' : Int32) (M2 : Mem) => r' = r ∧ M2 = M') (fun M2 t => va_P z.1 vwCl (pw (yd z b) 32 b M2) t.heap) (pA 32 b)) args s 0 0 (pA 32 b)) (F0 m 105 ls [])) {i1 : Int32} {i2 : Int32} {i3 : Int32} {M : Mem} {H : Heap} {locs : List Loc} {ls : Array Slot} (hf : b12_goesTo_78  rc n i1 i2 i3 M = some (r, M')) (hP : va_P z.1 vwCl (pw (yd z b) 32 b M) H) (hS : va_S (pA 32 b) s.heap H locs) (hl : lv_has ls 10 [(0, .ref (b + 0)), (1, .int i1), (2, .int i2), (3, .int i3)]) : W p l e rm12_goesTo s m args below meth c H locs 0 0 (MQ below (va_Qi (fun (r' : Int32) (M2 : Mem) => r' = r ∧ M2 = M') (fun M2 t => va_P z.1 vwCl (pw (yd z b) 32 b M2) t.heap) (pA 32 b)) args s 0 0 (pA 32 b)) (F0 m 78 ls []) := by
  have hx := C.1.1
  have hb := C.1.2.1
  unfold b12_goesTo_78 at hf
  refine lv_aload_n hx hb dX12_goesTo_78 rfl (lv_at hl 0 rfl) ?_
  refine lv_iload_n hx hb dX12_goesTo_79 rfl (lv_at hl 1 rfl) ?_
  refine lv_iload_n hx hb dX12_goesTo_80 rfl (lv_at hl 2 rfl) ?_
  refine lv_iload_n hx hb dX12_goesTo_81 rfl (lv_at hl 3 rfl) ?_
  obtain ⟨r21, M22, h23, hf⟩ := bnd_s hf
  refine pcVv (As := [.int i1, .int i2, .int i3]) C hP hS (k := 0) (Nat.le_of_ble_eq_true rfl) (yd_0 _ _) rfl (c12_feelsAt  h23) y12_feelsAt_w g_1490 rfl rfl rfl ⟨Nat.le_of_ble_eq_true rfl, Nat.le_of_ble_eq_true rfl⟩ hl.1 rfl (Nat.le_of_ble_eq_true rfl) dX12_goesTo_82 ⟨Nat.le_of_ble_eq_true rfl, Nat.le_of_ble_eq_true rfl⟩ (fun H locs hP hS => ?_)
  refine lv_aload_n hx hb dX12_goesTo_85 rfl (lv_at hl 0 rfl) ?_
  refine lv_bipush (v := (115 : Int32)) hx hb dX12_goesTo_86 (by decide) ?_
  obtain ⟨r24, M25, h26, hf⟩ := bnd_s hf
  refine pcVi (As := [.int (115 : Int32)]) C hP hS (k := 0) (Nat.le_of_ble_eq_true rfl) (yd_0 _ _) rfl (c12_holdsAny  h26) y12_holdsAny_w g_1501 rfl rfl rfl ⟨Nat.le_of_ble_eq_true rfl, Nat.le_of_ble_eq_true rfl⟩ hl.1 rfl (Nat.le_of_ble_eq_true rfl) dX12_goesTo_88 ⟨Nat.le_of_ble_eq_true rfl, Nat.le_of_ble_eq_true rfl⟩ (fun H locs hP hS => ?_)
  refine lv_if_eq (tgt := 96) hx hb dX12_goesTo_91 (by decide) (fun c27 => ?_) (fun c27 => ?_)
  · replace hf := ite_t c27 hf
    refine lv_iload_n hx hb dX12_goesTo_96 rfl (lv_at hl 3 rfl) ?_
    refine lv_istore (lv' := [(5, .int i3), (0, .ref (b + 0)), (1, .int i1), (2, .int i2), (3, .int i3)]) hx hb dX12_goesTo_97 hl (by decide) rfl (fun ls hl => ?_)
    refine lv_iconst (v := (0 : Int32)) hx hb dX12_goesTo_99 (by decide) ?_
    refine lv_istore (lv' := [(6, .int (0 : Int32)), (5, .int i3), (0, .ref (b + 0)), (1, .int i1), (2, .int i2), (3, .int i3)]) hx hb dX12_goesTo_100 hl (by decide) rfl (fun ls hl => ?_)
    refine lv_iconst (v := (0 : Int32)) hx hb dX12_goesTo_102 (by decide) ?_
    refine lv_istore (lv' := [(7, .int (0 : Int32)), (6, .int (0 : Int32)), (5, .int i3), (0, .ref (b + 0)), (1, .int i1), (2, .int i2), (3, .int i3)]) hx hb dX12_goesTo_103 hl (by decide) rfl (fun ls hl => ?_)
    exact w12_goesTo_105 (n := n)  C hr hk q31 q105 hf hP hS (lv_sub hl [3, 4, 5, 6, 2, 1, 0] rfl)
  · replace hf := ite_f c27 hf
    refine lv_iload_n hx hb dX12_goesTo_94 rfl (lv_at hl 3 rfl) ?_
    exact prI C hr hk hP hS hf dX12_goesTo_95
set_option maxHeartbeats 4000000 in
set_option maxRecDepth 100000 in
theorem w12_goesTo_62 {p : Program} {l : Launch} {e : Env} {s : State} {m : MethodId} {args : Array Value} {below : List Frame} {meth : Method} {c : Code} {z : Zt} {b : Nat}  (C : Cx p s m args c cX12_goesTo 10 RX12 z 32 b) (hr : meth.sig.returnType = (some .int)) (hk : meth.locks = false) {r : Int32} {M' : Mem} {rc : Nat → List Int32 → List Int64 → Mem → Option (Int32 × Mem)} {n : Nat} (q31 : ∀ (i3 : Int32) (i4 : Int32) (i5 : Int32) (M : Mem) (H : Heap) (locs : List Loc) (ls : Array Slot), rc 31 [i3, i4, i5] [] M = some (r, M') → va_P z.1 vwCl (pw (yd z b) 32 b M) H → va_S (pA 32 b) s.heap H locs → lv_has ls 10 [(0, .ref (b + 0)), (3, .int i3), (4, .int i4), (5, .int i5)] → W p l e rm12_goesTo s m args below meth c H locs 0 0 (MQ below (va_Qi (fun (r' : Int32) (M2 : Mem) => r' = r ∧ M2 = M') (fun M2 t => va_P z.1 vwCl (pw (yd z b) 32 b M2) t.heap) (pA 32 b)) args s 0 0 (pA 32 b)) (F0 m 31 ls [])) (q105 : ∀ (i1 : Int32) (i2 : Int32) (i3 : Int32) (i5 : Int32) (i6 : Int32) (i7 : Int32) (M : Mem) (H : Heap) (locs : List Loc) (ls : Array Slot), rc 105 [i1, i2, i3, i5, i6, i7] [] M = some (r, M') → va_P z.1 vwCl (pw (yd z b) 32 b M) H → va_S (pA 32 b) s.heap H locs → lv_has ls 10 [(0, .ref (b + 0)), (1, .int i1), (2, .int i2), (3, .int i3), (5, .int i5), (6, .int i6), (7, .int i7)] → W p l e rm12_goesTo s m args below meth c H locs 0 0 (MQ below (va_Qi (fun (r' : Int32) (M2 : Mem) => r' = r ∧ M2 = M') (fun M2 t => va_P z.1 vwCl (pw (yd z b) 32 b M2) t.heap) (pA 32 b)) args s 0 0 (pA 32 b)) (F0 m 105 ls [])) {i3 : Int32} {i4 : Int32} {i5 : Int32} {M : Mem} {H : Heap} {locs : List Loc} {ls : Array Slot} (hf : b12_goesTo_62  rc n i3 i4 i5 M = some (r, M')) (hP : va_P z.1 vwCl (pw (yd z b) 32 b M) H) (hS : va_S (pA 32 b) s.heap H locs) (hl : lv_has ls 10 [(0, .ref (b + 0)), (3, .int i3), (4, .int i4), (5, .int i5)]) : W p l e rm12_goesTo s m args below meth c H locs 0 0 (MQ below (va_Qi (fun (r' : Int32) (M2 : Mem) => r' = r ∧ M2 = M') (fun M2 t => va_P z.1 vwCl (pw (yd z b) 32 b M2) t.heap) (pA 32 b)) args s 0 0 (pA 32 b)) (F0 m 62 ls []) := by
  have hx := C.1.1
  have hb := C.1.2.1
  unfold b12_goesTo_62 at hf
  refine lv_iload hx hb dX12_goesTo_62 (lv_at hl 3 rfl) ?_
  refine lv_iconst (v := (1 : Int32)) hx hb dX12_goesTo_64 (by decide) ?_
  refine lv_iadd hx hb dX12_goesTo_65 ?_
  refine lv_topi (fun v20 ev20 => ?_)
  replace hf := lt_c ev20 hf
  refine lv_istore (lv' := [(5, .int v20), (0, .ref (b + 0)), (3, .int i3), (4, .int i4)]) hx hb dX12_goesTo_66 hl (by decide) rfl (fun ls hl => ?_)
  refine lv_goto (tgt := 31) hx hb dX12_goesTo_68 (by decide) ?_
  exact q31 i3 i4 v20 M _ _ _ hf hP hS (lv_sub hl [1, 2, 3, 0] rfl)
set_option maxHeartbeats 4000000 in
set_option maxRecDepth 100000 in
theorem w12_goesTo_31 {p : Program} {l : Launch} {e : Env} {s : State} {m : MethodId} {args : Array Value} {below : List Frame} {meth : Method} {c : Code} {z : Zt} {b : Nat}  (C : Cx p s m args c cX12_goesTo 10 RX12 z 32 b) (hr : meth.sig.returnType = (some .int)) (hk : meth.locks = false) {r : Int32} {M' : Mem} {rc : Nat → List Int32 → List Int64 → Mem → Option (Int32 × Mem)} {n : Nat} (q31 : ∀ (i3 : Int32) (i4 : Int32) (i5 : Int32) (M : Mem) (H : Heap) (locs : List Loc) (ls : Array Slot), rc 31 [i3, i4, i5] [] M = some (r, M') → va_P z.1 vwCl (pw (yd z b) 32 b M) H → va_S (pA 32 b) s.heap H locs → lv_has ls 10 [(0, .ref (b + 0)), (3, .int i3), (4, .int i4), (5, .int i5)] → W p l e rm12_goesTo s m args below meth c H locs 0 0 (MQ below (va_Qi (fun (r' : Int32) (M2 : Mem) => r' = r ∧ M2 = M') (fun M2 t => va_P z.1 vwCl (pw (yd z b) 32 b M2) t.heap) (pA 32 b)) args s 0 0 (pA 32 b)) (F0 m 31 ls [])) (q105 : ∀ (i1 : Int32) (i2 : Int32) (i3 : Int32) (i5 : Int32) (i6 : Int32) (i7 : Int32) (M : Mem) (H : Heap) (locs : List Loc) (ls : Array Slot), rc 105 [i1, i2, i3, i5, i6, i7] [] M = some (r, M') → va_P z.1 vwCl (pw (yd z b) 32 b M) H → va_S (pA 32 b) s.heap H locs → lv_has ls 10 [(0, .ref (b + 0)), (1, .int i1), (2, .int i2), (3, .int i3), (5, .int i5), (6, .int i6), (7, .int i7)] → W p l e rm12_goesTo s m args below meth c H locs 0 0 (MQ below (va_Qi (fun (r' : Int32) (M2 : Mem) => r' = r ∧ M2 = M') (fun M2 t => va_P z.1 vwCl (pw (yd z b) 32 b M2) t.heap) (pA 32 b)) args s 0 0 (pA 32 b)) (F0 m 105 ls [])) {i3 : Int32} {i4 : Int32} {i5 : Int32} {M : Mem} {H : Heap} {locs : List Loc} {ls : Array Slot} (hf : b12_goesTo_31  rc n i3 i4 i5 M = some (r, M')) (hP : va_P z.1 vwCl (pw (yd z b) 32 b M) H) (hS : va_S (pA 32 b) s.heap H locs) (hl : lv_has ls 10 [(0, .ref (b + 0)), (3, .int i3), (4, .int i4), (5, .int i5)]) : W p l e rm12_goesTo s m args below meth c H locs 0 0 (MQ below (va_Qi (fun (r' : Int32) (M2 : Mem) => r' = r ∧ M2 = M') (fun M2 t => va_P z.1 vwCl (pw (yd z b) 32 b M2) t.heap) (pA 32 b)) args s 0 0 (pA 32 b)) (F0 m 31 ls []) := by
  have hx := C.1.1
  have hb := C.1.2.1
  unfold b12_goesTo_31 at hf
  refine lv_iload_n hx hb dX12_goesTo_31 rfl (lv_at hl 1 rfl) ?_
  refine lv_iload hx hb dX12_goesTo_32 (lv_at hl 3 rfl) ?_
  obtain ⟨r6, M7, h8, hf⟩ := bnd_s hf
  refine pcSi (As := [.int i3, .int i5]) C hP hS (c12_beside  h8) y12_beside_w g_1487 rfl rfl rfl ⟨Nat.le_of_ble_eq_true rfl, Nat.le_of_ble_eq_true rfl⟩ hl.1 rfl (Nat.le_of_ble_eq_true rfl) dX12_goesTo_34 ⟨Nat.le_of_ble_eq_true rfl, Nat.le_of_ble_eq_true rfl⟩ (fun H locs hP hS => ?_)
  refine lv_iconst (v := (-1 : Int32)) hx hb dX12_goesTo_37 (by decide) ?_
  refine lv_icmp_eq (tgt := 62) hx hb dX12_goesTo_38 (by decide) (fun c9 => ?_) (fun c9 => ?_)
  · replace hf := ite_t c9 hf
    exact w12_goesTo_62 (n := n)  C hr hk q31 q105 hf hP hS (lv_sub hl [0, 1, 2, 3] rfl)
  · replace hf := ite_f c9 hf
    refine lv_aload_n hx hb dX12_goesTo_41 rfl (lv_at hl 0 rfl) ?_
    refine lv_iload_n hx hb dX12_goesTo_42 rfl (lv_at hl 1 rfl) ?_
    refine lv_iload hx hb dX12_goesTo_43 (lv_at hl 3 rfl) ?_
    obtain ⟨r10, M11, h12, hf⟩ := bnd_s hf
    refine pcSi (As := [.int i3, .int i5]) C hP hS (c12_beside  h12) y12_beside_w g_1487 rfl rfl rfl ⟨Nat.le_of_ble_eq_true rfl, Nat.le_of_ble_eq_true rfl⟩ hl.1 rfl (Nat.le_of_ble_eq_true rfl) dX12_goesTo_45 ⟨Nat.le_of_ble_eq_true rfl, Nat.le_of_ble_eq_true rfl⟩ (fun H locs hP hS => ?_)
    refine lv_aload_n hx hb dX12_goesTo_48 rfl (lv_at hl 0 rfl) ?_
    refine pg C hP (k := 0) (j := 5) (Nat.le_of_ble_eq_true rfl) (yd_0 _ _) rfl iw_12 (Nat.le_of_ble_eq_true rfl) g_1140 rfl rfl dX12_goesTo_49 ?_
    obtain ⟨r13, M14, h15, hf⟩ := bnd_s hf
    refine pcVi (As := [.int r10, .int (M11.1 0 5)]) C hP hS (k := 0) (Nat.le_of_ble_eq_true rfl) (yd_0 _ _) rfl (c12_steps  h15) y12_steps_w g_1475 rfl rfl rfl ⟨Nat.le_of_ble_eq_true rfl, Nat.le_of_ble_eq_true rfl⟩ hl.1 rfl (Nat.le_of_ble_eq_true rfl) dX12_goesTo_52 ⟨Nat.le_of_ble_eq_true rfl, Nat.le_of_ble_eq_true rfl⟩ (fun H locs hP hS => ?_)
    refine lv_iload hx hb dX12_goesTo_55 (lv_at hl 2 rfl) ?_
    refine lv_iconst (v := (1 : Int32)) hx hb dX12_goesTo_57 (by decide) ?_
    refine lv_isub hx hb dX12_goesTo_58 ?_
    refine lv_icmp_eq (tgt := 71) hx hb dX12_goesTo_59 (by decide) (fun c16 => ?_) (fun c16 => ?_)
    · replace hf := ite_t c16 hf
      refine lv_iload_n hx hb dX12_goesTo_71 rfl (lv_at hl 1 rfl) ?_
      refine lv_iload hx hb dX12_goesTo_72 (lv_at hl 3 rfl) ?_
      obtain ⟨r17, M18, h19, hf⟩ := bnd_s hf
      refine pcSi (As := [.int i3, .int i5]) C hP hS (c12_beside  h19) y12_beside_w g_1487 rfl rfl rfl ⟨Nat.le_of_ble_eq_true rfl, Nat.le_of_ble_eq_true rfl⟩ hl.1 rfl (Nat.le_of_ble_eq_true rfl) dX12_goesTo_74 ⟨Nat.le_of_ble_eq_true rfl, Nat.le_of_ble_eq_true rfl⟩ (fun H locs hP hS => ?_)
      exact prI C hr hk hP hS hf dX12_goesTo_77
    · replace hf := ite_f c16 hf
      exact w12_goesTo_62 (n := n)  C hr hk q31 q105 hf hP hS (lv_sub hl [0, 1, 2, 3] rfl)
set_option maxHeartbeats 4000000 in
set_option maxRecDepth 100000 in
theorem w12_goesTo_0 {p : Program} {l : Launch} {e : Env} {s : State} {m : MethodId} {args : Array Value} {below : List Frame} {meth : Method} {c : Code} {z : Zt} {b : Nat}  (C : Cx p s m args c cX12_goesTo 10 RX12 z 32 b) (hr : meth.sig.returnType = (some .int)) (hk : meth.locks = false) {r : Int32} {M' : Mem} {rc : Nat → List Int32 → List Int64 → Mem → Option (Int32 × Mem)} {n : Nat} (q31 : ∀ (i3 : Int32) (i4 : Int32) (i5 : Int32) (M : Mem) (H : Heap) (locs : List Loc) (ls : Array Slot), rc 31 [i3, i4, i5] [] M = some (r, M') → va_P z.1 vwCl (pw (yd z b) 32 b M) H → va_S (pA 32 b) s.heap H locs → lv_has ls 10 [(0, .ref (b + 0)), (3, .int i3), (4, .int i4), (5, .int i5)] → W p l e rm12_goesTo s m args below meth c H locs 0 0 (MQ below (va_Qi (fun (r' : Int32) (M2 : Mem) => r' = r ∧ M2 = M') (fun M2 t => va_P z.1 vwCl (pw (yd z b) 32 b M2) t.heap) (pA 32 b)) args s 0 0 (pA 32 b)) (F0 m 31 ls [])) (q105 : ∀ (i1 : Int32) (i2 : Int32) (i3 : Int32) (i5 : Int32) (i6 : Int32) (i7 : Int32) (M : Mem) (H : Heap) (locs : List Loc) (ls : Array Slot), rc 105 [i1, i2, i3, i5, i6, i7] [] M = some (r, M') → va_P z.1 vwCl (pw (yd z b) 32 b M) H → va_S (pA 32 b) s.heap H locs → lv_has ls 10 [(0, .ref (b + 0)), (1, .int i1), (2, .int i2), (3, .int i3), (5, .int i5), (6, .int i6), (7, .int i7)] → W p l e rm12_goesTo s m args below meth c H locs 0 0 (MQ below (va_Qi (fun (r' : Int32) (M2 : Mem) => r' = r ∧ M2 = M') (fun M2 t => va_P z.1 vwCl (pw (yd z b) 32 b M2) t.heap) (pA 32 b)) args s 0 0 (pA 32 b)) (F0 m 105 ls [])) {a1 : Int32} {a2 : Int32} {a3 : Int32} {M : Mem} {H : Heap} {locs : List Loc} {ls : Array Slot} (hf : b12_goesTo_0  rc n a1 a2 a3 M = some (r, M')) (hP : va_P z.1 vwCl (pw (yd z b) 32 b M) H) (hS : va_S (pA 32 b) s.heap H locs) (hl : lv_has ls 10 [(0, .ref (b + 0)), (1, .int a1), (2, .int a2), (3, .int a3)]) : W p l e rm12_goesTo s m args below meth c H locs 0 0 (MQ below (va_Qi (fun (r' : Int32) (M2 : Mem) => r' = r ∧ M2 = M') (fun M2 t => va_P z.1 vwCl (pw (yd z b) 32 b M2) t.heap) (pA 32 b)) args s 0 0 (pA 32 b)) (F0 m 0 ls []) := by
  have hx := C.1.1
  have hb := C.1.2.1
  unfold b12_goesTo_0 at hf
  refine lv_aload_n hx hb dX12_goesTo_0 rfl (lv_at hl 0 rfl) ?_
  refine lv_iload_n hx hb dX12_goesTo_1 rfl (lv_at hl 3 rfl) ?_
  refine lv_aload_n hx hb dX12_goesTo_2 rfl (lv_at hl 0 rfl) ?_
  refine pg C hP (k := 0) (j := 5) (Nat.le_of_ble_eq_true rfl) (yd_0 _ _) rfl iw_12 (Nat.le_of_ble_eq_true rfl) g_1140 rfl rfl dX12_goesTo_3 ?_
  obtain ⟨r1, M2, h3, hf⟩ := bnd_s hf
  refine pcVi (As := [.int a3, .int (M.1 0 5)]) C hP hS (k := 0) (Nat.le_of_ble_eq_true rfl) (yd_0 _ _) rfl (c12_steps  h3) y12_steps_w g_1475 rfl rfl rfl ⟨Nat.le_of_ble_eq_true rfl, Nat.le_of_ble_eq_true rfl⟩ hl.1 rfl (Nat.le_of_ble_eq_true rfl) dX12_goesTo_6 ⟨Nat.le_of_ble_eq_true rfl, Nat.le_of_ble_eq_true rfl⟩ (fun H locs hP hS => ?_)
  refine lv_istore (lv' := [(4, .int r1), (0, .ref (b + 0)), (1, .int a1), (2, .int a2), (3, .int a3)]) hx hb dX12_goesTo_9 hl (by decide) rfl (fun ls hl => ?_)
  refine lv_iload_n hx hb dX12_goesTo_11 rfl (lv_at hl 4 rfl) ?_
  refine lv_aload_n hx hb dX12_goesTo_12 rfl (lv_at hl 1 rfl) ?_
  refine pg C hP (k := 0) (j := 5) (Nat.le_of_ble_eq_true rfl) (yd_0 _ _) rfl iw_12 (Nat.le_of_ble_eq_true rfl) g_1140 rfl rfl dX12_goesTo_13 ?_
  refine lv_icmp_eq (tgt := 78) hx hb dX12_goesTo_16 (by decide) (fun c4 => ?_) (fun c4 => ?_)
  · replace hf := ite_t c4 hf
    exact w12_goesTo_78 (n := n)  C hr hk q31 q105 hf hP hS (lv_sub hl [1, 2, 3, 4] rfl)
  · replace hf := ite_f c4 hf
    refine lv_iload hx hb dX12_goesTo_19 (lv_at hl 0 rfl) ?_
    refine lv_bipush (v := (59 : Int32)) hx hb dX12_goesTo_21 (by decide) ?_
    refine lv_iload_n hx hb dX12_goesTo_23 rfl (lv_at hl 3 rfl) ?_
    refine lv_isub hx hb dX12_goesTo_24 ?_
    refine lv_icmp_lt (tgt := 78) hx hb dX12_goesTo_25 (by decide) (fun c5 => ?_) (fun c5 => ?_)
    · replace hf := ite_t c5 hf
      exact w12_goesTo_78 (n := n)  C hr hk q31 q105 hf hP hS (lv_sub hl [1, 2, 3, 4] rfl)
    · replace hf := ite_f c5 hf
      refine lv_iconst (v := (0 : Int32)) hx hb dX12_goesTo_28 (by decide) ?_
      refine lv_istore (lv' := [(5, .int (0 : Int32)), (4, .int r1), (0, .ref (b + 0)), (1, .int a1), (2, .int a2), (3, .int a3)]) hx hb dX12_goesTo_29 hl (by decide) rfl (fun ls hl => ?_)
      exact w12_goesTo_31 (n := n)  C hr hk q31 q105 hf hP hS (lv_sub hl [2, 5, 1, 0] rfl)
set_option maxHeartbeats 4000000 in
set_option maxRecDepth 100000 in
theorem l12_goesTo {p : Program} {l : Launch} {e : Env} {s : State} {m : MethodId} {args : Array Value} {below : List Frame} {meth : Method} {c : Code} {z : Zt} {b : Nat}  (C : Cx p s m args c cX12_goesTo 10 RX12 z 32 b) (hr : meth.sig.returnType = (some .int)) (hk : meth.locks = false) {r : Int32} {M' : Mem} (n : Nat) : (∀ (i3 : Int32) (i4 : Int32) (i5 : Int32) (M : Mem) (H : Heap) (locs : List Loc) (ls : Array Slot), (r12_goesTo  n) 31 [i3, i4, i5] [] M = some (r, M') → va_P z.1 vwCl (pw (yd z b) 32 b M) H → va_S (pA 32 b) s.heap H locs → lv_has ls 10 [(0, .ref (b + 0)), (3, .int i3), (4, .int i4), (5, .int i5)] → W p l e rm12_goesTo s m args below meth c H locs 0 0 (MQ below (va_Qi (fun (r' : Int32) (M2 : Mem) => r' = r ∧ M2 = M') (fun M2 t => va_P z.1 vwCl (pw (yd z b) 32 b M2) t.heap) (pA 32 b)) args s 0 0 (pA 32 b)) (F0 m 31 ls [])) ∧ (∀ (i1 : Int32) (i2 : Int32) (i3 : Int32) (i5 : Int32) (i6 : Int32) (i7 : Int32) (M : Mem) (H : Heap) (locs : List Loc) (ls : Array Slot), (r12_goesTo  n) 105 [i1, i2, i3, i5, i6, i7] [] M = some (r, M') → va_P z.1 vwCl (pw (yd z b) 32 b M) H → va_S (pA 32 b) s.heap H locs → lv_has ls 10 [(0, .ref (b + 0)), (1, .int i1), (2, .int i2), (3, .int i3), (5, .int i5), (6, .int i6), (7, .int i7)] → W p l e rm12_goesTo s m args below meth c H locs 0 0 (MQ below (va_Qi (fun (r' : Int32) (M2 : Mem) => r' = r ∧ M2 = M') (fun M2 t => va_P z.1 vwCl (pw (yd z b) 32 b M2) t.heap) (pA 32 b)) args s 0 0 (pA 32 b)) (F0 m 105 ls [])) := by
  induction n with
  | zero => exact ⟨fun _ _ _ _ _ _ _ hf => (by cases hf), fun _ _ _ _ _ _ _ _ _ _ hf => (by cases hf)⟩
  | succ n ih => exact ⟨fun _ _ _ _ _ _ _ hf hP hS hl => w12_goesTo_31 (n := n)  C hr hk ih.1 ih.2 ((e12_goesTo_31  n _ _ _ _).symm.trans hf) hP hS hl, fun _ _ _ _ _ _ _ _ _ _ hf hP hS hl => w12_goesTo_105 (n := n)  C hr hk ih.1 ih.2 ((e12_goesTo_105  n _ _ _ _ _ _ _).symm.trans hf) hP hS hl⟩
theorem c12_goesTo {l : Launch} {z : Zt} {b n : Nat}  {a1 : Int32} {a2 : Int32} {a3 : Int32} {M M' : Mem} {r : Int32} (hf : f12_goesTo n  a1 a2 a3 M = some (r, M')) : CI l z (yd z b) 32 b yX12_goesTo cX12_goesTo 10 (some .int) rm12_goesTo [.ref (b + 0), .int a1, .int a2, .int a3] M M' r :=
  CI.ofW (lv := [(0, .ref (b + 0)), (1, .int a1), (2, .int a2), (3, .int a3)]) (by decide) (Nat.le_of_ble_eq_true rfl) rfl (fun p e s m args below meth c ls C hr hk hP hS hl => w12_goesTo_0 (n := n)  C hr hk (l12_goesTo  C hr hk n).1 (l12_goesTo  C hr hk n).2 hf hP hS hl)

-- BronzeKingModel.dayGoes()V
theorem dX12_dayGoes_0 : decode cX12_dayGoes 0 = .ok (.aload_n 0, 1) := by decide +kernel
theorem dX12_dayGoes_1 : decode cX12_dayGoes 1 = .ok (.invokevirtual 293, 3) := by decide +kernel
theorem dX12_dayGoes_4 : decode cX12_dayGoes 4 = .ok (.istore_n 1, 1) := by decide +kernel
theorem dX12_dayGoes_5 : decode cX12_dayGoes 5 = .ok (.aload_n 0, 1) := by decide +kernel
theorem dX12_dayGoes_6 : decode cX12_dayGoes 6 = .ok (.getfield 7, 3) := by decide +kernel
theorem dX12_dayGoes_9 : decode cX12_dayGoes 9 = .ok (.sipush 156, 3) := by decide +kernel
theorem dX12_dayGoes_12 : decode cX12_dayGoes 12 = .ok (.iload_n 1, 1) := by decide +kernel
theorem dX12_dayGoes_13 : decode cX12_dayGoes 13 = .ok (.iastore, 1) := by decide +kernel
theorem dX12_dayGoes_14 : decode cX12_dayGoes 14 = .ok (.aload_n 0, 1) := by decide +kernel
theorem dX12_dayGoes_15 : decode cX12_dayGoes 15 = .ok (.getfield 7, 3) := by decide +kernel
theorem dX12_dayGoes_18 : decode cX12_dayGoes 18 = .ok (.sipush 157, 3) := by decide +kernel
theorem dX12_dayGoes_21 : decode cX12_dayGoes 21 = .ok (.iconst 0, 1) := by decide +kernel
theorem dX12_dayGoes_22 : decode cX12_dayGoes 22 = .ok (.iastore, 1) := by decide +kernel
theorem dX12_dayGoes_23 : decode cX12_dayGoes 23 = .ok (.aload_n 0, 1) := by decide +kernel
theorem dX12_dayGoes_24 : decode cX12_dayGoes 24 = .ok (.getfield 7, 3) := by decide +kernel
theorem dX12_dayGoes_27 : decode cX12_dayGoes 27 = .ok (.sipush 158, 3) := by decide +kernel
theorem dX12_dayGoes_30 : decode cX12_dayGoes 30 = .ok (.iconst 0, 1) := by decide +kernel
theorem dX12_dayGoes_31 : decode cX12_dayGoes 31 = .ok (.iastore, 1) := by decide +kernel
theorem dX12_dayGoes_32 : decode cX12_dayGoes 32 = .ok (.aload_n 0, 1) := by decide +kernel
theorem dX12_dayGoes_33 : decode cX12_dayGoes 33 = .ok (.getfield 7, 3) := by decide +kernel
theorem dX12_dayGoes_36 : decode cX12_dayGoes 36 = .ok (.sipush 159, 3) := by decide +kernel
theorem dX12_dayGoes_39 : decode cX12_dayGoes 39 = .ok (.iconst 0, 1) := by decide +kernel
theorem dX12_dayGoes_40 : decode cX12_dayGoes 40 = .ok (.iastore, 1) := by decide +kernel
theorem dX12_dayGoes_41 : decode cX12_dayGoes 41 = .ok (.aload_n 0, 1) := by decide +kernel
theorem dX12_dayGoes_42 : decode cX12_dayGoes 42 = .ok (.getfield 110, 3) := by decide +kernel
theorem dX12_dayGoes_45 : decode cX12_dayGoes 45 = .ok (.istore_n 2, 1) := by decide +kernel
theorem dX12_dayGoes_46 : decode cX12_dayGoes 46 = .ok (.iconst 0, 1) := by decide +kernel
theorem dX12_dayGoes_47 : decode cX12_dayGoes 47 = .ok (.istore_n 3, 1) := by decide +kernel
theorem dX12_dayGoes_48 : decode cX12_dayGoes 48 = .ok (.iload_n 3, 1) := by decide +kernel
theorem dX12_dayGoes_49 : decode cX12_dayGoes 49 = .ok (.bipush 60, 2) := by decide +kernel
theorem dX12_dayGoes_51 : decode cX12_dayGoes 51 = .ok (.if_icmp .ge 139, 3) := by decide +kernel
theorem dX12_dayGoes_54 : decode cX12_dayGoes 54 = .ok (.iload_n 1, 1) := by decide +kernel
theorem dX12_dayGoes_55 : decode cX12_dayGoes 55 = .ok (.bipush (-2), 2) := by decide +kernel
theorem dX12_dayGoes_57 : decode cX12_dayGoes 57 = .ok (.if_icmp .eq 133, 3) := by decide +kernel
theorem dX12_dayGoes_60 : decode cX12_dayGoes 60 = .ok (.aload_n 0, 1) := by decide +kernel
theorem dX12_dayGoes_61 : decode cX12_dayGoes 61 = .ok (.iload_n 1, 1) := by decide +kernel
theorem dX12_dayGoes_62 : decode cX12_dayGoes 62 = .ok (.iload_n 3, 1) := by decide +kernel
theorem dX12_dayGoes_63 : decode cX12_dayGoes 63 = .ok (.iload_n 2, 1) := by decide +kernel
theorem dX12_dayGoes_64 : decode cX12_dayGoes 64 = .ok (.invokevirtual 296, 3) := by decide +kernel
theorem dX12_dayGoes_67 : decode cX12_dayGoes 67 = .ok (.istore 4, 2) := by decide +kernel
theorem dX12_dayGoes_69 : decode cX12_dayGoes 69 = .ok (.iload 4, 2) := by decide +kernel
theorem dX12_dayGoes_71 : decode cX12_dayGoes 71 = .ok (.iload_n 2, 1) := by decide +kernel
theorem dX12_dayGoes_72 : decode cX12_dayGoes 72 = .ok (.if_icmp .eq 99, 3) := by decide +kernel
theorem dX12_dayGoes_75 : decode cX12_dayGoes 75 = .ok (.aload_n 0, 1) := by decide +kernel
theorem dX12_dayGoes_76 : decode cX12_dayGoes 76 = .ok (.getfield 7, 3) := by decide +kernel
theorem dX12_dayGoes_79 : decode cX12_dayGoes 79 = .ok (.sipush 157, 3) := by decide +kernel
theorem dX12_dayGoes_82 : decode cX12_dayGoes 82 = .ok (.aload_n 0, 1) := by decide +kernel
theorem dX12_dayGoes_83 : decode cX12_dayGoes 83 = .ok (.getfield 7, 3) := by decide +kernel
theorem dX12_dayGoes_86 : decode cX12_dayGoes 86 = .ok (.sipush 157, 3) := by decide +kernel
theorem dX12_dayGoes_89 : decode cX12_dayGoes 89 = .ok (.iaload, 1) := by decide +kernel
theorem dX12_dayGoes_90 : decode cX12_dayGoes 90 = .ok (.iconst 1, 1) := by decide +kernel
theorem dX12_dayGoes_91 : decode cX12_dayGoes 91 = .ok (.iadd, 1) := by decide +kernel
theorem dX12_dayGoes_92 : decode cX12_dayGoes 92 = .ok (.iastore, 1) := by decide +kernel
theorem dX12_dayGoes_93 : decode cX12_dayGoes 93 = .ok (.aload_n 0, 1) := by decide +kernel
theorem dX12_dayGoes_94 : decode cX12_dayGoes 94 = .ok (.getfield 7, 3) := by decide +kernel
theorem dX12_dayGoes_97 : decode cX12_dayGoes 97 = .ok (.iconst 0, 1) := by decide +kernel
theorem dX12_dayGoes_98 : decode cX12_dayGoes 98 = .ok (.iload 4, 2) := by decide +kernel
theorem dX12_dayGoes_100 : decode cX12_dayGoes 100 = .ok (.iadd, 1) := by decide +kernel
theorem dX12_dayGoes_101 : decode cX12_dayGoes 101 = .ok (.sipush 9999, 3) := by decide +kernel
theorem dX12_dayGoes_104 : decode cX12_dayGoes 104 = .ok (.aload_n 0, 1) := by decide +kernel
theorem dX12_dayGoes_105 : decode cX12_dayGoes 105 = .ok (.getfield 7, 3) := by decide +kernel
theorem dX12_dayGoes_108 : decode cX12_dayGoes 108 = .ok (.iconst 0, 1) := by decide +kernel
theorem dX12_dayGoes_109 : decode cX12_dayGoes 109 = .ok (.iload 4, 2) := by decide +kernel
theorem dX12_dayGoes_111 : decode cX12_dayGoes 111 = .ok (.iadd, 1) := by decide +kernel
theorem dX12_dayGoes_112 : decode cX12_dayGoes 112 = .ok (.iaload, 1) := by decide +kernel
theorem dX12_dayGoes_113 : decode cX12_dayGoes 113 = .ok (.iconst 1, 1) := by decide +kernel
theorem dX12_dayGoes_114 : decode cX12_dayGoes 114 = .ok (.iadd, 1) := by decide +kernel
theorem dX12_dayGoes_115 : decode cX12_dayGoes 115 = .ok (.invokestatic 299, 3) := by decide +kernel
theorem dX12_dayGoes_118 : decode cX12_dayGoes 118 = .ok (.iastore, 1) := by decide +kernel
theorem dX12_dayGoes_119 : decode cX12_dayGoes 119 = .ok (.aload_n 0, 1) := by decide +kernel
theorem dX12_dayGoes_120 : decode cX12_dayGoes 120 = .ok (.getfield 7, 3) := by decide +kernel
theorem dX12_dayGoes_123 : decode cX12_dayGoes 123 = .ok (.sipush 158, 3) := by decide +kernel
theorem dX12_dayGoes_126 : decode cX12_dayGoes 126 = .ok (.aload_n 0, 1) := by decide +kernel
theorem dX12_dayGoes_127 : decode cX12_dayGoes 127 = .ok (.getfield 7, 3) := by decide +kernel
theorem dX12_dayGoes_130 : decode cX12_dayGoes 130 = .ok (.sipush 158, 3) := by decide +kernel
theorem dX12_dayGoes_133 : decode cX12_dayGoes 133 = .ok (.iaload, 1) := by decide +kernel
theorem dX12_dayGoes_134 : decode cX12_dayGoes 134 = .ok (.aload_n 0, 1) := by decide +kernel
theorem dX12_dayGoes_135 : decode cX12_dayGoes 135 = .ok (.iload 4, 2) := by decide +kernel
theorem dX12_dayGoes_137 : decode cX12_dayGoes 137 = .ok (.invokevirtual 302, 3) := by decide +kernel
theorem dX12_dayGoes_140 : decode cX12_dayGoes 140 = .ok (.ior, 1) := by decide +kernel
theorem dX12_dayGoes_141 : decode cX12_dayGoes 141 = .ok (.iastore, 1) := by decide +kernel
theorem dX12_dayGoes_142 : decode cX12_dayGoes 142 = .ok (.aload_n 0, 1) := by decide +kernel
theorem dX12_dayGoes_143 : decode cX12_dayGoes 143 = .ok (.getfield 7, 3) := by decide +kernel
theorem dX12_dayGoes_146 : decode cX12_dayGoes 146 = .ok (.sipush 159, 3) := by decide +kernel
theorem dX12_dayGoes_149 : decode cX12_dayGoes 149 = .ok (.aload_n 0, 1) := by decide +kernel
theorem dX12_dayGoes_150 : decode cX12_dayGoes 150 = .ok (.getfield 7, 3) := by decide +kernel
theorem dX12_dayGoes_153 : decode cX12_dayGoes 153 = .ok (.sipush 159, 3) := by decide +kernel
theorem dX12_dayGoes_156 : decode cX12_dayGoes 156 = .ok (.iaload, 1) := by decide +kernel
theorem dX12_dayGoes_157 : decode cX12_dayGoes 157 = .ok (.aload_n 0, 1) := by decide +kernel
theorem dX12_dayGoes_158 : decode cX12_dayGoes 158 = .ok (.iload 4, 2) := by decide +kernel
theorem dX12_dayGoes_160 : decode cX12_dayGoes 160 = .ok (.aload_n 0, 1) := by decide +kernel
theorem dX12_dayGoes_161 : decode cX12_dayGoes 161 = .ok (.getfield 110, 3) := by decide +kernel
theorem dX12_dayGoes_164 : decode cX12_dayGoes 164 = .ok (.invokevirtual 134, 3) := by decide +kernel
theorem dX12_dayGoes_167 : decode cX12_dayGoes 167 = .ok (.invokestatic 305, 3) := by decide +kernel
theorem dX12_dayGoes_170 : decode cX12_dayGoes 170 = .ok (.iastore, 1) := by decide +kernel
theorem dX12_dayGoes_171 : decode cX12_dayGoes 171 = .ok (.iload 4, 2) := by decide +kernel
theorem dX12_dayGoes_173 : decode cX12_dayGoes 173 = .ok (.istore_n 2, 1) := by decide +kernel
theorem dX12_dayGoes_174 : decode cX12_dayGoes 174 = .ok (.aload_n 0, 1) := by decide +kernel
theorem dX12_dayGoes_175 : decode cX12_dayGoes 175 = .ok (.getfield 7, 3) := by decide +kernel
theorem dX12_dayGoes_178 : decode cX12_dayGoes 178 = .ok (.bipush 96, 2) := by decide +kernel
theorem dX12_dayGoes_180 : decode cX12_dayGoes 180 = .ok (.iload_n 3, 1) := by decide +kernel
theorem dX12_dayGoes_181 : decode cX12_dayGoes 181 = .ok (.iadd, 1) := by decide +kernel
theorem dX12_dayGoes_182 : decode cX12_dayGoes 182 = .ok (.iload_n 2, 1) := by decide +kernel
theorem dX12_dayGoes_183 : decode cX12_dayGoes 183 = .ok (.iastore, 1) := by decide +kernel
theorem dX12_dayGoes_184 : decode cX12_dayGoes 184 = .ok (.iinc 3 1, 3) := by decide +kernel
theorem dX12_dayGoes_187 : decode cX12_dayGoes 187 = .ok (.goto (-139), 3) := by decide +kernel
theorem dX12_dayGoes_190 : decode cX12_dayGoes 190 = .ok (.aload_n 0, 1) := by decide +kernel
theorem dX12_dayGoes_191 : decode cX12_dayGoes 191 = .ok (.aload_n 0, 1) := by decide +kernel
theorem dX12_dayGoes_192 : decode cX12_dayGoes 192 = .ok (.getfield 308, 3) := by decide +kernel
theorem dX12_dayGoes_195 : decode cX12_dayGoes 195 = .ok (.aload_n 0, 1) := by decide +kernel
theorem dX12_dayGoes_196 : decode cX12_dayGoes 196 = .ok (.getfield 7, 3) := by decide +kernel
theorem dX12_dayGoes_199 : decode cX12_dayGoes 199 = .ok (.sipush 157, 3) := by decide +kernel
theorem dX12_dayGoes_202 : decode cX12_dayGoes 202 = .ok (.iaload, 1) := by decide +kernel
theorem dX12_dayGoes_203 : decode cX12_dayGoes 203 = .ok (.iadd, 1) := by decide +kernel
theorem dX12_dayGoes_204 : decode cX12_dayGoes 204 = .ok (.putfield 308, 3) := by decide +kernel
theorem dX12_dayGoes_207 : decode cX12_dayGoes 207 = .ok (.aload_n 0, 1) := by decide +kernel
theorem dX12_dayGoes_208 : decode cX12_dayGoes 208 = .ok (.aload_n 0, 1) := by decide +kernel
theorem dX12_dayGoes_209 : decode cX12_dayGoes 209 = .ok (.getfield 311, 3) := by decide +kernel
theorem dX12_dayGoes_212 : decode cX12_dayGoes 212 = .ok (.aload_n 0, 1) := by decide +kernel
theorem dX12_dayGoes_213 : decode cX12_dayGoes 213 = .ok (.getfield 7, 3) := by decide +kernel
theorem dX12_dayGoes_216 : decode cX12_dayGoes 216 = .ok (.sipush 158, 3) := by decide +kernel
theorem dX12_dayGoes_219 : decode cX12_dayGoes 219 = .ok (.iaload, 1) := by decide +kernel
theorem dX12_dayGoes_220 : decode cX12_dayGoes 220 = .ok (.invokestatic 283, 3) := by decide +kernel
theorem dX12_dayGoes_223 : decode cX12_dayGoes 223 = .ok (.iadd, 1) := by decide +kernel
theorem dX12_dayGoes_224 : decode cX12_dayGoes 224 = .ok (.putfield 311, 3) := by decide +kernel
theorem dX12_dayGoes_227 : decode cX12_dayGoes 227 = .ok (.iload_n 1, 1) := by decide +kernel
theorem dX12_dayGoes_228 : decode cX12_dayGoes 228 = .ok (.bipush (-2), 2) := by decide +kernel
theorem dX12_dayGoes_230 : decode cX12_dayGoes 230 = .ok (.if_icmp .eq 13, 3) := by decide +kernel
theorem dX12_dayGoes_233 : decode cX12_dayGoes 233 = .ok (.aload_n 0, 1) := by decide +kernel
theorem dX12_dayGoes_234 : decode cX12_dayGoes 234 = .ok (.aload_n 0, 1) := by decide +kernel
theorem dX12_dayGoes_235 : decode cX12_dayGoes 235 = .ok (.getfield 314, 3) := by decide +kernel
theorem dX12_dayGoes_238 : decode cX12_dayGoes 238 = .ok (.iconst 1, 1) := by decide +kernel
theorem dX12_dayGoes_239 : decode cX12_dayGoes 239 = .ok (.iadd, 1) := by decide +kernel
theorem dX12_dayGoes_240 : decode cX12_dayGoes 240 = .ok (.putfield 314, 3) := by decide +kernel
theorem dX12_dayGoes_243 : decode cX12_dayGoes 243 = .ok (.aload_n 0, 1) := by decide +kernel
theorem dX12_dayGoes_244 : decode cX12_dayGoes 244 = .ok (.getfield 7, 3) := by decide +kernel
theorem dX12_dayGoes_247 : decode cX12_dayGoes 247 = .ok (.sipush 160, 3) := by decide +kernel
theorem dX12_dayGoes_250 : decode cX12_dayGoes 250 = .ok (.aload_n 0, 1) := by decide +kernel
theorem dX12_dayGoes_251 : decode cX12_dayGoes 251 = .ok (.getfield 7, 3) := by decide +kernel
theorem dX12_dayGoes_254 : decode cX12_dayGoes 254 = .ok (.sipush 160, 3) := by decide +kernel
theorem dX12_dayGoes_257 : decode cX12_dayGoes 257 = .ok (.iaload, 1) := by decide +kernel
theorem dX12_dayGoes_258 : decode cX12_dayGoes 258 = .ok (.iconst 1, 1) := by decide +kernel
theorem dX12_dayGoes_259 : decode cX12_dayGoes 259 = .ok (.iadd, 1) := by decide +kernel
theorem dX12_dayGoes_260 : decode cX12_dayGoes 260 = .ok (.iastore, 1) := by decide +kernel
theorem dX12_dayGoes_261 : decode cX12_dayGoes 261 = .ok (.return_, 1) := by decide +kernel
def b12_dayGoes_243 (rc : Nat → List Int32 → List Int64 → Mem → Option (Unit × Mem)) (n : Nat) (M : Mem) : Option (Unit × Mem) :=
  chk (inb (160 : Int32) 162) <|
  chk (inb (160 : Int32) 162) <|
  lt (wI M 1 (160 : Int32).toNatClampNeg ((M.1 1 (160 : Int32).toNatClampNeg) + (1 : Int32))) fun M57 =>
  some ((), M57)
def b12_dayGoes_190 (rc : Nat → List Int32 → List Int64 → Mem → Option (Unit × Mem)) (n : Nat) (i1 : Int32) (M : Mem) : Option (Unit × Mem) :=
  chk (inb (157 : Int32) 162) <|
  lt (wI M 0 37 ((M.1 0 37) + (M.1 1 (157 : Int32).toNatClampNeg))) fun M47 =>
  chk (inb (158 : Int32) 162) <|
  bnd (f12_bits n (M47.1 1 (158 : Int32).toNatClampNeg) M47) fun r49 M50 =>
  lt (wI M50 0 39 ((M47.1 0 39) + r49)) fun M52 =>
  (if i1 = (-2 : Int32) then (
   b12_dayGoes_243  rc n  M52)
  else (
   lt (wI M52 0 38 ((M52.1 0 38) + (1 : Int32))) fun M54 =>
   b12_dayGoes_243  rc n  M54))
def b12_dayGoes_171 (rc : Nat → List Int32 → List Int64 → Mem → Option (Unit × Mem)) (n : Nat) (i1 : Int32) (i3 : Int32) (i4 : Int32) (M : Mem) : Option (Unit × Mem) :=
  chk (inb ((96 : Int32) + i3) 162) <|
  lt (wI M 1 ((96 : Int32) + i3).toNatClampNeg i4) fun M44 =>
  lt (i3 + (1 : Int32)) fun v45 =>
  rc 48 [i1, i4, v45] [] M44
def b12_dayGoes_48 (rc : Nat → List Int32 → List Int64 → Mem → Option (Unit × Mem)) (n : Nat) (i1 : Int32) (i2 : Int32) (i3 : Int32) (M : Mem) : Option (Unit × Mem) :=
  (if (60 : Int32) ≤ i3 then (
   b12_dayGoes_190  rc n i1 M)
  else (
   (if i1 = (-2 : Int32) then (
    b12_dayGoes_190  rc n i1 M)
   else (
    bnd (f12_goesTo n i1 i3 i2 M) fun r15 M16 =>
    (if r15 = i2 then (
     b12_dayGoes_171  rc n i1 i3 r15 M16)
    else (
     chk (inb (157 : Int32) 162) <|
     chk (inb (157 : Int32) 162) <|
     lt (wI M16 1 (157 : Int32).toNatClampNeg ((M16.1 1 (157 : Int32).toNatClampNeg) + (1 : Int32))) fun M21 =>
     chk (inb ((0 : Int32) + r15) 162) <|
     bnd (f12_min n (9999 : Int32) ((M21.1 1 ((0 : Int32) + r15).toNatClampNeg) + (1 : Int32)) M21) fun r23 M24 =>
     chk (inb ((0 : Int32) + r15) 162) <|
     lt (wI M24 1 ((0 : Int32) + r15).toNatClampNeg r23) fun M27 =>
     chk (inb (158 : Int32) 162) <|
     bnd (f12_doorsIn n r15 M27) fun r29 M30 =>
     chk (inb (158 : Int32) 162) <|
     lt (wI M30 1 (158 : Int32).toNatClampNeg ((M27.1 1 (158 : Int32).toNatClampNeg) ||| r29)) fun M33 =>
     chk (inb (159 : Int32) 162) <|
     bnd (f12_steps n r15 (M33.1 0 5) M33) fun r35 M36 =>
     bnd (f12_max n (M33.1 1 (159 : Int32).toNatClampNeg) r35 M36) fun r38 M39 =>
     chk (inb (159 : Int32) 162) <|
     lt (wI M39 1 (159 : Int32).toNatClampNeg r38) fun M42 =>
     b12_dayGoes_171  rc n i1 i3 r15 M42))))))
def b12_dayGoes_0 (rc : Nat → List Int32 → List Int64 → Mem → Option (Unit × Mem)) (n : Nat) (M : Mem) : Option (Unit × Mem) :=
  bnd (f12_drawsHour n M) fun r1 M2 =>
  chk (inb (156 : Int32) 162) <|
  lt (wI M2 1 (156 : Int32).toNatClampNeg r1) fun M5 =>
  chk (inb (157 : Int32) 162) <|
  lt (wI M5 1 (157 : Int32).toNatClampNeg (0 : Int32)) fun M7 =>
  chk (inb (158 : Int32) 162) <|
  lt (wI M7 1 (158 : Int32).toNatClampNeg (0 : Int32)) fun M9 =>
  chk (inb (159 : Int32) 162) <|
  lt (wI M9 1 (159 : Int32).toNatClampNeg (0 : Int32)) fun M11 =>
  lt (M11.1 0 5) fun v12 =>
  b12_dayGoes_48  rc n r1 v12 (0 : Int32) M11
def r12_dayGoes : Nat → Nat → List Int32 → List Int64 → Mem → Option (Unit × Mem)
  | 0 => fun _ _ _ _ => none
  | n + 1 => fun pc li lj M =>
    if pc = 48 then (match li, lj with | [i1, i2, i3], [] => b12_dayGoes_48  (r12_dayGoes  n) n i1 i2 i3 M | _, _ => none) else
    none
theorem e12_dayGoes_48  (n : Nat) (i1 : Int32) (i2 : Int32) (i3 : Int32) (M : Mem) : r12_dayGoes  (n + 1) 48 [i1, i2, i3] [] M = b12_dayGoes_48  (r12_dayGoes  n) n i1 i2 i3 M := by
  rw [r12_dayGoes]
  simp
def f12_dayGoes (n : Nat)  (M : Mem) : Option (Unit × Mem) := b12_dayGoes_0 (r12_dayGoes n) n M
abbrev rm12_dayGoes : Room := { frames := 8, cells := 0, slots := 0, locals := 187 }
theorem y12_dayGoes_w : yV RX12 yX12_dayGoes cX12_dayGoes 5 none 0 := ⟨g_1445, gp 61 rfl rfl, g_14, g_1446, rfl, by decide, by decide, by decide +kernel⟩
set_option maxHeartbeats 4000000 in
set_option maxRecDepth 100000 in
theorem w12_dayGoes_243 {p : Program} {l : Launch} {e : Env} {s : State} {m : MethodId} {args : Array Value} {below : List Frame} {meth : Method} {c : Code} {z : Zt} {b : Nat}  (C : Cx p s m args c cX12_dayGoes 5 RX12 z 32 b) (hr : meth.sig.returnType = none) (hk : meth.locks = false) {r : Unit} {M' : Mem} {rc : Nat → List Int32 → List Int64 → Mem → Option (Unit × Mem)} {n : Nat} (q48 : ∀ (i1 : Int32) (i2 : Int32) (i3 : Int32) (M : Mem) (H : Heap) (locs : List Loc) (ls : Array Slot), rc 48 [i1, i2, i3] [] M = some (r, M') → va_P z.1 vwCl (pw (yd z b) 32 b M) H → va_S (pA 32 b) s.heap H locs → lv_has ls 5 [(0, .ref (b + 0)), (1, .int i1), (2, .int i2), (3, .int i3)] → W p l e rm12_dayGoes s m args below meth c H locs 0 0 (MQ below (va_Qv (fun (M2 : Mem) => M2 = M') (fun M2 t => va_P z.1 vwCl (pw (yd z b) 32 b M2) t.heap) (pA 32 b)) args s 0 0 (pA 32 b)) (F0 m 48 ls []))  {M : Mem} {H : Heap} {locs : List Loc} {ls : Array Slot} (hf : b12_dayGoes_243  rc n  M = some (r, M')) (hP : va_P z.1 vwCl (pw (yd z b) 32 b M) H) (hS : va_S (pA 32 b) s.heap H locs) (hl : lv_has ls 5 [(0, .ref (b + 0))]) : W p l e rm12_dayGoes s m args below meth c H locs 0 0 (MQ below (va_Qv (fun (M2 : Mem) => M2 = M') (fun M2 t => va_P z.1 vwCl (pw (yd z b) 32 b M2) t.heap) (pA 32 b)) args s 0 0 (pA 32 b)) (F0 m 243 ls []) := by
  have hx := C.1.1
  have hb := C.1.2.1
  unfold b12_dayGoes_243 at hf
  refine lv_aload_n hx hb dX12_dayGoes_243 rfl (lv_at hl 0 rfl) ?_
  refine pg C hP (k := 0) (j := 0) (Nat.le_of_ble_eq_true rfl) (yd_0 _ _) rfl iw_12 (Nat.le_of_ble_eq_true rfl) g_1135 rfl rfl dX12_dayGoes_244 ?_
  refine lv_sipush (v := (160 : Int32)) hx hb dX12_dayGoes_247 (by decide) ?_
  refine lv_aload_n hx hb dX12_dayGoes_250 rfl (lv_at hl 0 rfl) ?_
  refine pg C hP (k := 0) (j := 0) (Nat.le_of_ble_eq_true rfl) (yd_0 _ _) rfl iw_12 (Nat.le_of_ble_eq_true rfl) g_1135 rfl rfl dX12_dayGoes_251 ?_
  refine lv_sipush (v := (160 : Int32)) hx hb dX12_dayGoes_254 (by decide) ?_
  have h55 := chk_1 hf
  replace hf := chk_2 hf
  refine paI C hP (k := 1) (Nat.le_of_ble_eq_true rfl) (yd_1 _ _) h55 dX12_dayGoes_257 ?_
  refine lv_iconst (v := (1 : Int32)) hx hb dX12_dayGoes_258 (by decide) ?_
  refine lv_iadd hx hb dX12_dayGoes_259 ?_
  have h56 := chk_1 hf
  replace hf := chk_2 hf
  refine psI C hP hS (k := 1) (Nat.le_of_ble_eq_true rfl) (yd_1) h56 dX12_dayGoes_260 (fun M57 H locs eM57 hP hS => ?_)
  replace hf := lt_c eM57 hf
  exact prV C hr hk hP hS hf dX12_dayGoes_261
set_option maxHeartbeats 4000000 in
set_option maxRecDepth 100000 in
theorem w12_dayGoes_190 {p : Program} {l : Launch} {e : Env} {s : State} {m : MethodId} {args : Array Value} {below : List Frame} {meth : Method} {c : Code} {z : Zt} {b : Nat}  (C : Cx p s m args c cX12_dayGoes 5 RX12 z 32 b) (hr : meth.sig.returnType = none) (hk : meth.locks = false) {r : Unit} {M' : Mem} {rc : Nat → List Int32 → List Int64 → Mem → Option (Unit × Mem)} {n : Nat} (q48 : ∀ (i1 : Int32) (i2 : Int32) (i3 : Int32) (M : Mem) (H : Heap) (locs : List Loc) (ls : Array Slot), rc 48 [i1, i2, i3] [] M = some (r, M') → va_P z.1 vwCl (pw (yd z b) 32 b M) H → va_S (pA 32 b) s.heap H locs → lv_has ls 5 [(0, .ref (b + 0)), (1, .int i1), (2, .int i2), (3, .int i3)] → W p l e rm12_dayGoes s m args below meth c H locs 0 0 (MQ below (va_Qv (fun (M2 : Mem) => M2 = M') (fun M2 t => va_P z.1 vwCl (pw (yd z b) 32 b M2) t.heap) (pA 32 b)) args s 0 0 (pA 32 b)) (F0 m 48 ls [])) {i1 : Int32} {M : Mem} {H : Heap} {locs : List Loc} {ls : Array Slot} (hf : b12_dayGoes_190  rc n i1 M = some (r, M')) (hP : va_P z.1 vwCl (pw (yd z b) 32 b M) H) (hS : va_S (pA 32 b) s.heap H locs) (hl : lv_has ls 5 [(0, .ref (b + 0)), (1, .int i1)]) : W p l e rm12_dayGoes s m args below meth c H locs 0 0 (MQ below (va_Qv (fun (M2 : Mem) => M2 = M') (fun M2 t => va_P z.1 vwCl (pw (yd z b) 32 b M2) t.heap) (pA 32 b)) args s 0 0 (pA 32 b)) (F0 m 190 ls []) := by
  have hx := C.1.1
  have hb := C.1.2.1
  unfold b12_dayGoes_190 at hf
  refine lv_aload_n hx hb dX12_dayGoes_190 rfl (lv_at hl 0 rfl) ?_
  refine lv_aload_n hx hb dX12_dayGoes_191 rfl (lv_at hl 0 rfl) ?_
  refine pg C hP (k := 0) (j := 37) (Nat.le_of_ble_eq_true rfl) (yd_0 _ _) rfl iw_12 (Nat.le_of_ble_eq_true rfl) g_1172 rfl rfl dX12_dayGoes_192 ?_
  refine lv_aload_n hx hb dX12_dayGoes_195 rfl (lv_at hl 0 rfl) ?_
  refine pg C hP (k := 0) (j := 0) (Nat.le_of_ble_eq_true rfl) (yd_0 _ _) rfl iw_12 (Nat.le_of_ble_eq_true rfl) g_1135 rfl rfl dX12_dayGoes_196 ?_
  refine lv_sipush (v := (157 : Int32)) hx hb dX12_dayGoes_199 (by decide) ?_
  have h46 := chk_1 hf
  replace hf := chk_2 hf
  refine paI C hP (k := 1) (Nat.le_of_ble_eq_true rfl) (yd_1 _ _) h46 dX12_dayGoes_202 ?_
  refine lv_iadd hx hb dX12_dayGoes_203 ?_
  refine ppI C hP hS (k := 0) (j := 37) (ty := .int) (Nat.le_of_ble_eq_true rfl) (yd_0 _ _) rfl iw_12 tyX12 tyX12_ok nmX12 (Nat.le_of_ble_eq_true rfl) g_1172 rfl rfl (by decide +kernel) rfl rfl (Nat.le_of_ble_eq_true rfl) (yu_0_37 _ _ _) dX12_dayGoes_204 (fun M47 H locs eM47 hP hS => ?_)
  replace hf := lt_c eM47 hf
  refine lv_aload_n hx hb dX12_dayGoes_207 rfl (lv_at hl 0 rfl) ?_
  refine lv_aload_n hx hb dX12_dayGoes_208 rfl (lv_at hl 0 rfl) ?_
  refine pg C hP (k := 0) (j := 39) (Nat.le_of_ble_eq_true rfl) (yd_0 _ _) rfl iw_12 (Nat.le_of_ble_eq_true rfl) g_1174 rfl rfl dX12_dayGoes_209 ?_
  refine lv_aload_n hx hb dX12_dayGoes_212 rfl (lv_at hl 0 rfl) ?_
  refine pg C hP (k := 0) (j := 0) (Nat.le_of_ble_eq_true rfl) (yd_0 _ _) rfl iw_12 (Nat.le_of_ble_eq_true rfl) g_1135 rfl rfl dX12_dayGoes_213 ?_
  refine lv_sipush (v := (158 : Int32)) hx hb dX12_dayGoes_216 (by decide) ?_
  have h48 := chk_1 hf
  replace hf := chk_2 hf
  refine paI C hP (k := 1) (Nat.le_of_ble_eq_true rfl) (yd_1 _ _) h48 dX12_dayGoes_219 ?_
  obtain ⟨r49, M50, h51, hf⟩ := bnd_s hf
  refine pcSi (As := [.int (M47.1 1 (158 : Int32).toNatClampNeg)]) C hP hS (c12_bits  h51) y12_bits_w g_1498 rfl rfl rfl ⟨Nat.le_of_ble_eq_true rfl, Nat.le_of_ble_eq_true rfl⟩ hl.1 rfl (Nat.le_of_ble_eq_true rfl) dX12_dayGoes_220 ⟨Nat.le_of_ble_eq_true rfl, Nat.le_of_ble_eq_true rfl⟩ (fun H locs hP hS => ?_)
  refine lv_iadd hx hb dX12_dayGoes_223 ?_
  refine ppI C hP hS (k := 0) (j := 39) (ty := .int) (Nat.le_of_ble_eq_true rfl) (yd_0 _ _) rfl iw_12 tyX12 tyX12_ok nmX12 (Nat.le_of_ble_eq_true rfl) g_1174 rfl rfl (by decide +kernel) rfl rfl (Nat.le_of_ble_eq_true rfl) (yu_0_39 _ _ _) dX12_dayGoes_224 (fun M52 H locs eM52 hP hS => ?_)
  replace hf := lt_c eM52 hf
  refine lv_iload_n hx hb dX12_dayGoes_227 rfl (lv_at hl 1 rfl) ?_
  refine lv_bipush (v := (-2 : Int32)) hx hb dX12_dayGoes_228 (by decide) ?_
  refine lv_icmp_eq (tgt := 243) hx hb dX12_dayGoes_230 (by decide) (fun c53 => ?_) (fun c53 => ?_)
  · replace hf := ite_t c53 hf
    exact w12_dayGoes_243 (n := n)  C hr hk q48 hf hP hS (lv_sub hl [0] rfl)
  · replace hf := ite_f c53 hf
    refine lv_aload_n hx hb dX12_dayGoes_233 rfl (lv_at hl 0 rfl) ?_
    refine lv_aload_n hx hb dX12_dayGoes_234 rfl (lv_at hl 0 rfl) ?_
    refine pg C hP (k := 0) (j := 38) (Nat.le_of_ble_eq_true rfl) (yd_0 _ _) rfl iw_12 (Nat.le_of_ble_eq_true rfl) g_1173 rfl rfl dX12_dayGoes_235 ?_
    refine lv_iconst (v := (1 : Int32)) hx hb dX12_dayGoes_238 (by decide) ?_
    refine lv_iadd hx hb dX12_dayGoes_239 ?_
    refine ppI C hP hS (k := 0) (j := 38) (ty := .int) (Nat.le_of_ble_eq_true rfl) (yd_0 _ _) rfl iw_12 tyX12 tyX12_ok nmX12 (Nat.le_of_ble_eq_true rfl) g_1173 rfl rfl (by decide +kernel) rfl rfl (Nat.le_of_ble_eq_true rfl) (yu_0_38 _ _ _) dX12_dayGoes_240 (fun M54 H locs eM54 hP hS => ?_)
    replace hf := lt_c eM54 hf
    exact w12_dayGoes_243 (n := n)  C hr hk q48 hf hP hS (lv_sub hl [0] rfl)
set_option maxHeartbeats 4000000 in
set_option maxRecDepth 100000 in
theorem w12_dayGoes_171 {p : Program} {l : Launch} {e : Env} {s : State} {m : MethodId} {args : Array Value} {below : List Frame} {meth : Method} {c : Code} {z : Zt} {b : Nat}  (C : Cx p s m args c cX12_dayGoes 5 RX12 z 32 b) (hr : meth.sig.returnType = none) (hk : meth.locks = false) {r : Unit} {M' : Mem} {rc : Nat → List Int32 → List Int64 → Mem → Option (Unit × Mem)} {n : Nat} (q48 : ∀ (i1 : Int32) (i2 : Int32) (i3 : Int32) (M : Mem) (H : Heap) (locs : List Loc) (ls : Array Slot), rc 48 [i1, i2, i3] [] M = some (r, M') → va_P z.1 vwCl (pw (yd z b) 32 b M) H → va_S (pA 32 b) s.heap H locs → lv_has ls 5 [(0, .ref (b + 0)), (1, .int i1), (2, .int i2), (3, .int i3)] → W p l e rm12_dayGoes s m args below meth c H locs 0 0 (MQ below (va_Qv (fun (M2 : Mem) => M2 = M') (fun M2 t => va_P z.1 vwCl (pw (yd z b) 32 b M2) t.heap) (pA 32 b)) args s 0 0 (pA 32 b)) (F0 m 48 ls [])) {i1 : Int32} {i3 : Int32} {i4 : Int32} {M : Mem} {H : Heap} {locs : List Loc} {ls : Array Slot} (hf : b12_dayGoes_171  rc n i1 i3 i4 M = some (r, M')) (hP : va_P z.1 vwCl (pw (yd z b) 32 b M) H) (hS : va_S (pA 32 b) s.heap H locs) (hl : lv_has ls 5 [(0, .ref (b + 0)), (1, .int i1), (3, .int i3), (4, .int i4)]) : W p l e rm12_dayGoes s m args below meth c H locs 0 0 (MQ below (va_Qv (fun (M2 : Mem) => M2 = M') (fun M2 t => va_P z.1 vwCl (pw (yd z b) 32 b M2) t.heap) (pA 32 b)) args s 0 0 (pA 32 b)) (F0 m 171 ls []) := by
  have hx := C.1.1
  have hb := C.1.2.1
  unfold b12_dayGoes_171 at hf
  refine lv_iload hx hb dX12_dayGoes_171 (lv_at hl 3 rfl) ?_
  refine lv_istore_n (lv' := [(2, .int i4), (0, .ref (b + 0)), (1, .int i1), (3, .int i3), (4, .int i4)]) hx hb dX12_dayGoes_173 rfl hl (by decide) rfl (fun ls hl => ?_)
  refine lv_aload_n hx hb dX12_dayGoes_174 rfl (lv_at hl 1 rfl) ?_
  refine pg C hP (k := 0) (j := 0) (Nat.le_of_ble_eq_true rfl) (yd_0 _ _) rfl iw_12 (Nat.le_of_ble_eq_true rfl) g_1135 rfl rfl dX12_dayGoes_175 ?_
  refine lv_bipush (v := (96 : Int32)) hx hb dX12_dayGoes_178 (by decide) ?_
  refine lv_iload_n hx hb dX12_dayGoes_180 rfl (lv_at hl 3 rfl) ?_
  refine lv_iadd hx hb dX12_dayGoes_181 ?_
  refine lv_iload_n hx hb dX12_dayGoes_182 rfl (lv_at hl 0 rfl) ?_
  have h43 := chk_1 hf
  replace hf := chk_2 hf
  refine psI C hP hS (k := 1) (Nat.le_of_ble_eq_true rfl) (yd_1) h43 dX12_dayGoes_183 (fun M44 H locs eM44 hP hS => ?_)
  replace hf := lt_c eM44 hf
  obtain ⟨v45, ev45⟩ : ∃ v : Int32, v = i3 + (1 : Int32) := ⟨_, rfl⟩
  replace hf := lt_c ev45 hf
  refine lv_iinc (v := v45) (lv' := [(3, .int v45), (2, .int i4), (0, .ref (b + 0)), (1, .int i1), (4, .int i4)]) hx hb dX12_dayGoes_184 hl (k := 3) rfl (by rw [ev45]; rfl) (by decide) rfl (fun ls hl => ?_)
  refine lv_goto (tgt := 48) hx hb dX12_dayGoes_187 (by decide) ?_
  exact q48 i1 i4 v45 M44 _ _ _ hf hP hS (lv_sub hl [2, 3, 1, 0] rfl)
set_option maxHeartbeats 4000000 in
set_option maxRecDepth 100000 in
theorem w12_dayGoes_48 {p : Program} {l : Launch} {e : Env} {s : State} {m : MethodId} {args : Array Value} {below : List Frame} {meth : Method} {c : Code} {z : Zt} {b : Nat}  (C : Cx p s m args c cX12_dayGoes 5 RX12 z 32 b) (hr : meth.sig.returnType = none) (hk : meth.locks = false) {r : Unit} {M' : Mem} {rc : Nat → List Int32 → List Int64 → Mem → Option (Unit × Mem)} {n : Nat} (q48 : ∀ (i1 : Int32) (i2 : Int32) (i3 : Int32) (M : Mem) (H : Heap) (locs : List Loc) (ls : Array Slot), rc 48 [i1, i2, i3] [] M = some (r, M') → va_P z.1 vwCl (pw (yd z b) 32 b M) H → va_S (pA 32 b) s.heap H locs → lv_has ls 5 [(0, .ref (b + 0)), (1, .int i1), (2, .int i2), (3, .int i3)] → W p l e rm12_dayGoes s m args below meth c H locs 0 0 (MQ below (va_Qv (fun (M2 : Mem) => M2 = M') (fun M2 t => va_P z.1 vwCl (pw (yd z b) 32 b M2) t.heap) (pA 32 b)) args s 0 0 (pA 32 b)) (F0 m 48 ls [])) {i1 : Int32} {i2 : Int32} {i3 : Int32} {M : Mem} {H : Heap} {locs : List Loc} {ls : Array Slot} (hf : b12_dayGoes_48  rc n i1 i2 i3 M = some (r, M')) (hP : va_P z.1 vwCl (pw (yd z b) 32 b M) H) (hS : va_S (pA 32 b) s.heap H locs) (hl : lv_has ls 5 [(0, .ref (b + 0)), (1, .int i1), (2, .int i2), (3, .int i3)]) : W p l e rm12_dayGoes s m args below meth c H locs 0 0 (MQ below (va_Qv (fun (M2 : Mem) => M2 = M') (fun M2 t => va_P z.1 vwCl (pw (yd z b) 32 b M2) t.heap) (pA 32 b)) args s 0 0 (pA 32 b)) (F0 m 48 ls []) := by
  have hx := C.1.1
  have hb := C.1.2.1
  unfold b12_dayGoes_48 at hf
  refine lv_iload_n hx hb dX12_dayGoes_48 rfl (lv_at hl 3 rfl) ?_
  refine lv_bipush (v := (60 : Int32)) hx hb dX12_dayGoes_49 (by decide) ?_
  refine lv_icmp_ge (tgt := 190) hx hb dX12_dayGoes_51 (by decide) (fun c13 => ?_) (fun c13 => ?_)
  · replace hf := ite_t c13 hf
    exact w12_dayGoes_190 (n := n)  C hr hk q48 hf hP hS (lv_sub hl [0, 1] rfl)
  · replace hf := ite_f c13 hf
    refine lv_iload_n hx hb dX12_dayGoes_54 rfl (lv_at hl 1 rfl) ?_
    refine lv_bipush (v := (-2 : Int32)) hx hb dX12_dayGoes_55 (by decide) ?_
    refine lv_icmp_eq (tgt := 190) hx hb dX12_dayGoes_57 (by decide) (fun c14 => ?_) (fun c14 => ?_)
    · replace hf := ite_t c14 hf
      exact w12_dayGoes_190 (n := n)  C hr hk q48 hf hP hS (lv_sub hl [0, 1] rfl)
    · replace hf := ite_f c14 hf
      refine lv_aload_n hx hb dX12_dayGoes_60 rfl (lv_at hl 0 rfl) ?_
      refine lv_iload_n hx hb dX12_dayGoes_61 rfl (lv_at hl 1 rfl) ?_
      refine lv_iload_n hx hb dX12_dayGoes_62 rfl (lv_at hl 3 rfl) ?_
      refine lv_iload_n hx hb dX12_dayGoes_63 rfl (lv_at hl 2 rfl) ?_
      obtain ⟨r15, M16, h17, hf⟩ := bnd_s hf
      refine pcVi (As := [.int i1, .int i3, .int i2]) C hP hS (k := 0) (Nat.le_of_ble_eq_true rfl) (yd_0 _ _) rfl (c12_goesTo  h17) y12_goesTo_w g_1471 rfl rfl rfl ⟨Nat.le_of_ble_eq_true rfl, Nat.le_of_ble_eq_true rfl⟩ hl.1 rfl (Nat.le_of_ble_eq_true rfl) dX12_dayGoes_64 ⟨Nat.le_of_ble_eq_true rfl, Nat.le_of_ble_eq_true rfl⟩ (fun H locs hP hS => ?_)
      refine lv_istore (lv' := [(4, .int r15), (0, .ref (b + 0)), (1, .int i1), (2, .int i2), (3, .int i3)]) hx hb dX12_dayGoes_67 hl (by decide) rfl (fun ls hl => ?_)
      refine lv_iload hx hb dX12_dayGoes_69 (lv_at hl 0 rfl) ?_
      refine lv_iload_n hx hb dX12_dayGoes_71 rfl (lv_at hl 3 rfl) ?_
      refine lv_icmp_eq (tgt := 171) hx hb dX12_dayGoes_72 (by decide) (fun c18 => ?_) (fun c18 => ?_)
      · replace hf := ite_t c18 hf
        exact w12_dayGoes_171 (n := n)  C hr hk q48 hf hP hS (lv_sub hl [1, 2, 4, 0] rfl)
      · replace hf := ite_f c18 hf
        refine lv_aload_n hx hb dX12_dayGoes_75 rfl (lv_at hl 1 rfl) ?_
        refine pg C hP (k := 0) (j := 0) (Nat.le_of_ble_eq_true rfl) (yd_0 _ _) rfl iw_12 (Nat.le_of_ble_eq_true rfl) g_1135 rfl rfl dX12_dayGoes_76 ?_
        refine lv_sipush (v := (157 : Int32)) hx hb dX12_dayGoes_79 (by decide) ?_
        refine lv_aload_n hx hb dX12_dayGoes_82 rfl (lv_at hl 1 rfl) ?_
        refine pg C hP (k := 0) (j := 0) (Nat.le_of_ble_eq_true rfl) (yd_0 _ _) rfl iw_12 (Nat.le_of_ble_eq_true rfl) g_1135 rfl rfl dX12_dayGoes_83 ?_
        refine lv_sipush (v := (157 : Int32)) hx hb dX12_dayGoes_86 (by decide) ?_
        have h19 := chk_1 hf
        replace hf := chk_2 hf
        refine paI C hP (k := 1) (Nat.le_of_ble_eq_true rfl) (yd_1 _ _) h19 dX12_dayGoes_89 ?_
        refine lv_iconst (v := (1 : Int32)) hx hb dX12_dayGoes_90 (by decide) ?_
        refine lv_iadd hx hb dX12_dayGoes_91 ?_
        have h20 := chk_1 hf
        replace hf := chk_2 hf
        refine psI C hP hS (k := 1) (Nat.le_of_ble_eq_true rfl) (yd_1) h20 dX12_dayGoes_92 (fun M21 H locs eM21 hP hS => ?_)
        replace hf := lt_c eM21 hf
        refine lv_aload_n hx hb dX12_dayGoes_93 rfl (lv_at hl 1 rfl) ?_
        refine pg C hP (k := 0) (j := 0) (Nat.le_of_ble_eq_true rfl) (yd_0 _ _) rfl iw_12 (Nat.le_of_ble_eq_true rfl) g_1135 rfl rfl dX12_dayGoes_94 ?_
        refine lv_iconst (v := (0 : Int32)) hx hb dX12_dayGoes_97 (by decide) ?_
        refine lv_iload hx hb dX12_dayGoes_98 (lv_at hl 0 rfl) ?_
        refine lv_iadd hx hb dX12_dayGoes_100 ?_
        refine lv_sipush (v := (9999 : Int32)) hx hb dX12_dayGoes_101 (by decide) ?_
        refine lv_aload_n hx hb dX12_dayGoes_104 rfl (lv_at hl 1 rfl) ?_
        refine pg C hP (k := 0) (j := 0) (Nat.le_of_ble_eq_true rfl) (yd_0 _ _) rfl iw_12 (Nat.le_of_ble_eq_true rfl) g_1135 rfl rfl dX12_dayGoes_105 ?_
        refine lv_iconst (v := (0 : Int32)) hx hb dX12_dayGoes_108 (by decide) ?_
        refine lv_iload hx hb dX12_dayGoes_109 (lv_at hl 0 rfl) ?_
        refine lv_iadd hx hb dX12_dayGoes_111 ?_
        have h22 := chk_1 hf
        replace hf := chk_2 hf
        refine paI C hP (k := 1) (Nat.le_of_ble_eq_true rfl) (yd_1 _ _) h22 dX12_dayGoes_112 ?_
        refine lv_iconst (v := (1 : Int32)) hx hb dX12_dayGoes_113 (by decide) ?_
        refine lv_iadd hx hb dX12_dayGoes_114 ?_
        obtain ⟨r23, M24, h25, hf⟩ := bnd_s hf
        refine pcSi (As := [.int (9999 : Int32), .int ((M21.1 1 ((0 : Int32) + r15).toNatClampNeg) + (1 : Int32))]) C hP hS (c12_min  h25) y12_min_w g_1505 rfl rfl rfl ⟨Nat.le_of_ble_eq_true rfl, Nat.le_of_ble_eq_true rfl⟩ hl.1 rfl (Nat.le_of_ble_eq_true rfl) dX12_dayGoes_115 ⟨Nat.le_of_ble_eq_true rfl, Nat.le_of_ble_eq_true rfl⟩ (fun H locs hP hS => ?_)
        have h26 := chk_1 hf
        replace hf := chk_2 hf
        refine psI C hP hS (k := 1) (Nat.le_of_ble_eq_true rfl) (yd_1) h26 dX12_dayGoes_118 (fun M27 H locs eM27 hP hS => ?_)
        replace hf := lt_c eM27 hf
        refine lv_aload_n hx hb dX12_dayGoes_119 rfl (lv_at hl 1 rfl) ?_
        refine pg C hP (k := 0) (j := 0) (Nat.le_of_ble_eq_true rfl) (yd_0 _ _) rfl iw_12 (Nat.le_of_ble_eq_true rfl) g_1135 rfl rfl dX12_dayGoes_120 ?_
        refine lv_sipush (v := (158 : Int32)) hx hb dX12_dayGoes_123 (by decide) ?_
        refine lv_aload_n hx hb dX12_dayGoes_126 rfl (lv_at hl 1 rfl) ?_
        refine pg C hP (k := 0) (j := 0) (Nat.le_of_ble_eq_true rfl) (yd_0 _ _) rfl iw_12 (Nat.le_of_ble_eq_true rfl) g_1135 rfl rfl dX12_dayGoes_127 ?_
        refine lv_sipush (v := (158 : Int32)) hx hb dX12_dayGoes_130 (by decide) ?_
        have h28 := chk_1 hf
        replace hf := chk_2 hf
        refine paI C hP (k := 1) (Nat.le_of_ble_eq_true rfl) (yd_1 _ _) h28 dX12_dayGoes_133 ?_
        refine lv_aload_n hx hb dX12_dayGoes_134 rfl (lv_at hl 1 rfl) ?_
        refine lv_iload hx hb dX12_dayGoes_135 (lv_at hl 0 rfl) ?_
        obtain ⟨r29, M30, h31, hf⟩ := bnd_s hf
        refine pcVi (As := [.int r15]) C hP hS (k := 0) (Nat.le_of_ble_eq_true rfl) (yd_0 _ _) rfl (c12_doorsIn  h31) y12_doorsIn_w g_1508 rfl rfl rfl ⟨Nat.le_of_ble_eq_true rfl, Nat.le_of_ble_eq_true rfl⟩ hl.1 rfl (Nat.le_of_ble_eq_true rfl) dX12_dayGoes_137 ⟨Nat.le_of_ble_eq_true rfl, Nat.le_of_ble_eq_true rfl⟩ (fun H locs hP hS => ?_)
        refine lv_ior hx hb dX12_dayGoes_140 ?_
        have h32 := chk_1 hf
        replace hf := chk_2 hf
        refine psI C hP hS (k := 1) (Nat.le_of_ble_eq_true rfl) (yd_1) h32 dX12_dayGoes_141 (fun M33 H locs eM33 hP hS => ?_)
        replace hf := lt_c eM33 hf
        refine lv_aload_n hx hb dX12_dayGoes_142 rfl (lv_at hl 1 rfl) ?_
        refine pg C hP (k := 0) (j := 0) (Nat.le_of_ble_eq_true rfl) (yd_0 _ _) rfl iw_12 (Nat.le_of_ble_eq_true rfl) g_1135 rfl rfl dX12_dayGoes_143 ?_
        refine lv_sipush (v := (159 : Int32)) hx hb dX12_dayGoes_146 (by decide) ?_
        refine lv_aload_n hx hb dX12_dayGoes_149 rfl (lv_at hl 1 rfl) ?_
        refine pg C hP (k := 0) (j := 0) (Nat.le_of_ble_eq_true rfl) (yd_0 _ _) rfl iw_12 (Nat.le_of_ble_eq_true rfl) g_1135 rfl rfl dX12_dayGoes_150 ?_
        refine lv_sipush (v := (159 : Int32)) hx hb dX12_dayGoes_153 (by decide) ?_
        have h34 := chk_1 hf
        replace hf := chk_2 hf
        refine paI C hP (k := 1) (Nat.le_of_ble_eq_true rfl) (yd_1 _ _) h34 dX12_dayGoes_156 ?_
        refine lv_aload_n hx hb dX12_dayGoes_157 rfl (lv_at hl 1 rfl) ?_
        refine lv_iload hx hb dX12_dayGoes_158 (lv_at hl 0 rfl) ?_
        refine lv_aload_n hx hb dX12_dayGoes_160 rfl (lv_at hl 1 rfl) ?_
        refine pg C hP (k := 0) (j := 5) (Nat.le_of_ble_eq_true rfl) (yd_0 _ _) rfl iw_12 (Nat.le_of_ble_eq_true rfl) g_1140 rfl rfl dX12_dayGoes_161 ?_
        obtain ⟨r35, M36, h37, hf⟩ := bnd_s hf
        refine pcVi (As := [.int r15, .int (M33.1 0 5)]) C hP hS (k := 0) (Nat.le_of_ble_eq_true rfl) (yd_0 _ _) rfl (c12_steps  h37) y12_steps_w g_1475 rfl rfl rfl ⟨Nat.le_of_ble_eq_true rfl, Nat.le_of_ble_eq_true rfl⟩ hl.1 rfl (Nat.le_of_ble_eq_true rfl) dX12_dayGoes_164 ⟨Nat.le_of_ble_eq_true rfl, Nat.le_of_ble_eq_true rfl⟩ (fun H locs hP hS => ?_)
        obtain ⟨r38, M39, h40, hf⟩ := bnd_s hf
        refine pcSi (As := [.int (M33.1 1 (159 : Int32).toNatClampNeg), .int r35]) C hP hS (c12_max  h40) y12_max_w g_1512 rfl rfl rfl ⟨Nat.le_of_ble_eq_true rfl, Nat.le_of_ble_eq_true rfl⟩ hl.1 rfl (Nat.le_of_ble_eq_true rfl) dX12_dayGoes_167 ⟨Nat.le_of_ble_eq_true rfl, Nat.le_of_ble_eq_true rfl⟩ (fun H locs hP hS => ?_)
        have h41 := chk_1 hf
        replace hf := chk_2 hf
        refine psI C hP hS (k := 1) (Nat.le_of_ble_eq_true rfl) (yd_1) h41 dX12_dayGoes_170 (fun M42 H locs eM42 hP hS => ?_)
        replace hf := lt_c eM42 hf
        exact w12_dayGoes_171 (n := n)  C hr hk q48 hf hP hS (lv_sub hl [1, 2, 4, 0] rfl)
set_option maxHeartbeats 4000000 in
set_option maxRecDepth 100000 in
theorem w12_dayGoes_0 {p : Program} {l : Launch} {e : Env} {s : State} {m : MethodId} {args : Array Value} {below : List Frame} {meth : Method} {c : Code} {z : Zt} {b : Nat}  (C : Cx p s m args c cX12_dayGoes 5 RX12 z 32 b) (hr : meth.sig.returnType = none) (hk : meth.locks = false) {r : Unit} {M' : Mem} {rc : Nat → List Int32 → List Int64 → Mem → Option (Unit × Mem)} {n : Nat} (q48 : ∀ (i1 : Int32) (i2 : Int32) (i3 : Int32) (M : Mem) (H : Heap) (locs : List Loc) (ls : Array Slot), rc 48 [i1, i2, i3] [] M = some (r, M') → va_P z.1 vwCl (pw (yd z b) 32 b M) H → va_S (pA 32 b) s.heap H locs → lv_has ls 5 [(0, .ref (b + 0)), (1, .int i1), (2, .int i2), (3, .int i3)] → W p l e rm12_dayGoes s m args below meth c H locs 0 0 (MQ below (va_Qv (fun (M2 : Mem) => M2 = M') (fun M2 t => va_P z.1 vwCl (pw (yd z b) 32 b M2) t.heap) (pA 32 b)) args s 0 0 (pA 32 b)) (F0 m 48 ls []))  {M : Mem} {H : Heap} {locs : List Loc} {ls : Array Slot} (hf : b12_dayGoes_0  rc n  M = some (r, M')) (hP : va_P z.1 vwCl (pw (yd z b) 32 b M) H) (hS : va_S (pA 32 b) s.heap H locs) (hl : lv_has ls 5 [(0, .ref (b + 0))]) : W p l e rm12_dayGoes s m args below meth c H locs 0 0 (MQ below (va_Qv (fun (M2 : Mem) => M2 = M') (fun M2 t => va_P z.1 vwCl (pw (yd z b) 32 b M2) t.heap) (pA 32 b)) args s 0 0 (pA 32 b)) (F0 m 0 ls []) := by
  have hx := C.1.1
  have hb := C.1.2.1
  unfold b12_dayGoes_0 at hf
  refine lv_aload_n hx hb dX12_dayGoes_0 rfl (lv_at hl 0 rfl) ?_
  obtain ⟨r1, M2, h3, hf⟩ := bnd_s hf
  refine pcVi (As := []) C hP hS (k := 0) (Nat.le_of_ble_eq_true rfl) (yd_0 _ _) rfl (c12_drawsHour  h3) y12_drawsHour_w g_1447 rfl rfl rfl ⟨Nat.le_of_ble_eq_true rfl, Nat.le_of_ble_eq_true rfl⟩ hl.1 rfl (Nat.le_of_ble_eq_true rfl) dX12_dayGoes_1 ⟨Nat.le_of_ble_eq_true rfl, Nat.le_of_ble_eq_true rfl⟩ (fun H locs hP hS => ?_)
  refine lv_istore_n (lv' := [(1, .int r1), (0, .ref (b + 0))]) hx hb dX12_dayGoes_4 rfl hl (by decide) rfl (fun ls hl => ?_)
  refine lv_aload_n hx hb dX12_dayGoes_5 rfl (lv_at hl 1 rfl) ?_
  refine pg C hP (k := 0) (j := 0) (Nat.le_of_ble_eq_true rfl) (yd_0 _ _) rfl iw_12 (Nat.le_of_ble_eq_true rfl) g_1135 rfl rfl dX12_dayGoes_6 ?_
  refine lv_sipush (v := (156 : Int32)) hx hb dX12_dayGoes_9 (by decide) ?_
  refine lv_iload_n hx hb dX12_dayGoes_12 rfl (lv_at hl 0 rfl) ?_
  have h4 := chk_1 hf
  replace hf := chk_2 hf
  refine psI C hP hS (k := 1) (Nat.le_of_ble_eq_true rfl) (yd_1) h4 dX12_dayGoes_13 (fun M5 H locs eM5 hP hS => ?_)
  replace hf := lt_c eM5 hf
  refine lv_aload_n hx hb dX12_dayGoes_14 rfl (lv_at hl 1 rfl) ?_
  refine pg C hP (k := 0) (j := 0) (Nat.le_of_ble_eq_true rfl) (yd_0 _ _) rfl iw_12 (Nat.le_of_ble_eq_true rfl) g_1135 rfl rfl dX12_dayGoes_15 ?_
  refine lv_sipush (v := (157 : Int32)) hx hb dX12_dayGoes_18 (by decide) ?_
  refine lv_iconst (v := (0 : Int32)) hx hb dX12_dayGoes_21 (by decide) ?_
  have h6 := chk_1 hf
  replace hf := chk_2 hf
  refine psI C hP hS (k := 1) (Nat.le_of_ble_eq_true rfl) (yd_1) h6 dX12_dayGoes_22 (fun M7 H locs eM7 hP hS => ?_)
  replace hf := lt_c eM7 hf
  refine lv_aload_n hx hb dX12_dayGoes_23 rfl (lv_at hl 1 rfl) ?_
  refine pg C hP (k := 0) (j := 0) (Nat.le_of_ble_eq_true rfl) (yd_0 _ _) rfl iw_12 (Nat.le_of_ble_eq_true rfl) g_1135 rfl rfl dX12_dayGoes_24 ?_
  refine lv_sipush (v := (158 : Int32)) hx hb dX12_dayGoes_27 (by decide) ?_
  refine lv_iconst (v := (0 : Int32)) hx hb dX12_dayGoes_30 (by decide) ?_
  have h8 := chk_1 hf
  replace hf := chk_2 hf
  refine psI C hP hS (k := 1) (Nat.le_of_ble_eq_true rfl) (yd_1) h8 dX12_dayGoes_31 (fun M9 H locs eM9 hP hS => ?_)
  replace hf := lt_c eM9 hf
  refine lv_aload_n hx hb dX12_dayGoes_32 rfl (lv_at hl 1 rfl) ?_
  refine pg C hP (k := 0) (j := 0) (Nat.le_of_ble_eq_true rfl) (yd_0 _ _) rfl iw_12 (Nat.le_of_ble_eq_true rfl) g_1135 rfl rfl dX12_dayGoes_33 ?_
  refine lv_sipush (v := (159 : Int32)) hx hb dX12_dayGoes_36 (by decide) ?_
  refine lv_iconst (v := (0 : Int32)) hx hb dX12_dayGoes_39 (by decide) ?_
  have h10 := chk_1 hf
  replace hf := chk_2 hf
  refine psI C hP hS (k := 1) (Nat.le_of_ble_eq_true rfl) (yd_1) h10 dX12_dayGoes_40 (fun M11 H locs eM11 hP hS => ?_)
  replace hf := lt_c eM11 hf
  refine lv_aload_n hx hb dX12_dayGoes_41 rfl (lv_at hl 1 rfl) ?_
  refine pg C hP (k := 0) (j := 5) (Nat.le_of_ble_eq_true rfl) (yd_0 _ _) rfl iw_12 (Nat.le_of_ble_eq_true rfl) g_1140 rfl rfl dX12_dayGoes_42 ?_
  refine lv_topi (fun v12 ev12 => ?_)
  replace hf := lt_c ev12 hf
  refine lv_istore_n (lv' := [(2, .int v12), (1, .int r1), (0, .ref (b + 0))]) hx hb dX12_dayGoes_45 rfl hl (by decide) rfl (fun ls hl => ?_)
  refine lv_iconst (v := (0 : Int32)) hx hb dX12_dayGoes_46 (by decide) ?_
  refine lv_istore_n (lv' := [(3, .int (0 : Int32)), (2, .int v12), (1, .int r1), (0, .ref (b + 0))]) hx hb dX12_dayGoes_47 rfl hl (by decide) rfl (fun ls hl => ?_)
  exact w12_dayGoes_48 (n := n)  C hr hk q48 hf hP hS (lv_sub hl [3, 2, 1, 0] rfl)
set_option maxHeartbeats 4000000 in
set_option maxRecDepth 100000 in
theorem l12_dayGoes {p : Program} {l : Launch} {e : Env} {s : State} {m : MethodId} {args : Array Value} {below : List Frame} {meth : Method} {c : Code} {z : Zt} {b : Nat}  (C : Cx p s m args c cX12_dayGoes 5 RX12 z 32 b) (hr : meth.sig.returnType = none) (hk : meth.locks = false) {r : Unit} {M' : Mem} (n : Nat) : (∀ (i1 : Int32) (i2 : Int32) (i3 : Int32) (M : Mem) (H : Heap) (locs : List Loc) (ls : Array Slot), (r12_dayGoes  n) 48 [i1, i2, i3] [] M = some (r, M') → va_P z.1 vwCl (pw (yd z b) 32 b M) H → va_S (pA 32 b) s.heap H locs → lv_has ls 5 [(0, .ref (b + 0)), (1, .int i1), (2, .int i2), (3, .int i3)] → W p l e rm12_dayGoes s m args below meth c H locs 0 0 (MQ below (va_Qv (fun (M2 : Mem) => M2 = M') (fun M2 t => va_P z.1 vwCl (pw (yd z b) 32 b M2) t.heap) (pA 32 b)) args s 0 0 (pA 32 b)) (F0 m 48 ls [])) := by
  induction n with
  | zero => exact fun _ _ _ _ _ _ _ hf => (by cases hf)
  | succ n ih => exact fun _ _ _ _ _ _ _ hf hP hS hl => w12_dayGoes_48 (n := n)  C hr hk ih ((e12_dayGoes_48  n _ _ _ _).symm.trans hf) hP hS hl
theorem c12_dayGoes {l : Launch} {z : Zt} {b n : Nat}   {M M' : Mem} {r : Unit} (hf : f12_dayGoes n   M = some (r, M')) : CV l z (yd z b) 32 b yX12_dayGoes cX12_dayGoes 5 none rm12_dayGoes [.ref (b + 0)] M M' :=
  CV.ofW (lv := [(0, .ref (b + 0))]) (by decide) (Nat.le_of_ble_eq_true rfl) rfl (fun p e s m args below meth c ls C hr hk hP hS hl => w12_dayGoes_0 (n := n)  C hr hk (l12_dayGoes  C hr hk n) hf hP hS hl)
