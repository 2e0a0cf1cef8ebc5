-- BronzeKingModel.in(III)Z
theorem dX12_in_0 : decode cX12_in 0 = .ok (.iload_n 0, 1) := by decide +kernel
theorem dX12_in_1 : decode cX12_in 1 = .ok (.iload_n 1, 1) := by decide +kernel
theorem dX12_in_2 : decode cX12_in 2 = .ok (.if_icmp .lt 12, 3) := by decide +kernel
theorem dX12_in_5 : decode cX12_in 5 = .ok (.iload_n 0, 1) := by decide +kernel
theorem dX12_in_6 : decode cX12_in 6 = .ok (.iload_n 2, 1) := by decide +kernel
theorem dX12_in_7 : decode cX12_in 7 = .ok (.if_icmp .gt 7, 3) := by decide +kernel
theorem dX12_in_10 : decode cX12_in 10 = .ok (.iconst 1, 1) := by decide +kernel
theorem dX12_in_11 : decode cX12_in 11 = .ok (.goto 4, 3) := by decide +kernel
theorem dX12_in_14 : decode cX12_in 14 = .ok (.iconst 0, 1) := by decide +kernel
theorem dX12_in_15 : decode cX12_in 15 = .ok (.ireturn, 1) := by decide +kernel
def b12_in_14 (rc : Nat → List Int32 → List Int64 → Mem → Option (Int32 × Mem)) (n : Nat) (M : Mem) : Option (Int32 × Mem) :=
  some ((0 : Int32), M)
def b12_in_0 (rc : Nat → List Int32 → List Int64 → Mem → Option (Int32 × Mem)) (n : Nat) (a0 : Int32) (a1 : Int32) (a2 : Int32) (M : Mem) : Option (Int32 × Mem) :=
  (if a0 < a1 then (
   b12_in_14  rc n  M)
  else (
   (if a2 < a0 then (
    b12_in_14  rc n  M)
   else (
    some ((1 : Int32), M)))))
def f12_in (n : Nat) (a0 : Int32) (a1 : Int32) (a2 : Int32) (M : Mem) : Option (Int32 × Mem) := b12_in_0 (fun _ _ _ _ => none) n a0 a1 a2 M
abbrev rm12_in : Room := { frames := 0, cells := 0, slots := 0, locals := 0 }
theorem y12_in_w : yS yX12_in cX12_in 3 (some .boolean) 3 := ⟨g_1307, g_14, g_1308, by decide, by decide, by decide +kernel⟩
set_option maxHeartbeats 4000000 in
set_option maxRecDepth 100000 in
theorem w12_in_14 {p : Program} {l : Launch} {e : Env} {s : State} {m : MethodId} {args : Array Value} {below : List Frame} {meth : Method} {c : Code} {z : Zt} {b : Nat}  (C : Cx p s m args c cX12_in 3 RX12 z 32 b) (hr : meth.sig.returnType = (some .boolean)) (hk : meth.locks = false) {r : Int32} {M' : Mem} {rc : Nat → List Int32 → List Int64 → Mem → Option (Int32 × Mem)} {n : Nat}   {M : Mem} {H : Heap} {locs : List Loc} {ls : Array Slot} (hf : b12_in_14  rc n  M = some (r, M')) (hP : va_P z.1 vwCl (pw (yd z b) 32 b M) H) (hS : va_S (pA 32 b) s.heap H locs) (hl : lv_has ls 3 []) : W p l e rm12_in s m args below meth c H locs 0 0 (MQ below (va_Qi (fun (r' : Int32) (M2 : Mem) => r' = r ∧ M2 = M') (fun M2 t => va_P z.1 vwCl (pw (yd z b) 32 b M2) t.heap) (pA 32 b)) args s 0 0 (pA 32 b)) (F0 m 14 ls []) := by
  have hx := C.1.1
  have hb := C.1.2.1
  unfold b12_in_14 at hf
  refine lv_iconst (v := (0 : Int32)) hx hb dX12_in_14 (by decide) ?_
  exact prZ C hr hk hP hS hf rfl dX12_in_15
set_option maxHeartbeats 4000000 in
set_option maxRecDepth 100000 in
theorem w12_in_0 {p : Program} {l : Launch} {e : Env} {s : State} {m : MethodId} {args : Array Value} {below : List Frame} {meth : Method} {c : Code} {z : Zt} {b : Nat}  (C : Cx p s m args c cX12_in 3 RX12 z 32 b) (hr : meth.sig.returnType = (some .boolean)) (hk : meth.locks = false) {r : Int32} {M' : Mem} {rc : Nat → List Int32 → List Int64 → Mem → Option (Int32 × Mem)} {n : Nat}  {a0 : Int32} {a1 : Int32} {a2 : Int32} {M : Mem} {H : Heap} {locs : List Loc} {ls : Array Slot} (hf : b12_in_0  rc n a0 a1 a2 M = some (r, M')) (hP : va_P z.1 vwCl (pw (yd z b) 32 b M) H) (hS : va_S (pA 32 b) s.heap H locs) (hl : lv_has ls 3 [(0, .int a0), (1, .int a1), (2, .int a2)]) : W p l e rm12_in s m args below meth c H locs 0 0 (MQ below (va_Qi (fun (r' : Int32) (M2 : Mem) => r' = r ∧ M2 = M') (fun M2 t => va_P z.1 vwCl (pw (yd z b) 32 b M2) t.heap) (pA 32 b)) args s 0 0 (pA 32 b)) (F0 m 0 ls []) := by
  have hx := C.1.1
  have hb := C.1.2.1
  unfold b12_in_0 at hf
  refine lv_iload_n hx hb dX12_in_0 rfl (lv_at hl 0 rfl) ?_
  refine lv_iload_n hx hb dX12_in_1 rfl (lv_at hl 1 rfl) ?_
  refine lv_icmp_lt (tgt := 14) hx hb dX12_in_2 (by decide) (fun c1 => ?_) (fun c1 => ?_)
  · replace hf := ite_t c1 hf
    exact w12_in_14 (n := n)  C hr hk  hf hP hS (lv_sub hl [] rfl)
  · replace hf := ite_f c1 hf
    refine lv_iload_n hx hb dX12_in_5 rfl (lv_at hl 0 rfl) ?_
    refine lv_iload_n hx hb dX12_in_6 rfl (lv_at hl 2 rfl) ?_
    refine lv_icmp_gt (tgt := 14) hx hb dX12_in_7 (by decide) (fun c2 => ?_) (fun c2 => ?_)
    · replace hf := ite_t c2 hf
      exact w12_in_14 (n := n)  C hr hk  hf hP hS (lv_sub hl [] rfl)
    · replace hf := ite_f c2 hf
      refine lv_iconst (v := (1 : Int32)) hx hb dX12_in_10 (by decide) ?_
      refine lv_goto (tgt := 15) hx hb dX12_in_11 (by decide) ?_
      exact prZ C hr hk hP hS hf rfl dX12_in_15
theorem c12_in {l : Launch} {z : Zt} {b n : Nat}  {a0 : Int32} {a1 : Int32} {a2 : Int32} {M M' : Mem} {r : Int32} (hf : f12_in n  a0 a1 a2 M = some (r, M')) : CI l z (yd z b) 32 b yX12_in cX12_in 3 (some .boolean) rm12_in [.int a0, .int a1, .int a2] M M' r :=
  CI.ofW (lv := [(0, .int a0), (1, .int a1), (2, .int a2)]) (by decide) (Nat.le_of_ble_eq_true rfl) rfl (fun p e s m args below meth c ls C hr hk hP hS hl => w12_in_0 (n := n)  C hr hk  hf hP hS hl)

-- BronzeKingModel.min(II)I
theorem dX12_min_0 : decode cX12_min 0 = .ok (.iload_n 0, 1) := by decide +kernel
theorem dX12_min_1 : decode cX12_min 1 = .ok (.iload_n 1, 1) := by decide +kernel
theorem dX12_min_2 : decode cX12_min 2 = .ok (.if_icmp .ge 7, 3) := by decide +kernel
theorem dX12_min_5 : decode cX12_min 5 = .ok (.iload_n 0, 1) := by decide +kernel
theorem dX12_min_6 : decode cX12_min 6 = .ok (.goto 4, 3) := by decide +kernel
theorem dX12_min_9 : decode cX12_min 9 = .ok (.iload_n 1, 1) := by decide +kernel
theorem dX12_min_10 : decode cX12_min 10 = .ok (.ireturn, 1) := by decide +kernel
def b12_min_0 (rc : Nat → List Int32 → List Int64 → Mem → Option (Int32 × Mem)) (n : Nat) (a0 : Int32) (a1 : Int32) (M : Mem) : Option (Int32 × Mem) :=
  (if a1 ≤ a0 then (
   some (a1, M))
  else (
   some (a0, M)))
def f12_min (n : Nat) (a0 : Int32) (a1 : Int32) (M : Mem) : Option (Int32 × Mem) := b12_min_0 (fun _ _ _ _ => none) n a0 a1 M
abbrev rm12_min : Room := { frames := 0, cells := 0, slots := 0, locals := 0 }
theorem y12_min_w : yS yX12_min cX12_min 2 (some .int) 2 := ⟨g_1506, g_14, g_1507, by decide, by decide, by decide +kernel⟩
set_option maxHeartbeats 4000000 in
set_option maxRecDepth 100000 in
theorem w12_min_0 {p : Program} {l : Launch} {e : Env} {s : State} {m : MethodId} {args : Array Value} {below : List Frame} {meth : Method} {c : Code} {z : Zt} {b : Nat}  (C : Cx p s m args c cX12_min 2 RX12 z 32 b) (hr : meth.sig.returnType = (some .int)) (hk : meth.locks = false) {r : Int32} {M' : Mem} {rc : Nat → List Int32 → List Int64 → Mem → Option (Int32 × Mem)} {n : Nat}  {a0 : Int32} {a1 : Int32} {M : Mem} {H : Heap} {locs : List Loc} {ls : Array Slot} (hf : b12_min_0  rc n a0 a1 M = some (r, M')) (hP : va_P z.1 vwCl (pw (yd z b) 32 b M) H) (hS : va_S (pA 32 b) s.heap H locs) (hl : lv_has ls 2 [(0, .int a0), (1, .int a1)]) : W p l e rm12_min s m args below meth c H locs 0 0 (MQ below (va_Qi (fun (r' : Int32) (M2 : Mem) => r' = r ∧ M2 = M') (fun M2 t => va_P z.1 vwCl (pw (yd z b) 32 b M2) t.heap) (pA 32 b)) args s 0 0 (pA 32 b)) (F0 m 0 ls []) := by
  have hx := C.1.1
  have hb := C.1.2.1
  unfold b12_min_0 at hf
  refine lv_iload_n hx hb dX12_min_0 rfl (lv_at hl 0 rfl) ?_
  refine lv_iload_n hx hb dX12_min_1 rfl (lv_at hl 1 rfl) ?_
  refine lv_icmp_ge (tgt := 9) hx hb dX12_min_2 (by decide) (fun c1 => ?_) (fun c1 => ?_)
  · replace hf := ite_t c1 hf
    refine lv_iload_n hx hb dX12_min_9 rfl (lv_at hl 1 rfl) ?_
    exact prI C hr hk hP hS hf dX12_min_10
  · replace hf := ite_f c1 hf
    refine lv_iload_n hx hb dX12_min_5 rfl (lv_at hl 0 rfl) ?_
    refine lv_goto (tgt := 10) hx hb dX12_min_6 (by decide) ?_
    exact prI C hr hk hP hS hf dX12_min_10
theorem c12_min {l : Launch} {z : Zt} {b n : Nat}  {a0 : Int32} {a1 : Int32} {M M' : Mem} {r : Int32} (hf : f12_min n  a0 a1 M = some (r, M')) : CI l z (yd z b) 32 b yX12_min cX12_min 2 (some .int) rm12_min [.int a0, .int a1] M M' r :=
  CI.ofW (lv := [(0, .int a0), (1, .int a1)]) (by decide) (Nat.le_of_ble_eq_true rfl) rfl (fun p e s m args below meth c ls C hr hk hP hS hl => w12_min_0 (n := n)  C hr hk  hf hP hS hl)

-- BronzeKingModel.max(II)I
theorem dX12_max_0 : decode cX12_max 0 = .ok (.iload_n 0, 1) := by decide +kernel
theorem dX12_max_1 : decode cX12_max 1 = .ok (.iload_n 1, 1) := by decide +kernel
theorem dX12_max_2 : decode cX12_max 2 = .ok (.if_icmp .le 7, 3) := by decide +kernel
theorem dX12_max_5 : decode cX12_max 5 = .ok (.iload_n 0, 1) := by decide +kernel
theorem dX12_max_6 : decode cX12_max 6 = .ok (.goto 4, 3) := by decide +kernel
theorem dX12_max_9 : decode cX12_max 9 = .ok (.iload_n 1, 1) := by decide +kernel
theorem dX12_max_10 : decode cX12_max 10 = .ok (.ireturn, 1) := by decide +kernel
def b12_max_0 (rc : Nat → List Int32 → List Int64 → Mem → Option (Int32 × Mem)) (n : Nat) (a0 : Int32) (a1 : Int32) (M : Mem) : Option (Int32 × Mem) :=
  (if a0 ≤ a1 then (
   some (a1, M))
  else (
   some (a0, M)))
def f12_max (n : Nat) (a0 : Int32) (a1 : Int32) (M : Mem) : Option (Int32 × Mem) := b12_max_0 (fun _ _ _ _ => none) n a0 a1 M
abbrev rm12_max : Room := { frames := 0, cells := 0, slots := 0, locals := 0 }
theorem y12_max_w : yS yX12_max cX12_max 2 (some .int) 2 := ⟨g_1513, g_14, g_1514, by decide, by decide, by decide +kernel⟩
set_option maxHeartbeats 4000000 in
set_option maxRecDepth 100000 in
theorem w12_max_0 {p : Program} {l : Launch} {e : Env} {s : State} {m : MethodId} {args : Array Value} {below : List Frame} {meth : Method} {c : Code} {z : Zt} {b : Nat}  (C : Cx p s m args c cX12_max 2 RX12 z 32 b) (hr : meth.sig.returnType = (some .int)) (hk : meth.locks = false) {r : Int32} {M' : Mem} {rc : Nat → List Int32 → List Int64 → Mem → Option (Int32 × Mem)} {n : Nat}  {a0 : Int32} {a1 : Int32} {M : Mem} {H : Heap} {locs : List Loc} {ls : Array Slot} (hf : b12_max_0  rc n a0 a1 M = some (r, M')) (hP : va_P z.1 vwCl (pw (yd z b) 32 b M) H) (hS : va_S (pA 32 b) s.heap H locs) (hl : lv_has ls 2 [(0, .int a0), (1, .int a1)]) : W p l e rm12_max s m args below meth c H locs 0 0 (MQ below (va_Qi (fun (r' : Int32) (M2 : Mem) => r' = r ∧ M2 = M') (fun M2 t => va_P z.1 vwCl (pw (yd z b) 32 b M2) t.heap) (pA 32 b)) args s 0 0 (pA 32 b)) (F0 m 0 ls []) := by
  have hx := C.1.1
  have hb := C.1.2.1
  unfold b12_max_0 at hf
  refine lv_iload_n hx hb dX12_max_0 rfl (lv_at hl 0 rfl) ?_
  refine lv_iload_n hx hb dX12_max_1 rfl (lv_at hl 1 rfl) ?_
  refine lv_icmp_le (tgt := 9) hx hb dX12_max_2 (by decide) (fun c1 => ?_) (fun c1 => ?_)
  · replace hf := ite_t c1 hf
    refine lv_iload_n hx hb dX12_max_9 rfl (lv_at hl 1 rfl) ?_
    exact prI C hr hk hP hS hf dX12_max_10
  · replace hf := ite_f c1 hf
    refine lv_iload_n hx hb dX12_max_5 rfl (lv_at hl 0 rfl) ?_
    refine lv_goto (tgt := 10) hx hb dX12_max_6 (by decide) ?_
    exact prI C hr hk hP hS hf dX12_max_10
theorem c12_max {l : Launch} {z : Zt} {b n : Nat}  {a0 : Int32} {a1 : Int32} {M M' : Mem} {r : Int32} (hf : f12_max n  a0 a1 M = some (r, M')) : CI l z (yd z b) 32 b yX12_max cX12_max 2 (some .int) rm12_max [.int a0, .int a1] M M' r :=
  CI.ofW (lv := [(0, .int a0), (1, .int a1)]) (by decide) (Nat.le_of_ble_eq_true rfl) rfl (fun p e s m args below meth c ls C hr hk hP hS hl => w12_max_0 (n := n)  C hr hk  hf hP hS hl)

-- BronzeKingModel.size(I)I
theorem dX12_size_0 : decode cX12_size 0 = .ok (.iload_n 0, 1) := by decide +kernel
theorem dX12_size_1 : decode cX12_size 1 = .ok (.ifCond .ge 8, 3) := by decide +kernel
theorem dX12_size_4 : decode cX12_size 4 = .ok (.iload_n 0, 1) := by decide +kernel
theorem dX12_size_5 : decode cX12_size 5 = .ok (.ineg, 1) := by decide +kernel
theorem dX12_size_6 : decode cX12_size 6 = .ok (.goto 4, 3) := by decide +kernel
theorem dX12_size_9 : decode cX12_size 9 = .ok (.iload_n 0, 1) := by decide +kernel
theorem dX12_size_10 : decode cX12_size 10 = .ok (.ireturn, 1) := by decide +kernel
def b12_size_0 (rc : Nat → List Int32 → List Int64 → Mem → Option (Int32 × Mem)) (n : Nat) (a0 : Int32) (M : Mem) : Option (Int32 × Mem) :=
  (if 0 ≤ a0 then (
   some (a0, M))
  else (
   some ((-a0), M)))
def f12_size (n : Nat) (a0 : Int32) (M : Mem) : Option (Int32 × Mem) := b12_size_0 (fun _ _ _ _ => none) n a0 M
abbrev rm12_size : Room := { frames := 0, cells := 0, slots := 0, locals := 0 }
theorem y12_size_w : yS yX12_size cX12_size 1 (some .int) 1 := ⟨g_1658, g_14, g_1659, by decide, by decide, by decide +kernel⟩
set_option maxHeartbeats 4000000 in
set_option maxRecDepth 100000 in
theorem w12_size_0 {p : Program} {l : Launch} {e : Env} {s : State} {m : MethodId} {args : Array Value} {below : List Frame} {meth : Method} {c : Code} {z : Zt} {b : Nat}  (C : Cx p s m args c cX12_size 1 RX12 z 32 b) (hr : meth.sig.returnType = (some .int)) (hk : meth.locks = false) {r : Int32} {M' : Mem} {rc : Nat → List Int32 → List Int64 → Mem → Option (Int32 × Mem)} {n : Nat}  {a0 : Int32} {M : Mem} {H : Heap} {locs : List Loc} {ls : Array Slot} (hf : b12_size_0  rc n a0 M = some (r, M')) (hP : va_P z.1 vwCl (pw (yd z b) 32 b M) H) (hS : va_S (pA 32 b) s.heap H locs) (hl : lv_has ls 1 [(0, .int a0)]) : W p l e rm12_size s m args below meth c H locs 0 0 (MQ below (va_Qi (fun (r' : Int32) (M2 : Mem) => r' = r ∧ M2 = M') (fun M2 t => va_P z.1 vwCl (pw (yd z b) 32 b M2) t.heap) (pA 32 b)) args s 0 0 (pA 32 b)) (F0 m 0 ls []) := by
  have hx := C.1.1
  have hb := C.1.2.1
  unfold b12_size_0 at hf
  refine lv_iload_n hx hb dX12_size_0 rfl (lv_at hl 0 rfl) ?_
  refine lv_if_ge (tgt := 9) hx hb dX12_size_1 (by decide) (fun c1 => ?_) (fun c1 => ?_)
  · replace hf := ite_t c1 hf
    refine lv_iload_n hx hb dX12_size_9 rfl (lv_at hl 0 rfl) ?_
    exact prI C hr hk hP hS hf dX12_size_10
  · replace hf := ite_f c1 hf
    refine lv_iload_n hx hb dX12_size_4 rfl (lv_at hl 0 rfl) ?_
    refine lv_ineg hx hb dX12_size_5 ?_
    refine lv_goto (tgt := 10) hx hb dX12_size_6 (by decide) ?_
    exact prI C hr hk hP hS hf dX12_size_10
theorem c12_size {l : Launch} {z : Zt} {b n : Nat}  {a0 : Int32} {M M' : Mem} {r : Int32} (hf : f12_size n  a0 M = some (r, M')) : CI l z (yd z b) 32 b yX12_size cX12_size 1 (some .int) rm12_size [.int a0] M M' r :=
  CI.ofW (lv := [(0, .int a0)]) (by decide) (Nat.le_of_ble_eq_true rfl) rfl (fun p e s m args below meth c ls C hr hk hP hS hl => w12_size_0 (n := n)  C hr hk  hf hP hS hl)

-- BronzeKingModel.has(II)Z
theorem dX12_has_0 : decode cX12_has 0 = .ok (.iload_n 0, 1) := by decide +kernel
theorem dX12_has_1 : decode cX12_has 1 = .ok (.iload_n 1, 1) := by decide +kernel
theorem dX12_has_2 : decode cX12_has 2 = .ok (.ishr, 1) := by decide +kernel
theorem dX12_has_3 : decode cX12_has 3 = .ok (.iconst 1, 1) := by decide +kernel
theorem dX12_has_4 : decode cX12_has 4 = .ok (.iand, 1) := by decide +kernel
theorem dX12_has_5 : decode cX12_has 5 = .ok (.iconst 1, 1) := by decide +kernel
theorem dX12_has_6 : decode cX12_has 6 = .ok (.if_icmp .ne 7, 3) := by decide +kernel
theorem dX12_has_9 : decode cX12_has 9 = .ok (.iconst 1, 1) := by decide +kernel
theorem dX12_has_10 : decode cX12_has 10 = .ok (.goto 4, 3) := by decide +kernel
theorem dX12_has_13 : decode cX12_has 13 = .ok (.iconst 0, 1) := by decide +kernel
theorem dX12_has_14 : decode cX12_has 14 = .ok (.ireturn, 1) := by decide +kernel
def b12_has_0 (rc : Nat → List Int32 → List Int64 → Mem → Option (Int32 × Mem)) (n : Nat) (a0 : Int32) (a1 : Int32) (M : Mem) : Option (Int32 × Mem) :=
  (if ((a0 >>> (a1 &&& 31)) &&& (1 : Int32)) = (1 : Int32) then (
   some ((1 : Int32), M))
  else (
   some ((0 : Int32), M)))
def f12_has (n : Nat) (a0 : Int32) (a1 : Int32) (M : Mem) : Option (Int32 × Mem) := b12_has_0 (fun _ _ _ _ => none) n a0 a1 M
abbrev rm12_has : Room := { frames := 0, cells := 0, slots := 0, locals := 0 }
theorem y12_has_w : yS yX12_has cX12_has 2 (some .boolean) 2 := ⟨g_1539, g_14, g_1540, by decide, by decide, by decide +kernel⟩
set_option maxHeartbeats 4000000 in
set_option maxRecDepth 100000 in
theorem w12_has_0 {p : Program} {l : Launch} {e : Env} {s : State} {m : MethodId} {args : Array Value} {below : List Frame} {meth : Method} {c : Code} {z : Zt} {b : Nat}  (C : Cx p s m args c cX12_has 2 RX12 z 32 b) (hr : meth.sig.returnType = (some .boolean)) (hk : meth.locks = false) {r : Int32} {M' : Mem} {rc : Nat → List Int32 → List Int64 → Mem → Option (Int32 × Mem)} {n : Nat}  {a0 : Int32} {a1 : Int32} {M : Mem} {H : Heap} {locs : List Loc} {ls : Array Slot} (hf : b12_has_0  rc n a0 a1 M = some (r, M')) (hP : va_P z.1 vwCl (pw (yd z b) 32 b M) H) (hS : va_S (pA 32 b) s.heap H locs) (hl : lv_has ls 2 [(0, .int a0), (1, .int a1)]) : W p l e rm12_has s m args below meth c H locs 0 0 (MQ below (va_Qi (fun (r' : Int32) (M2 : Mem) => r' = r ∧ M2 = M') (fun M2 t => va_P z.1 vwCl (pw (yd z b) 32 b M2) t.heap) (pA 32 b)) args s 0 0 (pA 32 b)) (F0 m 0 ls []) := by
  have hx := C.1.1
  have hb := C.1.2.1
  unfold b12_has_0 at hf
  refine lv_iload_n hx hb dX12_has_0 rfl (lv_at hl 0 rfl) ?_
  refine lv_iload_n hx hb dX12_has_1 rfl (lv_at hl 1 rfl) ?_
  refine lv_ishr hx hb dX12_has_2 ?_
  refine lv_iconst (v := (1 : Int32)) hx hb dX12_has_3 (by decide) ?_
  refine lv_iand hx hb dX12_has_4 ?_
  refine lv_iconst (v := (1 : Int32)) hx hb dX12_has_5 (by decide) ?_
  refine lv_icmp_ne (tgt := 13) hx hb dX12_has_6 (by decide) (fun c1 => ?_) (fun c1 => ?_)
  · replace hf := ite_f c1 hf
    refine lv_iconst (v := (0 : Int32)) hx hb dX12_has_13 (by decide) ?_
    exact prZ C hr hk hP hS hf rfl dX12_has_14
  · replace hf := ite_t c1 hf
    refine lv_iconst (v := (1 : Int32)) hx hb dX12_has_9 (by decide) ?_
    refine lv_goto (tgt := 14) hx hb dX12_has_10 (by decide) ?_
    exact prZ C hr hk hP hS hf rfl dX12_has_14
theorem c12_has {l : Launch} {z : Zt} {b n : Nat}  {a0 : Int32} {a1 : Int32} {M M' : Mem} {r : Int32} (hf : f12_has n  a0 a1 M = some (r, M')) : CI l z (yd z b) 32 b yX12_has cX12_has 2 (some .boolean) rm12_has [.int a0, .int a1] M M' r :=
  CI.ofW (lv := [(0, .int a0), (1, .int a1)]) (by decide) (Nat.le_of_ble_eq_true rfl) rfl (fun p e s m args below meth c ls C hr hk hP hS hl => w12_has_0 (n := n)  C hr hk  hf hP hS hl)

-- BronzeKingModel.bits(I)I
theorem dX12_bits_0 : decode cX12_bits 0 = .ok (.iconst 0, 1) := by decide +kernel
theorem dX12_bits_1 : decode cX12_bits 1 = .ok (.istore_n 1, 1) := by decide +kernel
theorem dX12_bits_2 : decode cX12_bits 2 = .ok (.iconst 0, 1) := by decide +kernel
theorem dX12_bits_3 : decode cX12_bits 3 = .ok (.istore_n 2, 1) := by decide +kernel
theorem dX12_bits_4 : decode cX12_bits 4 = .ok (.iload_n 2, 1) := by decide +kernel
theorem dX12_bits_5 : decode cX12_bits 5 = .ok (.bipush 24, 2) := by decide +kernel
theorem dX12_bits_7 : decode cX12_bits 7 = .ok (.if_icmp .ge 17, 3) := by decide +kernel
theorem dX12_bits_10 : decode cX12_bits 10 = .ok (.iload_n 1, 1) := by decide +kernel
theorem dX12_bits_11 : decode cX12_bits 11 = .ok (.iload_n 0, 1) := by decide +kernel
theorem dX12_bits_12 : decode cX12_bits 12 = .ok (.iload_n 2, 1) := by decide +kernel
theorem dX12_bits_13 : decode cX12_bits 13 = .ok (.ishr, 1) := by decide +kernel
theorem dX12_bits_14 : decode cX12_bits 14 = .ok (.iconst 1, 1) := by decide +kernel
theorem dX12_bits_15 : decode cX12_bits 15 = .ok (.iand, 1) := by decide +kernel
theorem dX12_bits_16 : decode cX12_bits 16 = .ok (.iadd, 1) := by decide +kernel
theorem dX12_bits_17 : decode cX12_bits 17 = .ok (.istore_n 1, 1) := by decide +kernel
theorem dX12_bits_18 : decode cX12_bits 18 = .ok (.iinc 2 1, 3) := by decide +kernel
theorem dX12_bits_21 : decode cX12_bits 21 = .ok (.goto (-17), 3) := by decide +kernel
theorem dX12_bits_24 : decode cX12_bits 24 = .ok (.iload_n 1, 1) := by decide +kernel
theorem dX12_bits_25 : decode cX12_bits 25 = .ok (.ireturn, 1) := by decide +kernel
def b12_bits_4 (rc : Nat → List Int32 → List Int64 → Mem → Option (Int32 × Mem)) (n : Nat) (i0 : Int32) (i1 : Int32) (i2 : Int32) (M : Mem) : Option (Int32 × Mem) :=
  (if (24 : Int32) ≤ i2 then (
   some (i1, M))
  else (
   lt (i1 + ((i0 >>> (i2 &&& 31)) &&& (1 : Int32))) fun v2 =>
   lt (i2 + (1 : Int32)) fun v3 =>
   rc 4 [i0, v2, v3] [] M))
def b12_bits_0 (rc : Nat → List Int32 → List Int64 → Mem → Option (Int32 × Mem)) (n : Nat) (a0 : Int32) (M : Mem) : Option (Int32 × Mem) :=
  b12_bits_4  rc n a0 (0 : Int32) (0 : Int32) M
def r12_bits : Nat → Nat → List Int32 → List Int64 → Mem → Option (Int32 × Mem)
  | 0 => fun _ _ _ _ => none
  | n + 1 => fun pc li lj M =>
    if pc = 4 then (match li, lj with | [i0, i1, i2], [] => b12_bits_4  (r12_bits  n) n i0 i1 i2 M | _, _ => none) else
    none
theorem e12_bits_4  (n : Nat) (i0 : Int32) (i1 : Int32) (i2 : Int32) (M : Mem) : r12_bits  (n + 1) 4 [i0, i1, i2] [] M = b12_bits_4  (r12_bits  n) n i0 i1 i2 M := by
  rw [r12_bits]
  simp
def f12_bits (n : Nat) (a0 : Int32) (M : Mem) : Option (Int32 × Mem) := b12_bits_0 (r12_bits n) n a0 M
abbrev rm12_bits : Room := { frames := 0, cells := 0, slots := 0, locals := 0 }
theorem y12_bits_w : yS yX12_bits cX12_bits 3 (some .int) 1 := ⟨g_1499, g_14, g_1500, by decide, by decide, by decide +kernel⟩
set_option maxHeartbeats 4000000 in
set_option maxRecDepth 100000 in
theorem w12_bits_4 {p : Program} {l : Launch} {e : Env} {s : State} {m : MethodId} {args : Array Value} {below : List Frame} {meth : Method} {c : Code} {z : Zt} {b : Nat}  (C : Cx p s m args c cX12_bits 3 RX12 z 32 b) (hr : meth.sig.returnType = (some .int)) (hk : meth.locks = false) {r : Int32} {M' : Mem} {rc : Nat → List Int32 → List Int64 → Mem → Option (Int32 × Mem)} {n : Nat} (q4 : ∀ (i0 : Int32) (i1 : Int32) (i2 : Int32) (M : Mem) (H : Heap) (locs : List Loc) (ls : Array Slot), rc 4 [i0, i1, i2] [] M = some (r, M') → va_P z.1 vwCl (pw (yd z b) 32 b M) H → va_S (pA 32 b) s.heap H locs → lv_has ls 3 [(0, .int i0), (1, .int i1), (2, .int i2)] → W p l e rm12_bits s m args below meth c H locs 0 0 (MQ below (va_Qi (fun (r' : Int32) (M2 : Mem) => r' = r ∧ M2 = M') (fun M2 t => va_P z.1 vwCl (pw (yd z b) 32 b M2) t.heap) (pA 32 b)) args s 0 0 (pA 32 b)) (F0 m 4 ls [])) {i0 : Int32} {i1 : Int32} {i2 : Int32} {M : Mem} {H : Heap} {locs : List Loc} {ls : Array Slot} (hf : b12_bits_4  rc n i0 i1 i2 M = some (r, M')) (hP : va_P z.1 vwCl (pw (yd z b) 32 b M) H) (hS : va_S (pA 32 b) s.heap H locs) (hl : lv_has ls 3 [(0, .int i0), (1, .int i1), (2, .int i2)]) : W p l e rm12_bits s m args below meth c H locs 0 0 (MQ below (va_Qi (fun (r' : Int32) (M2 : Mem) => r' = r ∧ M2 = M') (fun M2 t => va_P z.1 vwCl (pw (yd z b) 32 b M2) t.heap) (pA 32 b)) args s 0 0 (pA 32 b)) (F0 m 4 ls []) := by
  have hx := C.1.1
  have hb := C.1.2.1
  unfold b12_bits_4 at hf
  refine lv_iload_n hx hb dX12_bits_4 rfl (lv_at hl 2 rfl) ?_
  refine lv_bipush (v := (24 : Int32)) hx hb dX12_bits_5 (by decide) ?_
  refine lv_icmp_ge (tgt := 24) hx hb dX12_bits_7 (by decide) (fun c1 => ?_) (fun c1 => ?_)
  · replace hf := ite_t c1 hf
    refine lv_iload_n hx hb dX12_bits_24 rfl (lv_at hl 1 rfl) ?_
    exact prI C hr hk hP hS hf dX12_bits_25
  · replace hf := ite_f c1 hf
    refine lv_iload_n hx hb dX12_bits_10 rfl (lv_at hl 1 rfl) ?_
    refine lv_iload_n hx hb dX12_bits_11 rfl (lv_at hl 0 rfl) ?_
    refine lv_iload_n hx hb dX12_bits_12 rfl (lv_at hl 2 rfl) ?_
    refine lv_ishr hx hb dX12_bits_13 ?_
    refine lv_iconst (v := (1 : Int32)) hx hb dX12_bits_14 (by decide) ?_
    refine lv_iand hx hb dX12_bits_15 ?_
    refine lv_iadd hx hb dX12_bits_16 ?_
    refine lv_topi (fun v2 ev2 => ?_)
    replace hf := lt_c ev2 hf
    refine lv_istore_n (lv' := [(1, .int v2), (0, .int i0), (2, .int i2)]) hx hb dX12_bits_17 rfl hl (by decide) rfl (fun ls hl => ?_)
    obtain ⟨v3, ev3⟩ : ∃ v : Int32, v = i2 + (1 : Int32) := ⟨_, rfl⟩
    replace hf := lt_c ev3 hf
    refine lv_iinc (v := v3) (lv' := [(2, .int v3), (1, .int v2), (0, .int i0)]) hx hb dX12_bits_18 hl (k := 2) rfl (by rw [ev3]; rfl) (by decide) rfl (fun ls hl => ?_)
    refine lv_goto (tgt := 4) hx hb dX12_bits_21 (by decide) ?_
    exact q4 i0 v2 v3 M _ _ _ hf hP hS (lv_sub hl [2, 1, 0] rfl)
set_option maxHeartbeats 4000000 in
set_option maxRecDepth 100000 in
theorem w12_bits_0 {p : Program} {l : Launch} {e : Env} {s : State} {m : MethodId} {args : Array Value} {below : List Frame} {meth : Method} {c : Code} {z : Zt} {b : Nat}  (C : Cx p s m args c cX12_bits 3 RX12 z 32 b) (hr : meth.sig.returnType = (some .int)) (hk : meth.locks = false) {r : Int32} {M' : Mem} {rc : Nat → List Int32 → List Int64 → Mem → Option (Int32 × Mem)} {n : Nat} (q4 : ∀ (i0 : Int32) (i1 : Int32) (i2 : Int32) (M : Mem) (H : Heap) (locs : List Loc) (ls : Array Slot), rc 4 [i0, i1, i2] [] M = some (r, M') → va_P z.1 vwCl (pw (yd z b) 32 b M) H → va_S (pA 32 b) s.heap H locs → lv_has ls 3 [(0, .int i0), (1, .int i1), (2, .int i2)] → W p l e rm12_bits s m args below meth c H locs 0 0 (MQ below (va_Qi (fun (r' : Int32) (M2 : Mem) => r' = r ∧ M2 = M') (fun M2 t => va_P z.1 vwCl (pw (yd z b) 32 b M2) t.heap) (pA 32 b)) args s 0 0 (pA 32 b)) (F0 m 4 ls [])) {a0 : Int32} {M : Mem} {H : Heap} {locs : List Loc} {ls : Array Slot} (hf : b12_bits_0  rc n a0 M = some (r, M')) (hP : va_P z.1 vwCl (pw (yd z b) 32 b M) H) (hS : va_S (pA 32 b) s.heap H locs) (hl : lv_has ls 3 [(0, .int a0)]) : W p l e rm12_bits s m args below meth c H locs 0 0 (MQ below (va_Qi (fun (r' : Int32) (M2 : Mem) => r' = r ∧ M2 = M') (fun M2 t => va_P z.1 vwCl (pw (yd z b) 32 b M2) t.heap) (pA 32 b)) args s 0 0 (pA 32 b)) (F0 m 0 ls []) := by
  have hx := C.1.1
  have hb := C.1.2.1
  unfold b12_bits_0 at hf
  refine lv_iconst (v := (0 : Int32)) hx hb dX12_bits_0 (by decide) ?_
  refine lv_istore_n (lv' := [(1, .int (0 : Int32)), (0, .int a0)]) hx hb dX12_bits_1 rfl hl (by decide) rfl (fun ls hl => ?_)
  refine lv_iconst (v := (0 : Int32)) hx hb dX12_bits_2 (by decide) ?_
  refine lv_istore_n (lv' := [(2, .int (0 : Int32)), (1, .int (0 : Int32)), (0, .int a0)]) hx hb dX12_bits_3 rfl hl (by decide) rfl (fun ls hl => ?_)
  exact w12_bits_4 (n := n)  C hr hk q4 hf hP hS (lv_sub hl [2, 1, 0] rfl)
set_option maxHeartbeats 4000000 in
set_option maxRecDepth 100000 in
theorem l12_bits {p : Program} {l : Launch} {e : Env} {s : State} {m : MethodId} {args : Array Value} {below : List Frame} {meth : Method} {c : Code} {z : Zt} {b : Nat}  (C : Cx p s m args c cX12_bits 3 RX12 z 32 b) (hr : meth.sig.returnType = (some .int)) (hk : meth.locks = false) {r : Int32} {M' : Mem} (n : Nat) : (∀ (i0 : Int32) (i1 : Int32) (i2 : Int32) (M : Mem) (H : Heap) (locs : List Loc) (ls : Array Slot), (r12_bits  n) 4 [i0, i1, i2] [] M = some (r, M') → va_P z.1 vwCl (pw (yd z b) 32 b M) H → va_S (pA 32 b) s.heap H locs → lv_has ls 3 [(0, .int i0), (1, .int i1), (2, .int i2)] → W p l e rm12_bits s m args below meth c H locs 0 0 (MQ below (va_Qi (fun (r' : Int32) (M2 : Mem) => r' = r ∧ M2 = M') (fun M2 t => va_P z.1 vwCl (pw (yd z b) 32 b M2) t.heap) (pA 32 b)) args s 0 0 (pA 32 b)) (F0 m 4 ls [])) := by
  induction n with
  | zero => exact fun _ _ _ _ _ _ _ hf => (by cases hf)
  | succ n ih => exact fun _ _ _ _ _ _ _ hf hP hS hl => w12_bits_4 (n := n)  C hr hk ih ((e12_bits_4  n _ _ _ _).symm.trans hf) hP hS hl
theorem c12_bits {l : Launch} {z : Zt} {b n : Nat}  {a0 : Int32} {M M' : Mem} {r : Int32} (hf : f12_bits n  a0 M = some (r, M')) : CI l z (yd z b) 32 b yX12_bits cX12_bits 3 (some .int) rm12_bits [.int a0] M M' r :=
  CI.ofW (lv := [(0, .int a0)]) (by decide) (Nat.le_of_ble_eq_true rfl) rfl (fun p e s m args below meth c ls C hr hk hP hS hl => w12_bits_0 (n := n)  C hr hk (l12_bits  C hr hk n) hf hP hS hl)

-- BronzeKingModel.copies([I[I)V
theorem dX12_copies_0 : decode cX12_copies 0 = .ok (.iconst 0, 1) := by decide +kernel
theorem dX12_copies_1 : decode cX12_copies 1 = .ok (.istore_n 2, 1) := by decide +kernel
theorem dX12_copies_2 : decode cX12_copies 2 = .ok (.iload_n 2, 1) := by decide +kernel
theorem dX12_copies_3 : decode cX12_copies 3 = .ok (.sipush 162, 3) := by decide +kernel
theorem dX12_copies_6 : decode cX12_copies 6 = .ok (.if_icmp .ge 15, 3) := by decide +kernel
theorem dX12_copies_9 : decode cX12_copies 9 = .ok (.aload_n 1, 1) := by decide +kernel
theorem dX12_copies_10 : decode cX12_copies 10 = .ok (.iload_n 2, 1) := by decide +kernel
theorem dX12_copies_11 : decode cX12_copies 11 = .ok (.aload_n 0, 1) := by decide +kernel
theorem dX12_copies_12 : decode cX12_copies 12 = .ok (.iload_n 2, 1) := by decide +kernel
theorem dX12_copies_13 : decode cX12_copies 13 = .ok (.iaload, 1) := by decide +kernel
theorem dX12_copies_14 : decode cX12_copies 14 = .ok (.iastore, 1) := by decide +kernel
theorem dX12_copies_15 : decode cX12_copies 15 = .ok (.iinc 2 1, 3) := by decide +kernel
theorem dX12_copies_18 : decode cX12_copies 18 = .ok (.goto (-16), 3) := by decide +kernel
theorem dX12_copies_21 : decode cX12_copies 21 = .ok (.return_, 1) := by decide +kernel
def b12_copies_2 (k0 : Nat) (k1 : Nat) (rc : Nat → List Int32 → List Int64 → Mem → Option (Unit × Mem)) (n : Nat) (i2 : Int32) (M : Mem) : Option (Unit × Mem) :=
  (if (162 : Int32) ≤ i2 then (
   some ((), M))
  else (
   chk (inb i2 162) <|
   chk (inb i2 162) <|
   lt (wI M k1 i2.toNatClampNeg (M.1 k0 i2.toNatClampNeg)) fun M4 =>
   lt (i2 + (1 : Int32)) fun v5 =>
   rc 2 [v5] [] M4))
def b12_copies_0 (k0 : Nat) (k1 : Nat) (rc : Nat → List Int32 → List Int64 → Mem → Option (Unit × Mem)) (n : Nat) (M : Mem) : Option (Unit × Mem) :=
  b12_copies_2 k0 k1 rc n (0 : Int32) M
def r12_copies (k0 : Nat) (k1 : Nat) : Nat → Nat → List Int32 → List Int64 → Mem → Option (Unit × Mem)
  | 0 => fun _ _ _ _ => none
  | n + 1 => fun pc li lj M =>
    if pc = 2 then (match li, lj with | [i2], [] => b12_copies_2 k0 k1 (r12_copies k0 k1 n) n i2 M | _, _ => none) else
    none
theorem e12_copies_2 (k0 : Nat) (k1 : Nat) (n : Nat) (i2 : Int32) (M : Mem) : r12_copies k0 k1 (n + 1) 2 [i2] [] M = b12_copies_2 k0 k1 (r12_copies k0 k1 n) n i2 M := by
  rw [r12_copies]
  simp
def f12_copies (n : Nat) (k0 : Nat) (k1 : Nat) (M : Mem) : Option (Unit × Mem) := b12_copies_0 k0 k1 (r12_copies k0 k1 n) n M
abbrev rm12_copies : Room := { frames := 0, cells := 0, slots := 0, locals := 0 }
theorem y12_copies_w : yS yX12_copies cX12_copies 3 none 2 := ⟨g_1520, g_14, g_1521, by decide, by decide, by decide +kernel⟩
set_option maxHeartbeats 4000000 in
set_option maxRecDepth 100000 in
theorem w12_copies_2 {p : Program} {l : Launch} {e : Env} {s : State} {m : MethodId} {args : Array Value} {below : List Frame} {meth : Method} {c : Code} {z : Zt} {b : Nat} {k0 : Nat} (hk0 : isCp k0) {k1 : Nat} (hk1 : isCp k1) (C : Cx p s m args c cX12_copies 3 RX12 z 32 b) (hr : meth.sig.returnType = none) (hk : meth.locks = false) {r : Unit} {M' : Mem} {rc : Nat → List Int32 → List Int64 → Mem → Option (Unit × Mem)} {n : Nat} (q2 : ∀ (i2 : Int32) (M : Mem) (H : Heap) (locs : List Loc) (ls : Array Slot), rc 2 [i2] [] M = some (r, M') → va_P z.1 vwCl (pw (yd z b) 32 b M) H → va_S (pA 32 b) s.heap H locs → lv_has ls 3 [(0, .ref (b + k0)), (1, .ref (b + k1)), (2, .int i2)] → W p l e rm12_copies s m args below meth c H locs 0 0 (MQ below (va_Qv (fun (M2 : Mem) => M2 = M') (fun M2 t => va_P z.1 vwCl (pw (yd z b) 32 b M2) t.heap) (pA 32 b)) args s 0 0 (pA 32 b)) (F0 m 2 ls [])) {i2 : Int32} {M : Mem} {H : Heap} {locs : List Loc} {ls : Array Slot} (hf : b12_copies_2 k0 k1 rc n i2 M = some (r, M')) (hP : va_P z.1 vwCl (pw (yd z b) 32 b M) H) (hS : va_S (pA 32 b) s.heap H locs) (hl : lv_has ls 3 [(0, .ref (b + k0)), (1, .ref (b + k1)), (2, .int i2)]) : W p l e rm12_copies s m args below meth c H locs 0 0 (MQ below (va_Qv (fun (M2 : Mem) => M2 = M') (fun M2 t => va_P z.1 vwCl (pw (yd z b) 32 b M2) t.heap) (pA 32 b)) args s 0 0 (pA 32 b)) (F0 m 2 ls []) := by
  have hx := C.1.1
  have hb := C.1.2.1
  unfold b12_copies_2 at hf
  refine lv_iload_n hx hb dX12_copies_2 rfl (lv_at hl 2 rfl) ?_
  refine lv_sipush (v := (162 : Int32)) hx hb dX12_copies_3 (by decide) ?_
  refine lv_icmp_ge (tgt := 21) hx hb dX12_copies_6 (by decide) (fun c1 => ?_) (fun c1 => ?_)
  · replace hf := ite_t c1 hf
    exact prV C hr hk hP hS hf dX12_copies_21
  · replace hf := ite_f c1 hf
    refine lv_aload_n hx hb dX12_copies_9 rfl (lv_at hl 1 rfl) ?_
    refine lv_iload_n hx hb dX12_copies_10 rfl (lv_at hl 2 rfl) ?_
    refine lv_aload_n hx hb dX12_copies_11 rfl (lv_at hl 0 rfl) ?_
    refine lv_iload_n hx hb dX12_copies_12 rfl (lv_at hl 2 rfl) ?_
    have h2 := chk_1 hf
    replace hf := chk_2 hf
    refine paI C hP (k := k0) (cp_lt hk0) ((cp_d hk0) _ _) h2 dX12_copies_13 ?_
    have h3 := chk_1 hf
    replace hf := chk_2 hf
    refine psI C hP hS (k := k1) (cp_lt hk1) ((cp_d hk1)) h3 dX12_copies_14 (fun M4 H locs eM4 hP hS => ?_)
    replace hf := lt_c eM4 hf
    obtain ⟨v5, ev5⟩ : ∃ v : Int32, v = i2 + (1 : Int32) := ⟨_, rfl⟩
    replace hf := lt_c ev5 hf
    refine lv_iinc (v := v5) (lv' := [(2, .int v5), (0, .ref (b + k0)), (1, .ref (b + k1))]) hx hb dX12_copies_15 hl (k := 2) rfl (by rw [ev5]; rfl) (by decide) rfl (fun ls hl => ?_)
    refine lv_goto (tgt := 2) hx hb dX12_copies_18 (by decide) ?_
    exact q2 v5 M4 _ _ _ hf hP hS (lv_sub hl [1, 2, 0] rfl)
set_option maxHeartbeats 4000000 in
set_option maxRecDepth 100000 in
theorem w12_copies_0 {p : Program} {l : Launch} {e : Env} {s : State} {m : MethodId} {args : Array Value} {below : List Frame} {meth : Method} {c : Code} {z : Zt} {b : Nat} {k0 : Nat} (hk0 : isCp k0) {k1 : Nat} (hk1 : isCp k1) (C : Cx p s m args c cX12_copies 3 RX12 z 32 b) (hr : meth.sig.returnType = none) (hk : meth.locks = false) {r : Unit} {M' : Mem} {rc : Nat → List Int32 → List Int64 → Mem → Option (Unit × Mem)} {n : Nat} (q2 : ∀ (i2 : Int32) (M : Mem) (H : Heap) (locs : List Loc) (ls : Array Slot), rc 2 [i2] [] M = some (r, M') → va_P z.1 vwCl (pw (yd z b) 32 b M) H → va_S (pA 32 b) s.heap H locs → lv_has ls 3 [(0, .ref (b + k0)), (1, .ref (b + k1)), (2, .int i2)] → W p l e rm12_copies s m args below meth c H locs 0 0 (MQ below (va_Qv (fun (M2 : Mem) => M2 = M') (fun M2 t => va_P z.1 vwCl (pw (yd z b) 32 b M2) t.heap) (pA 32 b)) args s 0 0 (pA 32 b)) (F0 m 2 ls []))  {M : Mem} {H : Heap} {locs : List Loc} {ls : Array Slot} (hf : b12_copies_0 k0 k1 rc n  M = some (r, M')) (hP : va_P z.1 vwCl (pw (yd z b) 32 b M) H) (hS : va_S (pA 32 b) s.heap H locs) (hl : lv_has ls 3 [(0, .ref (b + k0)), (1, .ref (b + k1))]) : W p l e rm12_copies s m args below meth c H locs 0 0 (MQ below (va_Qv (fun (M2 : Mem) => M2 = M') (fun M2 t => va_P z.1 vwCl (pw (yd z b) 32 b M2) t.heap) (pA 32 b)) args s 0 0 (pA 32 b)) (F0 m 0 ls []) := by
  have hx := C.1.1
  have hb := C.1.2.1
  unfold b12_copies_0 at hf
  refine lv_iconst (v := (0 : Int32)) hx hb dX12_copies_0 (by decide) ?_
  refine lv_istore_n (lv' := [(2, .int (0 : Int32)), (0, .ref (b + k0)), (1, .ref (b + k1))]) hx hb dX12_copies_1 rfl hl (by decide) rfl (fun ls hl => ?_)
  exact w12_copies_2 (n := n) hk0 hk1 C hr hk q2 hf hP hS (lv_sub hl [1, 2, 0] rfl)
set_option maxHeartbeats 4000000 in
set_option maxRecDepth 100000 in
theorem l12_copies {p : Program} {l : Launch} {e : Env} {s : State} {m : MethodId} {args : Array Value} {below : List Frame} {meth : Method} {c : Code} {z : Zt} {b : Nat} {k0 : Nat} (hk0 : isCp k0) {k1 : Nat} (hk1 : isCp k1) (C : Cx p s m args c cX12_copies 3 RX12 z 32 b) (hr : meth.sig.returnType = none) (hk : meth.locks = false) {r : Unit} {M' : Mem} (n : Nat) : (∀ (i2 : Int32) (M : Mem) (H : Heap) (locs : List Loc) (ls : Array Slot), (r12_copies k0 k1 n) 2 [i2] [] M = some (r, M') → va_P z.1 vwCl (pw (yd z b) 32 b M) H → va_S (pA 32 b) s.heap H locs → lv_has ls 3 [(0, .ref (b + k0)), (1, .ref (b + k1)), (2, .int i2)] → W p l e rm12_copies s m args below meth c H locs 0 0 (MQ below (va_Qv (fun (M2 : Mem) => M2 = M') (fun M2 t => va_P z.1 vwCl (pw (yd z b) 32 b M2) t.heap) (pA 32 b)) args s 0 0 (pA 32 b)) (F0 m 2 ls [])) := by
  induction n with
  | zero => exact fun _ _ _ _ _ hf => (by cases hf)
  | succ n ih => exact fun _ _ _ _ _ hf hP hS hl => w12_copies_2 (n := n) hk0 hk1 C hr hk ih ((e12_copies_2 _ _ n _ _).symm.trans hf) hP hS hl
theorem c12_copies {l : Launch} {z : Zt} {b n : Nat} {k0 : Nat} (hk0 : isCp k0) {k1 : Nat} (hk1 : isCp k1)  {M M' : Mem} {r : Unit} (hf : f12_copies n k0 k1  M = some (r, M')) : CV l z (yd z b) 32 b yX12_copies cX12_copies 3 none rm12_copies [.ref (b + k0), .ref (b + k1)] M M' :=
  CV.ofW (lv := [(0, .ref (b + k0)), (1, .ref (b + k1))]) (by decide) (Nat.le_of_ble_eq_true rfl) rfl (fun p e s m args below meth c ls C hr hk hP hS hl => w12_copies_0 (n := n) hk0 hk1 C hr hk (l12_copies hk0 hk1 C hr hk n) hf hP hS hl)

-- BronzeKingModel.isPlace(II)Z
theorem dX12_isPlace_0 : decode cX12_isPlace 0 = .ok (.iload_n 0, 1) := by decide +kernel
theorem dX12_isPlace_1 : decode cX12_isPlace 1 = .ok (.iconst 0, 1) := by decide +kernel
theorem dX12_isPlace_2 : decode cX12_isPlace 2 = .ok (.bipush 11, 2) := by decide +kernel
theorem dX12_isPlace_4 : decode cX12_isPlace 4 = .ok (.invokestatic 106, 3) := by decide +kernel
theorem dX12_isPlace_7 : decode cX12_isPlace 7 = .ok (.ifCond .eq 17, 3) := by decide +kernel
theorem dX12_isPlace_10 : decode cX12_isPlace 10 = .ok (.iload_n 1, 1) := by decide +kernel
theorem dX12_isPlace_11 : decode cX12_isPlace 11 = .ok (.iconst 0, 1) := by decide +kernel
theorem dX12_isPlace_12 : decode cX12_isPlace 12 = .ok (.bipush 7, 2) := by decide +kernel
theorem dX12_isPlace_14 : decode cX12_isPlace 14 = .ok (.invokestatic 106, 3) := by decide +kernel
theorem dX12_isPlace_17 : decode cX12_isPlace 17 = .ok (.ifCond .eq 7, 3) := by decide +kernel
theorem dX12_isPlace_20 : decode cX12_isPlace 20 = .ok (.iconst 1, 1) := by decide +kernel
theorem dX12_isPlace_21 : decode cX12_isPlace 21 = .ok (.goto 4, 3) := by decide +kernel
theorem dX12_isPlace_24 : decode cX12_isPlace 24 = .ok (.iconst 0, 1) := by decide +kernel
theorem dX12_isPlace_25 : decode cX12_isPlace 25 = .ok (.ireturn, 1) := by decide +kernel
def b12_isPlace_24 (rc : Nat → List Int32 → List Int64 → Mem → Option (Int32 × Mem)) (n : Nat) (M : Mem) : Option (Int32 × Mem) :=
  some ((0 : Int32), M)
def b12_isPlace_0 (rc : Nat → List Int32 → List Int64 → Mem → Option (Int32 × Mem)) (n : Nat) (a0 : Int32) (a1 : Int32) (M : Mem) : Option (Int32 × Mem) :=
  bnd (f12_in n a0 (0 : Int32) (11 : Int32) M) fun r1 M2 =>
  (if r1 = 0 then (
   b12_isPlace_24  rc n  M2)
  else (
   bnd (f12_in n a1 (0 : Int32) (7 : Int32) M2) fun r5 M6 =>
   (if r5 = 0 then (
    b12_isPlace_24  rc n  M6)
   else (
    some ((1 : Int32), M6)))))
def f12_isPlace (n : Nat) (a0 : Int32) (a1 : Int32) (M : Mem) : Option (Int32 × Mem) := b12_isPlace_0 (fun _ _ _ _ => none) n a0 a1 M
abbrev rm12_isPlace : Room := { frames := 1, cells := 0, slots := 0, locals := 22 }
theorem y12_isPlace_w : yS yX12_isPlace cX12_isPlace 2 (some .boolean) 2 := ⟨g_1304, g_14, g_1305, by decide, by decide, by decide +kernel⟩
set_option maxHeartbeats 4000000 in
set_option maxRecDepth 100000 in
theorem w12_isPlace_24 {p : Program} {l : Launch} {e : Env} {s : State} {m : MethodId} {args : Array Value} {below : List Frame} {meth : Method} {c : Code} {z : Zt} {b : Nat}  (C : Cx p s m args c cX12_isPlace 2 RX12 z 32 b) (hr : meth.sig.returnType = (some .boolean)) (hk : meth.locks = false) {r : Int32} {M' : Mem} {rc : Nat → List Int32 → List Int64 → Mem → Option (Int32 × Mem)} {n : Nat}   {M : Mem} {H : Heap} {locs : List Loc} {ls : Array Slot} (hf : b12_isPlace_24  rc n  M = some (r, M')) (hP : va_P z.1 vwCl (pw (yd z b) 32 b M) H) (hS : va_S (pA 32 b) s.heap H locs) (hl : lv_has ls 2 []) : W p l e rm12_isPlace s m args below meth c H locs 0 0 (MQ below (va_Qi (fun (r' : Int32) (M2 : Mem) => r' = r ∧ M2 = M') (fun M2 t => va_P z.1 vwCl (pw (yd z b) 32 b M2) t.heap) (pA 32 b)) args s 0 0 (pA 32 b)) (F0 m 24 ls []) := by
  have hx := C.1.1
  have hb := C.1.2.1
  unfold b12_isPlace_24 at hf
  refine lv_iconst (v := (0 : Int32)) hx hb dX12_isPlace_24 (by decide) ?_
  exact prZ C hr hk hP hS hf rfl dX12_isPlace_25
set_option maxHeartbeats 4000000 in
set_option maxRecDepth 100000 in
theorem w12_isPlace_0 {p : Program} {l : Launch} {e : Env} {s : State} {m : MethodId} {args : Array Value} {below : List Frame} {meth : Method} {c : Code} {z : Zt} {b : Nat}  (C : Cx p s m args c cX12_isPlace 2 RX12 z 32 b) (hr : meth.sig.returnType = (some .boolean)) (hk : meth.locks = false) {r : Int32} {M' : Mem} {rc : Nat → List Int32 → List Int64 → Mem → Option (Int32 × Mem)} {n : Nat}  {a0 : Int32} {a1 : Int32} {M : Mem} {H : Heap} {locs : List Loc} {ls : Array Slot} (hf : b12_isPlace_0  rc n a0 a1 M = some (r, M')) (hP : va_P z.1 vwCl (pw (yd z b) 32 b M) H) (hS : va_S (pA 32 b) s.heap H locs) (hl : lv_has ls 2 [(0, .int a0), (1, .int a1)]) : W p l e rm12_isPlace s m args below meth c H locs 0 0 (MQ below (va_Qi (fun (r' : Int32) (M2 : Mem) => r' = r ∧ M2 = M') (fun M2 t => va_P z.1 vwCl (pw (yd z b) 32 b M2) t.heap) (pA 32 b)) args s 0 0 (pA 32 b)) (F0 m 0 ls []) := by
  have hx := C.1.1
  have hb := C.1.2.1
  unfold b12_isPlace_0 at hf
  refine lv_iload_n hx hb dX12_isPlace_0 rfl (lv_at hl 0 rfl) ?_
  refine lv_iconst (v := (0 : Int32)) hx hb dX12_isPlace_1 (by decide) ?_
  refine lv_bipush (v := (11 : Int32)) hx hb dX12_isPlace_2 (by decide) ?_
  obtain ⟨r1, M2, h3, hf⟩ := bnd_s hf
  refine pcSi (As := [.int a0, .int (0 : Int32), .int (11 : Int32)]) C hP hS (c12_in  h3) y12_in_w g_1306 rfl rfl rfl ⟨Nat.le_of_ble_eq_true rfl, Nat.le_of_ble_eq_true rfl⟩ hl.1 rfl (Nat.le_of_ble_eq_true rfl) dX12_isPlace_4 ⟨Nat.le_of_ble_eq_true rfl, Nat.le_of_ble_eq_true rfl⟩ (fun H locs hP hS => ?_)
  refine lv_if_eq (tgt := 24) hx hb dX12_isPlace_7 (by decide) (fun c4 => ?_) (fun c4 => ?_)
  · replace hf := ite_t c4 hf
    exact w12_isPlace_24 (n := n)  C hr hk  hf hP hS (lv_sub hl [] rfl)
  · replace hf := ite_f c4 hf
    refine lv_iload_n hx hb dX12_isPlace_10 rfl (lv_at hl 1 rfl) ?_
    refine lv_iconst (v := (0 : Int32)) hx hb dX12_isPlace_11 (by decide) ?_
    refine lv_bipush (v := (7 : Int32)) hx hb dX12_isPlace_12 (by decide) ?_
    obtain ⟨r5, M6, h7, hf⟩ := bnd_s hf
    refine pcSi (As := [.int a1, .int (0 : Int32), .int (7 : Int32)]) C hP hS (c12_in  h7) y12_in_w g_1306 rfl rfl rfl ⟨Nat.le_of_ble_eq_true rfl, Nat.le_of_ble_eq_true rfl⟩ hl.1 rfl (Nat.le_of_ble_eq_true rfl) dX12_isPlace_14 ⟨Nat.le_of_ble_eq_true rfl, Nat.le_of_ble_eq_true rfl⟩ (fun H locs hP hS => ?_)
    refine lv_if_eq (tgt := 24) hx hb dX12_isPlace_17 (by decide) (fun c8 => ?_) (fun c8 => ?_)
    · replace hf := ite_t c8 hf
      exact w12_isPlace_24 (n := n)  C hr hk  hf hP hS (lv_sub hl [] rfl)
    · replace hf := ite_f c8 hf
      refine lv_iconst (v := (1 : Int32)) hx hb dX12_isPlace_20 (by decide) ?_
      refine lv_goto (tgt := 25) hx hb dX12_isPlace_21 (by decide) ?_
      exact prZ C hr hk hP hS hf rfl dX12_isPlace_25
theorem c12_isPlace {l : Launch} {z : Zt} {b n : Nat}  {a0 : Int32} {a1 : Int32} {M M' : Mem} {r : Int32} (hf : f12_isPlace n  a0 a1 M = some (r, M')) : CI l z (yd z b) 32 b yX12_isPlace cX12_isPlace 2 (some .boolean) rm12_isPlace [.int a0, .int a1] M M' r :=
  CI.ofW (lv := [(0, .int a0), (1, .int a1)]) (by decide) (Nat.le_of_ble_eq_true rfl) rfl (fun p e s m args below meth c ls C hr hk hP hS hl => w12_isPlace_0 (n := n)  C hr hk  hf hP hS hl)

-- BronzeKingModel.isOpen(I)Z
theorem dX12_isOpen_0 : decode cX12_isOpen 0 = .ok (.iload_n 1, 1) := by decide +kernel
theorem dX12_isOpen_1 : decode cX12_isOpen 1 = .ok (.aload_n 0, 1) := by decide +kernel
theorem dX12_isOpen_2 : decode cX12_isOpen 2 = .ok (.getfield 110, 3) := by decide +kernel
theorem dX12_isOpen_5 : decode cX12_isOpen 5 = .ok (.if_icmp .eq 13, 3) := by decide +kernel
theorem dX12_isOpen_8 : decode cX12_isOpen 8 = .ok (.aload_n 0, 1) := by decide +kernel
theorem dX12_isOpen_9 : decode cX12_isOpen 9 = .ok (.getfield 19, 3) := by decide +kernel
theorem dX12_isOpen_12 : decode cX12_isOpen 12 = .ok (.iload_n 1, 1) := by decide +kernel
theorem dX12_isOpen_13 : decode cX12_isOpen 13 = .ok (.iaload, 1) := by decide +kernel
theorem dX12_isOpen_14 : decode cX12_isOpen 14 = .ok (.iconst 2, 1) := by decide +kernel
theorem dX12_isOpen_15 : decode cX12_isOpen 15 = .ok (.if_icmp .ne 7, 3) := by decide +kernel
theorem dX12_isOpen_18 : decode cX12_isOpen 18 = .ok (.iconst 1, 1) := by decide +kernel
theorem dX12_isOpen_19 : decode cX12_isOpen 19 = .ok (.goto 4, 3) := by decide +kernel
theorem dX12_isOpen_22 : decode cX12_isOpen 22 = .ok (.iconst 0, 1) := by decide +kernel
theorem dX12_isOpen_23 : decode cX12_isOpen 23 = .ok (.ireturn, 1) := by decide +kernel
def b12_isOpen_18 (rc : Nat → List Int32 → List Int64 → Mem → Option (Int32 × Mem)) (n : Nat) (M : Mem) : Option (Int32 × Mem) :=
  some ((1 : Int32), M)
def b12_isOpen_0 (rc : Nat → List Int32 → List Int64 → Mem → Option (Int32 × Mem)) (n : Nat) (a1 : Int32) (M : Mem) : Option (Int32 × Mem) :=
  (if a1 = (M.1 0 5) then (
   b12_isOpen_18  rc n  M)
  else (
   chk (inb a1 96) <|
   (if (M.1 4 a1.toNatClampNeg) = (2 : Int32) then (
    b12_isOpen_18  rc n  M)
   else (
    some ((0 : Int32), M)))))
def f12_isOpen (n : Nat) (a1 : Int32) (M : Mem) : Option (Int32 × Mem) := b12_isOpen_0 (fun _ _ _ _ => none) n a1 M
abbrev rm12_isOpen : Room := { frames := 0, cells := 0, slots := 0, locals := 0 }
theorem y12_isOpen_w : yV RX12 yX12_isOpen cX12_isOpen 2 (some .boolean) 1 := ⟨g_1485, gp 70 rfl rfl, g_14, g_1486, rfl, by decide, by decide, by decide +kernel⟩
set_option maxHeartbeats 4000000 in
set_option maxRecDepth 100000 in
theorem w12_isOpen_18 {p : Program} {l : Launch} {e : Env} {s : State} {m : MethodId} {args : Array Value} {below : List Frame} {meth : Method} {c : Code} {z : Zt} {b : Nat}  (C : Cx p s m args c cX12_isOpen 2 RX12 z 32 b) (hr : meth.sig.returnType = (some .boolean)) (hk : meth.locks = false) {r : Int32} {M' : Mem} {rc : Nat → List Int32 → List Int64 → Mem → Option (Int32 × Mem)} {n : Nat}   {M : Mem} {H : Heap} {locs : List Loc} {ls : Array Slot} (hf : b12_isOpen_18  rc n  M = some (r, M')) (hP : va_P z.1 vwCl (pw (yd z b) 32 b M) H) (hS : va_S (pA 32 b) s.heap H locs) (hl : lv_has ls 2 []) : W p l e rm12_isOpen s m args below meth c H locs 0 0 (MQ below (va_Qi (fun (r' : Int32) (M2 : Mem) => r' = r ∧ M2 = M') (fun M2 t => va_P z.1 vwCl (pw (yd z b) 32 b M2) t.heap) (pA 32 b)) args s 0 0 (pA 32 b)) (F0 m 18 ls []) := by
  have hx := C.1.1
  have hb := C.1.2.1
  unfold b12_isOpen_18 at hf
  refine lv_iconst (v := (1 : Int32)) hx hb dX12_isOpen_18 (by decide) ?_
  refine lv_goto (tgt := 23) hx hb dX12_isOpen_19 (by decide) ?_
  exact prZ C hr hk hP hS hf rfl dX12_isOpen_23
set_option maxHeartbeats 4000000 in
set_option maxRecDepth 100000 in
theorem w12_isOpen_0 {p : Program} {l : Launch} {e : Env} {s : State} {m : MethodId} {args : Array Value} {below : List Frame} {meth : Method} {c : Code} {z : Zt} {b : Nat}  (C : Cx p s m args c cX12_isOpen 2 RX12 z 32 b) (hr : meth.sig.returnType = (some .boolean)) (hk : meth.locks = false) {r : Int32} {M' : Mem} {rc : Nat → List Int32 → List Int64 → Mem → Option (Int32 × Mem)} {n : Nat}  {a1 : Int32} {M : Mem} {H : Heap} {locs : List Loc} {ls : Array Slot} (hf : b12_isOpen_0  rc n a1 M = some (r, M')) (hP : va_P z.1 vwCl (pw (yd z b) 32 b M) H) (hS : va_S (pA 32 b) s.heap H locs) (hl : lv_has ls 2 [(0, .ref (b + 0)), (1, .int a1)]) : W p l e rm12_isOpen s m args below meth c H locs 0 0 (MQ below (va_Qi (fun (r' : Int32) (M2 : Mem) => r' = r ∧ M2 = M') (fun M2 t => va_P z.1 vwCl (pw (yd z b) 32 b M2) t.heap) (pA 32 b)) args s 0 0 (pA 32 b)) (F0 m 0 ls []) := by
  have hx := C.1.1
  have hb := C.1.2.1
  unfold b12_isOpen_0 at hf
  refine lv_iload_n hx hb dX12_isOpen_0 rfl (lv_at hl 1 rfl) ?_
  refine lv_aload_n hx hb dX12_isOpen_1 rfl (lv_at hl 0 rfl) ?_
  refine pg C hP (k := 0) (j := 5) (Nat.le_of_ble_eq_true rfl) (yd_0 _ _) rfl iw_12 (Nat.le_of_ble_eq_true rfl) g_1140 rfl rfl dX12_isOpen_2 ?_
  refine lv_icmp_eq (tgt := 18) hx hb dX12_isOpen_5 (by decide) (fun c1 => ?_) (fun c1 => ?_)
  · replace hf := ite_t c1 hf
    exact w12_isOpen_18 (n := n)  C hr hk  hf hP hS (lv_sub hl [] rfl)
  · replace hf := ite_f c1 hf
    refine lv_aload_n hx hb dX12_isOpen_8 rfl (lv_at hl 0 rfl) ?_
    refine pg C hP (k := 0) (j := 3) (Nat.le_of_ble_eq_true rfl) (yd_0 _ _) rfl iw_12 (Nat.le_of_ble_eq_true rfl) g_1138 rfl rfl dX12_isOpen_9 ?_
    refine lv_iload_n hx hb dX12_isOpen_12 rfl (lv_at hl 1 rfl) ?_
    have h2 := chk_1 hf
    replace hf := chk_2 hf
    refine paI C hP (k := 4) (Nat.le_of_ble_eq_true rfl) (yd_4 _ _) h2 dX12_isOpen_13 ?_
    refine lv_iconst (v := (2 : Int32)) hx hb dX12_isOpen_14 (by decide) ?_
    refine lv_icmp_ne (tgt := 22) hx hb dX12_isOpen_15 (by decide) (fun c3 => ?_) (fun c3 => ?_)
    · replace hf := ite_f c3 hf
      refine lv_iconst (v := (0 : Int32)) hx hb dX12_isOpen_22 (by decide) ?_
      exact prZ C hr hk hP hS hf rfl dX12_isOpen_23
    · replace hf := ite_t c3 hf
      exact w12_isOpen_18 (n := n)  C hr hk  hf hP hS (lv_sub hl [] rfl)
theorem c12_isOpen {l : Launch} {z : Zt} {b n : Nat}  {a1 : Int32} {M M' : Mem} {r : Int32} (hf : f12_isOpen n  a1 M = some (r, M')) : CI l z (yd z b) 32 b yX12_isOpen cX12_isOpen 2 (some .boolean) rm12_isOpen [.ref (b + 0), .int a1] M M' r :=
  CI.ofW (lv := [(0, .ref (b + 0)), (1, .int a1)]) (by decide) (Nat.le_of_ble_eq_true rfl) rfl (fun p e s m args below meth c ls C hr hk hP hS hl => w12_isOpen_0 (n := n)  C hr hk  hf hP hS hl)

-- BronzeKingModel.square(II)Z
theorem dX12_square_0 : decode cX12_square 0 = .ok (.iload_n 1, 1) := by decide +kernel
theorem dX12_square_1 : decode cX12_square 1 = .ok (.iload_n 2, 1) := by decide +kernel
theorem dX12_square_2 : decode cX12_square 2 = .ok (.invokestatic 114, 3) := by decide +kernel
theorem dX12_square_5 : decode cX12_square 5 = .ok (.ifCond .ne 5, 3) := by decide +kernel
theorem dX12_square_8 : decode cX12_square 8 = .ok (.iconst 0, 1) := by decide +kernel
theorem dX12_square_9 : decode cX12_square 9 = .ok (.ireturn, 1) := by decide +kernel
theorem dX12_square_10 : decode cX12_square 10 = .ok (.aload_n 0, 1) := by decide +kernel
theorem dX12_square_11 : decode cX12_square 11 = .ok (.bipush 12, 2) := by decide +kernel
theorem dX12_square_13 : decode cX12_square 13 = .ok (.iload_n 2, 1) := by decide +kernel
theorem dX12_square_14 : decode cX12_square 14 = .ok (.imul, 1) := by decide +kernel
theorem dX12_square_15 : decode cX12_square 15 = .ok (.iload_n 1, 1) := by decide +kernel
theorem dX12_square_16 : decode cX12_square 16 = .ok (.iadd, 1) := by decide +kernel
theorem dX12_square_17 : decode cX12_square 17 = .ok (.putfield 110, 3) := by decide +kernel
theorem dX12_square_20 : decode cX12_square 20 = .ok (.aload_n 0, 1) := by decide +kernel
theorem dX12_square_21 : decode cX12_square 21 = .ok (.iconst 0, 1) := by decide +kernel
theorem dX12_square_22 : decode cX12_square 22 = .ok (.putfield 118, 3) := by decide +kernel
theorem dX12_square_25 : decode cX12_square 25 = .ok (.iconst 1, 1) := by decide +kernel
theorem dX12_square_26 : decode cX12_square 26 = .ok (.ireturn, 1) := by decide +kernel
def b12_square_0 (rc : Nat → List Int32 → List Int64 → Mem → Option (Int32 × Mem)) (n : Nat) (a1 : Int32) (a2 : Int32) (M : Mem) : Option (Int32 × Mem) :=
  bnd (f12_isPlace n a1 a2 M) fun r1 M2 =>
  (if r1 = 0 then (
   some ((0 : Int32), M2))
  else (
   lt (wI M2 0 5 (((12 : Int32) * a2) + a1)) fun M5 =>
   lt (wI M5 0 9 (0 : Int32)) fun M6 =>
   some ((1 : Int32), M6)))
def f12_square (n : Nat) (a1 : Int32) (a2 : Int32) (M : Mem) : Option (Int32 × Mem) := b12_square_0 (fun _ _ _ _ => none) n a1 a2 M
abbrev rm12_square : Room := { frames := 2, cells := 0, slots := 0, locals := 43 }
theorem y12_square_w : yV RX12 yX12_square cX12_square 3 (some .boolean) 2 := ⟨g_1300, g_1301, g_14, g_1302, rfl, by decide, by decide, by decide +kernel⟩
set_option maxHeartbeats 4000000 in
set_option maxRecDepth 100000 in
theorem w12_square_0 {p : Program} {l : Launch} {e : Env} {s : State} {m : MethodId} {args : Array Value} {below : List Frame} {meth : Method} {c : Code} {z : Zt} {b : Nat}  (C : Cx p s m args c cX12_square 3 RX12 z 32 b) (hr : meth.sig.returnType = (some .boolean)) (hk : meth.locks = false) {r : Int32} {M' : Mem} {rc : Nat → List Int32 → List Int64 → Mem → Option (Int32 × Mem)} {n : Nat}  {a1 : Int32} {a2 : Int32} {M : Mem} {H : Heap} {locs : List Loc} {ls : Array Slot} (hf : b12_square_0  rc n a1 a2 M = some (r, M')) (hP : va_P z.1 vwCl (pw (yd z b) 32 b M) H) (hS : va_S (pA 32 b) s.heap H locs) (hl : lv_has ls 3 [(0, .ref (b + 0)), (1, .int a1), (2, .int a2)]) : W p l e rm12_square s m args below meth c H locs 0 0 (MQ below (va_Qi (fun (r' : Int32) (M2 : Mem) => r' = r ∧ M2 = M') (fun M2 t => va_P z.1 vwCl (pw (yd z b) 32 b M2) t.heap) (pA 32 b)) args s 0 0 (pA 32 b)) (F0 m 0 ls []) := by
  have hx := C.1.1
  have hb := C.1.2.1
  unfold b12_square_0 at hf
  refine lv_iload_n hx hb dX12_square_0 rfl (lv_at hl 1 rfl) ?_
  refine lv_iload_n hx hb dX12_square_1 rfl (lv_at hl 2 rfl) ?_
  obtain ⟨r1, M2, h3, hf⟩ := bnd_s hf
  refine pcSi (As := [.int a1, .int a2]) C hP hS (c12_isPlace  h3) y12_isPlace_w g_1303 rfl rfl rfl ⟨Nat.le_of_ble_eq_true rfl, Nat.le_of_ble_eq_true rfl⟩ hl.1 rfl (Nat.le_of_ble_eq_true rfl) dX12_square_2 ⟨Nat.le_of_ble_eq_true rfl, Nat.le_of_ble_eq_true rfl⟩ (fun H locs hP hS => ?_)
  refine lv_if_ne (tgt := 10) hx hb dX12_square_5 (by decide) (fun c4 => ?_) (fun c4 => ?_)
  · replace hf := ite_f c4 hf
    refine lv_aload_n hx hb dX12_square_10 rfl (lv_at hl 0 rfl) ?_
    refine lv_bipush (v := (12 : Int32)) hx hb dX12_square_11 (by decide) ?_
    refine lv_iload_n hx hb dX12_square_13 rfl (lv_at hl 2 rfl) ?_
    refine lv_imul hx hb dX12_square_14 ?_
    refine lv_iload_n hx hb dX12_square_15 rfl (lv_at hl 1 rfl) ?_
    refine lv_iadd hx hb dX12_square_16 ?_
    refine ppI C hP hS (k := 0) (j := 5) (ty := .int) (Nat.le_of_ble_eq_true rfl) (yd_0 _ _) rfl iw_12 tyX12 tyX12_ok nmX12 (Nat.le_of_ble_eq_true rfl) g_1140 rfl rfl (by decide +kernel) rfl rfl (Nat.le_of_ble_eq_true rfl) (yu_0_5 _ _ _) dX12_square_17 (fun M5 H locs eM5 hP hS => ?_)
    replace hf := lt_c eM5 hf
    refine lv_aload_n hx hb dX12_square_20 rfl (lv_at hl 0 rfl) ?_
    refine lv_iconst (v := (0 : Int32)) hx hb dX12_square_21 (by decide) ?_
    refine ppI C hP hS (k := 0) (j := 9) (ty := .boolean) (Nat.le_of_ble_eq_true rfl) (yd_0 _ _) rfl iw_12 tyX12 tyX12_ok nmX12 (Nat.le_of_ble_eq_true rfl) g_1144 rfl rfl (by decide +kernel) rfl rfl (Nat.le_of_ble_eq_true rfl) (yu_0_9 _ _ _) dX12_square_22 (fun M6 H locs eM6 hP hS => ?_)
    replace hf := lt_c eM6 hf
    refine lv_iconst (v := (1 : Int32)) hx hb dX12_square_25 (by decide) ?_
    exact prZ C hr hk hP hS hf rfl dX12_square_26
  · replace hf := ite_t c4 hf
    refine lv_iconst (v := (0 : Int32)) hx hb dX12_square_8 (by decide) ?_
    exact prZ C hr hk hP hS hf rfl dX12_square_9
theorem c12_square {l : Launch} {z : Zt} {b n : Nat}  {a1 : Int32} {a2 : Int32} {M M' : Mem} {r : Int32} (hf : f12_square n  a1 a2 M = some (r, M')) : CI l z (yd z b) 32 b yX12_square cX12_square 3 (some .boolean) rm12_square [.ref (b + 0), .int a1, .int a2] M M' r :=
  CI.ofW (lv := [(0, .ref (b + 0)), (1, .int a1), (2, .int a2)]) (by decide) (Nat.le_of_ble_eq_true rfl) rfl (fun p e s m args below meth c ls C hr hk hP hS hl => w12_square_0 (n := n)  C hr hk  hf hP hS hl)

-- BronzeKingModel.door(III)Z
theorem dX12_door_0 : decode cX12_door 0 = .ok (.iload_n 1, 1) := by decide +kernel
theorem dX12_door_1 : decode cX12_door 1 = .ok (.iconst 1, 1) := by decide +kernel
theorem dX12_door_2 : decode cX12_door 2 = .ok (.bipush 9, 2) := by decide +kernel
theorem dX12_door_4 : decode cX12_door 4 = .ok (.invokestatic 106, 3) := by decide +kernel
theorem dX12_door_7 : decode cX12_door 7 = .ok (.ifCond .eq 11, 3) := by decide +kernel
theorem dX12_door_10 : decode cX12_door 10 = .ok (.iload_n 2, 1) := by decide +kernel
theorem dX12_door_11 : decode cX12_door 11 = .ok (.iload_n 3, 1) := by decide +kernel
theorem dX12_door_12 : decode cX12_door 12 = .ok (.invokestatic 114, 3) := by decide +kernel
theorem dX12_door_15 : decode cX12_door 15 = .ok (.ifCond .ne 5, 3) := by decide +kernel
theorem dX12_door_18 : decode cX12_door 18 = .ok (.iconst 0, 1) := by decide +kernel
theorem dX12_door_19 : decode cX12_door 19 = .ok (.ireturn, 1) := by decide +kernel
theorem dX12_door_20 : decode cX12_door 20 = .ok (.aload_n 0, 1) := by decide +kernel
theorem dX12_door_21 : decode cX12_door 21 = .ok (.getfield 22, 3) := by decide +kernel
theorem dX12_door_24 : decode cX12_door 24 = .ok (.iload_n 1, 1) := by decide +kernel
theorem dX12_door_25 : decode cX12_door 25 = .ok (.bipush 12, 2) := by decide +kernel
theorem dX12_door_27 : decode cX12_door 27 = .ok (.iload_n 3, 1) := by decide +kernel
theorem dX12_door_28 : decode cX12_door 28 = .ok (.imul, 1) := by decide +kernel
theorem dX12_door_29 : decode cX12_door 29 = .ok (.iload_n 2, 1) := by decide +kernel
theorem dX12_door_30 : decode cX12_door 30 = .ok (.iadd, 1) := by decide +kernel
theorem dX12_door_31 : decode cX12_door 31 = .ok (.iastore, 1) := by decide +kernel
theorem dX12_door_32 : decode cX12_door 32 = .ok (.iconst 1, 1) := by decide +kernel
theorem dX12_door_33 : decode cX12_door 33 = .ok (.ireturn, 1) := by decide +kernel
def b12_door_18 (rc : Nat → List Int32 → List Int64 → Mem → Option (Int32 × Mem)) (n : Nat) (M : Mem) : Option (Int32 × Mem) :=
  some ((0 : Int32), M)
def b12_door_0 (rc : Nat → List Int32 → List Int64 → Mem → Option (Int32 × Mem)) (n : Nat) (a1 : Int32) (a2 : Int32) (a3 : Int32) (M : Mem) : Option (Int32 × Mem) :=
  bnd (f12_in n a1 (1 : Int32) (9 : Int32) M) fun r1 M2 =>
  (if r1 = 0 then (
   b12_door_18  rc n  M2)
  else (
   bnd (f12_isPlace n a2 a3 M2) fun r5 M6 =>
   (if r5 = 0 then (
    b12_door_18  rc n  M6)
   else (
    chk (inb a1 10) <|
    lt (wI M6 5 a1.toNatClampNeg (((12 : Int32) * a3) + a2)) fun M10 =>
    some ((1 : Int32), M10)))))
def f12_door (n : Nat) (a1 : Int32) (a2 : Int32) (a3 : Int32) (M : Mem) : Option (Int32 × Mem) := b12_door_0 (fun _ _ _ _ => none) n a1 a2 a3 M
abbrev rm12_door : Room := { frames := 2, cells := 0, slots := 0, locals := 43 }
theorem y12_door_w : yV RX12 yX12_door cX12_door 4 (some .boolean) 3 := ⟨g_1310, g_1311, g_14, g_1312, rfl, by decide, by decide, by decide +kernel⟩
set_option maxHeartbeats 4000000 in
set_option maxRecDepth 100000 in
theorem w12_door_18 {p : Program} {l : Launch} {e : Env} {s : State} {m : MethodId} {args : Array Value} {below : List Frame} {meth : Method} {c : Code} {z : Zt} {b : Nat}  (C : Cx p s m args c cX12_door 4 RX12 z 32 b) (hr : meth.sig.returnType = (some .boolean)) (hk : meth.locks = false) {r : Int32} {M' : Mem} {rc : Nat → List Int32 → List Int64 → Mem → Option (Int32 × Mem)} {n : Nat}   {M : Mem} {H : Heap} {locs : List Loc} {ls : Array Slot} (hf : b12_door_18  rc n  M = some (r, M')) (hP : va_P z.1 vwCl (pw (yd z b) 32 b M) H) (hS : va_S (pA 32 b) s.heap H locs) (hl : lv_has ls 4 []) : W p l e rm12_door s m args below meth c H locs 0 0 (MQ below (va_Qi (fun (r' : Int32) (M2 : Mem) => r' = r ∧ M2 = M') (fun M2 t => va_P z.1 vwCl (pw (yd z b) 32 b M2) t.heap) (pA 32 b)) args s 0 0 (pA 32 b)) (F0 m 18 ls []) := by
  have hx := C.1.1
  have hb := C.1.2.1
  unfold b12_door_18 at hf
  refine lv_iconst (v := (0 : Int32)) hx hb dX12_door_18 (by decide) ?_
  exact prZ C hr hk hP hS hf rfl dX12_door_19
set_option maxHeartbeats 4000000 in
set_option maxRecDepth 100000 in
theorem w12_door_0 {p : Program} {l : Launch} {e : Env} {s : State} {m : MethodId} {args : Array Value} {below : List Frame} {meth : Method} {c : Code} {z : Zt} {b : Nat}  (C : Cx p s m args c cX12_door 4 RX12 z 32 b) (hr : meth.sig.returnType = (some .boolean)) (hk : meth.locks = false) {r : Int32} {M' : Mem} {rc : Nat → List Int32 → List Int64 → Mem → Option (Int32 × Mem)} {n : Nat}  {a1 : Int32} {a2 : Int32} {a3 : Int32} {M : Mem} {H : Heap} {locs : List Loc} {ls : Array Slot} (hf : b12_door_0  rc n a1 a2 a3 M = some (r, M')) (hP : va_P z.1 vwCl (pw (yd z b) 32 b M) H) (hS : va_S (pA 32 b) s.heap H locs) (hl : lv_has ls 4 [(0, .ref (b + 0)), (1, .int a1), (2, .int a2), (3, .int a3)]) : W p l e rm12_door s m args below meth c H locs 0 0 (MQ below (va_Qi (fun (r' : Int32) (M2 : Mem) => r' = r ∧ M2 = M') (fun M2 t => va_P z.1 vwCl (pw (yd z b) 32 b M2) t.heap) (pA 32 b)) args s 0 0 (pA 32 b)) (F0 m 0 ls []) := by
  have hx := C.1.1
  have hb := C.1.2.1
  unfold b12_door_0 at hf
  refine lv_iload_n hx hb dX12_door_0 rfl (lv_at hl 1 rfl) ?_
  refine lv_iconst (v := (1 : Int32)) hx hb dX12_door_1 (by decide) ?_
  refine lv_bipush (v := (9 : Int32)) hx hb dX12_door_2 (by decide) ?_
  obtain ⟨r1, M2, h3, hf⟩ := bnd_s hf
  refine pcSi (As := [.int a1, .int (1 : Int32), .int (9 : Int32)]) C hP hS (c12_in  h3) y12_in_w g_1306 rfl rfl rfl ⟨Nat.le_of_ble_eq_true rfl, Nat.le_of_ble_eq_true rfl⟩ hl.1 rfl (Nat.le_of_ble_eq_true rfl) dX12_door_4 ⟨Nat.le_of_ble_eq_true rfl, Nat.le_of_ble_eq_true rfl⟩ (fun H locs hP hS => ?_)
  refine lv_if_eq (tgt := 18) hx hb dX12_door_7 (by decide) (fun c4 => ?_) (fun c4 => ?_)
  · replace hf := ite_t c4 hf
    exact w12_door_18 (n := n)  C hr hk  hf hP hS (lv_sub hl [] rfl)
  · replace hf := ite_f c4 hf
    refine lv_iload_n hx hb dX12_door_10 rfl (lv_at hl 2 rfl) ?_
    refine lv_iload_n hx hb dX12_door_11 rfl (lv_at hl 3 rfl) ?_
    obtain ⟨r5, M6, h7, hf⟩ := bnd_s hf
    refine pcSi (As := [.int a2, .int a3]) C hP hS (c12_isPlace  h7) y12_isPlace_w g_1303 rfl rfl rfl ⟨Nat.le_of_ble_eq_true rfl, Nat.le_of_ble_eq_true rfl⟩ hl.1 rfl (Nat.le_of_ble_eq_true rfl) dX12_door_12 ⟨Nat.le_of_ble_eq_true rfl, Nat.le_of_ble_eq_true rfl⟩ (fun H locs hP hS => ?_)
    refine lv_if_ne (tgt := 20) hx hb dX12_door_15 (by decide) (fun c8 => ?_) (fun c8 => ?_)
    · replace hf := ite_f c8 hf
      refine lv_aload_n hx hb dX12_door_20 rfl (lv_at hl 0 rfl) ?_
      refine pg C hP (k := 0) (j := 4) (Nat.le_of_ble_eq_true rfl) (yd_0 _ _) rfl iw_12 (Nat.le_of_ble_eq_true rfl) g_1139 rfl rfl dX12_door_21 ?_
      refine lv_iload_n hx hb dX12_door_24 rfl (lv_at hl 1 rfl) ?_
      refine lv_bipush (v := (12 : Int32)) hx hb dX12_door_25 (by decide) ?_
      refine lv_iload_n hx hb dX12_door_27 rfl (lv_at hl 3 rfl) ?_
      refine lv_imul hx hb dX12_door_28 ?_
      refine lv_iload_n hx hb dX12_door_29 rfl (lv_at hl 2 rfl) ?_
      refine lv_iadd hx hb dX12_door_30 ?_
      have h9 := chk_1 hf
      replace hf := chk_2 hf
      refine psI C hP hS (k := 5) (Nat.le_of_ble_eq_true rfl) (yd_5) h9 dX12_door_31 (fun M10 H locs eM10 hP hS => ?_)
      replace hf := lt_c eM10 hf
      refine lv_iconst (v := (1 : Int32)) hx hb dX12_door_32 (by decide) ?_
      exact prZ C hr hk hP hS hf rfl dX12_door_33
    · replace hf := ite_t c8 hf
      exact w12_door_18 (n := n)  C hr hk  hf hP hS (lv_sub hl [] rfl)
theorem c12_door {l : Launch} {z : Zt} {b n : Nat}  {a1 : Int32} {a2 : Int32} {a3 : Int32} {M M' : Mem} {r : Int32} (hf : f12_door n  a1 a2 a3 M = some (r, M')) : CI l z (yd z b) 32 b yX12_door cX12_door 4 (some .boolean) rm12_door [.ref (b + 0), .int a1, .int a2, .int a3] M M' r :=
  CI.ofW (lv := [(0, .ref (b + 0)), (1, .int a1), (2, .int a2), (3, .int a3)]) (by decide) (Nat.le_of_ble_eq_true rfl) rfl (fun p e s m args below meth c ls C hr hk hP hS hl => w12_door_0 (n := n)  C hr hk  hf hP hS hl)

-- BronzeKingModel.beside(II)I
theorem dX12_beside_0 : decode cX12_beside 0 = .ok (.iload_n 0, 1) := by decide +kernel
theorem dX12_beside_1 : decode cX12_beside 1 = .ok (.bipush 12, 2) := by decide +kernel
theorem dX12_beside_3 : decode cX12_beside 3 = .ok (.irem, 1) := by decide +kernel
theorem dX12_beside_4 : decode cX12_beside 4 = .ok (.iload_n 1, 1) := by decide +kernel
theorem dX12_beside_5 : decode cX12_beside 5 = .ok (.iconst 1, 1) := by decide +kernel
theorem dX12_beside_6 : decode cX12_beside 6 = .ok (.if_icmp .ne 7, 3) := by decide +kernel
theorem dX12_beside_9 : decode cX12_beside 9 = .ok (.iconst 1, 1) := by decide +kernel
theorem dX12_beside_10 : decode cX12_beside 10 = .ok (.goto 13, 3) := by decide +kernel
theorem dX12_beside_13 : decode cX12_beside 13 = .ok (.iload_n 1, 1) := by decide +kernel
theorem dX12_beside_14 : decode cX12_beside 14 = .ok (.iconst 3, 1) := by decide +kernel
theorem dX12_beside_15 : decode cX12_beside 15 = .ok (.if_icmp .ne 7, 3) := by decide +kernel
theorem dX12_beside_18 : decode cX12_beside 18 = .ok (.iconst (-1), 1) := by decide +kernel
theorem dX12_beside_19 : decode cX12_beside 19 = .ok (.goto 4, 3) := by decide +kernel
theorem dX12_beside_22 : decode cX12_beside 22 = .ok (.iconst 0, 1) := by decide +kernel
theorem dX12_beside_23 : decode cX12_beside 23 = .ok (.iadd, 1) := by decide +kernel
theorem dX12_beside_24 : decode cX12_beside 24 = .ok (.istore_n 2, 1) := by decide +kernel
theorem dX12_beside_25 : decode cX12_beside 25 = .ok (.iload_n 0, 1) := by decide +kernel
theorem dX12_beside_26 : decode cX12_beside 26 = .ok (.bipush 12, 2) := by decide +kernel
theorem dX12_beside_28 : decode cX12_beside 28 = .ok (.idiv, 1) := by decide +kernel
theorem dX12_beside_29 : decode cX12_beside 29 = .ok (.iload_n 1, 1) := by decide +kernel
theorem dX12_beside_30 : decode cX12_beside 30 = .ok (.iconst 2, 1) := by decide +kernel
theorem dX12_beside_31 : decode cX12_beside 31 = .ok (.if_icmp .ne 7, 3) := by decide +kernel
theorem dX12_beside_34 : decode cX12_beside 34 = .ok (.iconst 1, 1) := by decide +kernel
theorem dX12_beside_35 : decode cX12_beside 35 = .ok (.goto 12, 3) := by decide +kernel
theorem dX12_beside_38 : decode cX12_beside 38 = .ok (.iload_n 1, 1) := by decide +kernel
theorem dX12_beside_39 : decode cX12_beside 39 = .ok (.ifCond .ne 7, 3) := by decide +kernel
theorem dX12_beside_42 : decode cX12_beside 42 = .ok (.iconst (-1), 1) := by decide +kernel
theorem dX12_beside_43 : decode cX12_beside 43 = .ok (.goto 4, 3) := by decide +kernel
theorem dX12_beside_46 : decode cX12_beside 46 = .ok (.iconst 0, 1) := by decide +kernel
theorem dX12_beside_47 : decode cX12_beside 47 = .ok (.iadd, 1) := by decide +kernel
theorem dX12_beside_48 : decode cX12_beside 48 = .ok (.istore_n 3, 1) := by decide +kernel
theorem dX12_beside_49 : decode cX12_beside 49 = .ok (.iload_n 2, 1) := by decide +kernel
theorem dX12_beside_50 : decode cX12_beside 50 = .ok (.iload_n 3, 1) := by decide +kernel
theorem dX12_beside_51 : decode cX12_beside 51 = .ok (.invokestatic 114, 3) := by decide +kernel
theorem dX12_beside_54 : decode cX12_beside 54 = .ok (.ifCond .eq 12, 3) := by decide +kernel
theorem dX12_beside_57 : decode cX12_beside 57 = .ok (.bipush 12, 2) := by decide +kernel
theorem dX12_beside_59 : decode cX12_beside 59 = .ok (.iload_n 3, 1) := by decide +kernel
theorem dX12_beside_60 : decode cX12_beside 60 = .ok (.imul, 1) := by decide +kernel
theorem dX12_beside_61 : decode cX12_beside 61 = .ok (.iload_n 2, 1) := by decide +kernel
theorem dX12_beside_62 : decode cX12_beside 62 = .ok (.iadd, 1) := by decide +kernel
theorem dX12_beside_63 : decode cX12_beside 63 = .ok (.goto 4, 3) := by decide +kernel
theorem dX12_beside_66 : decode cX12_beside 66 = .ok (.iconst (-1), 1) := by decide +kernel
theorem dX12_beside_67 : decode cX12_beside 67 = .ok (.ireturn, 1) := by decide +kernel
def b12_beside_47 (rc : Nat → List Int32 → List Int64 → Mem → Option (Int32 × Mem)) (n : Nat) (i2 : Int32) (s0 : Int32) (s1 : Int32) (M : Mem) : Option (Int32 × Mem) :=
  lt (s0 + s1) fun v6 =>
  bnd (f12_isPlace n i2 v6 M) fun r7 M8 =>
  (if r7 = 0 then (
   some ((-1 : Int32), M8))
  else (
   some ((((12 : Int32) * v6) + i2), M8)))
def b12_beside_23 (rc : Nat → List Int32 → List Int64 → Mem → Option (Int32 × Mem)) (n : Nat) (i0 : Int32) (i1 : Int32) (s0 : Int32) (s1 : Int32) (M : Mem) : Option (Int32 × Mem) :=
  lt (s0 + s1) fun v3 =>
  (if i1 = (2 : Int32) then (
   b12_beside_47  rc n v3 (i0 / (12 : Int32)) (1 : Int32) M)
  else (
   (if i1 = 0 then (
    b12_beside_47  rc n v3 (i0 / (12 : Int32)) (-1 : Int32) M)
   else (
    b12_beside_47  rc n v3 (i0 / (12 : Int32)) (0 : Int32) M))))
def b12_beside_0 (rc : Nat → List Int32 → List Int64 → Mem → Option (Int32 × Mem)) (n : Nat) (a0 : Int32) (a1 : Int32) (M : Mem) : Option (Int32 × Mem) :=
  (if a1 = (1 : Int32) then (
   b12_beside_23  rc n a0 a1 (a0 - a0 / (12 : Int32) * (12 : Int32)) (1 : Int32) M)
  else (
   (if a1 = (3 : Int32) then (
    b12_beside_23  rc n a0 a1 (a0 - a0 / (12 : Int32) * (12 : Int32)) (-1 : Int32) M)
   else (
    b12_beside_23  rc n a0 a1 (a0 - a0 / (12 : Int32) * (12 : Int32)) (0 : Int32) M))))
def f12_beside (n : Nat) (a0 : Int32) (a1 : Int32) (M : Mem) : Option (Int32 × Mem) := b12_beside_0 (fun _ _ _ _ => none) n a0 a1 M
abbrev rm12_beside : Room := { frames := 2, cells := 0, slots := 0, locals := 43 }
theorem y12_beside_w : yS yX12_beside cX12_beside 4 (some .int) 2 := ⟨g_1488, g_14, g_1489, by decide, by decide, by decide +kernel⟩
set_option maxHeartbeats 4000000 in
set_option maxRecDepth 100000 in
theorem w12_beside_47 {p : Program} {l : Launch} {e : Env} {s : State} {m : MethodId} {args : Array Value} {below : List Frame} {meth : Method} {c : Code} {z : Zt} {b : Nat}  (C : Cx p s m args c cX12_beside 4 RX12 z 32 b) (hr : meth.sig.returnType = (some .int)) (hk : meth.locks = false) {r : Int32} {M' : Mem} {rc : Nat → List Int32 → List Int64 → Mem → Option (Int32 × Mem)} {n : Nat}  {i2 : Int32} {s0 : Int32} {s1 : Int32} {M : Mem} {H : Heap} {locs : List Loc} {ls : Array Slot} (hf : b12_beside_47  rc n i2 s0 s1 M = some (r, M')) (hP : va_P z.1 vwCl (pw (yd z b) 32 b M) H) (hS : va_S (pA 32 b) s.heap H locs) (hl : lv_has ls 4 [(2, .int i2)]) : W p l e rm12_beside s m args below meth c H locs 0 0 (MQ below (va_Qi (fun (r' : Int32) (M2 : Mem) => r' = r ∧ M2 = M') (fun M2 t => va_P z.1 vwCl (pw (yd z b) 32 b M2) t.heap) (pA 32 b)) args s 0 0 (pA 32 b)) (F0 m 47 ls [.int s1, .int s0]) := by
  have hx := C.1.1
  have hb := C.1.2.1
  unfold b12_beside_47 at hf
  refine lv_iadd hx hb dX12_beside_47 ?_
  refine lv_topi (fun v6 ev6 => ?_)
  replace hf := lt_c ev6 hf
  refine lv_istore_n (lv' := [(3, .int v6), (2, .int i2)]) hx hb dX12_beside_48 rfl hl (by decide) rfl (fun ls hl => ?_)
  refine lv_iload_n hx hb dX12_beside_49 rfl (lv_at hl 1 rfl) ?_
  refine lv_iload_n hx hb dX12_beside_50 rfl (lv_at hl 0 rfl) ?_
  obtain ⟨r7, M8, h9, hf⟩ := bnd_s hf
  refine pcSi (As := [.int i2, .int v6]) C hP hS (c12_isPlace  h9) y12_isPlace_w g_1303 rfl rfl rfl ⟨Nat.le_of_ble_eq_true rfl, Nat.le_of_ble_eq_true rfl⟩ hl.1 rfl (Nat.le_of_ble_eq_true rfl) dX12_beside_51 ⟨Nat.le_of_ble_eq_true rfl, Nat.le_of_ble_eq_true rfl⟩ (fun H locs hP hS => ?_)
  refine lv_if_eq (tgt := 66) hx hb dX12_beside_54 (by decide) (fun c10 => ?_) (fun c10 => ?_)
  · replace hf := ite_t c10 hf
    refine lv_iconst (v := (-1 : Int32)) hx hb dX12_beside_66 (by decide) ?_
    exact prI C hr hk hP hS hf dX12_beside_67
  · replace hf := ite_f c10 hf
    refine lv_bipush (v := (12 : Int32)) hx hb dX12_beside_57 (by decide) ?_
    refine lv_iload_n hx hb dX12_beside_59 rfl (lv_at hl 0 rfl) ?_
    refine lv_imul hx hb dX12_beside_60 ?_
    refine lv_iload_n hx hb dX12_beside_61 rfl (lv_at hl 1 rfl) ?_
    refine lv_iadd hx hb dX12_beside_62 ?_
    refine lv_goto (tgt := 67) hx hb dX12_beside_63 (by decide) ?_
    exact prI C hr hk hP hS hf dX12_beside_67
set_option maxHeartbeats 4000000 in
set_option maxRecDepth 100000 in
theorem w12_beside_23 {p : Program} {l : Launch} {e : Env} {s : State} {m : MethodId} {args : Array Value} {below : List Frame} {meth : Method} {c : Code} {z : Zt} {b : Nat}  (C : Cx p s m args c cX12_beside 4 RX12 z 32 b) (hr : meth.sig.returnType = (some .int)) (hk : meth.locks = false) {r : Int32} {M' : Mem} {rc : Nat → List Int32 → List Int64 → Mem → Option (Int32 × Mem)} {n : Nat}  {i0 : Int32} {i1 : Int32} {s0 : Int32} {s1 : Int32} {M : Mem} {H : Heap} {locs : List Loc} {ls : Array Slot} (hf : b12_beside_23  rc n i0 i1 s0 s1 M = some (r, M')) (hP : va_P z.1 vwCl (pw (yd z b) 32 b M) H) (hS : va_S (pA 32 b) s.heap H locs) (hl : lv_has ls 4 [(0, .int i0), (1, .int i1)]) : W p l e rm12_beside s m args below meth c H locs 0 0 (MQ below (va_Qi (fun (r' : Int32) (M2 : Mem) => r' = r ∧ M2 = M') (fun M2 t => va_P z.1 vwCl (pw (yd z b) 32 b M2) t.heap) (pA 32 b)) args s 0 0 (pA 32 b)) (F0 m 23 ls [.int s1, .int s0]) := by
  have hx := C.1.1
  have hb := C.1.2.1
  unfold b12_beside_23 at hf
  refine lv_iadd hx hb dX12_beside_23 ?_
  refine lv_topi (fun v3 ev3 => ?_)
  replace hf := lt_c ev3 hf
  refine lv_istore_n (lv' := [(2, .int v3), (0, .int i0), (1, .int i1)]) hx hb dX12_beside_24 rfl hl (by decide) rfl (fun ls hl => ?_)
  refine lv_iload_n hx hb dX12_beside_25 rfl (lv_at hl 1 rfl) ?_
  refine lv_bipush (v := (12 : Int32)) hx hb dX12_beside_26 (by decide) ?_
  refine lv_idiv hx hb dX12_beside_28 (by decide) ?_
  refine lv_iload_n hx hb dX12_beside_29 rfl (lv_at hl 2 rfl) ?_
  refine lv_iconst (v := (2 : Int32)) hx hb dX12_beside_30 (by decide) ?_
  refine lv_icmp_ne (tgt := 38) hx hb dX12_beside_31 (by decide) (fun c4 => ?_) (fun c4 => ?_)
  · replace hf := ite_f c4 hf
    refine lv_iload_n hx hb dX12_beside_38 rfl (lv_at hl 2 rfl) ?_
    refine lv_if_ne (tgt := 46) hx hb dX12_beside_39 (by decide) (fun c5 => ?_) (fun c5 => ?_)
    · replace hf := ite_f c5 hf
      refine lv_iconst (v := (0 : Int32)) hx hb dX12_beside_46 (by decide) ?_
      exact w12_beside_47 (n := n)  C hr hk  hf hP hS (lv_sub hl [0] rfl)
    · replace hf := ite_t c5 hf
      refine lv_iconst (v := (-1 : Int32)) hx hb dX12_beside_42 (by decide) ?_
      refine lv_goto (tgt := 47) hx hb dX12_beside_43 (by decide) ?_
      exact w12_beside_47 (n := n)  C hr hk  hf hP hS (lv_sub hl [0] rfl)
  · replace hf := ite_t c4 hf
    refine lv_iconst (v := (1 : Int32)) hx hb dX12_beside_34 (by decide) ?_
    refine lv_goto (tgt := 47) hx hb dX12_beside_35 (by decide) ?_
    exact w12_beside_47 (n := n)  C hr hk  hf hP hS (lv_sub hl [0] rfl)
set_option maxHeartbeats 4000000 in
set_option maxRecDepth 100000 in
theorem w12_beside_0 {p : Program} {l : Launch} {e : Env} {s : State} {m : MethodId} {args : Array Value} {below : List Frame} {meth : Method} {c : Code} {z : Zt} {b : Nat}  (C : Cx p s m args c cX12_beside 4 RX12 z 32 b) (hr : meth.sig.returnType = (some .int)) (hk : meth.locks = false) {r : Int32} {M' : Mem} {rc : Nat → List Int32 → List Int64 → Mem → Option (Int32 × Mem)} {n : Nat}  {a0 : Int32} {a1 : Int32} {M : Mem} {H : Heap} {locs : List Loc} {ls : Array Slot} (hf : b12_beside_0  rc n a0 a1 M = some (r, M')) (hP : va_P z.1 vwCl (pw (yd z b) 32 b M) H) (hS : va_S (pA 32 b) s.heap H locs) (hl : lv_has ls 4 [(0, .int a0), (1, .int a1)]) : W p l e rm12_beside s m args below meth c H locs 0 0 (MQ below (va_Qi (fun (r' : Int32) (M2 : Mem) => r' = r ∧ M2 = M') (fun M2 t => va_P z.1 vwCl (pw (yd z b) 32 b M2) t.heap) (pA 32 b)) args s 0 0 (pA 32 b)) (F0 m 0 ls []) := by
  have hx := C.1.1
  have hb := C.1.2.1
  unfold b12_beside_0 at hf
  refine lv_iload_n hx hb dX12_beside_0 rfl (lv_at hl 0 rfl) ?_
  refine lv_bipush (v := (12 : Int32)) hx hb dX12_beside_1 (by decide) ?_
  refine lv_irem hx hb dX12_beside_3 (by decide) ?_
  refine lv_iload_n hx hb dX12_beside_4 rfl (lv_at hl 1 rfl) ?_
  refine lv_iconst (v := (1 : Int32)) hx hb dX12_beside_5 (by decide) ?_
  refine lv_icmp_ne (tgt := 13) hx hb dX12_beside_6 (by decide) (fun c1 => ?_) (fun c1 => ?_)
  · replace hf := ite_f c1 hf
    refine lv_iload_n hx hb dX12_beside_13 rfl (lv_at hl 1 rfl) ?_
    refine lv_iconst (v := (3 : Int32)) hx hb dX12_beside_14 (by decide) ?_
    refine lv_icmp_ne (tgt := 22) hx hb dX12_beside_15 (by decide) (fun c2 => ?_) (fun c2 => ?_)
    · replace hf := ite_f c2 hf
      refine lv_iconst (v := (0 : Int32)) hx hb dX12_beside_22 (by decide) ?_
      exact w12_beside_23 (n := n)  C hr hk  hf hP hS (lv_sub hl [0, 1] rfl)
    · replace hf := ite_t c2 hf
      refine lv_iconst (v := (-1 : Int32)) hx hb dX12_beside_18 (by decide) ?_
      refine lv_goto (tgt := 23) hx hb dX12_beside_19 (by decide) ?_
      exact w12_beside_23 (n := n)  C hr hk  hf hP hS (lv_sub hl [0, 1] rfl)
  · replace hf := ite_t c1 hf
    refine lv_iconst (v := (1 : Int32)) hx hb dX12_beside_9 (by decide) ?_
    refine lv_goto (tgt := 23) hx hb dX12_beside_10 (by decide) ?_
    exact w12_beside_23 (n := n)  C hr hk  hf hP hS (lv_sub hl [0, 1] rfl)
theorem c12_beside {l : Launch} {z : Zt} {b n : Nat}  {a0 : Int32} {a1 : Int32} {M M' : Mem} {r : Int32} (hf : f12_beside n  a0 a1 M = some (r, M')) : CI l z (yd z b) 32 b yX12_beside cX12_beside 4 (some .int) rm12_beside [.int a0, .int a1] M M' r :=
  CI.ofW (lv := [(0, .int a0), (1, .int a1)]) (by decide) (Nat.le_of_ble_eq_true rfl) rfl (fun p e s m args below meth c ls C hr hk hP hS hl => w12_beside_0 (n := n)  C hr hk  hf hP hS hl)

-- BronzeKingModel.laysFrom(I)V
theorem dX12_laysFrom_0 : decode cX12_laysFrom 0 = .ok (.iconst 0, 1) := by decide +kernel
theorem dX12_laysFrom_1 : decode cX12_laysFrom 1 = .ok (.istore_n 2, 1) := by decide +kernel
theorem dX12_laysFrom_2 : decode cX12_laysFrom 2 = .ok (.iload_n 2, 1) := by decide +kernel
theorem dX12_laysFrom_3 : decode cX12_laysFrom 3 = .ok (.bipush 96, 2) := by decide +kernel
theorem dX12_laysFrom_5 : decode cX12_laysFrom 5 = .ok (.if_icmp .ge 22, 3) := by decide +kernel
theorem dX12_laysFrom_8 : decode cX12_laysFrom 8 = .ok (.aload_n 0, 1) := by decide +kernel
theorem dX12_laysFrom_9 : decode cX12_laysFrom 9 = .ok (.getfield 25, 3) := by decide +kernel
theorem dX12_laysFrom_12 : decode cX12_laysFrom 12 = .ok (.bipush 96, 2) := by decide +kernel
theorem dX12_laysFrom_14 : decode cX12_laysFrom 14 = .ok (.iload_n 1, 1) := by decide +kernel
theorem dX12_laysFrom_15 : decode cX12_laysFrom 15 = .ok (.imul, 1) := by decide +kernel
theorem dX12_laysFrom_16 : decode cX12_laysFrom 16 = .ok (.iload_n 2, 1) := by decide +kernel
theorem dX12_laysFrom_17 : decode cX12_laysFrom 17 = .ok (.iadd, 1) := by decide +kernel
theorem dX12_laysFrom_18 : decode cX12_laysFrom 18 = .ok (.bipush 99, 2) := by decide +kernel
theorem dX12_laysFrom_20 : decode cX12_laysFrom 20 = .ok (.bastore, 1) := by decide +kernel
theorem dX12_laysFrom_21 : decode cX12_laysFrom 21 = .ok (.iinc 2 1, 3) := by decide +kernel
theorem dX12_laysFrom_24 : decode cX12_laysFrom 24 = .ok (.goto (-22), 3) := by decide +kernel
theorem dX12_laysFrom_27 : decode cX12_laysFrom 27 = .ok (.aload_n 0, 1) := by decide +kernel
theorem dX12_laysFrom_28 : decode cX12_laysFrom 28 = .ok (.iload_n 1, 1) := by decide +kernel
theorem dX12_laysFrom_29 : decode cX12_laysFrom 29 = .ok (.invokevirtual 122, 3) := by decide +kernel
theorem dX12_laysFrom_32 : decode cX12_laysFrom 32 = .ok (.ifCond .ne 4, 3) := by decide +kernel
theorem dX12_laysFrom_35 : decode cX12_laysFrom 35 = .ok (.return_, 1) := by decide +kernel
theorem dX12_laysFrom_36 : decode cX12_laysFrom 36 = .ok (.aload_n 0, 1) := by decide +kernel
theorem dX12_laysFrom_37 : decode cX12_laysFrom 37 = .ok (.getfield 25, 3) := by decide +kernel
theorem dX12_laysFrom_40 : decode cX12_laysFrom 40 = .ok (.bipush 96, 2) := by decide +kernel
theorem dX12_laysFrom_42 : decode cX12_laysFrom 42 = .ok (.iload_n 1, 1) := by decide +kernel
theorem dX12_laysFrom_43 : decode cX12_laysFrom 43 = .ok (.imul, 1) := by decide +kernel
theorem dX12_laysFrom_44 : decode cX12_laysFrom 44 = .ok (.iload_n 1, 1) := by decide +kernel
theorem dX12_laysFrom_45 : decode cX12_laysFrom 45 = .ok (.iadd, 1) := by decide +kernel
theorem dX12_laysFrom_46 : decode cX12_laysFrom 46 = .ok (.iconst 0, 1) := by decide +kernel
theorem dX12_laysFrom_47 : decode cX12_laysFrom 47 = .ok (.bastore, 1) := by decide +kernel
theorem dX12_laysFrom_48 : decode cX12_laysFrom 48 = .ok (.aload_n 0, 1) := by decide +kernel
theorem dX12_laysFrom_49 : decode cX12_laysFrom 49 = .ok (.getfield 29, 3) := by decide +kernel
theorem dX12_laysFrom_52 : decode cX12_laysFrom 52 = .ok (.iconst 0, 1) := by decide +kernel
theorem dX12_laysFrom_53 : decode cX12_laysFrom 53 = .ok (.iload_n 1, 1) := by decide +kernel
theorem dX12_laysFrom_54 : decode cX12_laysFrom 54 = .ok (.iastore, 1) := by decide +kernel
theorem dX12_laysFrom_55 : decode cX12_laysFrom 55 = .ok (.iconst 1, 1) := by decide +kernel
theorem dX12_laysFrom_56 : decode cX12_laysFrom 56 = .ok (.istore_n 2, 1) := by decide +kernel
theorem dX12_laysFrom_57 : decode cX12_laysFrom 57 = .ok (.iconst 0, 1) := by decide +kernel
theorem dX12_laysFrom_58 : decode cX12_laysFrom 58 = .ok (.istore_n 3, 1) := by decide +kernel
theorem dX12_laysFrom_59 : decode cX12_laysFrom 59 = .ok (.iload_n 3, 1) := by decide +kernel
theorem dX12_laysFrom_60 : decode cX12_laysFrom 60 = .ok (.iload_n 2, 1) := by decide +kernel
theorem dX12_laysFrom_61 : decode cX12_laysFrom 61 = .ok (.if_icmp .ge 115, 3) := by decide +kernel
theorem dX12_laysFrom_64 : decode cX12_laysFrom 64 = .ok (.iconst 0, 1) := by decide +kernel
theorem dX12_laysFrom_65 : decode cX12_laysFrom 65 = .ok (.istore 4, 2) := by decide +kernel
theorem dX12_laysFrom_67 : decode cX12_laysFrom 67 = .ok (.iload 4, 2) := by decide +kernel
theorem dX12_laysFrom_69 : decode cX12_laysFrom 69 = .ok (.iconst 4, 1) := by decide +kernel
theorem dX12_laysFrom_70 : decode cX12_laysFrom 70 = .ok (.if_icmp .ge 100, 3) := by decide +kernel
theorem dX12_laysFrom_73 : decode cX12_laysFrom 73 = .ok (.aload_n 0, 1) := by decide +kernel
theorem dX12_laysFrom_74 : decode cX12_laysFrom 74 = .ok (.getfield 29, 3) := by decide +kernel
theorem dX12_laysFrom_77 : decode cX12_laysFrom 77 = .ok (.iload_n 3, 1) := by decide +kernel
theorem dX12_laysFrom_78 : decode cX12_laysFrom 78 = .ok (.iaload, 1) := by decide +kernel
theorem dX12_laysFrom_79 : decode cX12_laysFrom 79 = .ok (.iload 4, 2) := by decide +kernel
theorem dX12_laysFrom_81 : decode cX12_laysFrom 81 = .ok (.invokestatic 126, 3) := by decide +kernel
theorem dX12_laysFrom_84 : decode cX12_laysFrom 84 = .ok (.istore 5, 2) := by decide +kernel
theorem dX12_laysFrom_86 : decode cX12_laysFrom 86 = .ok (.iload 5, 2) := by decide +kernel
theorem dX12_laysFrom_88 : decode cX12_laysFrom 88 = .ok (.iconst (-1), 1) := by decide +kernel
theorem dX12_laysFrom_89 : decode cX12_laysFrom 89 = .ok (.if_icmp .eq 75, 3) := by decide +kernel
theorem dX12_laysFrom_92 : decode cX12_laysFrom 92 = .ok (.aload_n 0, 1) := by decide +kernel
theorem dX12_laysFrom_93 : decode cX12_laysFrom 93 = .ok (.iload 5, 2) := by decide +kernel
theorem dX12_laysFrom_95 : decode cX12_laysFrom 95 = .ok (.invokevirtual 122, 3) := by decide +kernel
theorem dX12_laysFrom_98 : decode cX12_laysFrom 98 = .ok (.ifCond .eq 66, 3) := by decide +kernel
theorem dX12_laysFrom_101 : decode cX12_laysFrom 101 = .ok (.aload_n 0, 1) := by decide +kernel
theorem dX12_laysFrom_102 : decode cX12_laysFrom 102 = .ok (.getfield 25, 3) := by decide +kernel
theorem dX12_laysFrom_105 : decode cX12_laysFrom 105 = .ok (.bipush 96, 2) := by decide +kernel
theorem dX12_laysFrom_107 : decode cX12_laysFrom 107 = .ok (.iload_n 1, 1) := by decide +kernel
theorem dX12_laysFrom_108 : decode cX12_laysFrom 108 = .ok (.imul, 1) := by decide +kernel
theorem dX12_laysFrom_109 : decode cX12_laysFrom 109 = .ok (.iload 5, 2) := by decide +kernel
theorem dX12_laysFrom_111 : decode cX12_laysFrom 111 = .ok (.iadd, 1) := by decide +kernel
theorem dX12_laysFrom_112 : decode cX12_laysFrom 112 = .ok (.baload, 1) := by decide +kernel
theorem dX12_laysFrom_113 : decode cX12_laysFrom 113 = .ok (.bipush 99, 2) := by decide +kernel
theorem dX12_laysFrom_115 : decode cX12_laysFrom 115 = .ok (.if_icmp .eq 6, 3) := by decide +kernel
theorem dX12_laysFrom_118 : decode cX12_laysFrom 118 = .ok (.goto 46, 3) := by decide +kernel
theorem dX12_laysFrom_121 : decode cX12_laysFrom 121 = .ok (.aload_n 0, 1) := by decide +kernel
theorem dX12_laysFrom_122 : decode cX12_laysFrom 122 = .ok (.getfield 25, 3) := by decide +kernel
theorem dX12_laysFrom_125 : decode cX12_laysFrom 125 = .ok (.bipush 96, 2) := by decide +kernel
theorem dX12_laysFrom_127 : decode cX12_laysFrom 127 = .ok (.iload_n 1, 1) := by decide +kernel
theorem dX12_laysFrom_128 : decode cX12_laysFrom 128 = .ok (.imul, 1) := by decide +kernel
theorem dX12_laysFrom_129 : decode cX12_laysFrom 129 = .ok (.iload 5, 2) := by decide +kernel
theorem dX12_laysFrom_131 : decode cX12_laysFrom 131 = .ok (.iadd, 1) := by decide +kernel
theorem dX12_laysFrom_132 : decode cX12_laysFrom 132 = .ok (.aload_n 0, 1) := by decide +kernel
theorem dX12_laysFrom_133 : decode cX12_laysFrom 133 = .ok (.getfield 25, 3) := by decide +kernel
theorem dX12_laysFrom_136 : decode cX12_laysFrom 136 = .ok (.bipush 96, 2) := by decide +kernel
theorem dX12_laysFrom_138 : decode cX12_laysFrom 138 = .ok (.iload_n 1, 1) := by decide +kernel
theorem dX12_laysFrom_139 : decode cX12_laysFrom 139 = .ok (.imul, 1) := by decide +kernel
theorem dX12_laysFrom_140 : decode cX12_laysFrom 140 = .ok (.aload_n 0, 1) := by decide +kernel
theorem dX12_laysFrom_141 : decode cX12_laysFrom 141 = .ok (.getfield 29, 3) := by decide +kernel
theorem dX12_laysFrom_144 : decode cX12_laysFrom 144 = .ok (.iload_n 3, 1) := by decide +kernel
theorem dX12_laysFrom_145 : decode cX12_laysFrom 145 = .ok (.iaload, 1) := by decide +kernel
theorem dX12_laysFrom_146 : decode cX12_laysFrom 146 = .ok (.iadd, 1) := by decide +kernel
theorem dX12_laysFrom_147 : decode cX12_laysFrom 147 = .ok (.baload, 1) := by decide +kernel
theorem dX12_laysFrom_148 : decode cX12_laysFrom 148 = .ok (.iconst 1, 1) := by decide +kernel
theorem dX12_laysFrom_149 : decode cX12_laysFrom 149 = .ok (.iadd, 1) := by decide +kernel
theorem dX12_laysFrom_150 : decode cX12_laysFrom 150 = .ok (.i2b, 1) := by decide +kernel
theorem dX12_laysFrom_151 : decode cX12_laysFrom 151 = .ok (.bastore, 1) := by decide +kernel
theorem dX12_laysFrom_152 : decode cX12_laysFrom 152 = .ok (.aload_n 0, 1) := by decide +kernel
theorem dX12_laysFrom_153 : decode cX12_laysFrom 153 = .ok (.getfield 29, 3) := by decide +kernel
theorem dX12_laysFrom_156 : decode cX12_laysFrom 156 = .ok (.iload_n 2, 1) := by decide +kernel
theorem dX12_laysFrom_157 : decode cX12_laysFrom 157 = .ok (.iload 5, 2) := by decide +kernel
theorem dX12_laysFrom_159 : decode cX12_laysFrom 159 = .ok (.iastore, 1) := by decide +kernel
theorem dX12_laysFrom_160 : decode cX12_laysFrom 160 = .ok (.iload_n 2, 1) := by decide +kernel
theorem dX12_laysFrom_161 : decode cX12_laysFrom 161 = .ok (.iconst 1, 1) := by decide +kernel
theorem dX12_laysFrom_162 : decode cX12_laysFrom 162 = .ok (.iadd, 1) := by decide +kernel
theorem dX12_laysFrom_163 : decode cX12_laysFrom 163 = .ok (.istore_n 2, 1) := by decide +kernel
theorem dX12_laysFrom_164 : decode cX12_laysFrom 164 = .ok (.iinc 4 1, 3) := by decide +kernel
theorem dX12_laysFrom_167 : decode cX12_laysFrom 167 = .ok (.goto (-100), 3) := by decide +kernel
theorem dX12_laysFrom_170 : decode cX12_laysFrom 170 = .ok (.iinc 3 1, 3) := by decide +kernel
theorem dX12_laysFrom_173 : decode cX12_laysFrom 173 = .ok (.goto (-114), 3) := by decide +kernel
theorem dX12_laysFrom_176 : decode cX12_laysFrom 176 = .ok (.return_, 1) := by decide +kernel
def b12_laysFrom_164 (rc : Nat → List Int32 → List Int64 → Mem → Option (Unit × Mem)) (n : Nat) (i1 : Int32) (i2 : Int32) (i3 : Int32) (i4 : Int32) (M : Mem) : Option (Unit × Mem) :=
  lt (i4 + (1 : Int32)) fun v34 =>
  rc 67 [i1, i2, i3, v34] [] M
def b12_laysFrom_67 (rc : Nat → List Int32 → List Int64 → Mem → Option (Unit × Mem)) (n : Nat) (i1 : Int32) (i2 : Int32) (i3 : Int32) (i4 : Int32) (M : Mem) : Option (Unit × Mem) :=
  (if (4 : Int32) ≤ i4 then (
   lt (i3 + (1 : Int32)) fun v15 =>
   rc 59 [i1, i2, v15] [] M)
  else (
   chk (inb i3 96) <|
   bnd (f12_beside n (M.1 7 i3.toNatClampNeg) i4 M) fun r17 M18 =>
   (if r17 = (-1 : Int32) then (
    b12_laysFrom_164  rc n i1 i2 i3 i4 M18)
   else (
    bnd (f12_isOpen n r17 M18) fun r21 M22 =>
    (if r21 = 0 then (
     b12_laysFrom_164  rc n i1 i2 i3 i4 M22)
    else (
     chk (inb (((96 : Int32) * i1) + r17) 9216) <|
     (if (M22.1 6 (((96 : Int32) * i1) + r17).toNatClampNeg) = (99 : Int32) then (
      chk (inb i3 96) <|
      chk (inb (((96 : Int32) * i1) + (M22.1 7 i3.toNatClampNeg)) 9216) <|
      chk (inb (((96 : Int32) * i1) + r17) 9216) <|
      lt (wI M22 6 (((96 : Int32) * i1) + r17).toNatClampNeg (((M22.1 6 (((96 : Int32) * i1) + (M22.1 7 i3.toNatClampNeg)).toNatClampNeg) + (1 : Int32)).toInt8.toInt32).toInt8.toInt32) fun M30 =>
      chk (inb i2 96) <|
      lt (wI M30 7 i2.toNatClampNeg r17) fun M32 =>
      lt (i2 + (1 : Int32)) fun v33 =>
      b12_laysFrom_164  rc n i1 v33 i3 i4 M32)
     else (
      b12_laysFrom_164  rc n i1 i2 i3 i4 M22))))))))
def b12_laysFrom_59 (rc : Nat → List Int32 → List Int64 → Mem → Option (Unit × Mem)) (n : Nat) (i1 : Int32) (i2 : Int32) (i3 : Int32) (M : Mem) : Option (Unit × Mem) :=
  (if i2 ≤ i3 then (
   some ((), M))
  else (
   b12_laysFrom_67  rc n i1 i2 i3 (0 : Int32) M))
def b12_laysFrom_2 (rc : Nat → List Int32 → List Int64 → Mem → Option (Unit × Mem)) (n : Nat) (i1 : Int32) (i2 : Int32) (M : Mem) : Option (Unit × Mem) :=
  (if (96 : Int32) ≤ i2 then (
   bnd (f12_isOpen n i1 M) fun r2 M3 =>
   (if r2 = 0 then (
    some ((), M3))
   else (
    chk (inb (((96 : Int32) * i1) + i1) 9216) <|
    lt (wI M3 6 (((96 : Int32) * i1) + i1).toNatClampNeg (0 : Int32).toInt8.toInt32) fun M7 =>
    chk (inb (0 : Int32) 96) <|
    lt (wI M7 7 (0 : Int32).toNatClampNeg i1) fun M9 =>
    b12_laysFrom_59  rc n i1 (1 : Int32) (0 : Int32) M9)))
  else (
   chk (inb (((96 : Int32) * i1) + i2) 9216) <|
   lt (wI M 6 (((96 : Int32) * i1) + i2).toNatClampNeg (99 : Int32).toInt8.toInt32) fun M11 =>
   lt (i2 + (1 : Int32)) fun v12 =>
   rc 2 [i1, v12] [] M11))
def b12_laysFrom_0 (rc : Nat → List Int32 → List Int64 → Mem → Option (Unit × Mem)) (n : Nat) (a1 : Int32) (M : Mem) : Option (Unit × Mem) :=
  b12_laysFrom_2  rc n a1 (0 : Int32) M
def r12_laysFrom : Nat → Nat → List Int32 → List Int64 → Mem → Option (Unit × Mem)
  | 0 => fun _ _ _ _ => none
  | n + 1 => fun pc li lj M =>
    if pc = 2 then (match li, lj with | [i1, i2], [] => b12_laysFrom_2  (r12_laysFrom  n) n i1 i2 M | _, _ => none) else
    if pc = 59 then (match li, lj with | [i1, i2, i3], [] => b12_laysFrom_59  (r12_laysFrom  n) n i1 i2 i3 M | _, _ => none) else
    if pc = 67 then (match li, lj with | [i1, i2, i3, i4], [] => b12_laysFrom_67  (r12_laysFrom  n) n i1 i2 i3 i4 M | _, _ => none) else
    none
theorem e12_laysFrom_2  (n : Nat) (i1 : Int32) (i2 : Int32) (M : Mem) : r12_laysFrom  (n + 1) 2 [i1, i2] [] M = b12_laysFrom_2  (r12_laysFrom  n) n i1 i2 M := by
  rw [r12_laysFrom]
  simp
theorem e12_laysFrom_59  (n : Nat) (i1 : Int32) (i2 : Int32) (i3 : Int32) (M : Mem) : r12_laysFrom  (n + 1) 59 [i1, i2, i3] [] M = b12_laysFrom_59  (r12_laysFrom  n) n i1 i2 i3 M := by
  rw [r12_laysFrom]
  simp
theorem e12_laysFrom_67  (n : Nat) (i1 : Int32) (i2 : Int32) (i3 : Int32) (i4 : Int32) (M : Mem) : r12_laysFrom  (n + 1) 67 [i1, i2, i3, i4] [] M = b12_laysFrom_67  (r12_laysFrom  n) n i1 i2 i3 i4 M := by
  rw [r12_laysFrom]
  simp
def f12_laysFrom (n : Nat) (a1 : Int32) (M : Mem) : Option (Unit × Mem) := b12_laysFrom_0 (r12_laysFrom n) n a1 M
abbrev rm12_laysFrom : Room := { frames := 3, cells := 0, slots := 0, locals := 66 }
theorem y12_laysFrom_w : yV RX12 yX12_laysFrom cX12_laysFrom 6 none 1 := ⟨g_1481, gp 69 rfl rfl, g_14, g_1482, rfl, by decide, by decide, by decide +kernel⟩
set_option maxHeartbeats 4000000 in
set_option maxRecDepth 100000 in
theorem w12_laysFrom_164 {p : Program} {l : Launch} {e : Env} {s : State} {m : MethodId} {args : Array Value} {below : List Frame} {meth : Method} {c : Code} {z : Zt} {b : Nat}  (C : Cx p s m args c cX12_laysFrom 6 RX12 z 32 b) (hr : meth.sig.returnType = none) (hk : meth.locks = false) {r : Unit} {M' : Mem} {rc : Nat → List Int32 → List Int64 → Mem → Option (Unit × Mem)} {n : Nat} (q2 : ∀ (i1 : Int32) (i2 : Int32) (M : Mem) (H : Heap) (locs : List Loc) (ls : Array Slot), rc 2 [i1, i2] [] M = some (r, M') → va_P z.1 vwCl (pw (yd z b) 32 b M) H → va_S (pA 32 b) s.heap H locs → lv_has ls 6 [(0, .ref (b + 0)), (1, .int i1), (2, .int i2)] → W p l e rm12_laysFrom s m args below meth c H locs 0 0 (MQ below (va_Qv (fun (M2 : Mem) => M2 = M') (fun M2 t => va_P z.1 vwCl (pw (yd z b) 32 b M2) t.heap) (pA 32 b)) args s 0 0 (pA 32 b)) (F0 m 2 ls [])) (q59 : ∀ (i1 : Int32) (i2 : Int32) (i3 : Int32) (M : Mem) (H : Heap) (locs : List Loc) (ls : Array Slot), rc 59 [i1, i2, i3] [] M = some (r, M') → va_P z.1 vwCl (pw (yd z b) 32 b M) H → va_S (pA 32 b) s.heap H locs → lv_has ls 6 [(0, .ref (b + 0)), (1, .int i1), (2, .int i2), (3, .int i3)] → W p l e rm12_laysFrom s m args below meth c H locs 0 0 (MQ below (va_Qv (fun (M2 : Mem) => M2 = M') (fun M2 t => va_P z.1 vwCl (pw (yd z b) 32 b M2) t.heap) (pA 32 b)) args s 0 0 (pA 32 b)) (F0 m 59 ls [])) (q67 : ∀ (i1 : Int32) (i2 : Int32) (i3 : Int32) (i4 : Int32) (M : Mem) (H : Heap) (locs : List Loc) (ls : Array Slot), rc 67 [i1, i2, i3, i4] [] M = some (r, M') → va_P z.1 vwCl (pw (yd z b) 32 b M) H → va_S (pA 32 b) s.heap H locs → lv_has ls 6 [(0, .ref (b + 0)), (1, .int i1), (2, .int i2), (3, .int i3), (4, .int i4)] → W p l e rm12_laysFrom s m args below meth c H locs 0 0 (MQ below (va_Qv (fun (M2 : Mem) => M2 = M') (fun M2 t => va_P z.1 vwCl (pw (yd z b) 32 b M2) t.heap) (pA 32 b)) args s 0 0 (pA 32 b)) (F0 m 67 ls [])) {i1 : Int32} {i2 : Int32} {i3 : Int32} {i4 : Int32} {M : Mem} {H : Heap} {locs : List Loc} {ls : Array Slot} (hf : b12_laysFrom_164  rc n i1 i2 i3 i4 M = some (r, M')) (hP : va_P z.1 vwCl (pw (yd z b) 32 b M) H) (hS : va_S (pA 32 b) s.heap H locs) (hl : lv_has ls 6 [(0, .ref (b + 0)), (1, .int i1), (2, .int i2), (3, .int i3), (4, .int i4)]) : W p l e rm12_laysFrom s m args below meth c H locs 0 0 (MQ below (va_Qv (fun (M2 : Mem) => M2 = M') (fun M2 t => va_P z.1 vwCl (pw (yd z b) 32 b M2) t.heap) (pA 32 b)) args s 0 0 (pA 32 b)) (F0 m 164 ls []) := by
  have hx := C.1.1
  have hb := C.1.2.1
  unfold b12_laysFrom_164 at hf
  obtain ⟨v34, ev34⟩ : ∃ v : Int32, v = i4 + (1 : Int32) := ⟨_, rfl⟩
  replace hf := lt_c ev34 hf
  refine lv_iinc (v := v34) (lv' := [(4, .int v34), (0, .ref (b + 0)), (1, .int i1), (2, .int i2), (3, .int i3)]) hx hb dX12_laysFrom_164 hl (k := 4) rfl (by rw [ev34]; rfl) (by decide) rfl (fun ls hl => ?_)
  refine lv_goto (tgt := 67) hx hb dX12_laysFrom_167 (by decide) ?_
  exact q67 i1 i2 i3 v34 M _ _ _ hf hP hS (lv_sub hl [1, 2, 3, 4, 0] rfl)
set_option maxHeartbeats 4000000 in
set_option maxRecDepth 100000 in
theorem w12_laysFrom_67 {p : Program} {l : Launch} {e : Env} {s : State} {m : MethodId} {args : Array Value} {below : List Frame} {meth : Method} {c : Code} {z : Zt} {b : Nat}  (C : Cx p s m args c cX12_laysFrom 6 RX12 z 32 b) (hr : meth.sig.returnType = none) (hk : meth.locks = false) {r : Unit} {M' : Mem} {rc : Nat → List Int32 → List Int64 → Mem → Option (Unit × Mem)} {n : Nat} (q2 : ∀ (i1 : Int32) (i2 : Int32) (M : Mem) (H : Heap) (locs : List Loc) (ls : Array Slot), rc 2 [i1, i2] [] M = some (r, M') → va_P z.1 vwCl (pw (yd z b) 32 b M) H → va_S (pA 32 b) s.heap H locs → lv_has ls 6 [(0, .ref (b + 0)), (1, .int i1), (2, .int i2)] → W p l e rm12_laysFrom s m args below meth c H locs 0 0 (MQ below (va_Qv (fun (M2 : Mem) => M2 = M') (fun M2 t => va_P z.1 vwCl (pw (yd z b) 32 b M2) t.heap) (pA 32 b)) args s 0 0 (pA 32 b)) (F0 m 2 ls [])) (q59 : ∀ (i1 : Int32) (i2 : Int32) (i3 : Int32) (M : Mem) (H : Heap) (locs : List Loc) (ls : Array Slot), rc 59 [i1, i2, i3] [] M = some (r, M') → va_P z.1 vwCl (pw (yd z b) 32 b M) H → va_S (pA 32 b) s.heap H locs → lv_has ls 6 [(0, .ref (b + 0)), (1, .int i1), (2, .int i2), (3, .int i3)] → W p l e rm12_laysFrom s m args below meth c H locs 0 0 (MQ below (va_Qv (fun (M2 : Mem) => M2 = M') (fun M2 t => va_P z.1 vwCl (pw (yd z b) 32 b M2) t.heap) (pA 32 b)) args s 0 0 (pA 32 b)) (F0 m 59 ls [])) (q67 : ∀ (i1 : Int32) (i2 : Int32) (i3 : Int32) (i4 : Int32) (M : Mem) (H : Heap) (locs : List Loc) (ls : Array Slot), rc 67 [i1, i2, i3, i4] [] M = some (r, M') → va_P z.1 vwCl (pw (yd z b) 32 b M) H → va_S (pA 32 b) s.heap H locs → lv_has ls 6 [(0, .ref (b + 0)), (1, .int i1), (2, .int i2), (3, .int i3), (4, .int i4)] → W p l e rm12_laysFrom s m args below meth c H locs 0 0 (MQ below (va_Qv (fun (M2 : Mem) => M2 = M') (fun M2 t => va_P z.1 vwCl (pw (yd z b) 32 b M2) t.heap) (pA 32 b)) args s 0 0 (pA 32 b)) (F0 m 67 ls [])) {i1 : Int32} {i2 : Int32} {i3 : Int32} {i4 : Int32} {M : Mem} {H : Heap} {locs : List Loc} {ls : Array Slot} (hf : b12_laysFrom_67  rc n i1 i2 i3 i4 M = some (r, M')) (hP : va_P z.1 vwCl (pw (yd z b) 32 b M) H) (hS : va_S (pA 32 b) s.heap H locs) (hl : lv_has ls 6 [(0, .ref (b + 0)), (1, .int i1), (2, .int i2), (3, .int i3), (4, .int i4)]) : W p l e rm12_laysFrom s m args below meth c H locs 0 0 (MQ below (va_Qv (fun (M2 : Mem) => M2 = M') (fun M2 t => va_P z.1 vwCl (pw (yd z b) 32 b M2) t.heap) (pA 32 b)) args s 0 0 (pA 32 b)) (F0 m 67 ls []) := by
  have hx := C.1.1
  have hb := C.1.2.1
  unfold b12_laysFrom_67 at hf
  refine lv_iload hx hb dX12_laysFrom_67 (lv_at hl 4 rfl) ?_
  refine lv_iconst (v := (4 : Int32)) hx hb dX12_laysFrom_69 (by decide) ?_
  refine lv_icmp_ge (tgt := 170) hx hb dX12_laysFrom_70 (by decide) (fun c14 => ?_) (fun c14 => ?_)
  · replace hf := ite_t c14 hf
    obtain ⟨v15, ev15⟩ : ∃ v : Int32, v = i3 + (1 : Int32) := ⟨_, rfl⟩
    replace hf := lt_c ev15 hf
    refine lv_iinc (v := v15) (lv' := [(3, .int v15), (0, .ref (b + 0)), (1, .int i1), (2, .int i2), (4, .int i4)]) hx hb dX12_laysFrom_170 hl (k := 3) rfl (by rw [ev15]; rfl) (by decide) rfl (fun ls hl => ?_)
    refine lv_goto (tgt := 59) hx hb dX12_laysFrom_173 (by decide) ?_
    exact q59 i1 i2 v15 M _ _ _ hf hP hS (lv_sub hl [1, 2, 3, 0] rfl)
  · replace hf := ite_f c14 hf
    refine lv_aload_n hx hb dX12_laysFrom_73 rfl (lv_at hl 0 rfl) ?_
    refine pg C hP (k := 0) (j := 8) (Nat.le_of_ble_eq_true rfl) (yd_0 _ _) rfl iw_12 (Nat.le_of_ble_eq_true rfl) g_1143 rfl rfl dX12_laysFrom_74 ?_
    refine lv_iload_n hx hb dX12_laysFrom_77 rfl (lv_at hl 3 rfl) ?_
    have h16 := chk_1 hf
    replace hf := chk_2 hf
    refine paI C hP (k := 7) (Nat.le_of_ble_eq_true rfl) (yd_7 _ _) h16 dX12_laysFrom_78 ?_
    refine lv_iload hx hb dX12_laysFrom_79 (lv_at hl 4 rfl) ?_
    obtain ⟨r17, M18, h19, hf⟩ := bnd_s hf
    refine pcSi (As := [.int (M.1 7 i3.toNatClampNeg), .int i4]) C hP hS (c12_beside  h19) y12_beside_w g_1487 rfl rfl rfl ⟨Nat.le_of_ble_eq_true rfl, Nat.le_of_ble_eq_true rfl⟩ hl.1 rfl (Nat.le_of_ble_eq_true rfl) dX12_laysFrom_81 ⟨Nat.le_of_ble_eq_true rfl, Nat.le_of_ble_eq_true rfl⟩ (fun H locs hP hS => ?_)
    refine lv_istore (lv' := [(5, .int r17), (0, .ref (b + 0)), (1, .int i1), (2, .int i2), (3, .int i3), (4, .int i4)]) hx hb dX12_laysFrom_84 hl (by decide) rfl (fun ls hl => ?_)
    refine lv_iload hx hb dX12_laysFrom_86 (lv_at hl 0 rfl) ?_
    refine lv_iconst (v := (-1 : Int32)) hx hb dX12_laysFrom_88 (by decide) ?_
    refine lv_icmp_eq (tgt := 164) hx hb dX12_laysFrom_89 (by decide) (fun c20 => ?_) (fun c20 => ?_)
    · replace hf := ite_t c20 hf
      exact w12_laysFrom_164 (n := n)  C hr hk q2 q59 q67 hf hP hS (lv_sub hl [1, 2, 3, 4, 5] rfl)
    · replace hf := ite_f c20 hf
      refine lv_aload_n hx hb dX12_laysFrom_92 rfl (lv_at hl 1 rfl) ?_
      refine lv_iload hx hb dX12_laysFrom_93 (lv_at hl 0 rfl) ?_
      obtain ⟨r21, M22, h23, hf⟩ := bnd_s hf
      refine pcVi (As := [.int r17]) C hP hS (k := 0) (Nat.le_of_ble_eq_true rfl) (yd_0 _ _) rfl (c12_isOpen  h23) y12_isOpen_w g_1483 rfl rfl rfl ⟨Nat.le_of_ble_eq_true rfl, Nat.le_of_ble_eq_true rfl⟩ hl.1 rfl (Nat.le_of_ble_eq_true rfl) dX12_laysFrom_95 ⟨Nat.le_of_ble_eq_true rfl, Nat.le_of_ble_eq_true rfl⟩ (fun H locs hP hS => ?_)
      refine lv_if_eq (tgt := 164) hx hb dX12_laysFrom_98 (by decide) (fun c24 => ?_) (fun c24 => ?_)
      · replace hf := ite_t c24 hf
        exact w12_laysFrom_164 (n := n)  C hr hk q2 q59 q67 hf hP hS (lv_sub hl [1, 2, 3, 4, 5] rfl)
      · replace hf := ite_f c24 hf
        refine lv_aload_n hx hb dX12_laysFrom_101 rfl (lv_at hl 1 rfl) ?_
        refine pg C hP (k := 0) (j := 7) (Nat.le_of_ble_eq_true rfl) (yd_0 _ _) rfl iw_12 (Nat.le_of_ble_eq_true rfl) g_1142 rfl rfl dX12_laysFrom_102 ?_
        refine lv_bipush (v := (96 : Int32)) hx hb dX12_laysFrom_105 (by decide) ?_
        refine lv_iload_n hx hb dX12_laysFrom_107 rfl (lv_at hl 2 rfl) ?_
        refine lv_imul hx hb dX12_laysFrom_108 ?_
        refine lv_iload hx hb dX12_laysFrom_109 (lv_at hl 0 rfl) ?_
        refine lv_iadd hx hb dX12_laysFrom_111 ?_
        have h25 := chk_1 hf
        replace hf := chk_2 hf
        refine paB C hP (k := 6) (Nat.le_of_ble_eq_true rfl) (yd_6 _ _) h25 dX12_laysFrom_112 ?_
        refine lv_bipush (v := (99 : Int32)) hx hb dX12_laysFrom_113 (by decide) ?_
        refine lv_icmp_eq (tgt := 121) hx hb dX12_laysFrom_115 (by decide) (fun c26 => ?_) (fun c26 => ?_)
        · replace hf := ite_t c26 hf
          refine lv_aload_n hx hb dX12_laysFrom_121 rfl (lv_at hl 1 rfl) ?_
          refine pg C hP (k := 0) (j := 7) (Nat.le_of_ble_eq_true rfl) (yd_0 _ _) rfl iw_12 (Nat.le_of_ble_eq_true rfl) g_1142 rfl rfl dX12_laysFrom_122 ?_
          refine lv_bipush (v := (96 : Int32)) hx hb dX12_laysFrom_125 (by decide) ?_
          refine lv_iload_n hx hb dX12_laysFrom_127 rfl (lv_at hl 2 rfl) ?_
          refine lv_imul hx hb dX12_laysFrom_128 ?_
          refine lv_iload hx hb dX12_laysFrom_129 (lv_at hl 0 rfl) ?_
          refine lv_iadd hx hb dX12_laysFrom_131 ?_
          refine lv_aload_n hx hb dX12_laysFrom_132 rfl (lv_at hl 1 rfl) ?_
          refine pg C hP (k := 0) (j := 7) (Nat.le_of_ble_eq_true rfl) (yd_0 _ _) rfl iw_12 (Nat.le_of_ble_eq_true rfl) g_1142 rfl rfl dX12_laysFrom_133 ?_
          refine lv_bipush (v := (96 : Int32)) hx hb dX12_laysFrom_136 (by decide) ?_
          refine lv_iload_n hx hb dX12_laysFrom_138 rfl (lv_at hl 2 rfl) ?_
          refine lv_imul hx hb dX12_laysFrom_139 ?_
          refine lv_aload_n hx hb dX12_laysFrom_140 rfl (lv_at hl 1 rfl) ?_
          refine pg C hP (k := 0) (j := 8) (Nat.le_of_ble_eq_true rfl) (yd_0 _ _) rfl iw_12 (Nat.le_of_ble_eq_true rfl) g_1143 rfl rfl dX12_laysFrom_141 ?_
          refine lv_iload_n hx hb dX12_laysFrom_144 rfl (lv_at hl 4 rfl) ?_
          have h27 := chk_1 hf
          replace hf := chk_2 hf
          refine paI C hP (k := 7) (Nat.le_of_ble_eq_true rfl) (yd_7 _ _) h27 dX12_laysFrom_145 ?_
          refine lv_iadd hx hb dX12_laysFrom_146 ?_
          have h28 := chk_1 hf
          replace hf := chk_2 hf
          refine paB C hP (k := 6) (Nat.le_of_ble_eq_true rfl) (yd_6 _ _) h28 dX12_laysFrom_147 ?_
          refine lv_iconst (v := (1 : Int32)) hx hb dX12_laysFrom_148 (by decide) ?_
          refine lv_iadd hx hb dX12_laysFrom_149 ?_
          refine lv_i2b hx hb dX12_laysFrom_150 rfl ?_
          have h29 := chk_1 hf
          replace hf := chk_2 hf
          refine psB C hP hS (k := 6) (Nat.le_of_ble_eq_true rfl) (yd_6) h29 dX12_laysFrom_151 (fun M30 H locs eM30 hP hS => ?_)
          replace hf := lt_c eM30 hf
          refine lv_aload_n hx hb dX12_laysFrom_152 rfl (lv_at hl 1 rfl) ?_
          refine pg C hP (k := 0) (j := 8) (Nat.le_of_ble_eq_true rfl) (yd_0 _ _) rfl iw_12 (Nat.le_of_ble_eq_true rfl) g_1143 rfl rfl dX12_laysFrom_153 ?_
          refine lv_iload_n hx hb dX12_laysFrom_156 rfl (lv_at hl 3 rfl) ?_
          refine lv_iload hx hb dX12_laysFrom_157 (lv_at hl 0 rfl) ?_
          have h31 := chk_1 hf
          replace hf := chk_2 hf
          refine psI C hP hS (k := 7) (Nat.le_of_ble_eq_true rfl) (yd_7) h31 dX12_laysFrom_159 (fun M32 H locs eM32 hP hS => ?_)
          replace hf := lt_c eM32 hf
          refine lv_iload_n hx hb dX12_laysFrom_160 rfl (lv_at hl 3 rfl) ?_
          refine lv_iconst (v := (1 : Int32)) hx hb dX12_laysFrom_161 (by decide) ?_
          refine lv_iadd hx hb dX12_laysFrom_162 ?_
          refine lv_topi (fun v33 ev33 => ?_)
          replace hf := lt_c ev33 hf
          refine lv_istore_n (lv' := [(2, .int v33), (5, .int r17), (0, .ref (b + 0)), (1, .int i1), (3, .int i3), (4, .int i4)]) hx hb dX12_laysFrom_163 rfl hl (by decide) rfl (fun ls hl => ?_)
          exact w12_laysFrom_164 (n := n)  C hr hk q2 q59 q67 hf hP hS (lv_sub hl [2, 3, 0, 4, 5] rfl)
        · replace hf := ite_f c26 hf
          refine lv_goto (tgt := 164) hx hb dX12_laysFrom_118 (by decide) ?_
          exact w12_laysFrom_164 (n := n)  C hr hk q2 q59 q67 hf hP hS (lv_sub hl [1, 2, 3, 4, 5] rfl)
set_option maxHeartbeats 4000000 in
set_option maxRecDepth 100000 in
theorem w12_laysFrom_59 {p : Program} {l : Launch} {e : Env} {s : State} {m : MethodId} {args : Array Value} {below : List Frame} {meth : Method} {c : Code} {z : Zt} {b : Nat}  (C : Cx p s m args c cX12_laysFrom 6 RX12 z 32 b) (hr : meth.sig.returnType = none) (hk : meth.locks = false) {r : Unit} {M' : Mem} {rc : Nat → List Int32 → List Int64 → Mem → Option (Unit × Mem)} {n : Nat} (q2 : ∀ (i1 : Int32) (i2 : Int32) (M : Mem) (H : Heap) (locs : List Loc) (ls : Array Slot), rc 2 [i1, i2] [] M = some (r, M') → va_P z.1 vwCl (pw (yd z b) 32 b M) H → va_S (pA 32 b) s.heap H locs → lv_has ls 6 [(0, .ref (b + 0)), (1, .int i1), (2, .int i2)] → W p l e rm12_laysFrom s m args below meth c H locs 0 0 (MQ below (va_Qv (fun (M2 : Mem) => M2 = M') (fun M2 t => va_P z.1 vwCl (pw (yd z b) 32 b M2) t.heap) (pA 32 b)) args s 0 0 (pA 32 b)) (F0 m 2 ls [])) (q59 : ∀ (i1 : Int32) (i2 : Int32) (i3 : Int32) (M : Mem) (H : Heap) (locs : List Loc) (ls : Array Slot), rc 59 [i1, i2, i3] [] M = some (r, M') → va_P z.1 vwCl (pw (yd z b) 32 b M) H → va_S (pA 32 b) s.heap H locs → lv_has ls 6 [(0, .ref (b + 0)), (1, .int i1), (2, .int i2), (3, .int i3)] → W p l e rm12_laysFrom s m args below meth c H locs 0 0 (MQ below (va_Qv (fun (M2 : Mem) => M2 = M') (fun M2 t => va_P z.1 vwCl (pw (yd z b) 32 b M2) t.heap) (pA 32 b)) args s 0 0 (pA 32 b)) (F0 m 59 ls [])) (q67 : ∀ (i1 : Int32) (i2 : Int32) (i3 : Int32) (i4 : Int32) (M : Mem) (H : Heap) (locs : List Loc) (ls : Array Slot), rc 67 [i1, i2, i3, i4] [] M = some (r, M') → va_P z.1 vwCl (pw (yd z b) 32 b M) H → va_S (pA 32 b) s.heap H locs → lv_has ls 6 [(0, .ref (b + 0)), (1, .int i1), (2, .int i2), (3, .int i3), (4, .int i4)] → W p l e rm12_laysFrom s m args below meth c H locs 0 0 (MQ below (va_Qv (fun (M2 : Mem) => M2 = M') (fun M2 t => va_P z.1 vwCl (pw (yd z b) 32 b M2) t.heap) (pA 32 b)) args s 0 0 (pA 32 b)) (F0 m 67 ls [])) {i1 : Int32} {i2 : Int32} {i3 : Int32} {M : Mem} {H : Heap} {locs : List Loc} {ls : Array Slot} (hf : b12_laysFrom_59  rc n i1 i2 i3 M = some (r, M')) (hP : va_P z.1 vwCl (pw (yd z b) 32 b M) H) (hS : va_S (pA 32 b) s.heap H locs) (hl : lv_has ls 6 [(0, .ref (b + 0)), (1, .int i1), (2, .int i2), (3, .int i3)]) : W p l e rm12_laysFrom s m args below meth c H locs 0 0 (MQ below (va_Qv (fun (M2 : Mem) => M2 = M') (fun M2 t => va_P z.1 vwCl (pw (yd z b) 32 b M2) t.heap) (pA 32 b)) args s 0 0 (pA 32 b)) (F0 m 59 ls []) := by
  have hx := C.1.1
  have hb := C.1.2.1
  unfold b12_laysFrom_59 at hf
  refine lv_iload_n hx hb dX12_laysFrom_59 rfl (lv_at hl 3 rfl) ?_
  refine lv_iload_n hx hb dX12_laysFrom_60 rfl (lv_at hl 2 rfl) ?_
  refine lv_icmp_ge (tgt := 176) hx hb dX12_laysFrom_61 (by decide) (fun c13 => ?_) (fun c13 => ?_)
  · replace hf := ite_t c13 hf
    exact prV C hr hk hP hS hf dX12_laysFrom_176
  · replace hf := ite_f c13 hf
    refine lv_iconst (v := (0 : Int32)) hx hb dX12_laysFrom_64 (by decide) ?_
    refine lv_istore (lv' := [(4, .int (0 : Int32)), (0, .ref (b + 0)), (1, .int i1), (2, .int i2), (3, .int i3)]) hx hb dX12_laysFrom_65 hl (by decide) rfl (fun ls hl => ?_)
    exact w12_laysFrom_67 (n := n)  C hr hk q2 q59 q67 hf hP hS (lv_sub hl [1, 2, 3, 4, 0] rfl)
set_option maxHeartbeats 4000000 in
set_option maxRecDepth 100000 in
theorem w12_laysFrom_2 {p : Program} {l : Launch} {e : Env} {s : State} {m : MethodId} {args : Array Value} {below : List Frame} {meth : Method} {c : Code} {z : Zt} {b : Nat}  (C : Cx p s m args c cX12_laysFrom 6 RX12 z 32 b) (hr : meth.sig.returnType = none) (hk : meth.locks = false) {r : Unit} {M' : Mem} {rc : Nat → List Int32 → List Int64 → Mem → Option (Unit × Mem)} {n : Nat} (q2 : ∀ (i1 : Int32) (i2 : Int32) (M : Mem) (H : Heap) (locs : List Loc) (ls : Array Slot), rc 2 [i1, i2] [] M = some (r, M') → va_P z.1 vwCl (pw (yd z b) 32 b M) H → va_S (pA 32 b) s.heap H locs → lv_has ls 6 [(0, .ref (b + 0)), (1, .int i1), (2, .int i2)] → W p l e rm12_laysFrom s m args below meth c H locs 0 0 (MQ below (va_Qv (fun (M2 : Mem) => M2 = M') (fun M2 t => va_P z.1 vwCl (pw (yd z b) 32 b M2) t.heap) (pA 32 b)) args s 0 0 (pA 32 b)) (F0 m 2 ls [])) (q59 : ∀ (i1 : Int32) (i2 : Int32) (i3 : Int32) (M : Mem) (H : Heap) (locs : List Loc) (ls : Array Slot), rc 59 [i1, i2, i3] [] M = some (r, M') → va_P z.1 vwCl (pw (yd z b) 32 b M) H → va_S (pA 32 b) s.heap H locs → lv_has ls 6 [(0, .ref (b + 0)), (1, .int i1), (2, .int i2), (3, .int i3)] → W p l e rm12_laysFrom s m args below meth c H locs 0 0 (MQ below (va_Qv (fun (M2 : Mem) => M2 = M') (fun M2 t => va_P z.1 vwCl (pw (yd z b) 32 b M2) t.heap) (pA 32 b)) args s 0 0 (pA 32 b)) (F0 m 59 ls [])) (q67 : ∀ (i1 : Int32) (i2 : Int32) (i3 : Int32) (i4 : Int32) (M : Mem) (H : Heap) (locs : List Loc) (ls : Array Slot), rc 67 [i1, i2, i3, i4] [] M = some (r, M') → va_P z.1 vwCl (pw (yd z b) 32 b M) H → va_S (pA 32 b) s.heap H locs → lv_has ls 6 [(0, .ref (b + 0)), (1, .int i1), (2, .int i2), (3, .int i3), (4, .int i4)] → W p l e rm12_laysFrom s m args below meth c H locs 0 0 (MQ below (va_Qv (fun (M2 : Mem) => M2 = M') (fun M2 t => va_P z.1 vwCl (pw (yd z b) 32 b M2) t.heap) (pA 32 b)) args s 0 0 (pA 32 b)) (F0 m 67 ls [])) {i1 : Int32} {i2 : Int32} {M : Mem} {H : Heap} {locs : List Loc} {ls : Array Slot} (hf : b12_laysFrom_2  rc n i1 i2 M = some (r, M')) (hP : va_P z.1 vwCl (pw (yd z b) 32 b M) H) (hS : va_S (pA 32 b) s.heap H locs) (hl : lv_has ls 6 [(0, .ref (b + 0)), (1, .int i1), (2, .int i2)]) : W p l e rm12_laysFrom s m args below meth c H locs 0 0 (MQ below (va_Qv (fun (M2 : Mem) => M2 = M') (fun M2 t => va_P z.1 vwCl (pw (yd z b) 32 b M2) t.heap) (pA 32 b)) args s 0 0 (pA 32 b)) (F0 m 2 ls []) := by
  have hx := C.1.1
  have hb := C.1.2.1
  unfold b12_laysFrom_2 at hf
  refine lv_iload_n hx hb dX12_laysFrom_2 rfl (lv_at hl 2 rfl) ?_
  refine lv_bipush (v := (96 : Int32)) hx hb dX12_laysFrom_3 (by decide) ?_
  refine lv_icmp_ge (tgt := 27) hx hb dX12_laysFrom_5 (by decide) (fun c1 => ?_) (fun c1 => ?_)
  · replace hf := ite_t c1 hf
    refine lv_aload_n hx hb dX12_laysFrom_27 rfl (lv_at hl 0 rfl) ?_
    refine lv_iload_n hx hb dX12_laysFrom_28 rfl (lv_at hl 1 rfl) ?_
    obtain ⟨r2, M3, h4, hf⟩ := bnd_s hf
    refine pcVi (As := [.int i1]) C hP hS (k := 0) (Nat.le_of_ble_eq_true rfl) (yd_0 _ _) rfl (c12_isOpen  h4) y12_isOpen_w g_1483 rfl rfl rfl ⟨Nat.le_of_ble_eq_true rfl, Nat.le_of_ble_eq_true rfl⟩ hl.1 rfl (Nat.le_of_ble_eq_true rfl) dX12_laysFrom_29 ⟨Nat.le_of_ble_eq_true rfl, Nat.le_of_ble_eq_true rfl⟩ (fun H locs hP hS => ?_)
    refine lv_if_ne (tgt := 36) hx hb dX12_laysFrom_32 (by decide) (fun c5 => ?_) (fun c5 => ?_)
    · replace hf := ite_f c5 hf
      refine lv_aload_n hx hb dX12_laysFrom_36 rfl (lv_at hl 0 rfl) ?_
      refine pg C hP (k := 0) (j := 7) (Nat.le_of_ble_eq_true rfl) (yd_0 _ _) rfl iw_12 (Nat.le_of_ble_eq_true rfl) g_1142 rfl rfl dX12_laysFrom_37 ?_
      refine lv_bipush (v := (96 : Int32)) hx hb dX12_laysFrom_40 (by decide) ?_
      refine lv_iload_n hx hb dX12_laysFrom_42 rfl (lv_at hl 1 rfl) ?_
      refine lv_imul hx hb dX12_laysFrom_43 ?_
      refine lv_iload_n hx hb dX12_laysFrom_44 rfl (lv_at hl 1 rfl) ?_
      refine lv_iadd hx hb dX12_laysFrom_45 ?_
      refine lv_iconst (v := (0 : Int32)) hx hb dX12_laysFrom_46 (by decide) ?_
      have h6 := chk_1 hf
      replace hf := chk_2 hf
      refine psB C hP hS (k := 6) (Nat.le_of_ble_eq_true rfl) (yd_6) h6 dX12_laysFrom_47 (fun M7 H locs eM7 hP hS => ?_)
      replace hf := lt_c eM7 hf
      refine lv_aload_n hx hb dX12_laysFrom_48 rfl (lv_at hl 0 rfl) ?_
      refine pg C hP (k := 0) (j := 8) (Nat.le_of_ble_eq_true rfl) (yd_0 _ _) rfl iw_12 (Nat.le_of_ble_eq_true rfl) g_1143 rfl rfl dX12_laysFrom_49 ?_
      refine lv_iconst (v := (0 : Int32)) hx hb dX12_laysFrom_52 (by decide) ?_
      refine lv_iload_n hx hb dX12_laysFrom_53 rfl (lv_at hl 1 rfl) ?_
      have h8 := chk_1 hf
      replace hf := chk_2 hf
      refine psI C hP hS (k := 7) (Nat.le_of_ble_eq_true rfl) (yd_7) h8 dX12_laysFrom_54 (fun M9 H locs eM9 hP hS => ?_)
      replace hf := lt_c eM9 hf
      refine lv_iconst (v := (1 : Int32)) hx hb dX12_laysFrom_55 (by decide) ?_
      refine lv_istore_n (lv' := [(2, .int (1 : Int32)), (0, .ref (b + 0)), (1, .int i1)]) hx hb dX12_laysFrom_56 rfl hl (by decide) rfl (fun ls hl => ?_)
      refine lv_iconst (v := (0 : Int32)) hx hb dX12_laysFrom_57 (by decide) ?_
      refine lv_istore_n (lv' := [(3, .int (0 : Int32)), (2, .int (1 : Int32)), (0, .ref (b + 0)), (1, .int i1)]) hx hb dX12_laysFrom_58 rfl hl (by decide) rfl (fun ls hl => ?_)
      exact w12_laysFrom_59 (n := n)  C hr hk q2 q59 q67 hf hP hS (lv_sub hl [2, 3, 1, 0] rfl)
    · replace hf := ite_t c5 hf
      exact prV C hr hk hP hS hf dX12_laysFrom_35
  · replace hf := ite_f c1 hf
    refine lv_aload_n hx hb dX12_laysFrom_8 rfl (lv_at hl 0 rfl) ?_
    refine pg C hP (k := 0) (j := 7) (Nat.le_of_ble_eq_true rfl) (yd_0 _ _) rfl iw_12 (Nat.le_of_ble_eq_true rfl) g_1142 rfl rfl dX12_laysFrom_9 ?_
    refine lv_bipush (v := (96 : Int32)) hx hb dX12_laysFrom_12 (by decide) ?_
    refine lv_iload_n hx hb dX12_laysFrom_14 rfl (lv_at hl 1 rfl) ?_
    refine lv_imul hx hb dX12_laysFrom_15 ?_
    refine lv_iload_n hx hb dX12_laysFrom_16 rfl (lv_at hl 2 rfl) ?_
    refine lv_iadd hx hb dX12_laysFrom_17 ?_
    refine lv_bipush (v := (99 : Int32)) hx hb dX12_laysFrom_18 (by decide) ?_
    have h10 := chk_1 hf
    replace hf := chk_2 hf
    refine psB C hP hS (k := 6) (Nat.le_of_ble_eq_true rfl) (yd_6) h10 dX12_laysFrom_20 (fun M11 H locs eM11 hP hS => ?_)
    replace hf := lt_c eM11 hf
    obtain ⟨v12, ev12⟩ : ∃ v : Int32, v = i2 + (1 : Int32) := ⟨_, rfl⟩
    replace hf := lt_c ev12 hf
    refine lv_iinc (v := v12) (lv' := [(2, .int v12), (0, .ref (b + 0)), (1, .int i1)]) hx hb dX12_laysFrom_21 hl (k := 2) rfl (by rw [ev12]; rfl) (by decide) rfl (fun ls hl => ?_)
    refine lv_goto (tgt := 2) hx hb dX12_laysFrom_24 (by decide) ?_
    exact q2 i1 v12 M11 _ _ _ hf hP hS (lv_sub hl [1, 2, 0] rfl)
set_option maxHeartbeats 4000000 in
set_option maxRecDepth 100000 in
theorem w12_laysFrom_0 {p : Program} {l : Launch} {e : Env} {s : State} {m : MethodId} {args : Array Value} {below : List Frame} {meth : Method} {c : Code} {z : Zt} {b : Nat}  (C : Cx p s m args c cX12_laysFrom 6 RX12 z 32 b) (hr : meth.sig.returnType = none) (hk : meth.locks = false) {r : Unit} {M' : Mem} {rc : Nat → List Int32 → List Int64 → Mem → Option (Unit × Mem)} {n : Nat} (q2 : ∀ (i1 : Int32) (i2 : Int32) (M : Mem) (H : Heap) (locs : List Loc) (ls : Array Slot), rc 2 [i1, i2] [] M = some (r, M') → va_P z.1 vwCl (pw (yd z b) 32 b M) H → va_S (pA 32 b) s.heap H locs → lv_has ls 6 [(0, .ref (b + 0)), (1, .int i1), (2, .int i2)] → W p l e rm12_laysFrom s m args below meth c H locs 0 0 (MQ below (va_Qv (fun (M2 : Mem) => M2 = M') (fun M2 t => va_P z.1 vwCl (pw (yd z b) 32 b M2) t.heap) (pA 32 b)) args s 0 0 (pA 32 b)) (F0 m 2 ls [])) (q59 : ∀ (i1 : Int32) (i2 : Int32) (i3 : Int32) (M : Mem) (H : Heap) (locs : List Loc) (ls : Array Slot), rc 59 [i1, i2, i3] [] M = some (r, M') → va_P z.1 vwCl (pw (yd z b) 32 b M) H → va_S (pA 32 b) s.heap H locs → lv_has ls 6 [(0, .ref (b + 0)), (1, .int i1), (2, .int i2), (3, .int i3)] → W p l e rm12_laysFrom s m args below meth c H locs 0 0 (MQ below (va_Qv (fun (M2 : Mem) => M2 = M') (fun M2 t => va_P z.1 vwCl (pw (yd z b) 32 b M2) t.heap) (pA 32 b)) args s 0 0 (pA 32 b)) (F0 m 59 ls [])) (q67 : ∀ (i1 : Int32) (i2 : Int32) (i3 : Int32) (i4 : Int32) (M : Mem) (H : Heap) (locs : List Loc) (ls : Array Slot), rc 67 [i1, i2, i3, i4] [] M = some (r, M') → va_P z.1 vwCl (pw (yd z b) 32 b M) H → va_S (pA 32 b) s.heap H locs → lv_has ls 6 [(0, .ref (b + 0)), (1, .int i1), (2, .int i2), (3, .int i3), (4, .int i4)] → W p l e rm12_laysFrom s m args below meth c H locs 0 0 (MQ below (va_Qv (fun (M2 : Mem) => M2 = M') (fun M2 t => va_P z.1 vwCl (pw (yd z b) 32 b M2) t.heap) (pA 32 b)) args s 0 0 (pA 32 b)) (F0 m 67 ls [])) {a1 : Int32} {M : Mem} {H : Heap} {locs : List Loc} {ls : Array Slot} (hf : b12_laysFrom_0  rc n a1 M = some (r, M')) (hP : va_P z.1 vwCl (pw (yd z b) 32 b M) H) (hS : va_S (pA 32 b) s.heap H locs) (hl : lv_has ls 6 [(0, .ref (b + 0)), (1, .int a1)]) : W p l e rm12_laysFrom s m args below meth c H locs 0 0 (MQ below (va_Qv (fun (M2 : Mem) => M2 = M') (fun M2 t => va_P z.1 vwCl (pw (yd z b) 32 b M2) t.heap) (pA 32 b)) args s 0 0 (pA 32 b)) (F0 m 0 ls []) := by
  have hx := C.1.1
  have hb := C.1.2.1
  unfold b12_laysFrom_0 at hf
  refine lv_iconst (v := (0 : Int32)) hx hb dX12_laysFrom_0 (by decide) ?_
  refine lv_istore_n (lv' := [(2, .int (0 : Int32)), (0, .ref (b + 0)), (1, .int a1)]) hx hb dX12_laysFrom_1 rfl hl (by decide) rfl (fun ls hl => ?_)
  exact w12_laysFrom_2 (n := n)  C hr hk q2 q59 q67 hf hP hS (lv_sub hl [1, 2, 0] rfl)
set_option maxHeartbeats 4000000 in
set_option maxRecDepth 100000 in
theorem l12_laysFrom {p : Program} {l : Launch} {e : Env} {s : State} {m : MethodId} {args : Array Value} {below : List Frame} {meth : Method} {c : Code} {z : Zt} {b : Nat}  (C : Cx p s m args c cX12_laysFrom 6 RX12 z 32 b) (hr : meth.sig.returnType = none) (hk : meth.locks = false) {r : Unit} {M' : Mem} (n : Nat) : (∀ (i1 : Int32) (i2 : Int32) (M : Mem) (H : Heap) (locs : List Loc) (ls : Array Slot), (r12_laysFrom  n) 2 [i1, i2] [] M = some (r, M') → va_P z.1 vwCl (pw (yd z b) 32 b M) H → va_S (pA 32 b) s.heap H locs → lv_has ls 6 [(0, .ref (b + 0)), (1, .int i1), (2, .int i2)] → W p l e rm12_laysFrom s m args below meth c H locs 0 0 (MQ below (va_Qv (fun (M2 : Mem) => M2 = M') (fun M2 t => va_P z.1 vwCl (pw (yd z b) 32 b M2) t.heap) (pA 32 b)) args s 0 0 (pA 32 b)) (F0 m 2 ls [])) ∧ (∀ (i1 : Int32) (i2 : Int32) (i3 : Int32) (M : Mem) (H : Heap) (locs : List Loc) (ls : Array Slot), (r12_laysFrom  n) 59 [i1, i2, i3] [] M = some (r, M') → va_P z.1 vwCl (pw (yd z b) 32 b M) H → va_S (pA 32 b) s.heap H locs → lv_has ls 6 [(0, .ref (b + 0)), (1, .int i1), (2, .int i2), (3, .int i3)] → W p l e rm12_laysFrom s m args below meth c H locs 0 0 (MQ below (va_Qv (fun (M2 : Mem) => M2 = M') (fun M2 t => va_P z.1 vwCl (pw (yd z b) 32 b M2) t.heap) (pA 32 b)) args s 0 0 (pA 32 b)) (F0 m 59 ls [])) ∧ (∀ (i1 : Int32) (i2 : Int32) (i3 : Int32) (i4 : Int32) (M : Mem) (H : Heap) (locs : List Loc) (ls : Array Slot), (r12_laysFrom  n) 67 [i1, i2, i3, i4] [] M = some (r, M') → va_P z.1 vwCl (pw (yd z b) 32 b M) H → va_S (pA 32 b) s.heap H locs → lv_has ls 6 [(0, .ref (b + 0)), (1, .int i1), (2, .int i2), (3, .int i3), (4, .int i4)] → W p l e rm12_laysFrom s m args below meth c H locs 0 0 (MQ below (va_Qv (fun (M2 : Mem) => M2 = M') (fun M2 t => va_P z.1 vwCl (pw (yd z b) 32 b M2) t.heap) (pA 32 b)) args s 0 0 (pA 32 b)) (F0 m 67 ls [])) := by
  induction n with
  | zero => exact ⟨fun _ _ _ _ _ _ hf => (by cases hf), fun _ _ _ _ _ _ _ hf => (by cases hf), fun _ _ _ _ _ _ _ _ hf => (by cases hf)⟩
  | succ n ih => exact ⟨fun _ _ _ _ _ _ hf hP hS hl => w12_laysFrom_2 (n := n)  C hr hk ih.1 ih.2.1 ih.2.2 ((e12_laysFrom_2  n _ _ _).symm.trans hf) hP hS hl, fun _ _ _ _ _ _ _ hf hP hS hl => w12_laysFrom_59 (n := n)  C hr hk ih.1 ih.2.1 ih.2.2 ((e12_laysFrom_59  n _ _ _ _).symm.trans hf) hP hS hl, fun _ _ _ _ _ _ _ _ hf hP hS hl => w12_laysFrom_67 (n := n)  C hr hk ih.1 ih.2.1 ih.2.2 ((e12_laysFrom_67  n _ _ _ _ _).symm.trans hf) hP hS hl⟩
theorem c12_laysFrom {l : Launch} {z : Zt} {b n : Nat}  {a1 : Int32} {M M' : Mem} {r : Unit} (hf : f12_laysFrom n  a1 M = some (r, M')) : CV l z (yd z b) 32 b yX12_laysFrom cX12_laysFrom 6 none rm12_laysFrom [.ref (b + 0), .int a1] M M' :=
  CV.ofW (lv := [(0, .ref (b + 0)), (1, .int a1)]) (by decide) (Nat.le_of_ble_eq_true rfl) rfl (fun p e s m args below meth c ls C hr hk hP hS hl => w12_laysFrom_0 (n := n)  C hr hk (l12_laysFrom  C hr hk n).1 (l12_laysFrom  C hr hk n).2.1 (l12_laysFrom  C hr hk n).2.2 hf hP hS hl)

-- BronzeKingModel.steps(II)I
theorem dX12_steps_0 : decode cX12_steps 0 = .ok (.aload_n 0, 1) := by decide +kernel
theorem dX12_steps_1 : decode cX12_steps 1 = .ok (.getfield 118, 3) := by decide +kernel
theorem dX12_steps_4 : decode cX12_steps 4 = .ok (.ifCond .ne 27, 3) := by decide +kernel
theorem dX12_steps_7 : decode cX12_steps 7 = .ok (.iconst 0, 1) := by decide +kernel
theorem dX12_steps_8 : decode cX12_steps 8 = .ok (.istore_n 3, 1) := by decide +kernel
theorem dX12_steps_9 : decode cX12_steps 9 = .ok (.iload_n 3, 1) := by decide +kernel
theorem dX12_steps_10 : decode cX12_steps 10 = .ok (.bipush 96, 2) := by decide +kernel
theorem dX12_steps_12 : decode cX12_steps 12 = .ok (.if_icmp .ge 14, 3) := by decide +kernel
theorem dX12_steps_15 : decode cX12_steps 15 = .ok (.aload_n 0, 1) := by decide +kernel
theorem dX12_steps_16 : decode cX12_steps 16 = .ok (.iload_n 3, 1) := by decide +kernel
theorem dX12_steps_17 : decode cX12_steps 17 = .ok (.invokevirtual 130, 3) := by decide +kernel
theorem dX12_steps_20 : decode cX12_steps 20 = .ok (.iinc 3 1, 3) := by decide +kernel
theorem dX12_steps_23 : decode cX12_steps 23 = .ok (.goto (-14), 3) := by decide +kernel
theorem dX12_steps_26 : decode cX12_steps 26 = .ok (.aload_n 0, 1) := by decide +kernel
theorem dX12_steps_27 : decode cX12_steps 27 = .ok (.iconst 1, 1) := by decide +kernel
theorem dX12_steps_28 : decode cX12_steps 28 = .ok (.putfield 118, 3) := by decide +kernel
theorem dX12_steps_31 : decode cX12_steps 31 = .ok (.aload_n 0, 1) := by decide +kernel
theorem dX12_steps_32 : decode cX12_steps 32 = .ok (.getfield 25, 3) := by decide +kernel
theorem dX12_steps_35 : decode cX12_steps 35 = .ok (.bipush 96, 2) := by decide +kernel
theorem dX12_steps_37 : decode cX12_steps 37 = .ok (.iload_n 1, 1) := by decide +kernel
theorem dX12_steps_38 : decode cX12_steps 38 = .ok (.imul, 1) := by decide +kernel
theorem dX12_steps_39 : decode cX12_steps 39 = .ok (.iload_n 2, 1) := by decide +kernel
theorem dX12_steps_40 : decode cX12_steps 40 = .ok (.iadd, 1) := by decide +kernel
theorem dX12_steps_41 : decode cX12_steps 41 = .ok (.baload, 1) := by decide +kernel
theorem dX12_steps_42 : decode cX12_steps 42 = .ok (.ireturn, 1) := by decide +kernel
def b12_steps_31 (rc : Nat → List Int32 → List Int64 → Mem → Option (Int32 × Mem)) (n : Nat) (i1 : Int32) (i2 : Int32) (M : Mem) : Option (Int32 × Mem) :=
  chk (inb (((96 : Int32) * i1) + i2) 9216) <|
  some ((M.1 6 (((96 : Int32) * i1) + i2).toNatClampNeg), M)
def b12_steps_9 (rc : Nat → List Int32 → List Int64 → Mem → Option (Int32 × Mem)) (n : Nat) (i1 : Int32) (i2 : Int32) (i3 : Int32) (M : Mem) : Option (Int32 × Mem) :=
  (if (96 : Int32) ≤ i3 then (
   lt (wI M 0 9 (1 : Int32)) fun M3 =>
   b12_steps_31  rc n i1 i2 M3)
  else (
   bnd (f12_laysFrom n i3 M) fun r4 M5 =>
   lt (i3 + (1 : Int32)) fun v7 =>
   rc 9 [i1, i2, v7] [] M5))
def b12_steps_0 (rc : Nat → List Int32 → List Int64 → Mem → Option (Int32 × Mem)) (n : Nat) (a1 : Int32) (a2 : Int32) (M : Mem) : Option (Int32 × Mem) :=
  (if (M.1 0 9) = 0 then (
   b12_steps_9  rc n a1 a2 (0 : Int32) M)
  else (
   b12_steps_31  rc n a1 a2 M))
def r12_steps : Nat → Nat → List Int32 → List Int64 → Mem → Option (Int32 × Mem)
  | 0 => fun _ _ _ _ => none
  | n + 1 => fun pc li lj M =>
    if pc = 9 then (match li, lj with | [i1, i2, i3], [] => b12_steps_9  (r12_steps  n) n i1 i2 i3 M | _, _ => none) else
    none
theorem e12_steps_9  (n : Nat) (i1 : Int32) (i2 : Int32) (i3 : Int32) (M : Mem) : r12_steps  (n + 1) 9 [i1, i2, i3] [] M = b12_steps_9  (r12_steps  n) n i1 i2 i3 M := by
  rw [r12_steps]
  simp
def f12_steps (n : Nat) (a1 : Int32) (a2 : Int32) (M : Mem) : Option (Int32 × Mem) := b12_steps_0 (r12_steps n) n a1 a2 M
abbrev rm12_steps : Room := { frames := 4, cells := 0, slots := 0, locals := 91 }
theorem y12_steps_w : yV RX12 yX12_steps cX12_steps 4 (some .int) 2 := ⟨g_1477, gp 68 rfl rfl, g_14, g_1478, rfl, by decide, by decide, by decide +kernel⟩
set_option maxHeartbeats 4000000 in
set_option maxRecDepth 100000 in
theorem w12_steps_31 {p : Program} {l : Launch} {e : Env} {s : State} {m : MethodId} {args : Array Value} {below : List Frame} {meth : Method} {c : Code} {z : Zt} {b : Nat}  (C : Cx p s m args c cX12_steps 4 RX12 z 32 b) (hr : meth.sig.returnType = (some .int)) (hk : meth.locks = false) {r : Int32} {M' : Mem} {rc : Nat → List Int32 → List Int64 → Mem → Option (Int32 × Mem)} {n : Nat} (q9 : ∀ (i1 : Int32) (i2 : Int32) (i3 : Int32) (M : Mem) (H : Heap) (locs : List Loc) (ls : Array Slot), rc 9 [i1, i2, i3] [] M = some (r, M') → va_P z.1 vwCl (pw (yd z b) 32 b M) H → va_S (pA 32 b) s.heap H locs → lv_has ls 4 [(0, .ref (b + 0)), (1, .int i1), (2, .int i2), (3, .int i3)] → W p l e rm12_steps s m args below meth c H locs 0 0 (MQ below (va_Qi (fun (r' : Int32) (M2 : Mem) => r' = r ∧ M2 = M') (fun M2 t => va_P z.1 vwCl (pw (yd z b) 32 b M2) t.heap) (pA 32 b)) args s 0 0 (pA 32 b)) (F0 m 9 ls [])) {i1 : Int32} {i2 : Int32} {M : Mem} {H : Heap} {locs : List Loc} {ls : Array Slot} (hf : b12_steps_31  rc n i1 i2 M = some (r, M')) (hP : va_P z.1 vwCl (pw (yd z b) 32 b M) H) (hS : va_S (pA 32 b) s.heap H locs) (hl : lv_has ls 4 [(0, .ref (b + 0)), (1, .int i1), (2, .int i2)]) : W p l e rm12_steps s m args below meth c H locs 0 0 (MQ below (va_Qi (fun (r' : Int32) (M2 : Mem) => r' = r ∧ M2 = M') (fun M2 t => va_P z.1 vwCl (pw (yd z b) 32 b M2) t.heap) (pA 32 b)) args s 0 0 (pA 32 b)) (F0 m 31 ls []) := by
  have hx := C.1.1
  have hb := C.1.2.1
  unfold b12_steps_31 at hf
  refine lv_aload_n hx hb dX12_steps_31 rfl (lv_at hl 0 rfl) ?_
  refine pg C hP (k := 0) (j := 7) (Nat.le_of_ble_eq_true rfl) (yd_0 _ _) rfl iw_12 (Nat.le_of_ble_eq_true rfl) g_1142 rfl rfl dX12_steps_32 ?_
  refine lv_bipush (v := (96 : Int32)) hx hb dX12_steps_35 (by decide) ?_
  refine lv_iload_n hx hb dX12_steps_37 rfl (lv_at hl 1 rfl) ?_
  refine lv_imul hx hb dX12_steps_38 ?_
  refine lv_iload_n hx hb dX12_steps_39 rfl (lv_at hl 2 rfl) ?_
  refine lv_iadd hx hb dX12_steps_40 ?_
  have h8 := chk_1 hf
  replace hf := chk_2 hf
  refine paB C hP (k := 6) (Nat.le_of_ble_eq_true rfl) (yd_6 _ _) h8 dX12_steps_41 ?_
  exact prI C hr hk hP hS hf dX12_steps_42
set_option maxHeartbeats 4000000 in
set_option maxRecDepth 100000 in
theorem w12_steps_9 {p : Program} {l : Launch} {e : Env} {s : State} {m : MethodId} {args : Array Value} {below : List Frame} {meth : Method} {c : Code} {z : Zt} {b : Nat}  (C : Cx p s m args c cX12_steps 4 RX12 z 32 b) (hr : meth.sig.returnType = (some .int)) (hk : meth.locks = false) {r : Int32} {M' : Mem} {rc : Nat → List Int32 → List Int64 → Mem → Option (Int32 × Mem)} {n : Nat} (q9 : ∀ (i1 : Int32) (i2 : Int32) (i3 : Int32) (M : Mem) (H : Heap) (locs : List Loc) (ls : Array Slot), rc 9 [i1, i2, i3] [] M = some (r, M') → va_P z.1 vwCl (pw (yd z b) 32 b M) H → va_S (pA 32 b) s.heap H locs → lv_has ls 4 [(0, .ref (b + 0)), (1, .int i1), (2, .int i2), (3, .int i3)] → W p l e rm12_steps s m args below meth c H locs 0 0 (MQ below (va_Qi (fun (r' : Int32) (M2 : Mem) => r' = r ∧ M2 = M') (fun M2 t => va_P z.1 vwCl (pw (yd z b) 32 b M2) t.heap) (pA 32 b)) args s 0 0 (pA 32 b)) (F0 m 9 ls [])) {i1 : Int32} {i2 : Int32} {i3 : Int32} {M : Mem} {H : Heap} {locs : List Loc} {ls : Array Slot} (hf : b12_steps_9  rc n i1 i2 i3 M = some (r, M')) (hP : va_P z.1 vwCl (pw (yd z b) 32 b M) H) (hS : va_S (pA 32 b) s.heap H locs) (hl : lv_has ls 4 [(0, .ref (b + 0)), (1, .int i1), (2, .int i2), (3, .int i3)]) : W p l e rm12_steps s m args below meth c H locs 0 0 (MQ below (va_Qi (fun (r' : Int32) (M2 : Mem) => r' = r ∧ M2 = M') (fun M2 t => va_P z.1 vwCl (pw (yd z b) 32 b M2) t.heap) (pA 32 b)) args s 0 0 (pA 32 b)) (F0 m 9 ls []) := by
  have hx := C.1.1
  have hb := C.1.2.1
  unfold b12_steps_9 at hf
  refine lv_iload_n hx hb dX12_steps_9 rfl (lv_at hl 3 rfl) ?_
  refine lv_bipush (v := (96 : Int32)) hx hb dX12_steps_10 (by decide) ?_
  refine lv_icmp_ge (tgt := 26) hx hb dX12_steps_12 (by decide) (fun c2 => ?_) (fun c2 => ?_)
  · replace hf := ite_t c2 hf
    refine lv_aload_n hx hb dX12_steps_26 rfl (lv_at hl 0 rfl) ?_
    refine lv_iconst (v := (1 : Int32)) hx hb dX12_steps_27 (by decide) ?_
    refine ppI C hP hS (k := 0) (j := 9) (ty := .boolean) (Nat.le_of_ble_eq_true rfl) (yd_0 _ _) rfl iw_12 tyX12 tyX12_ok nmX12 (Nat.le_of_ble_eq_true rfl) g_1144 rfl rfl (by decide +kernel) rfl rfl (Nat.le_of_ble_eq_true rfl) (yu_0_9 _ _ _) dX12_steps_28 (fun M3 H locs eM3 hP hS => ?_)
    replace hf := lt_c eM3 hf
    exact w12_steps_31 (n := n)  C hr hk q9 hf hP hS (lv_sub hl [0, 1, 2] rfl)
  · replace hf := ite_f c2 hf
    refine lv_aload_n hx hb dX12_steps_15 rfl (lv_at hl 0 rfl) ?_
    refine lv_iload_n hx hb dX12_steps_16 rfl (lv_at hl 3 rfl) ?_
    obtain ⟨r4, M5, h6, hf⟩ := bnd_s hf
    refine pcVv (As := [.int i3]) C hP hS (k := 0) (Nat.le_of_ble_eq_true rfl) (yd_0 _ _) rfl (c12_laysFrom  h6) y12_laysFrom_w g_1479 rfl rfl rfl ⟨Nat.le_of_ble_eq_true rfl, Nat.le_of_ble_eq_true rfl⟩ hl.1 rfl (Nat.le_of_ble_eq_true rfl) dX12_steps_17 ⟨Nat.le_of_ble_eq_true rfl, Nat.le_of_ble_eq_true rfl⟩ (fun H locs hP hS => ?_)
    obtain ⟨v7, ev7⟩ : ∃ v : Int32, v = i3 + (1 : Int32) := ⟨_, rfl⟩
    replace hf := lt_c ev7 hf
    refine lv_iinc (v := v7) (lv' := [(3, .int v7), (0, .ref (b + 0)), (1, .int i1), (2, .int i2)]) hx hb dX12_steps_20 hl (k := 3) rfl (by rw [ev7]; rfl) (by decide) rfl (fun ls hl => ?_)
    refine lv_goto (tgt := 9) hx hb dX12_steps_23 (by decide) ?_
    exact q9 i1 i2 v7 M5 _ _ _ hf hP hS (lv_sub hl [1, 2, 3, 0] rfl)
set_option maxHeartbeats 4000000 in
set_option maxRecDepth 100000 in
theorem w12_steps_0 {p : Program} {l : Launch} {e : Env} {s : State} {m : MethodId} {args : Array Value} {below : List Frame} {meth : Method} {c : Code} {z : Zt} {b : Nat}  (C : Cx p s m args c cX12_steps 4 RX12 z 32 b) (hr : meth.sig.returnType = (some .int)) (hk : meth.locks = false) {r : Int32} {M' : Mem} {rc : Nat → List Int32 → List Int64 → Mem → Option (Int32 × Mem)} {n : Nat} (q9 : ∀ (i1 : Int32) (i2 : Int32) (i3 : Int32) (M : Mem) (H : Heap) (locs : List Loc) (ls : Array Slot), rc 9 [i1, i2, i3] [] M = some (r, M') → va_P z.1 vwCl (pw (yd z b) 32 b M) H → va_S (pA 32 b) s.heap H locs → lv_has ls 4 [(0, .ref (b + 0)), (1, .int i1), (2, .int i2), (3, .int i3)] → W p l e rm12_steps s m args below meth c H locs 0 0 (MQ below (va_Qi (fun (r' : Int32) (M2 : Mem) => r' = r ∧ M2 = M') (fun M2 t => va_P z.1 vwCl (pw (yd z b) 32 b M2) t.heap) (pA 32 b)) args s 0 0 (pA 32 b)) (F0 m 9 ls [])) {a1 : Int32} {a2 : Int32} {M : Mem} {H : Heap} {locs : List Loc} {ls : Array Slot} (hf : b12_steps_0  rc n a1 a2 M = some (r, M')) (hP : va_P z.1 vwCl (pw (yd z b) 32 b M) H) (hS : va_S (pA 32 b) s.heap H locs) (hl : lv_has ls 4 [(0, .ref (b + 0)), (1, .int a1), (2, .int a2)]) : W p l e rm12_steps s m args below meth c H locs 0 0 (MQ below (va_Qi (fun (r' : Int32) (M2 : Mem) => r' = r ∧ M2 = M') (fun M2 t => va_P z.1 vwCl (pw (yd z b) 32 b M2) t.heap) (pA 32 b)) args s 0 0 (pA 32 b)) (F0 m 0 ls []) := by
  have hx := C.1.1
  have hb := C.1.2.1
  unfold b12_steps_0 at hf
  refine lv_aload_n hx hb dX12_steps_0 rfl (lv_at hl 0 rfl) ?_
  refine pg C hP (k := 0) (j := 9) (Nat.le_of_ble_eq_true rfl) (yd_0 _ _) rfl iw_12 (Nat.le_of_ble_eq_true rfl) g_1144 rfl rfl dX12_steps_1 ?_
  refine lv_if_ne (tgt := 31) hx hb dX12_steps_4 (by decide) (fun c1 => ?_) (fun c1 => ?_)
  · replace hf := ite_f c1 hf
    exact w12_steps_31 (n := n)  C hr hk q9 hf hP hS (lv_sub hl [0, 1, 2] rfl)
  · replace hf := ite_t c1 hf
    refine lv_iconst (v := (0 : Int32)) hx hb dX12_steps_7 (by decide) ?_
    refine lv_istore_n (lv' := [(3, .int (0 : Int32)), (0, .ref (b + 0)), (1, .int a1), (2, .int a2)]) hx hb dX12_steps_8 rfl hl (by decide) rfl (fun ls hl => ?_)
    exact w12_steps_9 (n := n)  C hr hk q9 hf hP hS (lv_sub hl [1, 2, 3, 0] rfl)
set_option maxHeartbeats 4000000 in
set_option maxRecDepth 100000 in
theorem l12_steps {p : Program} {l : Launch} {e : Env} {s : State} {m : MethodId} {args : Array Value} {below : List Frame} {meth : Method} {c : Code} {z : Zt} {b : Nat}  (C : Cx p s m args c cX12_steps 4 RX12 z 32 b) (hr : meth.sig.returnType = (some .int)) (hk : meth.locks = false) {r : Int32} {M' : Mem} (n : Nat) : (∀ (i1 : Int32) (i2 : Int32) (i3 : Int32) (M : Mem) (H : Heap) (locs : List Loc) (ls : Array Slot), (r12_steps  n) 9 [i1, i2, i3] [] M = some (r, M') → va_P z.1 vwCl (pw (yd z b) 32 b M) H → va_S (pA 32 b) s.heap H locs → lv_has ls 4 [(0, .ref (b + 0)), (1, .int i1), (2, .int i2), (3, .int i3)] → W p l e rm12_steps s m args below meth c H locs 0 0 (MQ below (va_Qi (fun (r' : Int32) (M2 : Mem) => r' = r ∧ M2 = M') (fun M2 t => va_P z.1 vwCl (pw (yd z b) 32 b M2) t.heap) (pA 32 b)) args s 0 0 (pA 32 b)) (F0 m 9 ls [])) := by
  induction n with
  | zero => exact fun _ _ _ _ _ _ _ hf => (by cases hf)
  | succ n ih => exact fun _ _ _ _ _ _ _ hf hP hS hl => w12_steps_9 (n := n)  C hr hk ih ((e12_steps_9  n _ _ _ _).symm.trans hf) hP hS hl
theorem c12_steps {l : Launch} {z : Zt} {b n : Nat}  {a1 : Int32} {a2 : Int32} {M M' : Mem} {r : Int32} (hf : f12_steps n  a1 a2 M = some (r, M')) : CI l z (yd z b) 32 b yX12_steps cX12_steps 4 (some .int) rm12_steps [.ref (b + 0), .int a1, .int a2] M M' r :=
  CI.ofW (lv := [(0, .ref (b + 0)), (1, .int a1), (2, .int a2)]) (by decide) (Nat.le_of_ble_eq_true rfl) rfl (fun p e s m args below meth c ls C hr hk hP hS hl => w12_steps_0 (n := n)  C hr hk (l12_steps  C hr hk n) hf hP hS hl)

-- BronzeKingModel.toDoorNine(I)I
theorem dX12_toDoorNine_0 : decode cX12_toDoorNine 0 = .ok (.aload_n 0, 1) := by decide +kernel
theorem dX12_toDoorNine_1 : decode cX12_toDoorNine 1 = .ok (.getfield 22, 3) := by decide +kernel
theorem dX12_toDoorNine_4 : decode cX12_toDoorNine 4 = .ok (.bipush 9, 2) := by decide +kernel
theorem dX12_toDoorNine_6 : decode cX12_toDoorNine 6 = .ok (.iaload, 1) := by decide +kernel
theorem dX12_toDoorNine_7 : decode cX12_toDoorNine 7 = .ok (.iconst (-1), 1) := by decide +kernel
theorem dX12_toDoorNine_8 : decode cX12_toDoorNine 8 = .ok (.if_icmp .ne 8, 3) := by decide +kernel
theorem dX12_toDoorNine_11 : decode cX12_toDoorNine 11 = .ok (.bipush 99, 2) := by decide +kernel
theorem dX12_toDoorNine_13 : decode cX12_toDoorNine 13 = .ok (.goto 15, 3) := by decide +kernel
theorem dX12_toDoorNine_16 : decode cX12_toDoorNine 16 = .ok (.aload_n 0, 1) := by decide +kernel
theorem dX12_toDoorNine_17 : decode cX12_toDoorNine 17 = .ok (.iload_n 1, 1) := by decide +kernel
theorem dX12_toDoorNine_18 : decode cX12_toDoorNine 18 = .ok (.aload_n 0, 1) := by decide +kernel
theorem dX12_toDoorNine_19 : decode cX12_toDoorNine 19 = .ok (.getfield 22, 3) := by decide +kernel
theorem dX12_toDoorNine_22 : decode cX12_toDoorNine 22 = .ok (.bipush 9, 2) := by decide +kernel
theorem dX12_toDoorNine_24 : decode cX12_toDoorNine 24 = .ok (.iaload, 1) := by decide +kernel
theorem dX12_toDoorNine_25 : decode cX12_toDoorNine 25 = .ok (.invokevirtual 134, 3) := by decide +kernel
theorem dX12_toDoorNine_28 : decode cX12_toDoorNine 28 = .ok (.ireturn, 1) := by decide +kernel
def b12_toDoorNine_0 (rc : Nat → List Int32 → List Int64 → Mem → Option (Int32 × Mem)) (n : Nat) (a1 : Int32) (M : Mem) : Option (Int32 × Mem) :=
  chk (inb (9 : Int32) 10) <|
  (if (M.1 5 (9 : Int32).toNatClampNeg) = (-1 : Int32) then (
   some ((99 : Int32), M))
  else (
   chk (inb (9 : Int32) 10) <|
   bnd (f12_steps n a1 (M.1 5 (9 : Int32).toNatClampNeg) M) fun r4 M5 =>
   some (r4, M5)))
def f12_toDoorNine (n : Nat) (a1 : Int32) (M : Mem) : Option (Int32 × Mem) := b12_toDoorNine_0 (fun _ _ _ _ => none) n a1 M
abbrev rm12_toDoorNine : Room := { frames := 5, cells := 0, slots := 0, locals := 114 }
theorem y12_toDoorNine_w : yV RX12 yX12_toDoorNine cX12_toDoorNine 2 (some .int) 1 := ⟨g_1496, gp 72 rfl rfl, g_14, g_1497, rfl, by decide, by decide, by decide +kernel⟩
set_option maxHeartbeats 4000000 in
set_option maxRecDepth 100000 in
theorem w12_toDoorNine_0 {p : Program} {l : Launch} {e : Env} {s : State} {m : MethodId} {args : Array Value} {below : List Frame} {meth : Method} {c : Code} {z : Zt} {b : Nat}  (C : Cx p s m args c cX12_toDoorNine 2 RX12 z 32 b) (hr : meth.sig.returnType = (some .int)) (hk : meth.locks = false) {r : Int32} {M' : Mem} {rc : Nat → List Int32 → List Int64 → Mem → Option (Int32 × Mem)} {n : Nat}  {a1 : Int32} {M : Mem} {H : Heap} {locs : List Loc} {ls : Array Slot} (hf : b12_toDoorNine_0  rc n a1 M = some (r, M')) (hP : va_P z.1 vwCl (pw (yd z b) 32 b M) H) (hS : va_S (pA 32 b) s.heap H locs) (hl : lv_has ls 2 [(0, .ref (b + 0)), (1, .int a1)]) : W p l e rm12_toDoorNine s m args below meth c H locs 0 0 (MQ below (va_Qi (fun (r' : Int32) (M2 : Mem) => r' = r ∧ M2 = M') (fun M2 t => va_P z.1 vwCl (pw (yd z b) 32 b M2) t.heap) (pA 32 b)) args s 0 0 (pA 32 b)) (F0 m 0 ls []) := by
  have hx := C.1.1
  have hb := C.1.2.1
  unfold b12_toDoorNine_0 at hf
  refine lv_aload_n hx hb dX12_toDoorNine_0 rfl (lv_at hl 0 rfl) ?_
  refine pg C hP (k := 0) (j := 4) (Nat.le_of_ble_eq_true rfl) (yd_0 _ _) rfl iw_12 (Nat.le_of_ble_eq_true rfl) g_1139 rfl rfl dX12_toDoorNine_1 ?_
  refine lv_bipush (v := (9 : Int32)) hx hb dX12_toDoorNine_4 (by decide) ?_
  have h1 := chk_1 hf
  replace hf := chk_2 hf
  refine paI C hP (k := 5) (Nat.le_of_ble_eq_true rfl) (yd_5 _ _) h1 dX12_toDoorNine_6 ?_
  refine lv_iconst (v := (-1 : Int32)) hx hb dX12_toDoorNine_7 (by decide) ?_
  refine lv_icmp_ne (tgt := 16) hx hb dX12_toDoorNine_8 (by decide) (fun c2 => ?_) (fun c2 => ?_)
  · replace hf := ite_f c2 hf
    refine lv_aload_n hx hb dX12_toDoorNine_16 rfl (lv_at hl 0 rfl) ?_
    refine lv_iload_n hx hb dX12_toDoorNine_17 rfl (lv_at hl 1 rfl) ?_
    refine lv_aload_n hx hb dX12_toDoorNine_18 rfl (lv_at hl 0 rfl) ?_
    refine pg C hP (k := 0) (j := 4) (Nat.le_of_ble_eq_true rfl) (yd_0 _ _) rfl iw_12 (Nat.le_of_ble_eq_true rfl) g_1139 rfl rfl dX12_toDoorNine_19 ?_
    refine lv_bipush (v := (9 : Int32)) hx hb dX12_toDoorNine_22 (by decide) ?_
    have h3 := chk_1 hf
    replace hf := chk_2 hf
    refine paI C hP (k := 5) (Nat.le_of_ble_eq_true rfl) (yd_5 _ _) h3 dX12_toDoorNine_24 ?_
    obtain ⟨r4, M5, h6, hf⟩ := bnd_s hf
    refine pcVi (As := [.int a1, .int (M.1 5 (9 : Int32).toNatClampNeg)]) C hP hS (k := 0) (Nat.le_of_ble_eq_true rfl) (yd_0 _ _) rfl (c12_steps  h6) y12_steps_w g_1475 rfl rfl rfl ⟨Nat.le_of_ble_eq_true rfl, Nat.le_of_ble_eq_true rfl⟩ hl.1 rfl (Nat.le_of_ble_eq_true rfl) dX12_toDoorNine_25 ⟨Nat.le_of_ble_eq_true rfl, Nat.le_of_ble_eq_true rfl⟩ (fun H locs hP hS => ?_)
    exact prI C hr hk hP hS hf dX12_toDoorNine_28
  · replace hf := ite_t c2 hf
    refine lv_bipush (v := (99 : Int32)) hx hb dX12_toDoorNine_11 (by decide) ?_
    refine lv_goto (tgt := 28) hx hb dX12_toDoorNine_13 (by decide) ?_
    exact prI C hr hk hP hS hf dX12_toDoorNine_28
theorem c12_toDoorNine {l : Launch} {z : Zt} {b n : Nat}  {a1 : Int32} {M M' : Mem} {r : Int32} (hf : f12_toDoorNine n  a1 M = some (r, M')) : CI l z (yd z b) 32 b yX12_toDoorNine cX12_toDoorNine 2 (some .int) rm12_toDoorNine [.ref (b + 0), .int a1] M M' r :=
  CI.ofW (lv := [(0, .ref (b + 0)), (1, .int a1)]) (by decide) (Nat.le_of_ble_eq_true rfl) rfl (fun p e s m args below meth c ls C hr hk hP hS hl => w12_toDoorNine_0 (n := n)  C hr hk  hf hP hS hl)

-- BronzeKingModel.neighbours(I)I
theorem dX12_neighbours_0 : decode cX12_neighbours 0 = .ok (.iconst 0, 1) := by decide +kernel
theorem dX12_neighbours_1 : decode cX12_neighbours 1 = .ok (.istore_n 2, 1) := by decide +kernel
theorem dX12_neighbours_2 : decode cX12_neighbours 2 = .ok (.iconst 0, 1) := by decide +kernel
theorem dX12_neighbours_3 : decode cX12_neighbours 3 = .ok (.istore_n 3, 1) := by decide +kernel
theorem dX12_neighbours_4 : decode cX12_neighbours 4 = .ok (.iload_n 3, 1) := by decide +kernel
theorem dX12_neighbours_5 : decode cX12_neighbours 5 = .ok (.iconst 4, 1) := by decide +kernel
theorem dX12_neighbours_6 : decode cX12_neighbours 6 = .ok (.if_icmp .ge 34, 3) := by decide +kernel
theorem dX12_neighbours_9 : decode cX12_neighbours 9 = .ok (.iload_n 1, 1) := by decide +kernel
theorem dX12_neighbours_10 : decode cX12_neighbours 10 = .ok (.iload_n 3, 1) := by decide +kernel
theorem dX12_neighbours_11 : decode cX12_neighbours 11 = .ok (.invokestatic 126, 3) := by decide +kernel
theorem dX12_neighbours_14 : decode cX12_neighbours 14 = .ok (.iconst (-1), 1) := by decide +kernel
theorem dX12_neighbours_15 : decode cX12_neighbours 15 = .ok (.if_icmp .eq 19, 3) := by decide +kernel
theorem dX12_neighbours_18 : decode cX12_neighbours 18 = .ok (.aload_n 0, 1) := by decide +kernel
theorem dX12_neighbours_19 : decode cX12_neighbours 19 = .ok (.iload_n 1, 1) := by decide +kernel
theorem dX12_neighbours_20 : decode cX12_neighbours 20 = .ok (.iload_n 3, 1) := by decide +kernel
theorem dX12_neighbours_21 : decode cX12_neighbours 21 = .ok (.invokestatic 126, 3) := by decide +kernel
theorem dX12_neighbours_24 : decode cX12_neighbours 24 = .ok (.invokevirtual 122, 3) := by decide +kernel
theorem dX12_neighbours_27 : decode cX12_neighbours 27 = .ok (.ifCond .eq 7, 3) := by decide +kernel
theorem dX12_neighbours_30 : decode cX12_neighbours 30 = .ok (.iload_n 2, 1) := by decide +kernel
theorem dX12_neighbours_31 : decode cX12_neighbours 31 = .ok (.iconst 1, 1) := by decide +kernel
theorem dX12_neighbours_32 : decode cX12_neighbours 32 = .ok (.iadd, 1) := by decide +kernel
theorem dX12_neighbours_33 : decode cX12_neighbours 33 = .ok (.istore_n 2, 1) := by decide +kernel
theorem dX12_neighbours_34 : decode cX12_neighbours 34 = .ok (.iinc 3 1, 3) := by decide +kernel
theorem dX12_neighbours_37 : decode cX12_neighbours 37 = .ok (.goto (-33), 3) := by decide +kernel
theorem dX12_neighbours_40 : decode cX12_neighbours 40 = .ok (.iload_n 2, 1) := by decide +kernel
theorem dX12_neighbours_41 : decode cX12_neighbours 41 = .ok (.ireturn, 1) := by decide +kernel
def b12_neighbours_34 (rc : Nat → List Int32 → List Int64 → Mem → Option (Int32 × Mem)) (n : Nat) (i1 : Int32) (i2 : Int32) (i3 : Int32) (M : Mem) : Option (Int32 × Mem) :=
  lt (i3 + (1 : Int32)) fun v14 =>
  rc 4 [i1, i2, v14] [] M
def b12_neighbours_4 (rc : Nat → List Int32 → List Int64 → Mem → Option (Int32 × Mem)) (n : Nat) (i1 : Int32) (i2 : Int32) (i3 : Int32) (M : Mem) : Option (Int32 × Mem) :=
  (if (4 : Int32) ≤ i3 then (
   some (i2, M))
  else (
   bnd (f12_beside n i1 i3 M) fun r2 M3 =>
   (if r2 = (-1 : Int32) then (
    b12_neighbours_34  rc n i1 i2 i3 M3)
   else (
    bnd (f12_beside n i1 i3 M3) fun r6 M7 =>
    bnd (f12_isOpen n r6 M7) fun r9 M10 =>
    (if r9 = 0 then (
     b12_neighbours_34  rc n i1 i2 i3 M10)
    else (
     lt (i2 + (1 : Int32)) fun v13 =>
     b12_neighbours_34  rc n i1 v13 i3 M10))))))
def b12_neighbours_0 (rc : Nat → List Int32 → List Int64 → Mem → Option (Int32 × Mem)) (n : Nat) (a1 : Int32) (M : Mem) : Option (Int32 × Mem) :=
  b12_neighbours_4  rc n a1 (0 : Int32) (0 : Int32) M
def r12_neighbours : Nat → Nat → List Int32 → List Int64 → Mem → Option (Int32 × Mem)
  | 0 => fun _ _ _ _ => none
  | n + 1 => fun pc li lj M =>
    if pc = 4 then (match li, lj with | [i1, i2, i3], [] => b12_neighbours_4  (r12_neighbours  n) n i1 i2 i3 M | _, _ => none) else
    none
theorem e12_neighbours_4  (n : Nat) (i1 : Int32) (i2 : Int32) (i3 : Int32) (M : Mem) : r12_neighbours  (n + 1) 4 [i1, i2, i3] [] M = b12_neighbours_4  (r12_neighbours  n) n i1 i2 i3 M := by
  rw [r12_neighbours]
  simp
def f12_neighbours (n : Nat) (a1 : Int32) (M : Mem) : Option (Int32 × Mem) := b12_neighbours_0 (r12_neighbours n) n a1 M
abbrev rm12_neighbours : Room := { frames := 3, cells := 0, slots := 0, locals := 66 }
theorem y12_neighbours_w : yV RX12 yX12_neighbours cX12_neighbours 4 (some .int) 1 := ⟨g_1528, gp 75 rfl rfl, g_14, g_1529, rfl, by decide, by decide, by decide +kernel⟩
set_option maxHeartbeats 4000000 in
set_option maxRecDepth 100000 in
theorem w12_neighbours_34 {p : Program} {l : Launch} {e : Env} {s : State} {m : MethodId} {args : Array Value} {below : List Frame} {meth : Method} {c : Code} {z : Zt} {b : Nat}  (C : Cx p s m args c cX12_neighbours 4 RX12 z 32 b) (hr : meth.sig.returnType = (some .int)) (hk : meth.locks = false) {r : Int32} {M' : Mem} {rc : Nat → List Int32 → List Int64 → Mem → Option (Int32 × Mem)} {n : Nat} (q4 : ∀ (i1 : Int32) (i2 : Int32) (i3 : Int32) (M : Mem) (H : Heap) (locs : List Loc) (ls : Array Slot), rc 4 [i1, i2, i3] [] M = some (r, M') → va_P z.1 vwCl (pw (yd z b) 32 b M) H → va_S (pA 32 b) s.heap H locs → lv_has ls 4 [(0, .ref (b + 0)), (1, .int i1), (2, .int i2), (3, .int i3)] → W p l e rm12_neighbours s m args below meth c H locs 0 0 (MQ below (va_Qi (fun (r' : Int32) (M2 : Mem) => r' = r ∧ M2 = M') (fun M2 t => va_P z.1 vwCl (pw (yd z b) 32 b M2) t.heap) (pA 32 b)) args s 0 0 (pA 32 b)) (F0 m 4 ls [])) {i1 : Int32} {i2 : Int32} {i3 : Int32} {M : Mem} {H : Heap} {locs : List Loc} {ls : Array Slot} (hf : b12_neighbours_34  rc n i1 i2 i3 M = some (r, M')) (hP : va_P z.1 vwCl (pw (yd z b) 32 b M) H) (hS : va_S (pA 32 b) s.heap H locs) (hl : lv_has ls 4 [(0, .ref (b + 0)), (1, .int i1), (2, .int i2), (3, .int i3)]) : W p l e rm12_neighbours s m args below meth c H locs 0 0 (MQ below (va_Qi (fun (r' : Int32) (M2 : Mem) => r' = r ∧ M2 = M') (fun M2 t => va_P z.1 vwCl (pw (yd z b) 32 b M2) t.heap) (pA 32 b)) args s 0 0 (pA 32 b)) (F0 m 34 ls []) := by
  have hx := C.1.1
  have hb := C.1.2.1
  unfold b12_neighbours_34 at hf
  obtain ⟨v14, ev14⟩ : ∃ v : Int32, v = i3 + (1 : Int32) := ⟨_, rfl⟩
  replace hf := lt_c ev14 hf
  refine lv_iinc (v := v14) (lv' := [(3, .int v14), (0, .ref (b + 0)), (1, .int i1), (2, .int i2)]) hx hb dX12_neighbours_34 hl (k := 3) rfl (by rw [ev14]; rfl) (by decide) rfl (fun ls hl => ?_)
  refine lv_goto (tgt := 4) hx hb dX12_neighbours_37 (by decide) ?_
  exact q4 i1 i2 v14 M _ _ _ hf hP hS (lv_sub hl [1, 2, 3, 0] rfl)
set_option maxHeartbeats 4000000 in
set_option maxRecDepth 100000 in
theorem w12_neighbours_4 {p : Program} {l : Launch} {e : Env} {s : State} {m : MethodId} {args : Array Value} {below : List Frame} {meth : Method} {c : Code} {z : Zt} {b : Nat}  (C : Cx p s m args c cX12_neighbours 4 RX12 z 32 b) (hr : meth.sig.returnType = (some .int)) (hk : meth.locks = false) {r : Int32} {M' : Mem} {rc : Nat → List Int32 → List Int64 → Mem → Option (Int32 × Mem)} {n : Nat} (q4 : ∀ (i1 : Int32) (i2 : Int32) (i3 : Int32) (M : Mem) (H : Heap) (locs : List Loc) (ls : Array Slot), rc 4 [i1, i2, i3] [] M = some (r, M') → va_P z.1 vwCl (pw (yd z b) 32 b M) H → va_S (pA 32 b) s.heap H locs → lv_has ls 4 [(0, .ref (b + 0)), (1, .int i1), (2, .int i2), (3, .int i3)] → W p l e rm12_neighbours s m args below meth c H locs 0 0 (MQ below (va_Qi (fun (r' : Int32) (M2 : Mem) => r' = r ∧ M2 = M') (fun M2 t => va_P z.1 vwCl (pw (yd z b) 32 b M2) t.heap) (pA 32 b)) args s 0 0 (pA 32 b)) (F0 m 4 ls [])) {i1 : Int32} {i2 : Int32} {i3 : Int32} {M : Mem} {H : Heap} {locs : List Loc} {ls : Array Slot} (hf : b12_neighbours_4  rc n i1 i2 i3 M = some (r, M')) (hP : va_P z.1 vwCl (pw (yd z b) 32 b M) H) (hS : va_S (pA 32 b) s.heap H locs) (hl : lv_has ls 4 [(0, .ref (b + 0)), (1, .int i1), (2, .int i2), (3, .int i3)]) : W p l e rm12_neighbours s m args below meth c H locs 0 0 (MQ below (va_Qi (fun (r' : Int32) (M2 : Mem) => r' = r ∧ M2 = M') (fun M2 t => va_P z.1 vwCl (pw (yd z b) 32 b M2) t.heap) (pA 32 b)) args s 0 0 (pA 32 b)) (F0 m 4 ls []) := by
  have hx := C.1.1
  have hb := C.1.2.1
  unfold b12_neighbours_4 at hf
  refine lv_iload_n hx hb dX12_neighbours_4 rfl (lv_at hl 3 rfl) ?_
  refine lv_iconst (v := (4 : Int32)) hx hb dX12_neighbours_5 (by decide) ?_
  refine lv_icmp_ge (tgt := 40) hx hb dX12_neighbours_6 (by decide) (fun c1 => ?_) (fun c1 => ?_)
  · replace hf := ite_t c1 hf
    refine lv_iload_n hx hb dX12_neighbours_40 rfl (lv_at hl 2 rfl) ?_
    exact prI C hr hk hP hS hf dX12_neighbours_41
  · replace hf := ite_f c1 hf
    refine lv_iload_n hx hb dX12_neighbours_9 rfl (lv_at hl 1 rfl) ?_
    refine lv_iload_n hx hb dX12_neighbours_10 rfl (lv_at hl 3 rfl) ?_
    obtain ⟨r2, M3, h4, hf⟩ := bnd_s hf
    refine pcSi (As := [.int i1, .int i3]) C hP hS (c12_beside  h4) y12_beside_w g_1487 rfl rfl rfl ⟨Nat.le_of_ble_eq_true rfl, Nat.le_of_ble_eq_true rfl⟩ hl.1 rfl (Nat.le_of_ble_eq_true rfl) dX12_neighbours_11 ⟨Nat.le_of_ble_eq_true rfl, Nat.le_of_ble_eq_true rfl⟩ (fun H locs hP hS => ?_)
    refine lv_iconst (v := (-1 : Int32)) hx hb dX12_neighbours_14 (by decide) ?_
    refine lv_icmp_eq (tgt := 34) hx hb dX12_neighbours_15 (by decide) (fun c5 => ?_) (fun c5 => ?_)
    · replace hf := ite_t c5 hf
      exact w12_neighbours_34 (n := n)  C hr hk q4 hf hP hS (lv_sub hl [0, 1, 2, 3] rfl)
    · replace hf := ite_f c5 hf
      refine lv_aload_n hx hb dX12_neighbours_18 rfl (lv_at hl 0 rfl) ?_
      refine lv_iload_n hx hb dX12_neighbours_19 rfl (lv_at hl 1 rfl) ?_
      refine lv_iload_n hx hb dX12_neighbours_20 rfl (lv_at hl 3 rfl) ?_
      obtain ⟨r6, M7, h8, hf⟩ := bnd_s hf
      refine pcSi (As := [.int i1, .int i3]) C hP hS (c12_beside  h8) y12_beside_w g_1487 rfl rfl rfl ⟨Nat.le_of_ble_eq_true rfl, Nat.le_of_ble_eq_true rfl⟩ hl.1 rfl (Nat.le_of_ble_eq_true rfl) dX12_neighbours_21 ⟨Nat.le_of_ble_eq_true rfl, Nat.le_of_ble_eq_true rfl⟩ (fun H locs hP hS => ?_)
      obtain ⟨r9, M10, h11, hf⟩ := bnd_s hf
      refine pcVi (As := [.int r6]) C hP hS (k := 0) (Nat.le_of_ble_eq_true rfl) (yd_0 _ _) rfl (c12_isOpen  h11) y12_isOpen_w g_1483 rfl rfl rfl ⟨Nat.le_of_ble_eq_true rfl, Nat.le_of_ble_eq_true rfl⟩ hl.1 rfl (Nat.le_of_ble_eq_true rfl) dX12_neighbours_24 ⟨Nat.le_of_ble_eq_true rfl, Nat.le_of_ble_eq_true rfl⟩ (fun H locs hP hS => ?_)
      refine lv_if_eq (tgt := 34) hx hb dX12_neighbours_27 (by decide) (fun c12 => ?_) (fun c12 => ?_)
      · replace hf := ite_t c12 hf
        exact w12_neighbours_34 (n := n)  C hr hk q4 hf hP hS (lv_sub hl [0, 1, 2, 3] rfl)
      · replace hf := ite_f c12 hf
        refine lv_iload_n hx hb dX12_neighbours_30 rfl (lv_at hl 2 rfl) ?_
        refine lv_iconst (v := (1 : Int32)) hx hb dX12_neighbours_31 (by decide) ?_
        refine lv_iadd hx hb dX12_neighbours_32 ?_
        refine lv_topi (fun v13 ev13 => ?_)
        replace hf := lt_c ev13 hf
        refine lv_istore_n (lv' := [(2, .int v13), (0, .ref (b + 0)), (1, .int i1), (3, .int i3)]) hx hb dX12_neighbours_33 rfl hl (by decide) rfl (fun ls hl => ?_)
        exact w12_neighbours_34 (n := n)  C hr hk q4 hf hP hS (lv_sub hl [1, 2, 0, 3] rfl)
set_option maxHeartbeats 4000000 in
set_option maxRecDepth 100000 in
theorem w12_neighbours_0 {p : Program} {l : Launch} {e : Env} {s : State} {m : MethodId} {args : Array Value} {below : List Frame} {meth : Method} {c : Code} {z : Zt} {b : Nat}  (C : Cx p s m args c cX12_neighbours 4 RX12 z 32 b) (hr : meth.sig.returnType = (some .int)) (hk : meth.locks = false) {r : Int32} {M' : Mem} {rc : Nat → List Int32 → List Int64 → Mem → Option (Int32 × Mem)} {n : Nat} (q4 : ∀ (i1 : Int32) (i2 : Int32) (i3 : Int32) (M : Mem) (H : Heap) (locs : List Loc) (ls : Array Slot), rc 4 [i1, i2, i3] [] M = some (r, M') → va_P z.1 vwCl (pw (yd z b) 32 b M) H → va_S (pA 32 b) s.heap H locs → lv_has ls 4 [(0, .ref (b + 0)), (1, .int i1), (2, .int i2), (3, .int i3)] → W p l e rm12_neighbours s m args below meth c H locs 0 0 (MQ below (va_Qi (fun (r' : Int32) (M2 : Mem) => r' = r ∧ M2 = M') (fun M2 t => va_P z.1 vwCl (pw (yd z b) 32 b M2) t.heap) (pA 32 b)) args s 0 0 (pA 32 b)) (F0 m 4 ls [])) {a1 : Int32} {M : Mem} {H : Heap} {locs : List Loc} {ls : Array Slot} (hf : b12_neighbours_0  rc n a1 M = some (r, M')) (hP : va_P z.1 vwCl (pw (yd z b) 32 b M) H) (hS : va_S (pA 32 b) s.heap H locs) (hl : lv_has ls 4 [(0, .ref (b + 0)), (1, .int a1)]) : W p l e rm12_neighbours s m args below meth c H locs 0 0 (MQ below (va_Qi (fun (r' : Int32) (M2 : Mem) => r' = r ∧ M2 = M') (fun M2 t => va_P z.1 vwCl (pw (yd z b) 32 b M2) t.heap) (pA 32 b)) args s 0 0 (pA 32 b)) (F0 m 0 ls []) := by
  have hx := C.1.1
  have hb := C.1.2.1
  unfold b12_neighbours_0 at hf
  refine lv_iconst (v := (0 : Int32)) hx hb dX12_neighbours_0 (by decide) ?_
  refine lv_istore_n (lv' := [(2, .int (0 : Int32)), (0, .ref (b + 0)), (1, .int a1)]) hx hb dX12_neighbours_1 rfl hl (by decide) rfl (fun ls hl => ?_)
  refine lv_iconst (v := (0 : Int32)) hx hb dX12_neighbours_2 (by decide) ?_
  refine lv_istore_n (lv' := [(3, .int (0 : Int32)), (2, .int (0 : Int32)), (0, .ref (b + 0)), (1, .int a1)]) hx hb dX12_neighbours_3 rfl hl (by decide) rfl (fun ls hl => ?_)
  exact w12_neighbours_4 (n := n)  C hr hk q4 hf hP hS (lv_sub hl [2, 3, 1, 0] rfl)
set_option maxHeartbeats 4000000 in
set_option maxRecDepth 100000 in
theorem l12_neighbours {p : Program} {l : Launch} {e : Env} {s : State} {m : MethodId} {args : Array Value} {below : List Frame} {meth : Method} {c : Code} {z : Zt} {b : Nat}  (C : Cx p s m args c cX12_neighbours 4 RX12 z 32 b) (hr : meth.sig.returnType = (some .int)) (hk : meth.locks = false) {r : Int32} {M' : Mem} (n : Nat) : (∀ (i1 : Int32) (i2 : Int32) (i3 : Int32) (M : Mem) (H : Heap) (locs : List Loc) (ls : Array Slot), (r12_neighbours  n) 4 [i1, i2, i3] [] M = some (r, M') → va_P z.1 vwCl (pw (yd z b) 32 b M) H → va_S (pA 32 b) s.heap H locs → lv_has ls 4 [(0, .ref (b + 0)), (1, .int i1), (2, .int i2), (3, .int i3)] → W p l e rm12_neighbours s m args below meth c H locs 0 0 (MQ below (va_Qi (fun (r' : Int32) (M2 : Mem) => r' = r ∧ M2 = M') (fun M2 t => va_P z.1 vwCl (pw (yd z b) 32 b M2) t.heap) (pA 32 b)) args s 0 0 (pA 32 b)) (F0 m 4 ls [])) := by
  induction n with
  | zero => exact fun _ _ _ _ _ _ _ hf => (by cases hf)
  | succ n ih => exact fun _ _ _ _ _ _ _ hf hP hS hl => w12_neighbours_4 (n := n)  C hr hk ih ((e12_neighbours_4  n _ _ _ _).symm.trans hf) hP hS hl
theorem c12_neighbours {l : Launch} {z : Zt} {b n : Nat}  {a1 : Int32} {M M' : Mem} {r : Int32} (hf : f12_neighbours n  a1 M = some (r, M')) : CI l z (yd z b) 32 b yX12_neighbours cX12_neighbours 4 (some .int) rm12_neighbours [.ref (b + 0), .int a1] M M' r :=
  CI.ofW (lv := [(0, .ref (b + 0)), (1, .int a1)]) (by decide) (Nat.le_of_ble_eq_true rfl) rfl (fun p e s m args below meth c ls C hr hk hP hS hl => w12_neighbours_0 (n := n)  C hr hk (l12_neighbours  C hr hk n) hf hP hS hl)

-- BronzeKingModel.types(I)V
theorem dX12_types_0 : decode cX12_types 0 = .ok (.iconst 3, 1) := by decide +kernel
theorem dX12_types_1 : decode cX12_types 1 = .ok (.istore_n 2, 1) := by decide +kernel
theorem dX12_types_2 : decode cX12_types 2 = .ok (.iload_n 2, 1) := by decide +kernel
theorem dX12_types_3 : decode cX12_types 3 = .ok (.ifCond .lt 35, 3) := by decide +kernel
theorem dX12_types_6 : decode cX12_types 6 = .ok (.aload_n 0, 1) := by decide +kernel
theorem dX12_types_7 : decode cX12_types 7 = .ok (.getfield 32, 3) := by decide +kernel
theorem dX12_types_10 : decode cX12_types 10 = .ok (.aload_n 0, 1) := by decide +kernel
theorem dX12_types_11 : decode cX12_types 11 = .ok (.getfield 137, 3) := by decide +kernel
theorem dX12_types_14 : decode cX12_types 14 = .ok (.iload_n 1, 1) := by decide +kernel
theorem dX12_types_15 : decode cX12_types 15 = .ok (.bipush 8, 2) := by decide +kernel
theorem dX12_types_17 : decode cX12_types 17 = .ok (.iload_n 2, 1) := by decide +kernel
theorem dX12_types_18 : decode cX12_types 18 = .ok (.imul, 1) := by decide +kernel
theorem dX12_types_19 : decode cX12_types 19 = .ok (.ishr, 1) := by decide +kernel
theorem dX12_types_20 : decode cX12_types 20 = .ok (.i2b, 1) := by decide +kernel
theorem dX12_types_21 : decode cX12_types 21 = .ok (.bastore, 1) := by decide +kernel
theorem dX12_types_22 : decode cX12_types 22 = .ok (.aload_n 0, 1) := by decide +kernel
theorem dX12_types_23 : decode cX12_types 23 = .ok (.aload_n 0, 1) := by decide +kernel
theorem dX12_types_24 : decode cX12_types 24 = .ok (.getfield 137, 3) := by decide +kernel
theorem dX12_types_27 : decode cX12_types 27 = .ok (.iconst 1, 1) := by decide +kernel
theorem dX12_types_28 : decode cX12_types 28 = .ok (.iadd, 1) := by decide +kernel
theorem dX12_types_29 : decode cX12_types 29 = .ok (.putfield 137, 3) := by decide +kernel
theorem dX12_types_32 : decode cX12_types 32 = .ok (.iinc 2 (-1), 3) := by decide +kernel
theorem dX12_types_35 : decode cX12_types 35 = .ok (.goto (-33), 3) := by decide +kernel
theorem dX12_types_38 : decode cX12_types 38 = .ok (.return_, 1) := by decide +kernel
def b12_types_2 (rc : Nat → List Int32 → List Int64 → Mem → Option (Unit × Mem)) (n : Nat) (i1 : Int32) (i2 : Int32) (M : Mem) : Option (Unit × Mem) :=
  (if i2 < 0 then (
   some ((), M))
  else (
   chk (inb (M.1 0 11) 260) <|
   lt (wI M 8 (M.1 0 11).toNatClampNeg ((i1 >>> (((8 : Int32) * i2) &&& 31)).toInt8.toInt32).toInt8.toInt32) fun M3 =>
   lt (wI M3 0 11 ((M3.1 0 11) + (1 : Int32))) fun M4 =>
   lt (i2 + (-1 : Int32)) fun v5 =>
   rc 2 [i1, v5] [] M4))
def b12_types_0 (rc : Nat → List Int32 → List Int64 → Mem → Option (Unit × Mem)) (n : Nat) (a1 : Int32) (M : Mem) : Option (Unit × Mem) :=
  b12_types_2  rc n a1 (3 : Int32) M
def r12_types : Nat → Nat → List Int32 → List Int64 → Mem → Option (Unit × Mem)
  | 0 => fun _ _ _ _ => none
  | n + 1 => fun pc li lj M =>
    if pc = 2 then (match li, lj with | [i1, i2], [] => b12_types_2  (r12_types  n) n i1 i2 M | _, _ => none) else
    none
theorem e12_types_2  (n : Nat) (i1 : Int32) (i2 : Int32) (M : Mem) : r12_types  (n + 1) 2 [i1, i2] [] M = b12_types_2  (r12_types  n) n i1 i2 M := by
  rw [r12_types]
  simp
def f12_types (n : Nat) (a1 : Int32) (M : Mem) : Option (Unit × Mem) := b12_types_0 (r12_types n) n a1 M
abbrev rm12_types : Room := { frames := 0, cells := 0, slots := 0, locals := 0 }
theorem y12_types_w : yV RX12 yX12_types cX12_types 3 none 1 := ⟨g_1319, gp 36 rfl rfl, g_14, g_1320, rfl, by decide, by decide, by decide +kernel⟩
set_option maxHeartbeats 4000000 in
set_option maxRecDepth 100000 in
theorem w12_types_2 {p : Program} {l : Launch} {e : Env} {s : State} {m : MethodId} {args : Array Value} {below : List Frame} {meth : Method} {c : Code} {z : Zt} {b : Nat}  (C : Cx p s m args c cX12_types 3 RX12 z 32 b) (hr : meth.sig.returnType = none) (hk : meth.locks = false) {r : Unit} {M' : Mem} {rc : Nat → List Int32 → List Int64 → Mem → Option (Unit × Mem)} {n : Nat} (q2 : ∀ (i1 : Int32) (i2 : Int32) (M : Mem) (H : Heap) (locs : List Loc) (ls : Array Slot), rc 2 [i1, i2] [] M = some (r, M') → va_P z.1 vwCl (pw (yd z b) 32 b M) H → va_S (pA 32 b) s.heap H locs → lv_has ls 3 [(0, .ref (b + 0)), (1, .int i1), (2, .int i2)] → W p l e rm12_types s m args below meth c H locs 0 0 (MQ below (va_Qv (fun (M2 : Mem) => M2 = M') (fun M2 t => va_P z.1 vwCl (pw (yd z b) 32 b M2) t.heap) (pA 32 b)) args s 0 0 (pA 32 b)) (F0 m 2 ls [])) {i1 : Int32} {i2 : Int32} {M : Mem} {H : Heap} {locs : List Loc} {ls : Array Slot} (hf : b12_types_2  rc n i1 i2 M = some (r, M')) (hP : va_P z.1 vwCl (pw (yd z b) 32 b M) H) (hS : va_S (pA 32 b) s.heap H locs) (hl : lv_has ls 3 [(0, .ref (b + 0)), (1, .int i1), (2, .int i2)]) : W p l e rm12_types s m args below meth c H locs 0 0 (MQ below (va_Qv (fun (M2 : Mem) => M2 = M') (fun M2 t => va_P z.1 vwCl (pw (yd z b) 32 b M2) t.heap) (pA 32 b)) args s 0 0 (pA 32 b)) (F0 m 2 ls []) := by
  have hx := C.1.1
  have hb := C.1.2.1
  unfold b12_types_2 at hf
  refine lv_iload_n hx hb dX12_types_2 rfl (lv_at hl 2 rfl) ?_
  refine lv_if_lt (tgt := 38) hx hb dX12_types_3 (by decide) (fun c1 => ?_) (fun c1 => ?_)
  · replace hf := ite_t c1 hf
    exact prV C hr hk hP hS hf dX12_types_38
  · replace hf := ite_f c1 hf
    refine lv_aload_n hx hb dX12_types_6 rfl (lv_at hl 0 rfl) ?_
    refine pg C hP (k := 0) (j := 10) (Nat.le_of_ble_eq_true rfl) (yd_0 _ _) rfl iw_12 (Nat.le_of_ble_eq_true rfl) g_1145 rfl rfl dX12_types_7 ?_
    refine lv_aload_n hx hb dX12_types_10 rfl (lv_at hl 0 rfl) ?_
    refine pg C hP (k := 0) (j := 11) (Nat.le_of_ble_eq_true rfl) (yd_0 _ _) rfl iw_12 (Nat.le_of_ble_eq_true rfl) g_1146 rfl rfl dX12_types_11 ?_
    refine lv_iload_n hx hb dX12_types_14 rfl (lv_at hl 1 rfl) ?_
    refine lv_bipush (v := (8 : Int32)) hx hb dX12_types_15 (by decide) ?_
    refine lv_iload_n hx hb dX12_types_17 rfl (lv_at hl 2 rfl) ?_
    refine lv_imul hx hb dX12_types_18 ?_
    refine lv_ishr hx hb dX12_types_19 ?_
    refine lv_i2b hx hb dX12_types_20 rfl ?_
    have h2 := chk_1 hf
    replace hf := chk_2 hf
    refine psB C hP hS (k := 8) (Nat.le_of_ble_eq_true rfl) (yd_8) h2 dX12_types_21 (fun M3 H locs eM3 hP hS => ?_)
    replace hf := lt_c eM3 hf
    refine lv_aload_n hx hb dX12_types_22 rfl (lv_at hl 0 rfl) ?_
    refine lv_aload_n hx hb dX12_types_23 rfl (lv_at hl 0 rfl) ?_
    refine pg C hP (k := 0) (j := 11) (Nat.le_of_ble_eq_true rfl) (yd_0 _ _) rfl iw_12 (Nat.le_of_ble_eq_true rfl) g_1146 rfl rfl dX12_types_24 ?_
    refine lv_iconst (v := (1 : Int32)) hx hb dX12_types_27 (by decide) ?_
    refine lv_iadd hx hb dX12_types_28 ?_
    refine ppI C hP hS (k := 0) (j := 11) (ty := .int) (Nat.le_of_ble_eq_true rfl) (yd_0 _ _) rfl iw_12 tyX12 tyX12_ok nmX12 (Nat.le_of_ble_eq_true rfl) g_1146 rfl rfl (by decide +kernel) rfl rfl (Nat.le_of_ble_eq_true rfl) (yu_0_11 _ _ _) dX12_types_29 (fun M4 H locs eM4 hP hS => ?_)
    replace hf := lt_c eM4 hf
    obtain ⟨v5, ev5⟩ : ∃ v : Int32, v = i2 + (-1 : Int32) := ⟨_, rfl⟩
    replace hf := lt_c ev5 hf
    refine lv_iinc (v := v5) (lv' := [(2, .int v5), (0, .ref (b + 0)), (1, .int i1)]) hx hb dX12_types_32 hl (k := 2) rfl (by rw [ev5]; rfl) (by decide) rfl (fun ls hl => ?_)
    refine lv_goto (tgt := 2) hx hb dX12_types_35 (by decide) ?_
    exact q2 i1 v5 M4 _ _ _ hf hP hS (lv_sub hl [1, 2, 0] rfl)
set_option maxHeartbeats 4000000 in
set_option maxRecDepth 100000 in
theorem w12_types_0 {p : Program} {l : Launch} {e : Env} {s : State} {m : MethodId} {args : Array Value} {below : List Frame} {meth : Method} {c : Code} {z : Zt} {b : Nat}  (C : Cx p s m args c cX12_types 3 RX12 z 32 b) (hr : meth.sig.returnType = none) (hk : meth.locks = false) {r : Unit} {M' : Mem} {rc : Nat → List Int32 → List Int64 → Mem → Option (Unit × Mem)} {n : Nat} (q2 : ∀ (i1 : Int32) (i2 : Int32) (M : Mem) (H : Heap) (locs : List Loc) (ls : Array Slot), rc 2 [i1, i2] [] M = some (r, M') → va_P z.1 vwCl (pw (yd z b) 32 b M) H → va_S (pA 32 b) s.heap H locs → lv_has ls 3 [(0, .ref (b + 0)), (1, .int i1), (2, .int i2)] → W p l e rm12_types s m args below meth c H locs 0 0 (MQ below (va_Qv (fun (M2 : Mem) => M2 = M') (fun M2 t => va_P z.1 vwCl (pw (yd z b) 32 b M2) t.heap) (pA 32 b)) args s 0 0 (pA 32 b)) (F0 m 2 ls [])) {a1 : Int32} {M : Mem} {H : Heap} {locs : List Loc} {ls : Array Slot} (hf : b12_types_0  rc n a1 M = some (r, M')) (hP : va_P z.1 vwCl (pw (yd z b) 32 b M) H) (hS : va_S (pA 32 b) s.heap H locs) (hl : lv_has ls 3 [(0, .ref (b + 0)), (1, .int a1)]) : W p l e rm12_types s m args below meth c H locs 0 0 (MQ below (va_Qv (fun (M2 : Mem) => M2 = M') (fun M2 t => va_P z.1 vwCl (pw (yd z b) 32 b M2) t.heap) (pA 32 b)) args s 0 0 (pA 32 b)) (F0 m 0 ls []) := by
  have hx := C.1.1
  have hb := C.1.2.1
  unfold b12_types_0 at hf
  refine lv_iconst (v := (3 : Int32)) hx hb dX12_types_0 (by decide) ?_
  refine lv_istore_n (lv' := [(2, .int (3 : Int32)), (0, .ref (b + 0)), (1, .int a1)]) hx hb dX12_types_1 rfl hl (by decide) rfl (fun ls hl => ?_)
  exact w12_types_2 (n := n)  C hr hk q2 hf hP hS (lv_sub hl [1, 2, 0] rfl)
set_option maxHeartbeats 4000000 in
set_option maxRecDepth 100000 in
theorem l12_types {p : Program} {l : Launch} {e : Env} {s : State} {m : MethodId} {args : Array Value} {below : List Frame} {meth : Method} {c : Code} {z : Zt} {b : Nat}  (C : Cx p s m args c cX12_types 3 RX12 z 32 b) (hr : meth.sig.returnType = none) (hk : meth.locks = false) {r : Unit} {M' : Mem} (n : Nat) : (∀ (i1 : Int32) (i2 : Int32) (M : Mem) (H : Heap) (locs : List Loc) (ls : Array Slot), (r12_types  n) 2 [i1, i2] [] M = some (r, M') → va_P z.1 vwCl (pw (yd z b) 32 b M) H → va_S (pA 32 b) s.heap H locs → lv_has ls 3 [(0, .ref (b + 0)), (1, .int i1), (2, .int i2)] → W p l e rm12_types s m args below meth c H locs 0 0 (MQ below (va_Qv (fun (M2 : Mem) => M2 = M') (fun M2 t => va_P z.1 vwCl (pw (yd z b) 32 b M2) t.heap) (pA 32 b)) args s 0 0 (pA 32 b)) (F0 m 2 ls [])) := by
  induction n with
  | zero => exact fun _ _ _ _ _ _ hf => (by cases hf)
  | succ n ih => exact fun _ _ _ _ _ _ hf hP hS hl => w12_types_2 (n := n)  C hr hk ih ((e12_types_2  n _ _ _).symm.trans hf) hP hS hl
theorem c12_types {l : Launch} {z : Zt} {b n : Nat}  {a1 : Int32} {M M' : Mem} {r : Unit} (hf : f12_types n  a1 M = some (r, M')) : CV l z (yd z b) 32 b yX12_types cX12_types 3 none rm12_types [.ref (b + 0), .int a1] M M' :=
  CV.ofW (lv := [(0, .ref (b + 0)), (1, .int a1)]) (by decide) (Nat.le_of_ble_eq_true rfl) rfl (fun p e s m args below meth c ls C hr hk hP hS hl => w12_types_0 (n := n)  C hr hk (l12_types  C hr hk n) hf hP hS hl)

-- BronzeKingModel.feed(IIIII)I
theorem dX12_feed_0 : decode cX12_feed 0 = .ok (.aload_n 0, 1) := by decide +kernel
theorem dX12_feed_1 : decode cX12_feed 1 = .ok (.getfield 137, 3) := by decide +kernel
theorem dX12_feed_4 : decode cX12_feed 4 = .ok (.bipush 20, 2) := by decide +kernel
theorem dX12_feed_6 : decode cX12_feed 6 = .ok (.iadd, 1) := by decide +kernel
theorem dX12_feed_7 : decode cX12_feed 7 = .ok (.sipush 260, 3) := by decide +kernel
theorem dX12_feed_10 : decode cX12_feed 10 = .ok (.if_icmp .le 5, 3) := by decide +kernel
theorem dX12_feed_13 : decode cX12_feed 13 = .ok (.iconst (-1), 1) := by decide +kernel
theorem dX12_feed_14 : decode cX12_feed 14 = .ok (.ireturn, 1) := by decide +kernel
theorem dX12_feed_15 : decode cX12_feed 15 = .ok (.aload_n 0, 1) := by decide +kernel
theorem dX12_feed_16 : decode cX12_feed 16 = .ok (.iload_n 1, 1) := by decide +kernel
theorem dX12_feed_17 : decode cX12_feed 17 = .ok (.invokevirtual 140, 3) := by decide +kernel
theorem dX12_feed_20 : decode cX12_feed 20 = .ok (.aload_n 0, 1) := by decide +kernel
theorem dX12_feed_21 : decode cX12_feed 21 = .ok (.iload_n 2, 1) := by decide +kernel
theorem dX12_feed_22 : decode cX12_feed 22 = .ok (.invokevirtual 140, 3) := by decide +kernel
theorem dX12_feed_25 : decode cX12_feed 25 = .ok (.aload_n 0, 1) := by decide +kernel
theorem dX12_feed_26 : decode cX12_feed 26 = .ok (.iload_n 3, 1) := by decide +kernel
theorem dX12_feed_27 : decode cX12_feed 27 = .ok (.invokevirtual 140, 3) := by decide +kernel
theorem dX12_feed_30 : decode cX12_feed 30 = .ok (.aload_n 0, 1) := by decide +kernel
theorem dX12_feed_31 : decode cX12_feed 31 = .ok (.iload 4, 2) := by decide +kernel
theorem dX12_feed_33 : decode cX12_feed 33 = .ok (.invokevirtual 140, 3) := by decide +kernel
theorem dX12_feed_36 : decode cX12_feed 36 = .ok (.aload_n 0, 1) := by decide +kernel
theorem dX12_feed_37 : decode cX12_feed 37 = .ok (.iload 5, 2) := by decide +kernel
theorem dX12_feed_39 : decode cX12_feed 39 = .ok (.invokevirtual 140, 3) := by decide +kernel
theorem dX12_feed_42 : decode cX12_feed 42 = .ok (.aload_n 0, 1) := by decide +kernel
theorem dX12_feed_43 : decode cX12_feed 43 = .ok (.getfield 137, 3) := by decide +kernel
theorem dX12_feed_46 : decode cX12_feed 46 = .ok (.ireturn, 1) := by decide +kernel
def b12_feed_0 (rc : Nat → List Int32 → List Int64 → Mem → Option (Int32 × Mem)) (n : Nat) (a1 : Int32) (a2 : Int32) (a3 : Int32) (a4 : Int32) (a5 : Int32) (M : Mem) : Option (Int32 × Mem) :=
  (if ((M.1 0 11) + (20 : Int32)) ≤ (260 : Int32) then (
   bnd (f12_types n a1 M) fun r2 M3 =>
   bnd (f12_types n a2 M3) fun r5 M6 =>
   bnd (f12_types n a3 M6) fun r8 M9 =>
   bnd (f12_types n a4 M9) fun r11 M12 =>
   bnd (f12_types n a5 M12) fun r14 M15 =>
   some ((M15.1 0 11), M15))
  else (
   some ((-1 : Int32), M)))
def f12_feed (n : Nat) (a1 : Int32) (a2 : Int32) (a3 : Int32) (a4 : Int32) (a5 : Int32) (M : Mem) : Option (Int32 × Mem) := b12_feed_0 (fun _ _ _ _ => none) n a1 a2 a3 a4 a5 M
abbrev rm12_feed : Room := { frames := 1, cells := 0, slots := 0, locals := 22 }
theorem y12_feed_w : yV RX12 yX12_feed cX12_feed 6 (some .int) 5 := ⟨g_1314, g_1315, g_14, g_1316, rfl, by decide, by decide, by decide +kernel⟩
set_option maxHeartbeats 4000000 in
set_option maxRecDepth 100000 in
theorem w12_feed_0 {p : Program} {l : Launch} {e : Env} {s : State} {m : MethodId} {args : Array Value} {below : List Frame} {meth : Method} {c : Code} {z : Zt} {b : Nat}  (C : Cx p s m args c cX12_feed 6 RX12 z 32 b) (hr : meth.sig.returnType = (some .int)) (hk : meth.locks = false) {r : Int32} {M' : Mem} {rc : Nat → List Int32 → List Int64 → Mem → Option (Int32 × Mem)} {n : Nat}  {a1 : Int32} {a2 : Int32} {a3 : Int32} {a4 : Int32} {a5 : Int32} {M : Mem} {H : Heap} {locs : List Loc} {ls : Array Slot} (hf : b12_feed_0  rc n a1 a2 a3 a4 a5 M = some (r, M')) (hP : va_P z.1 vwCl (pw (yd z b) 32 b M) H) (hS : va_S (pA 32 b) s.heap H locs) (hl : lv_has ls 6 [(0, .ref (b + 0)), (1, .int a1), (2, .int a2), (3, .int a3), (4, .int a4), (5, .int a5)]) : W p l e rm12_feed s m args below meth c H locs 0 0 (MQ below (va_Qi (fun (r' : Int32) (M2 : Mem) => r' = r ∧ M2 = M') (fun M2 t => va_P z.1 vwCl (pw (yd z b) 32 b M2) t.heap) (pA 32 b)) args s 0 0 (pA 32 b)) (F0 m 0 ls []) := by
  have hx := C.1.1
  have hb := C.1.2.1
  unfold b12_feed_0 at hf
  refine lv_aload_n hx hb dX12_feed_0 rfl (lv_at hl 0 rfl) ?_
  refine pg C hP (k := 0) (j := 11) (Nat.le_of_ble_eq_true rfl) (yd_0 _ _) rfl iw_12 (Nat.le_of_ble_eq_true rfl) g_1146 rfl rfl dX12_feed_1 ?_
  refine lv_bipush (v := (20 : Int32)) hx hb dX12_feed_4 (by decide) ?_
  refine lv_iadd hx hb dX12_feed_6 ?_
  refine lv_sipush (v := (260 : Int32)) hx hb dX12_feed_7 (by decide) ?_
  refine lv_icmp_le (tgt := 15) hx hb dX12_feed_10 (by decide) (fun c1 => ?_) (fun c1 => ?_)
  · replace hf := ite_t c1 hf
    refine lv_aload_n hx hb dX12_feed_15 rfl (lv_at hl 0 rfl) ?_
    refine lv_iload_n hx hb dX12_feed_16 rfl (lv_at hl 1 rfl) ?_
    obtain ⟨r2, M3, h4, hf⟩ := bnd_s hf
    refine pcVv (As := [.int a1]) C hP hS (k := 0) (Nat.le_of_ble_eq_true rfl) (yd_0 _ _) rfl (c12_types  h4) y12_types_w g_1317 rfl rfl rfl ⟨Nat.le_of_ble_eq_true rfl, Nat.le_of_ble_eq_true rfl⟩ hl.1 rfl (Nat.le_of_ble_eq_true rfl) dX12_feed_17 ⟨Nat.le_of_ble_eq_true rfl, Nat.le_of_ble_eq_true rfl⟩ (fun H locs hP hS => ?_)
    refine lv_aload_n hx hb dX12_feed_20 rfl (lv_at hl 0 rfl) ?_
    refine lv_iload_n hx hb dX12_feed_21 rfl (lv_at hl 2 rfl) ?_
    obtain ⟨r5, M6, h7, hf⟩ := bnd_s hf
    refine pcVv (As := [.int a2]) C hP hS (k := 0) (Nat.le_of_ble_eq_true rfl) (yd_0 _ _) rfl (c12_types  h7) y12_types_w g_1317 rfl rfl rfl ⟨Nat.le_of_ble_eq_true rfl, Nat.le_of_ble_eq_true rfl⟩ hl.1 rfl (Nat.le_of_ble_eq_true rfl) dX12_feed_22 ⟨Nat.le_of_ble_eq_true rfl, Nat.le_of_ble_eq_true rfl⟩ (fun H locs hP hS => ?_)
    refine lv_aload_n hx hb dX12_feed_25 rfl (lv_at hl 0 rfl) ?_
    refine lv_iload_n hx hb dX12_feed_26 rfl (lv_at hl 3 rfl) ?_
    obtain ⟨r8, M9, h10, hf⟩ := bnd_s hf
    refine pcVv (As := [.int a3]) C hP hS (k := 0) (Nat.le_of_ble_eq_true rfl) (yd_0 _ _) rfl (c12_types  h10) y12_types_w g_1317 rfl rfl rfl ⟨Nat.le_of_ble_eq_true rfl, Nat.le_of_ble_eq_true rfl⟩ hl.1 rfl (Nat.le_of_ble_eq_true rfl) dX12_feed_27 ⟨Nat.le_of_ble_eq_true rfl, Nat.le_of_ble_eq_true rfl⟩ (fun H locs hP hS => ?_)
    refine lv_aload_n hx hb dX12_feed_30 rfl (lv_at hl 0 rfl) ?_
    refine lv_iload hx hb dX12_feed_31 (lv_at hl 4 rfl) ?_
    obtain ⟨r11, M12, h13, hf⟩ := bnd_s hf
    refine pcVv (As := [.int a4]) C hP hS (k := 0) (Nat.le_of_ble_eq_true rfl) (yd_0 _ _) rfl (c12_types  h13) y12_types_w g_1317 rfl rfl rfl ⟨Nat.le_of_ble_eq_true rfl, Nat.le_of_ble_eq_true rfl⟩ hl.1 rfl (Nat.le_of_ble_eq_true rfl) dX12_feed_33 ⟨Nat.le_of_ble_eq_true rfl, Nat.le_of_ble_eq_true rfl⟩ (fun H locs hP hS => ?_)
    refine lv_aload_n hx hb dX12_feed_36 rfl (lv_at hl 0 rfl) ?_
    refine lv_iload hx hb dX12_feed_37 (lv_at hl 5 rfl) ?_
    obtain ⟨r14, M15, h16, hf⟩ := bnd_s hf
    refine pcVv (As := [.int a5]) C hP hS (k := 0) (Nat.le_of_ble_eq_true rfl) (yd_0 _ _) rfl (c12_types  h16) y12_types_w g_1317 rfl rfl rfl ⟨Nat.le_of_ble_eq_true rfl, Nat.le_of_ble_eq_true rfl⟩ hl.1 rfl (Nat.le_of_ble_eq_true rfl) dX12_feed_39 ⟨Nat.le_of_ble_eq_true rfl, Nat.le_of_ble_eq_true rfl⟩ (fun H locs hP hS => ?_)
    refine lv_aload_n hx hb dX12_feed_42 rfl (lv_at hl 0 rfl) ?_
    refine pg C hP (k := 0) (j := 11) (Nat.le_of_ble_eq_true rfl) (yd_0 _ _) rfl iw_12 (Nat.le_of_ble_eq_true rfl) g_1146 rfl rfl dX12_feed_43 ?_
    exact prI C hr hk hP hS hf dX12_feed_46
  · replace hf := ite_f c1 hf
    refine lv_iconst (v := (-1 : Int32)) hx hb dX12_feed_13 (by decide) ?_
    exact prI C hr hk hP hS hf dX12_feed_14
theorem c12_feed {l : Launch} {z : Zt} {b n : Nat}  {a1 : Int32} {a2 : Int32} {a3 : Int32} {a4 : Int32} {a5 : Int32} {M M' : Mem} {r : Int32} (hf : f12_feed n  a1 a2 a3 a4 a5 M = some (r, M')) : CI l z (yd z b) 32 b yX12_feed cX12_feed 6 (some .int) rm12_feed [.ref (b + 0), .int a1, .int a2, .int a3, .int a4, .int a5] M M' r :=
  CI.ofW (lv := [(0, .ref (b + 0)), (1, .int a1), (2, .int a2), (3, .int a3), (4, .int a4), (5, .int a5)]) (by decide) (Nat.le_of_ble_eq_true rfl) rfl (fun p e s m args below meth c ls C hr hk hP hS hl => w12_feed_0 (n := n)  C hr hk  hf hP hS hl)

-- BronzeKingModel.octet(I)I
theorem dX12_octet_0 : decode cX12_octet 0 = .ok (.aload_n 0, 1) := by decide +kernel
theorem dX12_octet_1 : decode cX12_octet 1 = .ok (.getfield 32, 3) := by decide +kernel
theorem dX12_octet_4 : decode cX12_octet 4 = .ok (.iload_n 1, 1) := by decide +kernel
theorem dX12_octet_5 : decode cX12_octet 5 = .ok (.baload, 1) := by decide +kernel
theorem dX12_octet_6 : decode cX12_octet 6 = .ok (.sipush 255, 3) := by decide +kernel
theorem dX12_octet_9 : decode cX12_octet 9 = .ok (.iand, 1) := by decide +kernel
theorem dX12_octet_10 : decode cX12_octet 10 = .ok (.ireturn, 1) := by decide +kernel
def b12_octet_0 (rc : Nat → List Int32 → List Int64 → Mem → Option (Int32 × Mem)) (n : Nat) (a1 : Int32) (M : Mem) : Option (Int32 × Mem) :=
  chk (inb a1 260) <|
  some (((M.1 8 a1.toNatClampNeg) &&& (255 : Int32)), M)
def f12_octet (n : Nat) (a1 : Int32) (M : Mem) : Option (Int32 × Mem) := b12_octet_0 (fun _ _ _ _ => none) n a1 M
abbrev rm12_octet : Room := { frames := 0, cells := 0, slots := 0, locals := 0 }
theorem y12_octet_w : yV RX12 yX12_octet cX12_octet 2 (some .int) 1 := ⟨g_1635, gp 89 rfl rfl, g_14, g_1636, rfl, by decide, by decide, by decide +kernel⟩
set_option maxHeartbeats 4000000 in
set_option maxRecDepth 100000 in
theorem w12_octet_0 {p : Program} {l : Launch} {e : Env} {s : State} {m : MethodId} {args : Array Value} {below : List Frame} {meth : Method} {c : Code} {z : Zt} {b : Nat}  (C : Cx p s m args c cX12_octet 2 RX12 z 32 b) (hr : meth.sig.returnType = (some .int)) (hk : meth.locks = false) {r : Int32} {M' : Mem} {rc : Nat → List Int32 → List Int64 → Mem → Option (Int32 × Mem)} {n : Nat}  {a1 : Int32} {M : Mem} {H : Heap} {locs : List Loc} {ls : Array Slot} (hf : b12_octet_0  rc n a1 M = some (r, M')) (hP : va_P z.1 vwCl (pw (yd z b) 32 b M) H) (hS : va_S (pA 32 b) s.heap H locs) (hl : lv_has ls 2 [(0, .ref (b + 0)), (1, .int a1)]) : W p l e rm12_octet s m args below meth c H locs 0 0 (MQ below (va_Qi (fun (r' : Int32) (M2 : Mem) => r' = r ∧ M2 = M') (fun M2 t => va_P z.1 vwCl (pw (yd z b) 32 b M2) t.heap) (pA 32 b)) args s 0 0 (pA 32 b)) (F0 m 0 ls []) := by
  have hx := C.1.1
  have hb := C.1.2.1
  unfold b12_octet_0 at hf
  refine lv_aload_n hx hb dX12_octet_0 rfl (lv_at hl 0 rfl) ?_
  refine pg C hP (k := 0) (j := 10) (Nat.le_of_ble_eq_true rfl) (yd_0 _ _) rfl iw_12 (Nat.le_of_ble_eq_true rfl) g_1145 rfl rfl dX12_octet_1 ?_
  refine lv_iload_n hx hb dX12_octet_4 rfl (lv_at hl 1 rfl) ?_
  have h1 := chk_1 hf
  replace hf := chk_2 hf
  refine paB C hP (k := 8) (Nat.le_of_ble_eq_true rfl) (yd_8 _ _) h1 dX12_octet_5 ?_
  refine lv_sipush (v := (255 : Int32)) hx hb dX12_octet_6 (by decide) ?_
  refine lv_iand hx hb dX12_octet_9 ?_
  exact prI C hr hk hP hS hf dX12_octet_10
theorem c12_octet {l : Launch} {z : Zt} {b n : Nat}  {a1 : Int32} {M M' : Mem} {r : Int32} (hf : f12_octet n  a1 M = some (r, M')) : CI l z (yd z b) 32 b yX12_octet cX12_octet 2 (some .int) rm12_octet [.ref (b + 0), .int a1] M M' r :=
  CI.ofW (lv := [(0, .ref (b + 0)), (1, .int a1)]) (by decide) (Nat.le_of_ble_eq_true rfl) rfl (fun p e s m args below meth c ls C hr hk hP hS hl => w12_octet_0 (n := n)  C hr hk  hf hP hS hl)

-- BronzeKingModel.here()I
theorem dX12_here_0 : decode cX12_here 0 = .ok (.aload_n 0, 1) := by decide +kernel
theorem dX12_here_1 : decode cX12_here 1 = .ok (.getfield 143, 3) := by decide +kernel
theorem dX12_here_4 : decode cX12_here 4 = .ok (.aload_n 0, 1) := by decide +kernel
theorem dX12_here_5 : decode cX12_here 5 = .ok (.getfield 146, 3) := by decide +kernel
theorem dX12_here_8 : decode cX12_here 8 = .ok (.if_icmp .ge 19, 3) := by decide +kernel
theorem dX12_here_11 : decode cX12_here 11 = .ok (.aload_n 0, 1) := by decide +kernel
theorem dX12_here_12 : decode cX12_here 12 = .ok (.getfield 32, 3) := by decide +kernel
theorem dX12_here_15 : decode cX12_here 15 = .ok (.aload_n 0, 1) := by decide +kernel
theorem dX12_here_16 : decode cX12_here 16 = .ok (.getfield 143, 3) := by decide +kernel
theorem dX12_here_19 : decode cX12_here 19 = .ok (.baload, 1) := by decide +kernel
theorem dX12_here_20 : decode cX12_here 20 = .ok (.sipush 255, 3) := by decide +kernel
theorem dX12_here_23 : decode cX12_here 23 = .ok (.iand, 1) := by decide +kernel
theorem dX12_here_24 : decode cX12_here 24 = .ok (.goto 4, 3) := by decide +kernel
theorem dX12_here_27 : decode cX12_here 27 = .ok (.iconst (-1), 1) := by decide +kernel
theorem dX12_here_28 : decode cX12_here 28 = .ok (.ireturn, 1) := by decide +kernel
def b12_here_0 (rc : Nat → List Int32 → List Int64 → Mem → Option (Int32 × Mem)) (n : Nat) (M : Mem) : Option (Int32 × Mem) :=
  (if (M.1 0 13) ≤ (M.1 0 12) then (
   some ((-1 : Int32), M))
  else (
   chk (inb (M.1 0 12) 260) <|
   some (((M.1 8 (M.1 0 12).toNatClampNeg) &&& (255 : Int32)), M)))
def f12_here (n : Nat)  (M : Mem) : Option (Int32 × Mem) := b12_here_0 (fun _ _ _ _ => none) n M
abbrev rm12_here : Room := { frames := 0, cells := 0, slots := 0, locals := 0 }
theorem y12_here_w : yV RX12 yX12_here cX12_here 1 (some .int) 0 := ⟨g_1335, gp 39 rfl rfl, g_14, g_1336, rfl, by decide, by decide, by decide +kernel⟩
set_option maxHeartbeats 4000000 in
set_option maxRecDepth 100000 in
theorem w12_here_0 {p : Program} {l : Launch} {e : Env} {s : State} {m : MethodId} {args : Array Value} {below : List Frame} {meth : Method} {c : Code} {z : Zt} {b : Nat}  (C : Cx p s m args c cX12_here 1 RX12 z 32 b) (hr : meth.sig.returnType = (some .int)) (hk : meth.locks = false) {r : Int32} {M' : Mem} {rc : Nat → List Int32 → List Int64 → Mem → Option (Int32 × Mem)} {n : Nat}   {M : Mem} {H : Heap} {locs : List Loc} {ls : Array Slot} (hf : b12_here_0  rc n  M = some (r, M')) (hP : va_P z.1 vwCl (pw (yd z b) 32 b M) H) (hS : va_S (pA 32 b) s.heap H locs) (hl : lv_has ls 1 [(0, .ref (b + 0))]) : W p l e rm12_here s m args below meth c H locs 0 0 (MQ below (va_Qi (fun (r' : Int32) (M2 : Mem) => r' = r ∧ M2 = M') (fun M2 t => va_P z.1 vwCl (pw (yd z b) 32 b M2) t.heap) (pA 32 b)) args s 0 0 (pA 32 b)) (F0 m 0 ls []) := by
  have hx := C.1.1
  have hb := C.1.2.1
  unfold b12_here_0 at hf
  refine lv_aload_n hx hb dX12_here_0 rfl (lv_at hl 0 rfl) ?_
  refine pg C hP (k := 0) (j := 12) (Nat.le_of_ble_eq_true rfl) (yd_0 _ _) rfl iw_12 (Nat.le_of_ble_eq_true rfl) g_1147 rfl rfl dX12_here_1 ?_
  refine lv_aload_n hx hb dX12_here_4 rfl (lv_at hl 0 rfl) ?_
  refine pg C hP (k := 0) (j := 13) (Nat.le_of_ble_eq_true rfl) (yd_0 _ _) rfl iw_12 (Nat.le_of_ble_eq_true rfl) g_1148 rfl rfl dX12_here_5 ?_
  refine lv_icmp_ge (tgt := 27) hx hb dX12_here_8 (by decide) (fun c1 => ?_) (fun c1 => ?_)
  · replace hf := ite_t c1 hf
    refine lv_iconst (v := (-1 : Int32)) hx hb dX12_here_27 (by decide) ?_
    exact prI C hr hk hP hS hf dX12_here_28
  · replace hf := ite_f c1 hf
    refine lv_aload_n hx hb dX12_here_11 rfl (lv_at hl 0 rfl) ?_
    refine pg C hP (k := 0) (j := 10) (Nat.le_of_ble_eq_true rfl) (yd_0 _ _) rfl iw_12 (Nat.le_of_ble_eq_true rfl) g_1145 rfl rfl dX12_here_12 ?_
    refine lv_aload_n hx hb dX12_here_15 rfl (lv_at hl 0 rfl) ?_
    refine pg C hP (k := 0) (j := 12) (Nat.le_of_ble_eq_true rfl) (yd_0 _ _) rfl iw_12 (Nat.le_of_ble_eq_true rfl) g_1147 rfl rfl dX12_here_16 ?_
    have h2 := chk_1 hf
    replace hf := chk_2 hf
    refine paB C hP (k := 8) (Nat.le_of_ble_eq_true rfl) (yd_8 _ _) h2 dX12_here_19 ?_
    refine lv_sipush (v := (255 : Int32)) hx hb dX12_here_20 (by decide) ?_
    refine lv_iand hx hb dX12_here_23 ?_
    refine lv_goto (tgt := 28) hx hb dX12_here_24 (by decide) ?_
    exact prI C hr hk hP hS hf dX12_here_28
theorem c12_here {l : Launch} {z : Zt} {b n : Nat}   {M M' : Mem} {r : Int32} (hf : f12_here n   M = some (r, M')) : CI l z (yd z b) 32 b yX12_here cX12_here 1 (some .int) rm12_here [.ref (b + 0)] M M' r :=
  CI.ofW (lv := [(0, .ref (b + 0))]) (by decide) (Nat.le_of_ble_eq_true rfl) rfl (fun p e s m args below meth c ls C hr hk hP hS hl => w12_here_0 (n := n)  C hr hk  hf hP hS hl)

-- BronzeKingModel.isDigit()Z
theorem dX12_isDigit_0 : decode cX12_isDigit 0 = .ok (.aload_n 0, 1) := by decide +kernel
theorem dX12_isDigit_1 : decode cX12_isDigit 1 = .ok (.invokevirtual 149, 3) := by decide +kernel
theorem dX12_isDigit_4 : decode cX12_isDigit 4 = .ok (.bipush 48, 2) := by decide +kernel
theorem dX12_isDigit_6 : decode cX12_isDigit 6 = .ok (.if_icmp .lt 16, 3) := by decide +kernel
theorem dX12_isDigit_9 : decode cX12_isDigit 9 = .ok (.aload_n 0, 1) := by decide +kernel
theorem dX12_isDigit_10 : decode cX12_isDigit 10 = .ok (.invokevirtual 149, 3) := by decide +kernel
theorem dX12_isDigit_13 : decode cX12_isDigit 13 = .ok (.bipush 57, 2) := by decide +kernel
theorem dX12_isDigit_15 : decode cX12_isDigit 15 = .ok (.if_icmp .gt 7, 3) := by decide +kernel
theorem dX12_isDigit_18 : decode cX12_isDigit 18 = .ok (.iconst 1, 1) := by decide +kernel
theorem dX12_isDigit_19 : decode cX12_isDigit 19 = .ok (.goto 4, 3) := by decide +kernel
theorem dX12_isDigit_22 : decode cX12_isDigit 22 = .ok (.iconst 0, 1) := by decide +kernel
theorem dX12_isDigit_23 : decode cX12_isDigit 23 = .ok (.ireturn, 1) := by decide +kernel
def b12_isDigit_22 (rc : Nat → List Int32 → List Int64 → Mem → Option (Int32 × Mem)) (n : Nat) (M : Mem) : Option (Int32 × Mem) :=
  some ((0 : Int32), M)
def b12_isDigit_0 (rc : Nat → List Int32 → List Int64 → Mem → Option (Int32 × Mem)) (n : Nat) (M : Mem) : Option (Int32 × Mem) :=
  bnd (f12_here n M) fun r1 M2 =>
  (if r1 < (48 : Int32) then (
   b12_isDigit_22  rc n  M2)
  else (
   bnd (f12_here n M2) fun r5 M6 =>
   (if (57 : Int32) < r5 then (
    b12_isDigit_22  rc n  M6)
   else (
    some ((1 : Int32), M6)))))
def f12_isDigit (n : Nat)  (M : Mem) : Option (Int32 × Mem) := b12_isDigit_0 (fun _ _ _ _ => none) n M
abbrev rm12_isDigit : Room := { frames := 1, cells := 0, slots := 0, locals := 20 }
theorem y12_isDigit_w : yV RX12 yX12_isDigit cX12_isDigit 1 (some .boolean) 0 := ⟨g_1356, gp 44 rfl rfl, g_14, g_1357, rfl, by decide, by decide, by decide +kernel⟩
set_option maxHeartbeats 4000000 in
set_option maxRecDepth 100000 in
theorem w12_isDigit_22 {p : Program} {l : Launch} {e : Env} {s : State} {m : MethodId} {args : Array Value} {below : List Frame} {meth : Method} {c : Code} {z : Zt} {b : Nat}  (C : Cx p s m args c cX12_isDigit 1 RX12 z 32 b) (hr : meth.sig.returnType = (some .boolean)) (hk : meth.locks = false) {r : Int32} {M' : Mem} {rc : Nat → List Int32 → List Int64 → Mem → Option (Int32 × Mem)} {n : Nat}   {M : Mem} {H : Heap} {locs : List Loc} {ls : Array Slot} (hf : b12_isDigit_22  rc n  M = some (r, M')) (hP : va_P z.1 vwCl (pw (yd z b) 32 b M) H) (hS : va_S (pA 32 b) s.heap H locs) (hl : lv_has ls 1 []) : W p l e rm12_isDigit s m args below meth c H locs 0 0 (MQ below (va_Qi (fun (r' : Int32) (M2 : Mem) => r' = r ∧ M2 = M') (fun M2 t => va_P z.1 vwCl (pw (yd z b) 32 b M2) t.heap) (pA 32 b)) args s 0 0 (pA 32 b)) (F0 m 22 ls []) := by
  have hx := C.1.1
  have hb := C.1.2.1
  unfold b12_isDigit_22 at hf
  refine lv_iconst (v := (0 : Int32)) hx hb dX12_isDigit_22 (by decide) ?_
  exact prZ C hr hk hP hS hf rfl dX12_isDigit_23
set_option maxHeartbeats 4000000 in
set_option maxRecDepth 100000 in
theorem w12_isDigit_0 {p : Program} {l : Launch} {e : Env} {s : State} {m : MethodId} {args : Array Value} {below : List Frame} {meth : Method} {c : Code} {z : Zt} {b : Nat}  (C : Cx p s m args c cX12_isDigit 1 RX12 z 32 b) (hr : meth.sig.returnType = (some .boolean)) (hk : meth.locks = false) {r : Int32} {M' : Mem} {rc : Nat → List Int32 → List Int64 → Mem → Option (Int32 × Mem)} {n : Nat}   {M : Mem} {H : Heap} {locs : List Loc} {ls : Array Slot} (hf : b12_isDigit_0  rc n  M = some (r, M')) (hP : va_P z.1 vwCl (pw (yd z b) 32 b M) H) (hS : va_S (pA 32 b) s.heap H locs) (hl : lv_has ls 1 [(0, .ref (b + 0))]) : W p l e rm12_isDigit s m args below meth c H locs 0 0 (MQ below (va_Qi (fun (r' : Int32) (M2 : Mem) => r' = r ∧ M2 = M') (fun M2 t => va_P z.1 vwCl (pw (yd z b) 32 b M2) t.heap) (pA 32 b)) args s 0 0 (pA 32 b)) (F0 m 0 ls []) := by
  have hx := C.1.1
  have hb := C.1.2.1
  unfold b12_isDigit_0 at hf
  refine lv_aload_n hx hb dX12_isDigit_0 rfl (lv_at hl 0 rfl) ?_
  obtain ⟨r1, M2, h3, hf⟩ := bnd_s hf
  refine pcVi (As := []) C hP hS (k := 0) (Nat.le_of_ble_eq_true rfl) (yd_0 _ _) rfl (c12_here  h3) y12_here_w g_1333 rfl rfl rfl ⟨Nat.le_of_ble_eq_true rfl, Nat.le_of_ble_eq_true rfl⟩ hl.1 rfl (Nat.le_of_ble_eq_true rfl) dX12_isDigit_1 ⟨Nat.le_of_ble_eq_true rfl, Nat.le_of_ble_eq_true rfl⟩ (fun H locs hP hS => ?_)
  refine lv_bipush (v := (48 : Int32)) hx hb dX12_isDigit_4 (by decide) ?_
  refine lv_icmp_lt (tgt := 22) hx hb dX12_isDigit_6 (by decide) (fun c4 => ?_) (fun c4 => ?_)
  · replace hf := ite_t c4 hf
    exact w12_isDigit_22 (n := n)  C hr hk  hf hP hS (lv_sub hl [] rfl)
  · replace hf := ite_f c4 hf
    refine lv_aload_n hx hb dX12_isDigit_9 rfl (lv_at hl 0 rfl) ?_
    obtain ⟨r5, M6, h7, hf⟩ := bnd_s hf
    refine pcVi (As := []) C hP hS (k := 0) (Nat.le_of_ble_eq_true rfl) (yd_0 _ _) rfl (c12_here  h7) y12_here_w g_1333 rfl rfl rfl ⟨Nat.le_of_ble_eq_true rfl, Nat.le_of_ble_eq_true rfl⟩ hl.1 rfl (Nat.le_of_ble_eq_true rfl) dX12_isDigit_10 ⟨Nat.le_of_ble_eq_true rfl, Nat.le_of_ble_eq_true rfl⟩ (fun H locs hP hS => ?_)
    refine lv_bipush (v := (57 : Int32)) hx hb dX12_isDigit_13 (by decide) ?_
    refine lv_icmp_gt (tgt := 22) hx hb dX12_isDigit_15 (by decide) (fun c8 => ?_) (fun c8 => ?_)
    · replace hf := ite_t c8 hf
      exact w12_isDigit_22 (n := n)  C hr hk  hf hP hS (lv_sub hl [] rfl)
    · replace hf := ite_f c8 hf
      refine lv_iconst (v := (1 : Int32)) hx hb dX12_isDigit_18 (by decide) ?_
      refine lv_goto (tgt := 23) hx hb dX12_isDigit_19 (by decide) ?_
      exact prZ C hr hk hP hS hf rfl dX12_isDigit_23
theorem c12_isDigit {l : Launch} {z : Zt} {b n : Nat}   {M M' : Mem} {r : Int32} (hf : f12_isDigit n   M = some (r, M')) : CI l z (yd z b) 32 b yX12_isDigit cX12_isDigit 1 (some .boolean) rm12_isDigit [.ref (b + 0)] M M' r :=
  CI.ofW (lv := [(0, .ref (b + 0))]) (by decide) (Nat.le_of_ble_eq_true rfl) rfl (fun p e s m args below meth c ls C hr hk hP hS hl => w12_isDigit_0 (n := n)  C hr hk  hf hP hS hl)

-- BronzeKingModel.wrongAt(II)Z
theorem dX12_wrongAt_0 : decode cX12_wrongAt 0 = .ok (.aload_n 0, 1) := by decide +kernel
theorem dX12_wrongAt_1 : decode cX12_wrongAt 1 = .ok (.sipush (-1000), 3) := by decide +kernel
theorem dX12_wrongAt_4 : decode cX12_wrongAt 4 = .ok (.iload_n 1, 1) := by decide +kernel
theorem dX12_wrongAt_5 : decode cX12_wrongAt 5 = .ok (.imul, 1) := by decide +kernel
theorem dX12_wrongAt_6 : decode cX12_wrongAt 6 = .ok (.iload_n 2, 1) := by decide +kernel
theorem dX12_wrongAt_7 : decode cX12_wrongAt 7 = .ok (.isub, 1) := by decide +kernel
theorem dX12_wrongAt_8 : decode cX12_wrongAt 8 = .ok (.putfield 153, 3) := by decide +kernel
theorem dX12_wrongAt_11 : decode cX12_wrongAt 11 = .ok (.iconst 0, 1) := by decide +kernel
theorem dX12_wrongAt_12 : decode cX12_wrongAt 12 = .ok (.ireturn, 1) := by decide +kernel
def b12_wrongAt_0 (rc : Nat → List Int32 → List Int64 → Mem → Option (Int32 × Mem)) (n : Nat) (a1 : Int32) (a2 : Int32) (M : Mem) : Option (Int32 × Mem) :=
  lt (wI M 0 14 (((-1000 : Int32) * a1) - a2)) fun M1 =>
  some ((0 : Int32), M1)
def f12_wrongAt (n : Nat) (a1 : Int32) (a2 : Int32) (M : Mem) : Option (Int32 × Mem) := b12_wrongAt_0 (fun _ _ _ _ => none) n a1 a2 M
abbrev rm12_wrongAt : Room := { frames := 0, cells := 0, slots := 0, locals := 0 }
theorem y12_wrongAt_w : yV RX12 yX12_wrongAt cX12_wrongAt 3 (some .boolean) 2 := ⟨g_1339, gp 40 rfl rfl, g_14, g_1340, rfl, by decide, by decide, by decide +kernel⟩
set_option maxHeartbeats 4000000 in
set_option maxRecDepth 100000 in
theorem w12_wrongAt_0 {p : Program} {l : Launch} {e : Env} {s : State} {m : MethodId} {args : Array Value} {below : List Frame} {meth : Method} {c : Code} {z : Zt} {b : Nat}  (C : Cx p s m args c cX12_wrongAt 3 RX12 z 32 b) (hr : meth.sig.returnType = (some .boolean)) (hk : meth.locks = false) {r : Int32} {M' : Mem} {rc : Nat → List Int32 → List Int64 → Mem → Option (Int32 × Mem)} {n : Nat}  {a1 : Int32} {a2 : Int32} {M : Mem} {H : Heap} {locs : List Loc} {ls : Array Slot} (hf : b12_wrongAt_0  rc n a1 a2 M = some (r, M')) (hP : va_P z.1 vwCl (pw (yd z b) 32 b M) H) (hS : va_S (pA 32 b) s.heap H locs) (hl : lv_has ls 3 [(0, .ref (b + 0)), (1, .int a1), (2, .int a2)]) : W p l e rm12_wrongAt s m args below meth c H locs 0 0 (MQ below (va_Qi (fun (r' : Int32) (M2 : Mem) => r' = r ∧ M2 = M') (fun M2 t => va_P z.1 vwCl (pw (yd z b) 32 b M2) t.heap) (pA 32 b)) args s 0 0 (pA 32 b)) (F0 m 0 ls []) := by
  have hx := C.1.1
  have hb := C.1.2.1
  unfold b12_wrongAt_0 at hf
  refine lv_aload_n hx hb dX12_wrongAt_0 rfl (lv_at hl 0 rfl) ?_
  refine lv_sipush (v := (-1000 : Int32)) hx hb dX12_wrongAt_1 (by decide) ?_
  refine lv_iload_n hx hb dX12_wrongAt_4 rfl (lv_at hl 1 rfl) ?_
  refine lv_imul hx hb dX12_wrongAt_5 ?_
  refine lv_iload_n hx hb dX12_wrongAt_6 rfl (lv_at hl 2 rfl) ?_
  refine lv_isub hx hb dX12_wrongAt_7 ?_
  refine ppI C hP hS (k := 0) (j := 14) (ty := .int) (Nat.le_of_ble_eq_true rfl) (yd_0 _ _) rfl iw_12 tyX12 tyX12_ok nmX12 (Nat.le_of_ble_eq_true rfl) g_1149 rfl rfl (by decide +kernel) rfl rfl (Nat.le_of_ble_eq_true rfl) (yu_0_14 _ _ _) dX12_wrongAt_8 (fun M1 H locs eM1 hP hS => ?_)
  replace hf := lt_c eM1 hf
  refine lv_iconst (v := (0 : Int32)) hx hb dX12_wrongAt_11 (by decide) ?_
  exact prZ C hr hk hP hS hf rfl dX12_wrongAt_12
theorem c12_wrongAt {l : Launch} {z : Zt} {b n : Nat}  {a1 : Int32} {a2 : Int32} {M M' : Mem} {r : Int32} (hf : f12_wrongAt n  a1 a2 M = some (r, M')) : CI l z (yd z b) 32 b yX12_wrongAt cX12_wrongAt 3 (some .boolean) rm12_wrongAt [.ref (b + 0), .int a1, .int a2] M M' r :=
  CI.ofW (lv := [(0, .ref (b + 0)), (1, .int a1), (2, .int a2)]) (by decide) (Nat.le_of_ble_eq_true rfl) rfl (fun p e s m args below meth c ls C hr hk hP hS hl => w12_wrongAt_0 (n := n)  C hr hk  hf hP hS hl)
